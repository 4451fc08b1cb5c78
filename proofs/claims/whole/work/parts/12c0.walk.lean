def wX6_init_0 (mc ms : Nat) (Q : St → Prop) (k n : Nat) (v0 : Nat) (σ : St) : Prop :=
  k + 1 ≤ mc ∧ n + 10 ≤ ms ∧ ∀ b3 : Nat, zK σ b3 = 0 → zK (nA σ b3 20 10) v0 = 7 ∧ k + 1 + 1 ≤ mc ∧ n + 10 + 60 ≤ ms ∧ ∀ b8 : Nat, zK (nA σ b3 20 10) b8 = 0 → zK (nA (uFr (nA σ b3 20 10) 384 v0 (some b3)) b8 20 60) v0 = 7 ∧ k + 1 + 1 + 1 ≤ mc ∧ n + 10 + 60 + 240 ≤ ms ∧ ∀ b13 : Nat, zK (nA (uFr (nA σ b3 20 10) 384 v0 (some b3)) b8 20 60) b13 = 0 → zK (nA (uFr (nA (uFr (nA σ b3 20 10) 384 v0 (some b3)) b8 20 60) 386 v0 (some b8)) b13 20 240) v0 = 7 ∧ k + 1 + 1 + 1 + 1 ≤ mc ∧ n + 10 + 60 + 240 + 240 ≤ ms ∧ ∀ b18 : Nat, zK (nA (uFr (nA (uFr (nA σ b3 20 10) 384 v0 (some b3)) b8 20 60) 386 v0 (some b8)) b13 20 240) b18 = 0 → zK (nA (uFr (nA (uFr (nA (uFr (nA σ b3 20 10) 384 v0 (some b3)) b8 20 60) 386 v0 (some b8)) b13 20 240) 387 v0 (some b13)) b18 21 240) v0 = 7 ∧ k + 1 + 1 + 1 + 1 ≤ mc ∧ n + 10 + 60 + 240 + 240 ≤ ms ∧ Q (uFr (nA (uFr (nA (uFr (nA (uFr (nA σ b3 20 10) 384 v0 (some b3)) b8 20 60) 386 v0 (some b8)) b13 20 240) 387 v0 (some b13)) b18 21 240) 388 v0 (some b18))
def wX6_init (mc ms : Nat) (v0 : Nat) (σ : St) (Q : St → Prop) : Prop := wX6_init_0 mc ms Q 0 0 v0 σ
set_option maxRecDepth 20000 in
theorem kwX6_init_0 {Γ : hCT} {mc ms : Nat} (C : hC Γ RX6 cX6_init ((Option.none : Option Jvm.ClassFile.FieldType)) "<init>" 1 12) {Q : St → Prop} (hΓ : Γ.2.2.2.2.2.2.2.2.2.2.2 = (1, mc, ms, oV Q)) (k n : Nat) (v0 : Nat) (σ : St) (hb : wX6_init_0 mc ms Q k n v0 σ) : hW Γ k n 0 [(0, .ref v0)] [] σ := by
  unfold wX6_init_0 at hb
  refine g_aload_n (some v0) C dX6_init_0 0 rfl ?_
  refine g_objInit wd_108 wd_101 wd_102 C dX6_init_1 (by first | exact Nat.le_of_ble_eq_true rfl | simp [cat_rf]) (by first | exact Nat.le_of_ble_eq_true rfl | simp [cat_rf]) ?_
  refine g_aload_n (some v0) C dX6_init_4 0 rfl ?_
  refine g_bipush (v := 10) C dX6_init_5 (by decide) ?_
  obtain ⟨q1, q2, hb⟩ := hb
  refine g_newa (N := 10) at_int C dX6_init_7 (by decide) (by decide) (by decide) (by rw [hmc_of hΓ]; exact q1) (by rw [hms_of hΓ]; exact q2) (fun b3 q4 => ?_)
  replace hb := hb b3 q4
  obtain ⟨q5, hb⟩ := hb
  refine g_putFR (some b3) C fo_RX6_9 dX6_init_9 q5 rfl rfl rfl rfl ?_
  refine g_aload_n (some v0) C dX6_init_12 0 rfl ?_
  refine g_bipush (v := 60) C dX6_init_13 (by decide) ?_
  obtain ⟨q6, q7, hb⟩ := hb
  refine g_newa (N := 60) at_int C dX6_init_15 (by decide) (by decide) (by decide) (by rw [hmc_of hΓ]; exact q6) (by rw [hms_of hΓ]; exact q7) (fun b8 q9 => ?_)
  replace hb := hb b8 (by rw [zK_uFr] at q9; exact q9)
  obtain ⟨q10, hb⟩ := hb
  refine g_putFR (some b8) C fo_RX6_15 dX6_init_17 q10 rfl rfl rfl rfl ?_
  refine g_aload_n (some v0) C dX6_init_20 0 rfl ?_
  refine g_sipush (v := 240) C dX6_init_21 (by decide) ?_
  obtain ⟨q11, q12, hb⟩ := hb
  refine g_newa (N := 240) at_int C dX6_init_24 (by decide) (by decide) (by decide) (by rw [hmc_of hΓ]; exact q11) (by rw [hms_of hΓ]; exact q12) (fun b13 q14 => ?_)
  replace hb := hb b13 (by rw [zK_uFr] at q14; exact q14)
  obtain ⟨q15, hb⟩ := hb
  refine g_putFR (some b13) C fo_RX6_18 dX6_init_26 q15 rfl rfl rfl rfl ?_
  refine g_aload_n (some v0) C dX6_init_29 0 rfl ?_
  refine g_sipush (v := 240) C dX6_init_30 (by decide) ?_
  obtain ⟨q16, q17, hb⟩ := hb
  refine g_newa (N := 240) at_long C dX6_init_33 (by decide) (by decide) (by decide) (by rw [hmc_of hΓ]; exact q16) (by rw [hms_of hΓ]; exact q17) (fun b18 q19 => ?_)
  replace hb := hb b18 (by rw [zK_uFr] at q19; exact q19)
  obtain ⟨q20, hb⟩ := hb
  refine g_putFR (some b18) C fo_RX6_21 dX6_init_35 q20 rfl rfl rfl rfl ?_
  obtain ⟨q21, q22, hb⟩ := hb
  exact g_vreturn C hΓ q21 q22 dX6_init_38 ⟨rfl, hb⟩
theorem okX6_init {mc ms : Nat} {v0 : Nat} {σ : St} {Q : St → Prop} (hb : wX6_init mc ms v0 σ Q) : hM yX6_init cX6_init 1 ((Option.none : Option Jvm.ClassFile.FieldType)) 1 12 mc ms [.ref v0] σ (oV Q) :=
  hM_of (by decide) (Nat.le_of_ble_eq_true rfl) (fun Γ hΓ C => kwX6_init_0 (mc := mc) (ms := ms) C hΓ 0 0 _ _ hb)
def wX7_init_0 (mc ms : Nat) (Q : St → Prop) (k n : Nat) (v0 : Nat) (σ : St) : Prop :=
  k + 1 ≤ mc ∧ n + 8208 ≤ ms ∧ ∀ b3 : Nat, zK σ b3 = 0 → zK (nA σ b3 21 8208) v0 = 8 ∧ k + 1 ≤ mc ∧ n + 8208 ≤ ms ∧ Q (uFr (nA σ b3 21 8208) 448 v0 (some b3))
def wX7_init (mc ms : Nat) (v0 : Nat) (σ : St) (Q : St → Prop) : Prop := wX7_init_0 mc ms Q 0 0 v0 σ
set_option maxRecDepth 20000 in
theorem kwX7_init_0 {Γ : hCT} {mc ms : Nat} (C : hC Γ RX7 cX7_init ((Option.none : Option Jvm.ClassFile.FieldType)) "<init>" 1 12) {Q : St → Prop} (hΓ : Γ.2.2.2.2.2.2.2.2.2.2.2 = (1, mc, ms, oV Q)) (k n : Nat) (v0 : Nat) (σ : St) (hb : wX7_init_0 mc ms Q k n v0 σ) : hW Γ k n 0 [(0, .ref v0)] [] σ := by
  unfold wX7_init_0 at hb
  refine g_aload_n (some v0) C dX7_init_0 0 rfl ?_
  refine g_objInit wd_156 wd_101 wd_102 C dX7_init_1 (by first | exact Nat.le_of_ble_eq_true rfl | simp [cat_rf]) (by first | exact Nat.le_of_ble_eq_true rfl | simp [cat_rf]) ?_
  refine g_aload_n (some v0) C dX7_init_4 0 rfl ?_
  refine g_sipush (v := 8208) C dX7_init_5 (by decide) ?_
  obtain ⟨q1, q2, hb⟩ := hb
  refine g_newa (N := 8208) at_long C dX7_init_8 (by decide) (by decide) (by decide) (by rw [hmc_of hΓ]; exact q1) (by rw [hms_of hΓ]; exact q2) (fun b3 q4 => ?_)
  replace hb := hb b3 q4
  obtain ⟨q5, hb⟩ := hb
  refine g_putFR (some b3) C fo_RX7_9 dX7_init_10 q5 rfl rfl rfl rfl ?_
  obtain ⟨q6, q7, hb⟩ := hb
  exact g_vreturn C hΓ q6 q7 dX7_init_13 ⟨rfl, hb⟩
theorem okX7_init {mc ms : Nat} {v0 : Nat} {σ : St} {Q : St → Prop} (hb : wX7_init mc ms v0 σ Q) : hM yX7_init cX7_init 1 ((Option.none : Option Jvm.ClassFile.FieldType)) 1 12 mc ms [.ref v0] σ (oV Q) :=
  hM_of (by decide) (Nat.le_of_ble_eq_true rfl) (fun Γ hΓ C => kwX7_init_0 (mc := mc) (ms := ms) C hΓ 0 0 _ _ hb)
def wX2_init_0 (mc ms : Nat) (Q : St → Prop) (k n : Nat) (v0 : Nat) (σ : St) : Prop :=
  k + 1 ≤ mc ∧ n + 6 ≤ ms ∧ ∀ b3 : Nat, zK σ b3 = 0 → zK (nA σ b3 20 6) v0 = 3 ∧ k + 1 + 1 ≤ mc ∧ n + 6 + 16 ≤ ms ∧ ∀ b8 : Nat, zK (nA σ b3 20 6) b8 = 0 → zK (nA (uFr (nA σ b3 20 6) 128 v0 (some b3)) b8 21 16) v0 = 3 ∧ k + 1 + 1 ≤ mc ∧ n + 6 + 16 ≤ ms ∧ Q (uFr (nA (uFr (nA σ b3 20 6) 128 v0 (some b3)) b8 21 16) 129 v0 (some b8))
def wX2_init (mc ms : Nat) (v0 : Nat) (σ : St) (Q : St → Prop) : Prop := wX2_init_0 mc ms Q 0 0 v0 σ
set_option maxRecDepth 20000 in
theorem kwX2_init_0 {Γ : hCT} {mc ms : Nat} (C : hC Γ RX2 cX2_init ((Option.none : Option Jvm.ClassFile.FieldType)) "<init>" 1 12) {Q : St → Prop} (hΓ : Γ.2.2.2.2.2.2.2.2.2.2.2 = (1, mc, ms, oV Q)) (k n : Nat) (v0 : Nat) (σ : St) (hb : wX2_init_0 mc ms Q k n v0 σ) : hW Γ k n 0 [(0, .ref v0)] [] σ := by
  unfold wX2_init_0 at hb
  refine g_aload_n (some v0) C dX2_init_0 0 rfl ?_
  refine g_objInit wd_184 wd_101 wd_102 C dX2_init_1 (by first | exact Nat.le_of_ble_eq_true rfl | simp [cat_rf]) (by first | exact Nat.le_of_ble_eq_true rfl | simp [cat_rf]) ?_
  refine g_aload_n (some v0) C dX2_init_4 0 rfl ?_
  refine g_bipush (v := 6) C dX2_init_5 (by decide) ?_
  obtain ⟨q1, q2, hb⟩ := hb
  refine g_newa (N := 6) at_int C dX2_init_7 (by decide) (by decide) (by decide) (by rw [hmc_of hΓ]; exact q1) (by rw [hms_of hΓ]; exact q2) (fun b3 q4 => ?_)
  replace hb := hb b3 q4
  obtain ⟨q5, hb⟩ := hb
  refine g_putFR (some b3) C fo_RX2_9 dX2_init_9 q5 rfl rfl rfl rfl ?_
  refine g_aload_n (some v0) C dX2_init_12 0 rfl ?_
  refine g_bipush (v := 16) C dX2_init_13 (by decide) ?_
  obtain ⟨q6, q7, hb⟩ := hb
  refine g_newa (N := 16) at_long C dX2_init_15 (by decide) (by decide) (by decide) (by rw [hmc_of hΓ]; exact q6) (by rw [hms_of hΓ]; exact q7) (fun b8 q9 => ?_)
  replace hb := hb b8 (by rw [zK_uFr] at q9; exact q9)
  obtain ⟨q10, hb⟩ := hb
  refine g_putFR (some b8) C fo_RX2_15 dX2_init_17 q10 rfl rfl rfl rfl ?_
  obtain ⟨q11, q12, hb⟩ := hb
  exact g_vreturn C hΓ q11 q12 dX2_init_20 ⟨rfl, hb⟩
theorem okX2_init {mc ms : Nat} {v0 : Nat} {σ : St} {Q : St → Prop} (hb : wX2_init mc ms v0 σ Q) : hM yX2_init cX2_init 1 ((Option.none : Option Jvm.ClassFile.FieldType)) 1 12 mc ms [.ref v0] σ (oV Q) :=
  hM_of (by decide) (Nat.le_of_ble_eq_true rfl) (fun Γ hΓ C => kwX2_init_0 (mc := mc) (ms := ms) C hΓ 0 0 _ _ hb)
def wX3_init_14 (mc ms : Nat) (Q : St → Prop) (r14 : Nat → Nat → Nat → Int32 → Int32 → St → Prop) (k n : Nat) (v0 : Nat) (v1 : Int32) (v2 : Int32) (σ : St) : Prop :=
  ((v1 ≤ v2 → k ≤ mc ∧ n ≤ ms ∧ Q σ) ∧ (¬ v1 ≤ v2 → zK σ v0 = 4 ∧ ∃ a4 : Nat, zFr σ 192 v0 = some a4 ∧ k + 1 ≤ mc ∧ n + 6 ≤ ms ∧ ∀ b8 : Nat, zK σ b8 = 0 → ∃ m10 m11 : Nat, k + 1 + m10 ≤ mc ∧ n + 6 + m11 ≤ ms ∧ wX2_init m10 m11 b8 (nO σ b8 3) (fun σ14 => zK σ14 a4 = 25 ∧ vp_in v2 (zL σ14 a4) ∧ zK σ14 b8 = 3 ∧ r14 (k + 1 + m10) (n + 6 + m11) v0 v1 (v2 + 1) (uAr σ14 a4 (ix v2) (some b8)))))
def lX3_init_14 (mc ms : Nat) (Q : St → Prop) : Nat → Nat → Nat → Nat → Int32 → Int32 → St → Prop
  | 0, _, _, _, _, _, _ => False
  | f + 1, k, n, v0, v1, v2, σ => wX3_init_14 mc ms Q (lX3_init_14 mc ms Q f) k n v0 v1 v2 σ
def wX3_init_0 (mc ms : Nat) (Q : St → Prop) (k n : Nat) (v0 : Nat) (v1 : Int32) (σ : St) : Prop :=
  ¬ v1 < 0 ∧ ix v1 ≤ 10000 ∧ k + 1 ≤ mc ∧ n + (ix v1) ≤ ms ∧ ∀ b3 : Nat, zK σ b3 = 0 → zK (nA σ b3 25 (ix v1)) v0 = 4 ∧ ∃ f, lX3_init_14 mc ms Q f (k + 1) (n + (ix v1)) v0 v1 0 (uFr (nA σ b3 25 (ix v1)) 192 v0 (some b3))
def wX3_init (mc ms : Nat) (v0 : Nat) (v1 : Int32) (σ : St) (Q : St → Prop) : Prop := wX3_init_0 mc ms Q 0 0 v0 v1 σ
set_option maxRecDepth 20000 in
theorem kwX3_init_14 {Γ : hCT} {mc ms : Nat} (C : hC Γ RX3 cX3_init ((Option.none : Option Jvm.ClassFile.FieldType)) "<init>" 2 32) {Q : St → Prop} (hΓ : Γ.2.2.2.2.2.2.2.2.2.2.2 = (3, mc, ms, oV Q)) {r14 : Nat → Nat → Nat → Int32 → Int32 → St → Prop} (h14 : ∀ (k n : Nat) (v0 : Nat) (v1 : Int32) (v2 : Int32) (σ : St), r14 k n v0 v1 v2 σ → hW Γ k n 14 [(0, .ref v0), (1, .int v1), (2, .int v2)] [] σ) (k n : Nat) (v0 : Nat) (v1 : Int32) (v2 : Int32) (σ : St) (hb : wX3_init_14 mc ms Q r14 k n v0 v1 v2 σ) : hW Γ k n 14 [(0, .ref v0), (1, .int v1), (2, .int v2)] [] σ := by
  unfold wX3_init_14 at hb
  refine g_iload_n C dX3_init_14 2 rfl ?_
  refine g_iload_n C dX3_init_15 1 rfl ?_
  refine g_icmp_ge (tgt := 38) C dX3_init_16 (by decide) (fun c => ?_) (fun c => ?_)
  ·
    replace hb := hb.1 (c)
    obtain ⟨q1, q2, hb⟩ := hb
    exact g_vreturn C hΓ q1 q2 dX3_init_38 ⟨rfl, hb⟩
  ·
    replace hb := hb.2 (c)
    refine g_aload_n (some v0) C dX3_init_19 0 rfl ?_
    obtain ⟨q3, hb⟩ := hb
    obtain ⟨a4, q5, hb⟩ := hb
    refine g_getR (some a4) C fl_RX3_11 dX3_init_20 q3 rfl rfl q5 ?_
    refine g_iload_n C dX3_init_23 2 rfl ?_
    obtain ⟨q6, q7, hb⟩ := hb
    refine g_new zc_2 zd_2 ⟨_, rfl⟩ wd_178 wd_180 wd_74 C dX3_init_24 (by rw [hmc_of hΓ]; exact q6) (by rw [hms_of hΓ]; exact q7) (fun b8 q9 => ?_)
    replace hb := hb b8 q9
    refine g_dup C dX3_init_27 rfl ?_
    obtain ⟨m10, m11, q12, q13, hb⟩ := hb
    refine g_invIN [] [.ref b8, .int v2, .ref a4] zy_X2_init wn_181 wd_182 rfl C dX3_init_28 (by first | exact Nat.le_of_ble_eq_true rfl | simp [cat_rf]) (by first | exact Nat.le_of_ble_eq_true rfl | simp [cat_rf]) (by first | exact Nat.le_of_ble_eq_true rfl | simp [cat_rf]) (by rw [hmc_of hΓ]; exact q12) (by rw [hms_of hΓ]; exact q13) rfl rfl  (okX2_init hb) ?_
    rintro o σ14 ⟨rfl, hb⟩
    refine ⟨_, rfl, ?_⟩
    obtain ⟨q15, hb⟩ := hb
    obtain ⟨q16, hb⟩ := hb
    obtain ⟨q17, hb⟩ := hb
    refine g_aast (some b8) el_25 C dX3_init_31 q15 q16 (fun _ hv => by cases hv; exact q17) ?_
    refine g_iinc (v := v2 + 1) (lv' := [(2, .int (v2 + 1)), (0, .ref v0), (1, .int v1)]) C dX3_init_32 2 rfl rfl (hnl_of hΓ (by decide)) (by first | rfl | simp [cat_rf]) ?_
    refine g_goto (tgt := 14) C dX3_init_35 (by decide) ?_
    refine g_sub (lv' := [(0, .ref v0), (1, .int v1), (2, .int (v2 + 1))]) [1, 2, 0] rfl ?_
    exact h14 _ _ _ _ _ _ hb
theorem klX3_init_14 {Γ : hCT} {mc ms : Nat} (C : hC Γ RX3 cX3_init ((Option.none : Option Jvm.ClassFile.FieldType)) "<init>" 2 32) {Q : St → Prop} (hΓ : Γ.2.2.2.2.2.2.2.2.2.2.2 = (3, mc, ms, oV Q)) (f : Nat) (k n : Nat) (v0 : Nat) (v1 : Int32) (v2 : Int32) (σ : St) (hb : lX3_init_14 mc ms Q f k n v0 v1 v2 σ) : hW Γ k n 14 [(0, .ref v0), (1, .int v1), (2, .int v2)] [] σ := by
  induction f generalizing k n v0 v1 v2 σ with
  | zero => exact hb.elim
  | succ f ih => exact kwX3_init_14 C hΓ  (fun k n v0 v1 v2 σ h => ih k n v0 v1 v2 σ h) _ _ _ _ _ _ hb
set_option maxRecDepth 20000 in
theorem kwX3_init_0 {Γ : hCT} {mc ms : Nat} (C : hC Γ RX3 cX3_init ((Option.none : Option Jvm.ClassFile.FieldType)) "<init>" 2 32) {Q : St → Prop} (hΓ : Γ.2.2.2.2.2.2.2.2.2.2.2 = (3, mc, ms, oV Q)) (k n : Nat) (v0 : Nat) (v1 : Int32) (σ : St) (hb : wX3_init_0 mc ms Q k n v0 v1 σ) : hW Γ k n 0 [(0, .ref v0), (1, .int v1)] [] σ := by
  unfold wX3_init_0 at hb
  refine g_aload_n (some v0) C dX3_init_0 0 rfl ?_
  refine g_objInit wd_177 wd_101 wd_102 C dX3_init_1 (by first | exact Nat.le_of_ble_eq_true rfl | simp [cat_rf]) (by first | exact Nat.le_of_ble_eq_true rfl | simp [cat_rf]) ?_
  refine g_aload_n (some v0) C dX3_init_4 0 rfl ?_
  refine g_iload_n C dX3_init_5 1 rfl ?_
  obtain ⟨q5, q6, hb⟩ := hb
  obtain ⟨q1, q2, hb⟩ := hb
  refine g_newq (N := ix v1) el_25 (fun r hr => by cases hr; rfl) wd_178 (by decide) C dX3_init_6 q5 rfl q6 (by rw [hmc_of hΓ]; exact q1) (by rw [hms_of hΓ]; exact q2) (fun b3 q4 => ?_)
  replace hb := hb b3 q4
  obtain ⟨q7, hb⟩ := hb
  refine g_putFR (some b3) C fo_RX3_11 dX3_init_9 q7 rfl rfl rfl rfl ?_
  refine g_iconst (v := 0) C dX3_init_12 (by decide) ?_
  refine g_istore_n (i := 2) (lv' := [(2, .int 0), (0, .ref v0), (1, .int v1)]) C dX3_init_13 rfl (hnl_of hΓ (by decide)) (by first | rfl | simp [cat_rf]) ?_
  refine g_sub (lv' := [(0, .ref v0), (1, .int v1), (2, .int 0)]) [1, 2, 0] rfl ?_
  obtain ⟨f8, hb⟩ := hb
  exact klX3_init_14 C hΓ  f8 _ _ _ _ _ _ hb
theorem okX3_init {mc ms : Nat} {v0 : Nat} {v1 : Int32} {σ : St} {Q : St → Prop} (hb : wX3_init mc ms v0 v1 σ Q) : hM yX3_init cX3_init 3 ((Option.none : Option Jvm.ClassFile.FieldType)) 2 32 mc ms [.ref v0, .int v1] σ (oV Q) :=
  hM_of (by decide) (Nat.le_of_ble_eq_true rfl) (fun Γ hΓ C => kwX3_init_0 (mc := mc) (ms := ms) C hΓ 0 0 _ _ _ hb)
def wX4_init_78 (mc ms : Nat) (Q : St → Prop) (r78 : Nat → Nat → Nat → Int32 → St → Prop) (k n : Nat) (v0 : Nat) (v3 : Int32) (σ : St) : Prop :=
  (((40 : Int32) ≤ v3 → k ≤ mc ∧ n ≤ ms ∧ Q σ) ∧ (¬ (40 : Int32) ≤ v3 → zK σ v0 = 5 ∧ ∃ a4 : Nat, zFr σ 258 v0 = some a4 ∧ k + 1 ≤ mc ∧ n + 3 ≤ ms ∧ ∀ b8 : Nat, zK σ b8 = 0 → ∃ m10 m11 : Nat, k + 1 + m10 ≤ mc ∧ n + 3 + m11 ≤ ms ∧ wX3_init m10 m11 b8 32 (nO σ b8 4) (fun σ14 => zK σ14 a4 = 26 ∧ vp_in v3 (zL σ14 a4) ∧ zK σ14 b8 = 4 ∧ r78 (k + 1 + m10) (n + 3 + m11) v0 (v3 + 1) (uAr σ14 a4 (ix v3) (some b8)))))
def lX4_init_78 (mc ms : Nat) (Q : St → Prop) : Nat → Nat → Nat → Nat → Int32 → St → Prop
  | 0, _, _, _, _, _ => False
  | f + 1, k, n, v0, v3, σ => wX4_init_78 mc ms Q (lX4_init_78 mc ms Q f) k n v0 v3 σ
def wX4_init_0 (mc ms : Nat) (Q : St → Prop) (k n : Nat) (v0 : Nat) (v1 : Nat) (v2 : Nat) (σ : St) : Prop :=
  k + 1 ≤ mc ∧ n + 40 ≤ ms ∧ ∀ b3 : Nat, zK σ b3 = 0 → zK (nA σ b3 26 40) v0 = 5 ∧ k + 1 + 1 ≤ mc ∧ n + 40 + 5 ≤ ms ∧ ∀ b8 : Nat, zK (nA σ b3 26 40) b8 = 0 → ∃ m10 m11 : Nat, k + 1 + 1 + m10 ≤ mc ∧ n + 40 + 5 + m11 ≤ ms ∧ wX7_init m10 m11 b8 (nO (uFr (nA σ b3 26 40) 258 v0 (some b3)) b8 8) (fun σ14 => zK σ14 v0 = 5 ∧ k + 1 + 1 + m10 + 1 ≤ mc ∧ n + 40 + 5 + m11 + 3 ≤ ms ∧ ∀ b18 : Nat, zK σ14 b18 = 0 → ∃ m20 m21 : Nat, k + 1 + 1 + m10 + 1 + m20 ≤ mc ∧ n + 40 + 5 + m11 + 3 + m21 ≤ ms ∧ wX3_init m20 m21 b18 64 (nO (uFr σ14 259 v0 (some b8)) b18 4) (fun σ24 => zK σ24 v0 = 5 ∧ k + 1 + 1 + m10 + 1 + m20 + 1 ≤ mc ∧ n + 40 + 5 + m11 + 3 + m21 + 3 ≤ ms ∧ ∀ b28 : Nat, zK σ24 b28 = 0 → ∃ m30 m31 : Nat, k + 1 + 1 + m10 + 1 + m20 + 1 + m30 ≤ mc ∧ n + 40 + 5 + m11 + 3 + m21 + 3 + m31 ≤ ms ∧ wX3_init m30 m31 b28 32 (nO (uFr σ24 260 v0 (some b18)) b28 4) (fun σ34 => zK σ34 v0 = 5 ∧ k + 1 + 1 + m10 + 1 + m20 + 1 + m30 + 1 ≤ mc ∧ n + 40 + 5 + m11 + 3 + m21 + 3 + m31 + 64 ≤ ms ∧ ∀ b38 : Nat, zK σ34 b38 = 0 → zK (nA (uFr σ34 261 v0 (some b28)) b38 20 64) v0 = 5 ∧ k + 1 + 1 + m10 + 1 + m20 + 1 + m30 + 1 + 1 ≤ mc ∧ n + 40 + 5 + m11 + 3 + m21 + 3 + m31 + 64 + 6 ≤ ms ∧ ∀ b43 : Nat, zK (nA (uFr σ34 261 v0 (some b28)) b38 20 64) b43 = 0 → zK (nA (uFr (nA (uFr σ34 261 v0 (some b28)) b38 20 64) 262 v0 (some b38)) b43 20 6) v0 = 5 ∧ ∃ f, lX4_init_78 mc ms Q f (k + 1 + 1 + m10 + 1 + m20 + 1 + m30 + 1 + 1) (n + 40 + 5 + m11 + 3 + m21 + 3 + m31 + 64 + 6) v0 0 (uFr (uFr (uFr (nA (uFr (nA (uFr σ34 261 v0 (some b28)) b38 20 64) 262 v0 (some b38)) b43 20 6) 263 v0 (some b43)) 256 v0 (some v1)) 257 v0 (some v2)))))
def wX4_init (mc ms : Nat) (v0 : Nat) (v1 : Nat) (v2 : Nat) (σ : St) (Q : St → Prop) : Prop := wX4_init_0 mc ms Q 0 0 v0 v1 v2 σ
set_option maxRecDepth 20000 in
theorem kwX4_init_78 {Γ : hCT} {mc ms : Nat} (C : hC Γ RX4 cX4_init ((Option.none : Option Jvm.ClassFile.FieldType)) "<init>" 3 54) {Q : St → Prop} (hΓ : Γ.2.2.2.2.2.2.2.2.2.2.2 = (4, mc, ms, oV Q)) {r78 : Nat → Nat → Nat → Int32 → St → Prop} (h78 : ∀ (k n : Nat) (v0 : Nat) (v3 : Int32) (σ : St), r78 k n v0 v3 σ → hW Γ k n 78 [(0, .ref v0), (3, .int v3)] [] σ) (k n : Nat) (v0 : Nat) (v3 : Int32) (σ : St) (hb : wX4_init_78 mc ms Q r78 k n v0 v3 σ) : hW Γ k n 78 [(0, .ref v0), (3, .int v3)] [] σ := by
  unfold wX4_init_78 at hb
  refine g_iload_n C dX4_init_78 1 rfl ?_
  refine g_bipush (v := 40) C dX4_init_79 (by decide) ?_
  refine g_icmp_ge (tgt := 105) C dX4_init_81 (by decide) (fun c => ?_) (fun c => ?_)
  ·
    replace hb := hb.1 (c)
    obtain ⟨q1, q2, hb⟩ := hb
    exact g_vreturn C hΓ q1 q2 dX4_init_105 ⟨rfl, hb⟩
  ·
    replace hb := hb.2 (c)
    refine g_aload_n (some v0) C dX4_init_84 0 rfl ?_
    obtain ⟨q3, hb⟩ := hb
    obtain ⟨a4, q5, hb⟩ := hb
    refine g_getR (some a4) C fl_RX4_11 dX4_init_85 q3 rfl rfl q5 ?_
    refine g_iload_n C dX4_init_88 1 rfl ?_
    obtain ⟨q6, q7, hb⟩ := hb
    refine g_new zc_3 zd_3 ⟨_, rfl⟩ wd_149 wd_173 wd_73 C dX4_init_89 (by rw [hmc_of hΓ]; exact q6) (by rw [hms_of hΓ]; exact q7) (fun b8 q9 => ?_)
    replace hb := hb b8 q9
    refine g_dup C dX4_init_92 rfl ?_
    refine g_bipush (v := 32) C dX4_init_93 (by decide) ?_
    obtain ⟨m10, m11, q12, q13, hb⟩ := hb
    refine g_invI [.int 32] [.ref b8, .int v3, .ref a4] zy_X3_init wd_174 wd_175 rfl C dX4_init_95 (by first | exact Nat.le_of_ble_eq_true rfl | simp [cat_rf]) (by first | exact Nat.le_of_ble_eq_true rfl | simp [cat_rf]) (by first | exact Nat.le_of_ble_eq_true rfl | simp [cat_rf]) (by rw [hmc_of hΓ]; exact q12) (by rw [hms_of hΓ]; exact q13) rfl rfl  (okX3_init hb) ?_
    rintro o σ14 ⟨rfl, hb⟩
    refine ⟨_, rfl, ?_⟩
    obtain ⟨q15, hb⟩ := hb
    obtain ⟨q16, hb⟩ := hb
    obtain ⟨q17, hb⟩ := hb
    refine g_aast (some b8) el_26 C dX4_init_98 q15 q16 (fun _ hv => by cases hv; exact q17) ?_
    refine g_iinc (v := v3 + 1) (lv' := [(3, .int (v3 + 1)), (0, .ref v0)]) C dX4_init_99 1 rfl rfl (hnl_of hΓ (by decide)) (by first | rfl | simp [cat_rf]) ?_
    refine g_goto (tgt := 78) C dX4_init_102 (by decide) ?_
    refine g_sub (lv' := [(0, .ref v0), (3, .int (v3 + 1))]) [1, 0] rfl ?_
    exact h78 _ _ _ _ _ hb
theorem klX4_init_78 {Γ : hCT} {mc ms : Nat} (C : hC Γ RX4 cX4_init ((Option.none : Option Jvm.ClassFile.FieldType)) "<init>" 3 54) {Q : St → Prop} (hΓ : Γ.2.2.2.2.2.2.2.2.2.2.2 = (4, mc, ms, oV Q)) (f : Nat) (k n : Nat) (v0 : Nat) (v3 : Int32) (σ : St) (hb : lX4_init_78 mc ms Q f k n v0 v3 σ) : hW Γ k n 78 [(0, .ref v0), (3, .int v3)] [] σ := by
  induction f generalizing k n v0 v3 σ with
  | zero => exact hb.elim
  | succ f ih => exact kwX4_init_78 C hΓ  (fun k n v0 v3 σ h => ih k n v0 v3 σ h) _ _ _ _ _ hb
set_option maxRecDepth 20000 in
theorem kwX4_init_0 {Γ : hCT} {mc ms : Nat} (C : hC Γ RX4 cX4_init ((Option.none : Option Jvm.ClassFile.FieldType)) "<init>" 3 54) {Q : St → Prop} (hΓ : Γ.2.2.2.2.2.2.2.2.2.2.2 = (4, mc, ms, oV Q)) (k n : Nat) (v0 : Nat) (v1 : Nat) (v2 : Nat) (σ : St) (hb : wX4_init_0 mc ms Q k n v0 v1 v2 σ) : hW Γ k n 0 [(0, .ref v0), (1, .ref v1), (2, .ref v2)] [] σ := by
  unfold wX4_init_0 at hb
  refine g_aload_n (some v0) C dX4_init_0 0 rfl ?_
  refine g_objInit wd_148 wd_101 wd_102 C dX4_init_1 (by first | exact Nat.le_of_ble_eq_true rfl | simp [cat_rf]) (by first | exact Nat.le_of_ble_eq_true rfl | simp [cat_rf]) ?_
  refine g_aload_n (some v0) C dX4_init_4 0 rfl ?_
  refine g_bipush (v := 40) C dX4_init_5 (by decide) ?_
  obtain ⟨q1, q2, hb⟩ := hb
  refine g_newq (N := 40) el_26 (fun r hr => by cases hr; rfl) wd_149 (by decide) C dX4_init_7 (by decide) (by decide) (by decide) (by rw [hmc_of hΓ]; exact q1) (by rw [hms_of hΓ]; exact q2) (fun b3 q4 => ?_)
  replace hb := hb b3 q4
  obtain ⟨q5, hb⟩ := hb
  refine g_putFR (some b3) C fo_RX4_11 dX4_init_10 q5 rfl rfl rfl rfl ?_
  refine g_aload_n (some v0) C dX4_init_13 0 rfl ?_
  obtain ⟨q6, q7, hb⟩ := hb
  refine g_new zc_7 zd_7 ⟨_, rfl⟩ wd_151 wd_152 wd_72 C dX4_init_14 (by rw [hmc_of hΓ]; exact q6) (by rw [hms_of hΓ]; exact q7) (fun b8 q9 => ?_)
  replace hb := hb b8 (by rw [zK_uFr] at q9; exact q9)
  refine g_dup C dX4_init_17 rfl ?_
  obtain ⟨m10, m11, q12, q13, hb⟩ := hb
  refine g_invIN [] [.ref b8, .ref v0] zy_X7_init wn_153 wd_154 rfl C dX4_init_18 (by first | exact Nat.le_of_ble_eq_true rfl | simp [cat_rf]) (by first | exact Nat.le_of_ble_eq_true rfl | simp [cat_rf]) (by first | exact Nat.le_of_ble_eq_true rfl | simp [cat_rf]) (by rw [hmc_of hΓ]; exact q12) (by rw [hms_of hΓ]; exact q13) rfl rfl  (okX7_init hb) ?_
  rintro o σ14 ⟨rfl, hb⟩
  refine ⟨_, rfl, ?_⟩
  obtain ⟨q15, hb⟩ := hb
  refine g_putFR (some b8) C fo_RX4_20 dX4_init_21 q15 rfl rfl rfl rfl ?_
  refine g_aload_n (some v0) C dX4_init_24 0 rfl ?_
  obtain ⟨q16, q17, hb⟩ := hb
  refine g_new zc_3 zd_3 ⟨_, rfl⟩ wd_149 wd_173 wd_73 C dX4_init_25 (by rw [hmc_of hΓ]; exact q16) (by rw [hms_of hΓ]; exact q17) (fun b18 q19 => ?_)
  replace hb := hb b18 (by rw [zK_uFr] at q19; exact q19)
  refine g_dup C dX4_init_28 rfl ?_
  refine g_bipush (v := 64) C dX4_init_29 (by decide) ?_
  obtain ⟨m20, m21, q22, q23, hb⟩ := hb
  refine g_invI [.int 64] [.ref b18, .ref v0] zy_X3_init wd_174 wd_175 rfl C dX4_init_31 (by first | exact Nat.le_of_ble_eq_true rfl | simp [cat_rf]) (by first | exact Nat.le_of_ble_eq_true rfl | simp [cat_rf]) (by first | exact Nat.le_of_ble_eq_true rfl | simp [cat_rf]) (by rw [hmc_of hΓ]; exact q22) (by rw [hms_of hΓ]; exact q23) rfl rfl  (okX3_init hb) ?_
  rintro o σ24 ⟨rfl, hb⟩
  refine ⟨_, rfl, ?_⟩
  obtain ⟨q25, hb⟩ := hb
  refine g_putFR (some b18) C fo_RX4_27 dX4_init_34 q25 rfl rfl rfl rfl ?_
  refine g_aload_n (some v0) C dX4_init_37 0 rfl ?_
  obtain ⟨q26, q27, hb⟩ := hb
  refine g_new zc_3 zd_3 ⟨_, rfl⟩ wd_149 wd_173 wd_73 C dX4_init_38 (by rw [hmc_of hΓ]; exact q26) (by rw [hms_of hΓ]; exact q27) (fun b28 q29 => ?_)
  replace hb := hb b28 (by rw [zK_uFr] at q29; exact q29)
  refine g_dup C dX4_init_41 rfl ?_
  refine g_bipush (v := 32) C dX4_init_42 (by decide) ?_
  obtain ⟨m30, m31, q32, q33, hb⟩ := hb
  refine g_invI [.int 32] [.ref b28, .ref v0] zy_X3_init wd_174 wd_175 rfl C dX4_init_44 (by first | exact Nat.le_of_ble_eq_true rfl | simp [cat_rf]) (by first | exact Nat.le_of_ble_eq_true rfl | simp [cat_rf]) (by first | exact Nat.le_of_ble_eq_true rfl | simp [cat_rf]) (by rw [hmc_of hΓ]; exact q32) (by rw [hms_of hΓ]; exact q33) rfl rfl  (okX3_init hb) ?_
  rintro o σ34 ⟨rfl, hb⟩
  refine ⟨_, rfl, ?_⟩
  obtain ⟨q35, hb⟩ := hb
  refine g_putFR (some b28) C fo_RX4_31 dX4_init_47 q35 rfl rfl rfl rfl ?_
  refine g_aload_n (some v0) C dX4_init_50 0 rfl ?_
  refine g_bipush (v := 64) C dX4_init_51 (by decide) ?_
  obtain ⟨q36, q37, hb⟩ := hb
  refine g_newa (N := 64) at_int C dX4_init_53 (by decide) (by decide) (by decide) (by rw [hmc_of hΓ]; exact q36) (by rw [hms_of hΓ]; exact q37) (fun b38 q39 => ?_)
  replace hb := hb b38 (by rw [zK_uFr] at q39; exact q39)
  obtain ⟨q40, hb⟩ := hb
  refine g_putFR (some b38) C fo_RX4_34 dX4_init_55 q40 rfl rfl rfl rfl ?_
  refine g_aload_n (some v0) C dX4_init_58 0 rfl ?_
  refine g_bipush (v := 6) C dX4_init_59 (by decide) ?_
  obtain ⟨q41, q42, hb⟩ := hb
  refine g_newa (N := 6) at_int C dX4_init_61 (by decide) (by decide) (by decide) (by rw [hmc_of hΓ]; exact q41) (by rw [hms_of hΓ]; exact q42) (fun b43 q44 => ?_)
  replace hb := hb b43 (by rw [zK_uFr] at q44; exact q44)
  obtain ⟨q45, hb⟩ := hb
  refine g_putFR (some b43) C fo_RX4_38 dX4_init_63 q45 rfl rfl rfl rfl ?_
  refine g_aload_n (some v0) C dX4_init_66 0 rfl ?_
  refine g_aload_n (some v1) C dX4_init_67 1 rfl ?_
  refine g_putFR (some v1) C fo_RX4_41 dX4_init_68 (by rw [zK_uFr]; exact q45) rfl rfl rfl rfl ?_
  refine g_aload_n (some v0) C dX4_init_71 0 rfl ?_
  refine g_aload_n (some v2) C dX4_init_72 2 rfl ?_
  refine g_putFR (some v2) C fo_RX4_45 dX4_init_73 (by rw [zK_uFr, zK_uFr]; exact q45) rfl rfl rfl rfl ?_
  refine g_iconst (v := 0) C dX4_init_76 (by decide) ?_
  refine g_istore_n (i := 3) (lv' := [(3, .int 0), (0, .ref v0), (1, .ref v1), (2, .ref v2)]) C dX4_init_77 rfl (hnl_of hΓ (by decide)) (by first | rfl | simp [cat_rf]) ?_
  refine g_sub (lv' := [(0, .ref v0), (3, .int 0)]) [1, 0] rfl ?_
  obtain ⟨f46, hb⟩ := hb
  exact klX4_init_78 C hΓ  f46 _ _ _ _ _ hb
theorem okX4_init {mc ms : Nat} {v0 : Nat} {v1 : Nat} {v2 : Nat} {σ : St} {Q : St → Prop} (hb : wX4_init mc ms v0 v1 v2 σ Q) : hM yX4_init cX4_init 4 ((Option.none : Option Jvm.ClassFile.FieldType)) 3 54 mc ms [.ref v0, .ref v1, .ref v2] σ (oV Q) :=
  hM_of (by decide) (Nat.le_of_ble_eq_true rfl) (fun Γ hΓ C => kwX4_init_0 (mc := mc) (ms := ms) C hΓ 0 0 _ _ _ _ hb)
def wX5_init_0 (mc ms : Nat) (Q : St → Prop) (k n : Nat) (v0 : Nat) (σ : St) : Prop :=
  k + 1 ≤ mc ∧ n + 16 ≤ ms ∧ ∀ b3 : Nat, zK σ b3 = 0 → zK (nA σ b3 20 16) v0 = 6 ∧ k + 1 + 1 ≤ mc ∧ n + 16 + 16 ≤ ms ∧ ∀ b8 : Nat, zK (nA σ b3 20 16) b8 = 0 → zK (nA (uFr (nA σ b3 20 16) 320 v0 (some b3)) b8 20 16) v0 = 6 ∧ k + 1 + 1 + 1 ≤ mc ∧ n + 16 + 16 + 17 ≤ ms ∧ ∀ b13 : Nat, zK (nA (uFr (nA σ b3 20 16) 320 v0 (some b3)) b8 20 16) b13 = 0 → zK (nA (uFr (nA (uFr (nA σ b3 20 16) 320 v0 (some b3)) b8 20 16) 321 v0 (some b8)) b13 20 17) v0 = 6 ∧ k + 1 + 1 + 1 ≤ mc ∧ n + 16 + 16 + 17 ≤ ms ∧ Q (uFr (nA (uFr (nA (uFr (nA σ b3 20 16) 320 v0 (some b3)) b8 20 16) 321 v0 (some b8)) b13 20 17) 322 v0 (some b13))
def wX5_init (mc ms : Nat) (v0 : Nat) (σ : St) (Q : St → Prop) : Prop := wX5_init_0 mc ms Q 0 0 v0 σ
set_option maxRecDepth 20000 in
theorem kwX5_init_0 {Γ : hCT} {mc ms : Nat} (C : hC Γ RX5 cX5_init ((Option.none : Option Jvm.ClassFile.FieldType)) "<init>" 1 12) {Q : St → Prop} (hΓ : Γ.2.2.2.2.2.2.2.2.2.2.2 = (1, mc, ms, oV Q)) (k n : Nat) (v0 : Nat) (σ : St) (hb : wX5_init_0 mc ms Q k n v0 σ) : hW Γ k n 0 [(0, .ref v0)] [] σ := by
  unfold wX5_init_0 at hb
  refine g_aload_n (some v0) C dX5_init_0 0 rfl ?_
  refine g_objInit wd_272 wd_101 wd_102 C dX5_init_1 (by first | exact Nat.le_of_ble_eq_true rfl | simp [cat_rf]) (by first | exact Nat.le_of_ble_eq_true rfl | simp [cat_rf]) ?_
  refine g_aload_n (some v0) C dX5_init_4 0 rfl ?_
  refine g_bipush (v := 16) C dX5_init_5 (by decide) ?_
  obtain ⟨q1, q2, hb⟩ := hb
  refine g_newa (N := 16) at_int C dX5_init_7 (by decide) (by decide) (by decide) (by rw [hmc_of hΓ]; exact q1) (by rw [hms_of hΓ]; exact q2) (fun b3 q4 => ?_)
  replace hb := hb b3 q4
  obtain ⟨q5, hb⟩ := hb
  refine g_putFR (some b3) C fo_RX5_9 dX5_init_9 q5 rfl rfl rfl rfl ?_
  refine g_aload_n (some v0) C dX5_init_12 0 rfl ?_
  refine g_bipush (v := 16) C dX5_init_13 (by decide) ?_
  obtain ⟨q6, q7, hb⟩ := hb
  refine g_newa (N := 16) at_int C dX5_init_15 (by decide) (by decide) (by decide) (by rw [hmc_of hΓ]; exact q6) (by rw [hms_of hΓ]; exact q7) (fun b8 q9 => ?_)
  replace hb := hb b8 (by rw [zK_uFr] at q9; exact q9)
  obtain ⟨q10, hb⟩ := hb
  refine g_putFR (some b8) C fo_RX5_15 dX5_init_17 q10 rfl rfl rfl rfl ?_
  refine g_aload_n (some v0) C dX5_init_20 0 rfl ?_
  refine g_bipush (v := 17) C dX5_init_21 (by decide) ?_
  obtain ⟨q11, q12, hb⟩ := hb
  refine g_newa (N := 17) at_int C dX5_init_23 (by decide) (by decide) (by decide) (by rw [hmc_of hΓ]; exact q11) (by rw [hms_of hΓ]; exact q12) (fun b13 q14 => ?_)
  replace hb := hb b13 (by rw [zK_uFr] at q14; exact q14)
  obtain ⟨q15, hb⟩ := hb
  refine g_putFR (some b13) C fo_RX5_18 dX5_init_25 q15 rfl rfl rfl rfl ?_
  obtain ⟨q16, q17, hb⟩ := hb
  exact g_vreturn C hΓ q16 q17 dX5_init_28 ⟨rfl, hb⟩
theorem okX5_init {mc ms : Nat} {v0 : Nat} {σ : St} {Q : St → Prop} (hb : wX5_init mc ms v0 σ Q) : hM yX5_init cX5_init 1 ((Option.none : Option Jvm.ClassFile.FieldType)) 1 12 mc ms [.ref v0] σ (oV Q) :=
  hM_of (by decide) (Nat.le_of_ble_eq_true rfl) (fun Γ hΓ C => kwX5_init_0 (mc := mc) (ms := ms) C hΓ 0 0 _ _ hb)
def wX8_init_0 (mc ms : Nat) (Q : St → Prop) (k n : Nat) (v0 : Nat) (σ : St) : Prop :=
  k + 1 ≤ mc ∧ n + 16 ≤ ms ∧ ∀ b3 : Nat, zK σ b3 = 0 → zK (nA σ b3 21 16) v0 = 9 ∧ k + 1 ≤ mc ∧ n + 16 ≤ ms ∧ Q (uFr (nA σ b3 21 16) 512 v0 (some b3))
def wX8_init (mc ms : Nat) (v0 : Nat) (σ : St) (Q : St → Prop) : Prop := wX8_init_0 mc ms Q 0 0 v0 σ
set_option maxRecDepth 20000 in
theorem kwX8_init_0 {Γ : hCT} {mc ms : Nat} (C : hC Γ RX8 cX8_init ((Option.none : Option Jvm.ClassFile.FieldType)) "<init>" 1 12) {Q : St → Prop} (hΓ : Γ.2.2.2.2.2.2.2.2.2.2.2 = (1, mc, ms, oV Q)) (k n : Nat) (v0 : Nat) (σ : St) (hb : wX8_init_0 mc ms Q k n v0 σ) : hW Γ k n 0 [(0, .ref v0)] [] σ := by
  unfold wX8_init_0 at hb
  refine g_aload_n (some v0) C dX8_init_0 0 rfl ?_
  refine g_objInit wd_291 wd_101 wd_102 C dX8_init_1 (by first | exact Nat.le_of_ble_eq_true rfl | simp [cat_rf]) (by first | exact Nat.le_of_ble_eq_true rfl | simp [cat_rf]) ?_
  refine g_aload_n (some v0) C dX8_init_4 0 rfl ?_
  refine g_bipush (v := 16) C dX8_init_5 (by decide) ?_
  obtain ⟨q1, q2, hb⟩ := hb
  refine g_newa (N := 16) at_long C dX8_init_7 (by decide) (by decide) (by decide) (by rw [hmc_of hΓ]; exact q1) (by rw [hms_of hΓ]; exact q2) (fun b3 q4 => ?_)
  replace hb := hb b3 q4
  obtain ⟨q5, hb⟩ := hb
  refine g_putFR (some b3) C fo_RX8_9 dX8_init_9 q5 rfl rfl rfl rfl ?_
  obtain ⟨q6, q7, hb⟩ := hb
  exact g_vreturn C hΓ q6 q7 dX8_init_12 ⟨rfl, hb⟩
theorem okX8_init {mc ms : Nat} {v0 : Nat} {σ : St} {Q : St → Prop} (hb : wX8_init mc ms v0 σ Q) : hM yX8_init cX8_init 1 ((Option.none : Option Jvm.ClassFile.FieldType)) 1 12 mc ms [.ref v0] σ (oV Q) :=
  hM_of (by decide) (Nat.le_of_ble_eq_true rfl) (fun Γ hΓ C => kwX8_init_0 (mc := mc) (ms := ms) C hΓ 0 0 _ _ hb)
def wX1_init_0 (mc ms : Nat) (Q : St → Prop) (k n : Nat) (v0 : Nat) (σ : St) : Prop :=
  k + 1 ≤ mc ∧ n + 100 ≤ ms ∧ ∀ b3 : Nat, zK σ b3 = 0 → zK (nA σ b3 24 100) v0 = 2 ∧ k + 1 ≤ mc ∧ n + 100 ≤ ms ∧ Q (uFr (nA σ b3 24 100) 64 v0 (some b3))
def wX1_init (mc ms : Nat) (v0 : Nat) (σ : St) (Q : St → Prop) : Prop := wX1_init_0 mc ms Q 0 0 v0 σ
set_option maxRecDepth 20000 in
theorem kwX1_init_0 {Γ : hCT} {mc ms : Nat} (C : hC Γ RX1 cX1_init ((Option.none : Option Jvm.ClassFile.FieldType)) "<init>" 1 12) {Q : St → Prop} (hΓ : Γ.2.2.2.2.2.2.2.2.2.2.2 = (1, mc, ms, oV Q)) (k n : Nat) (v0 : Nat) (σ : St) (hb : wX1_init_0 mc ms Q k n v0 σ) : hW Γ k n 0 [(0, .ref v0)] [] σ := by
  unfold wX1_init_0 at hb
  refine g_aload_n (some v0) C dX1_init_0 0 rfl ?_
  refine g_objInit wd_309 wd_101 wd_102 C dX1_init_1 (by first | exact Nat.le_of_ble_eq_true rfl | simp [cat_rf]) (by first | exact Nat.le_of_ble_eq_true rfl | simp [cat_rf]) ?_
  refine g_aload_n (some v0) C dX1_init_4 0 rfl ?_
  refine g_bipush (v := 100) C dX1_init_5 (by decide) ?_
  obtain ⟨q1, q2, hb⟩ := hb
  refine g_newq (N := 100) el_24 (fun r hr => by cases hr; rfl) wd_310 (by decide) C dX1_init_7 (by decide) (by decide) (by decide) (by rw [hmc_of hΓ]; exact q1) (by rw [hms_of hΓ]; exact q2) (fun b3 q4 => ?_)
  replace hb := hb b3 q4
  obtain ⟨q5, hb⟩ := hb
  refine g_putFR (some b3) C fo_RX1_11 dX1_init_10 q5 rfl rfl rfl rfl ?_
  obtain ⟨q6, q7, hb⟩ := hb
  exact g_vreturn C hΓ q6 q7 dX1_init_13 ⟨rfl, hb⟩
theorem okX1_init {mc ms : Nat} {v0 : Nat} {σ : St} {Q : St → Prop} (hb : wX1_init mc ms v0 σ Q) : hM yX1_init cX1_init 1 ((Option.none : Option Jvm.ClassFile.FieldType)) 1 12 mc ms [.ref v0] σ (oV Q) :=
  hM_of (by decide) (Nat.le_of_ble_eq_true rfl) (fun Γ hΓ C => kwX1_init_0 (mc := mc) (ms := ms) C hΓ 0 0 _ _ hb)
def wX11_init_0 (mc ms : Nat) (Q : St → Prop) (k n : Nat) (v0 : Nat) (σ : St) : Prop :=
  k + 1 ≤ mc ∧ n + 7 ≤ ms ∧ ∀ b3 : Nat, zK σ b3 = 0 → ∃ m5 m6 : Nat, k + 1 + m5 ≤ mc ∧ n + 7 + m6 ≤ ms ∧ wX6_init m5 m6 b3 (nO σ b3 7) (fun σ9 => zK σ9 v0 = 12 ∧ k + 1 + m5 + 1 ≤ mc ∧ n + 7 + m6 + 40 ≤ ms ∧ ∀ b13 : Nat, zK σ9 b13 = 0 → zK (nA (uFr σ9 704 v0 (some b3)) b13 27 40) v0 = 12 ∧ k + 1 + m5 + 1 + 1 ≤ mc ∧ n + 7 + m6 + 40 + 8 ≤ ms ∧ ∀ b18 : Nat, zK (nA (uFr σ9 704 v0 (some b3)) b13 27 40) b18 = 0 → zK (nO (uFr (nA (uFr σ9 704 v0 (some b3)) b13 27 40) 705 v0 (some b13)) b18 5) v0 = 12 ∧ ∃ a21 : Nat, zFr (nO (uFr (nA (uFr σ9 704 v0 (some b3)) b13 27 40) 705 v0 (some b13)) b18 5) 704 v0 = some a21 ∧ ∃ a23 : Nat, zFr (nO (uFr (nA (uFr σ9 704 v0 (some b3)) b13 27 40) 705 v0 (some b13)) b18 5) 705 v0 = some a23 ∧ ∃ m25 m26 : Nat, k + 1 + m5 + 1 + 1 + m25 ≤ mc ∧ n + 7 + m6 + 40 + 8 + m26 ≤ ms ∧ wX4_init m25 m26 b18 a21 a23 (nO (uFr (nA (uFr σ9 704 v0 (some b3)) b13 27 40) 705 v0 (some b13)) b18 5) (fun σ29 => zK σ29 v0 = 12 ∧ k + 1 + m5 + 1 + 1 + m25 + 1 ≤ mc ∧ n + 7 + m6 + 40 + 8 + m26 + 3 ≤ ms ∧ ∀ b33 : Nat, zK σ29 b33 = 0 → ∃ m35 m36 : Nat, k + 1 + m5 + 1 + 1 + m25 + 1 + m35 ≤ mc ∧ n + 7 + m6 + 40 + 8 + m26 + 3 + m36 ≤ ms ∧ wX3_init m35 m36 b33 32 (nO (uFr σ29 707 v0 (some b18)) b33 4) (fun σ39 => zK σ39 v0 = 12 ∧ k + 1 + m5 + 1 + 1 + m25 + 1 + m35 + 1 ≤ mc ∧ n + 7 + m6 + 40 + 8 + m26 + 3 + m36 + 4 ≤ ms ∧ ∀ b43 : Nat, zK σ39 b43 = 0 → ∃ m45 m46 : Nat, k + 1 + m5 + 1 + 1 + m25 + 1 + m35 + 1 + m45 ≤ mc ∧ n + 7 + m6 + 40 + 8 + m26 + 3 + m36 + 4 + m46 ≤ ms ∧ wX5_init m45 m46 b43 (nO (uFr σ39 708 v0 (some b33)) b43 6) (fun σ49 => zK σ49 v0 = 12 ∧ k + 1 + m5 + 1 + 1 + m25 + 1 + m35 + 1 + m45 + 1 ≤ mc ∧ n + 7 + m6 + 40 + 8 + m26 + 3 + m36 + 4 + m46 + 3 ≤ ms ∧ ∀ b53 : Nat, zK σ49 b53 = 0 → ∃ m55 m56 : Nat, k + 1 + m5 + 1 + 1 + m25 + 1 + m35 + 1 + m45 + 1 + m55 ≤ mc ∧ n + 7 + m6 + 40 + 8 + m26 + 3 + m36 + 4 + m46 + 3 + m56 ≤ ms ∧ wX8_init m55 m56 b53 (nO (uFr σ49 710 v0 (some b43)) b53 9) (fun σ59 => zK σ59 v0 = 12 ∧ k + 1 + m5 + 1 + 1 + m25 + 1 + m35 + 1 + m45 + 1 + m55 + 1 ≤ mc ∧ n + 7 + m6 + 40 + 8 + m26 + 3 + m36 + 4 + m46 + 3 + m56 + 20 ≤ ms ∧ ∀ b63 : Nat, zK σ59 b63 = 0 → zK (nA (uFr σ59 711 v0 (some b53)) b63 28 20) v0 = 12 ∧ k + 1 + m5 + 1 + 1 + m25 + 1 + m35 + 1 + m45 + 1 + m55 + 1 + 1 ≤ mc ∧ n + 7 + m6 + 40 + 8 + m26 + 3 + m36 + 4 + m46 + 3 + m56 + 20 + 3 ≤ ms ∧ ∀ b68 : Nat, zK (nA (uFr σ59 711 v0 (some b53)) b63 28 20) b68 = 0 → ∃ m70 m71 : Nat, k + 1 + m5 + 1 + 1 + m25 + 1 + m35 + 1 + m45 + 1 + m55 + 1 + 1 + m70 ≤ mc ∧ n + 7 + m6 + 40 + 8 + m26 + 3 + m36 + 4 + m46 + 3 + m56 + 20 + 3 + m71 ≤ ms ∧ wX1_init m70 m71 b68 (nO (uFr (nA (uFr σ59 711 v0 (some b53)) b63 28 20) 712 v0 (some b63)) b68 2) (fun σ74 => zK σ74 v0 = 12 ∧ k + 1 + m5 + 1 + 1 + m25 + 1 + m35 + 1 + m45 + 1 + m55 + 1 + 1 + m70 ≤ mc ∧ n + 7 + m6 + 40 + 8 + m26 + 3 + m36 + 4 + m46 + 3 + m56 + 20 + 3 + m71 ≤ ms ∧ Q (uFr σ74 713 v0 (some b68))))))))
def wX11_init (mc ms : Nat) (v0 : Nat) (σ : St) (Q : St → Prop) : Prop := wX11_init_0 mc ms Q 0 0 v0 σ
set_option maxRecDepth 20000 in
theorem kwX11_init_0 {Γ : hCT} {mc ms : Nat} (C : hC Γ RX11 cX11_init ((Option.none : Option Jvm.ClassFile.FieldType)) "<init>" 4 77) {Q : St → Prop} (hΓ : Γ.2.2.2.2.2.2.2.2.2.2.2 = (1, mc, ms, oV Q)) (k n : Nat) (v0 : Nat) (σ : St) (hb : wX11_init_0 mc ms Q k n v0 σ) : hW Γ k n 0 [(0, .ref v0)] [] σ := by
  unfold wX11_init_0 at hb
  refine g_aload_n (some v0) C dX11_init_0 0 rfl ?_
  refine g_objInit wd_100 wd_101 wd_102 C dX11_init_1 (by first | exact Nat.le_of_ble_eq_true rfl | simp [cat_rf]) (by first | exact Nat.le_of_ble_eq_true rfl | simp [cat_rf]) ?_
  refine g_aload_n (some v0) C dX11_init_4 0 rfl ?_
  obtain ⟨q1, q2, hb⟩ := hb
  refine g_new zc_6 zd_6 ⟨_, rfl⟩ wd_103 wd_104 wd_70 C dX11_init_5 (by rw [hmc_of hΓ]; exact q1) (by rw [hms_of hΓ]; exact q2) (fun b3 q4 => ?_)
  replace hb := hb b3 q4
  refine g_dup C dX11_init_8 rfl ?_
  obtain ⟨m5, m6, q7, q8, hb⟩ := hb
  refine g_invIN [] [.ref b3, .ref v0] zy_X6_init wn_105 wd_106 rfl C dX11_init_9 (by first | exact Nat.le_of_ble_eq_true rfl | simp [cat_rf]) (by first | exact Nat.le_of_ble_eq_true rfl | simp [cat_rf]) (by first | exact Nat.le_of_ble_eq_true rfl | simp [cat_rf]) (by rw [hmc_of hΓ]; exact q7) (by rw [hms_of hΓ]; exact q8) rfl rfl  (okX6_init hb) ?_
  rintro o σ9 ⟨rfl, hb⟩
  refine ⟨_, rfl, ?_⟩
  obtain ⟨q10, hb⟩ := hb
  refine g_putFR (some b3) C fo_RX11_12 dX11_init_12 q10 rfl rfl rfl rfl ?_
  refine g_aload_n (some v0) C dX11_init_15 0 rfl ?_
  refine g_bipush (v := 40) C dX11_init_16 (by decide) ?_
  obtain ⟨q11, q12, hb⟩ := hb
  refine g_newq (N := 40) el_27 (fun r hr => by cases hr; rfl) wd_141 (by decide) C dX11_init_18 (by decide) (by decide) (by decide) (by rw [hmc_of hΓ]; exact q11) (by rw [hms_of hΓ]; exact q12) (fun b13 q14 => ?_)
  replace hb := hb b13 (by rw [zK_uFr] at q14; exact q14)
  obtain ⟨q15, hb⟩ := hb
  refine g_putFR (some b13) C fo_RX11_18 dX11_init_21 q15 rfl rfl rfl rfl ?_
  refine g_aload_n (some v0) C dX11_init_24 0 rfl ?_
  obtain ⟨q16, q17, hb⟩ := hb
  refine g_new zc_4 zd_4 ⟨_, rfl⟩ wd_143 wd_144 wd_71 C dX11_init_25 (by rw [hmc_of hΓ]; exact q16) (by rw [hms_of hΓ]; exact q17) (fun b18 q19 => ?_)
  replace hb := hb b18 (by rw [zK_uFr] at q19; exact q19)
  refine g_dup C dX11_init_28 rfl ?_
  refine g_aload_n (some v0) C dX11_init_29 0 rfl ?_
  obtain ⟨q20, hb⟩ := hb
  obtain ⟨a21, q22, hb⟩ := hb
  refine g_getR (some a21) C fl_RX11_12 dX11_init_30 q20 rfl rfl q22 ?_
  refine g_aload_n (some v0) C dX11_init_33 0 rfl ?_
  obtain ⟨a23, q24, hb⟩ := hb
  refine g_getR (some a23) C fl_RX11_18 dX11_init_34 q20 rfl rfl q24 ?_
  obtain ⟨m25, m26, q27, q28, hb⟩ := hb
  refine g_invI [.ref a21, .ref a23] [.ref b18, .ref v0] zy_X4_init wd_145 wd_146 rfl C dX11_init_37 (by first | exact Nat.le_of_ble_eq_true rfl | simp [cat_rf]) (by first | exact Nat.le_of_ble_eq_true rfl | simp [cat_rf]) (by first | exact Nat.le_of_ble_eq_true rfl | simp [cat_rf]) (by rw [hmc_of hΓ]; exact q27) (by rw [hms_of hΓ]; exact q28) rfl rfl  (okX4_init hb) ?_
  rintro o σ29 ⟨rfl, hb⟩
  refine ⟨_, rfl, ?_⟩
  obtain ⟨q30, hb⟩ := hb
  refine g_putFR (some b18) C fo_RX11_27 dX11_init_40 q30 rfl rfl rfl rfl ?_
  refine g_aload_n (some v0) C dX11_init_43 0 rfl ?_
  obtain ⟨q31, q32, hb⟩ := hb
  refine g_new zc_3 zd_3 ⟨_, rfl⟩ wd_265 wd_173 wd_73 C dX11_init_44 (by rw [hmc_of hΓ]; exact q31) (by rw [hms_of hΓ]; exact q32) (fun b33 q34 => ?_)
  replace hb := hb b33 (by rw [zK_uFr] at q34; exact q34)
  refine g_dup C dX11_init_47 rfl ?_
  refine g_bipush (v := 32) C dX11_init_48 (by decide) ?_
  obtain ⟨m35, m36, q37, q38, hb⟩ := hb
  refine g_invI [.int 32] [.ref b33, .ref v0] zy_X3_init wd_266 wd_175 rfl C dX11_init_50 (by first | exact Nat.le_of_ble_eq_true rfl | simp [cat_rf]) (by first | exact Nat.le_of_ble_eq_true rfl | simp [cat_rf]) (by first | exact Nat.le_of_ble_eq_true rfl | simp [cat_rf]) (by rw [hmc_of hΓ]; exact q37) (by rw [hms_of hΓ]; exact q38) rfl rfl  (okX3_init hb) ?_
  rintro o σ39 ⟨rfl, hb⟩
  refine ⟨_, rfl, ?_⟩
  obtain ⟨q40, hb⟩ := hb
  refine g_putFR (some b33) C fo_RX11_36 dX11_init_53 q40 rfl rfl rfl rfl ?_
  refine g_aload_n (some v0) C dX11_init_56 0 rfl ?_
  obtain ⟨q41, q42, hb⟩ := hb
  refine g_new zc_5 zd_5 ⟨_, rfl⟩ wd_267 wd_268 wd_75 C dX11_init_57 (by rw [hmc_of hΓ]; exact q41) (by rw [hms_of hΓ]; exact q42) (fun b43 q44 => ?_)
  replace hb := hb b43 (by rw [zK_uFr] at q44; exact q44)
  refine g_dup C dX11_init_60 rfl ?_
  obtain ⟨m45, m46, q47, q48, hb⟩ := hb
  refine g_invIN [] [.ref b43, .ref v0] zy_X5_init wn_269 wd_270 rfl C dX11_init_61 (by first | exact Nat.le_of_ble_eq_true rfl | simp [cat_rf]) (by first | exact Nat.le_of_ble_eq_true rfl | simp [cat_rf]) (by first | exact Nat.le_of_ble_eq_true rfl | simp [cat_rf]) (by rw [hmc_of hΓ]; exact q47) (by rw [hms_of hΓ]; exact q48) rfl rfl  (okX5_init hb) ?_
  rintro o σ49 ⟨rfl, hb⟩
  refine ⟨_, rfl, ?_⟩
  obtain ⟨q50, hb⟩ := hb
  refine g_putFR (some b43) C fo_RX11_43 dX11_init_64 q50 rfl rfl rfl rfl ?_
  refine g_aload_n (some v0) C dX11_init_67 0 rfl ?_
  obtain ⟨q51, q52, hb⟩ := hb
  refine g_new zc_8 zd_8 ⟨_, rfl⟩ wd_286 wd_287 wd_76 C dX11_init_68 (by rw [hmc_of hΓ]; exact q51) (by rw [hms_of hΓ]; exact q52) (fun b53 q54 => ?_)
  replace hb := hb b53 (by rw [zK_uFr] at q54; exact q54)
  refine g_dup C dX11_init_71 rfl ?_
  obtain ⟨m55, m56, q57, q58, hb⟩ := hb
  refine g_invIN [] [.ref b53, .ref v0] zy_X8_init wn_288 wd_289 rfl C dX11_init_72 (by first | exact Nat.le_of_ble_eq_true rfl | simp [cat_rf]) (by first | exact Nat.le_of_ble_eq_true rfl | simp [cat_rf]) (by first | exact Nat.le_of_ble_eq_true rfl | simp [cat_rf]) (by rw [hmc_of hΓ]; exact q57) (by rw [hms_of hΓ]; exact q58) rfl rfl  (okX8_init hb) ?_
  rintro o σ59 ⟨rfl, hb⟩
  refine ⟨_, rfl, ?_⟩
  obtain ⟨q60, hb⟩ := hb
  refine g_putFR (some b53) C fo_RX11_50 dX11_init_75 q60 rfl rfl rfl rfl ?_
  refine g_aload_n (some v0) C dX11_init_78 0 rfl ?_
  refine g_bipush (v := 20) C dX11_init_79 (by decide) ?_
  obtain ⟨q61, q62, hb⟩ := hb
  refine g_newq (N := 20) el_28 (fun r hr => by cases hr; rfl) wd_302 (by decide) C dX11_init_81 (by decide) (by decide) (by decide) (by rw [hmc_of hΓ]; exact q61) (by rw [hms_of hΓ]; exact q62) (fun b63 q64 => ?_)
  replace hb := hb b63 (by rw [zK_uFr] at q64; exact q64)
  obtain ⟨q65, hb⟩ := hb
  refine g_putFR (some b63) C fo_RX11_56 dX11_init_84 q65 rfl rfl rfl rfl ?_
  refine g_aload_n (some v0) C dX11_init_87 0 rfl ?_
  obtain ⟨q66, q67, hb⟩ := hb
  refine g_new zc_1 zd_1 ⟨_, rfl⟩ wd_304 wd_305 wd_77 C dX11_init_88 (by rw [hmc_of hΓ]; exact q66) (by rw [hms_of hΓ]; exact q67) (fun b68 q69 => ?_)
  replace hb := hb b68 (by rw [zK_uFr] at q69; exact q69)
  refine g_dup C dX11_init_91 rfl ?_
  obtain ⟨m70, m71, q72, q73, hb⟩ := hb
  refine g_invIN [] [.ref b68, .ref v0] zy_X1_init wn_306 wd_307 rfl C dX11_init_92 (by first | exact Nat.le_of_ble_eq_true rfl | simp [cat_rf]) (by first | exact Nat.le_of_ble_eq_true rfl | simp [cat_rf]) (by first | exact Nat.le_of_ble_eq_true rfl | simp [cat_rf]) (by rw [hmc_of hΓ]; exact q72) (by rw [hms_of hΓ]; exact q73) rfl rfl  (okX1_init hb) ?_
  rintro o σ74 ⟨rfl, hb⟩
  refine ⟨_, rfl, ?_⟩
  obtain ⟨q75, hb⟩ := hb
  refine g_putFR (some b68) C fo_RX11_63 dX11_init_95 q75 rfl rfl rfl rfl ?_
  obtain ⟨q76, q77, hb⟩ := hb
  exact g_vreturn C hΓ q76 q77 dX11_init_98 ⟨rfl, hb⟩
theorem okX11_init {mc ms : Nat} {v0 : Nat} {σ : St} {Q : St → Prop} (hb : wX11_init mc ms v0 σ Q) : hM yX11_init cX11_init 1 ((Option.none : Option Jvm.ClassFile.FieldType)) 4 77 mc ms [.ref v0] σ (oV Q) :=
  hM_of (by decide) (Nat.le_of_ble_eq_true rfl) (fun Γ hΓ C => kwX11_init_0 (mc := mc) (ms := ms) C hΓ 0 0 _ _ hb)
def wX11_refused_0 (Q : Int32 → St → Prop) (v0 : Nat) (v1 : Int32) (σ : St) : Prop :=
  zK σ v0 = 12 ∧ Q (-1) (uFi σ 714 v0 v1)
def wX11_refused (v0 : Nat) (v1 : Int32) (σ : St) (Q : Int32 → St → Prop) : Prop := wX11_refused_0 Q v0 v1 σ
set_option maxRecDepth 20000 in
theorem kwX11_refused_0 {Γ : hCT} (C : hC Γ RX11 cX11_refused ((Option.some FieldType.int)) "refused" 0 0) {Q : Int32 → St → Prop} (hΓ : Γ.2.2.2.2.2.2.2.2.2.2.2 = (2, 0, 0, oI Q)) (v0 : Nat) (v1 : Int32) (σ : St) (hb : wX11_refused_0 Q v0 v1 σ) : hW Γ 0 0 0 [(0, .ref v0), (1, .int v1)] [] σ := by
  unfold wX11_refused_0 at hb
  refine g_aload_n (some v0) C dX11_refused_0 0 rfl ?_
  refine g_iload_n C dX11_refused_1 1 rfl ?_
  obtain ⟨q1, hb⟩ := hb
  refine g_putI C fl_RX11_101 dX11_refused_2 q1 rfl rfl rfl rfl ?_
  refine g_iconst (v := (-1)) C dX11_refused_5 (by decide) ?_
  exact g_ireturn C hΓ (Nat.zero_le _) (Nat.zero_le _) dX11_refused_6 ⟨_, rfl, hb⟩
theorem okX11_refused {v0 : Nat} {v1 : Int32} {σ : St} {Q : Int32 → St → Prop} (hb : wX11_refused v0 v1 σ Q) : hM yX11_refused cX11_refused 2 ((Option.some FieldType.int)) 0 0 0 0 [.ref v0, .int v1] σ (oI Q) :=
  hM_of (by decide) (Nat.le_of_ble_eq_true rfl) (fun Γ hΓ C => kwX11_refused_0 C hΓ _ _ _ hb)
def wX0_init_0 (Q : St → Prop) (v0 : Nat) (v1 : Int32) (v2 : Int32) (v3 : Int32) (v4 : Int64) (v6 : Option Nat) (σ : St) : Prop :=
  zK σ v0 = 1 ∧ Q (uFr (uFj (uFi (uFi (uFi σ 0 v0 v1) 1 v0 v2) 2 v0 v3) 3 v0 v4) 4 v0 v6)
def wX0_init (v0 : Nat) (v1 : Int32) (v2 : Int32) (v3 : Int32) (v4 : Int64) (v6 : Option Nat) (σ : St) (Q : St → Prop) : Prop := wX0_init_0 Q v0 v1 v2 v3 v4 v6 σ
set_option maxRecDepth 20000 in
theorem kwX0_init_0 {Γ : hCT} (C : hC Γ RX0 cX0_init ((Option.none : Option Jvm.ClassFile.FieldType)) "<init>" 1 12) {Q : St → Prop} (hΓ : Γ.2.2.2.2.2.2.2.2.2.2.2 = (7, 0, 0, oV Q)) (v0 : Nat) (v1 : Int32) (v2 : Int32) (v3 : Int32) (v4 : Int64) (v6 : Option Nat) (σ : St) (hb : wX0_init_0 Q v0 v1 v2 v3 v4 v6 σ) : hW Γ 0 0 0 [(0, .ref v0), (1, .int v1), (2, .int v2), (3, .int v3), (4, .long v4), (6, va_rf v6)] [] σ := by
  unfold wX0_init_0 at hb
  refine g_aload_n (some v0) C dX0_init_0 0 rfl ?_
  refine g_objInit wd_370 wd_101 wd_102 C dX0_init_1 (by first | exact Nat.le_of_ble_eq_true rfl | simp [cat_rf]) (by first | exact Nat.le_of_ble_eq_true rfl | simp [cat_rf]) ?_
  refine g_aload_n (some v0) C dX0_init_4 0 rfl ?_
  refine g_iload_n C dX0_init_5 1 rfl ?_
  obtain ⟨q1, hb⟩ := hb
  refine g_putFI C fo_RX0_7 dX0_init_6 q1 rfl rfl rfl rfl ?_
  refine g_aload_n (some v0) C dX0_init_9 0 rfl ?_
  refine g_iload_n C dX0_init_10 2 rfl ?_
  refine g_putFI C fo_RX0_13 dX0_init_11 (by rw [zK_uFi]; exact q1) rfl rfl rfl rfl ?_
  refine g_aload_n (some v0) C dX0_init_14 0 rfl ?_
  refine g_iload_n C dX0_init_15 3 rfl ?_
  refine g_putFI C fo_RX0_16 dX0_init_16 (by rw [zK_uFi, zK_uFi]; exact q1) rfl rfl rfl rfl ?_
  refine g_aload_n (some v0) C dX0_init_19 0 rfl ?_
  refine g_lload C dX0_init_20 4 rfl ?_
  refine g_putFJ C fo_RX0_19 dX0_init_22 (by rw [zK_uFi, zK_uFi, zK_uFi]; exact q1) rfl rfl rfl rfl ?_
  refine g_aload_n (some v0) C dX0_init_25 0 rfl ?_
  refine g_aload v6 C dX0_init_26 5 rfl ?_
  refine g_putFR v6 C fo_RX0_23 dX0_init_28 (by rw [zK_uFj, zK_uFi, zK_uFi, zK_uFi]; exact q1) rfl rfl (by cases v6 <;> rfl) (by cases v6 <;> rfl) ?_
  exact g_vreturn C hΓ (Nat.zero_le _) (Nat.zero_le _) dX0_init_31 ⟨rfl, hb⟩
theorem okX0_init {v0 : Nat} {v1 : Int32} {v2 : Int32} {v3 : Int32} {v4 : Int64} {v6 : Option Nat} {σ : St} {Q : St → Prop} (hb : wX0_init v0 v1 v2 v3 v4 v6 σ Q) : hM yX0_init cX0_init 7 ((Option.none : Option Jvm.ClassFile.FieldType)) 1 12 0 0 [.ref v0, .int v1, .int v2, .int v3, .long v4, va_rf v6] σ (oV Q) :=
  hM_of (by decide) (by cases v6 <;> exact Nat.le_of_ble_eq_true rfl) (fun Γ hΓ C => by cases v6 <;> exact kwX0_init_0 C hΓ _ _ _ _ _ _ _ hb)
def wX1_keep_32 (Q : St → Prop) (v0 : Nat) (s1 : Int32) (s0 : Nat) (σ : St) : Prop :=
  zK σ s0 = 2 ∧ zK σ v0 = 2 ∧ Q (uFi (uFi σ 65 s0 s1) 66 v0 (if 100 < ((zFi (uFi σ 65 s0 s1) 66 v0) + 1) then 100 else ((zFi (uFi σ 65 s0 s1) 66 v0) + 1)))
def wX1_keep_0 (Q : St → Prop) (v0 : Nat) (v1 : Nat) (σ : St) : Prop :=
  zK σ v0 = 2 ∧ ∃ a2 : Nat, zFr σ 64 v0 = some a2 ∧ zK σ a2 = 24 ∧ vp_in (zFi σ 65 v0) (zL σ a2) ∧ zK σ v1 = 1 ∧ (((100 : Int32) ≤ ((zFi σ 65 v0) + 1) → wX1_keep_32 Q v0 0 v0 (uAr σ a2 (ix (zFi σ 65 v0)) (some v1))) ∧ (¬ (100 : Int32) ≤ ((zFi σ 65 v0) + 1) → wX1_keep_32 Q v0 ((zFi σ 65 v0) + 1) v0 (uAr σ a2 (ix (zFi σ 65 v0)) (some v1))))
def wX1_keep (v0 : Nat) (v1 : Nat) (σ : St) (Q : St → Prop) : Prop := wX1_keep_0 Q v0 v1 σ
set_option maxRecDepth 20000 in
theorem kwX1_keep_32 {Γ : hCT} (C : hC Γ RX1 cX1_keep ((Option.none : Option Jvm.ClassFile.FieldType)) "keep" 1 40) {Q : St → Prop} (hΓ : Γ.2.2.2.2.2.2.2.2.2.2.2 = (2, 0, 0, oV Q)) (v0 : Nat) (s1 : Int32) (s0 : Nat) (σ : St) (hb : wX1_keep_32 Q v0 s1 s0 σ) : hW Γ 0 0 32 [(0, .ref v0)] [.int s1, .ref s0] σ := by
  unfold wX1_keep_32 at hb
  obtain ⟨q1, hb⟩ := hb
  refine g_putI C fl_RX1_17 dX1_keep_32 q1 rfl rfl rfl rfl ?_
  refine g_aload_n (some v0) C dX1_keep_35 0 rfl ?_
  refine g_aload_n (some v0) C dX1_keep_36 0 rfl ?_
  obtain ⟨q2, hb⟩ := hb
  refine g_getIx (zFi (uFi σ 65 s0 s1) 66 v0) C fl_RX1_21 dX1_keep_37 (by rw [zK_uFi]; exact q2) rfl rfl rfl ?_
  refine g_iconst (v := 1) C dX1_keep_40 (by decide) ?_
  refine g_iadd C dX1_keep_41 ?_
  refine g_bipush (v := 100) C dX1_keep_42 (by decide) ?_
  refine g_mmin wd_400 wd_401 wd_87 wd_402 C (by first | exact Nat.le_of_ble_eq_true rfl | simp [cat_rf]) (by first | exact Nat.le_of_ble_eq_true rfl | simp [cat_rf]) (Nat.zero_le _) (Nat.zero_le _) dX1_keep_44 ?_
  refine g_putI C fl_RX1_21 dX1_keep_47 (by rw [zK_uFi]; exact q2) rfl rfl rfl rfl ?_
  exact g_vreturn C hΓ (Nat.zero_le _) (Nat.zero_le _) dX1_keep_50 ⟨rfl, hb⟩
set_option maxRecDepth 20000 in
theorem kwX1_keep_0 {Γ : hCT} (C : hC Γ RX1 cX1_keep ((Option.none : Option Jvm.ClassFile.FieldType)) "keep" 1 40) {Q : St → Prop} (hΓ : Γ.2.2.2.2.2.2.2.2.2.2.2 = (2, 0, 0, oV Q)) (v0 : Nat) (v1 : Nat) (σ : St) (hb : wX1_keep_0 Q v0 v1 σ) : hW Γ 0 0 0 [(0, .ref v0), (1, .ref v1)] [] σ := by
  unfold wX1_keep_0 at hb
  refine g_aload_n (some v0) C dX1_keep_0 0 rfl ?_
  obtain ⟨q1, hb⟩ := hb
  obtain ⟨a2, q3, hb⟩ := hb
  refine g_getR (some a2) C fl_RX1_11 dX1_keep_1 q1 rfl rfl q3 ?_
  refine g_aload_n (some v0) C dX1_keep_4 0 rfl ?_
  refine g_getIx (zFi σ 65 v0) C fl_RX1_17 dX1_keep_5 q1 rfl rfl rfl ?_
  refine g_aload_n (some v1) C dX1_keep_8 1 rfl ?_
  obtain ⟨q4, hb⟩ := hb
  obtain ⟨q5, hb⟩ := hb
  obtain ⟨q6, hb⟩ := hb
  refine g_aast (some v1) el_24 C dX1_keep_9 q4 q5 (fun _ hv => by cases hv; exact q6) ?_
  refine g_aload_n (some v0) C dX1_keep_10 0 rfl ?_
  refine g_aload_n (some v0) C dX1_keep_11 0 rfl ?_
  refine g_getIx (zFi σ 65 v0) C fl_RX1_17 dX1_keep_12 (by rw [zK_uAr]; exact q1) rfl rfl (by rw [zFi_uAr]) ?_
  refine g_iconst (v := 1) C dX1_keep_15 (by decide) ?_
  refine g_iadd C dX1_keep_16 ?_
  refine g_bipush (v := 100) C dX1_keep_17 (by decide) ?_
  refine g_icmp_ge (tgt := 31) C dX1_keep_19 (by decide) (fun c => ?_) (fun c => ?_)
  ·
    replace hb := hb.1 (c)
    refine g_iconst (v := 0) C dX1_keep_31 (by decide) ?_
    refine g_sub (lv' := [(0, .ref v0)]) [0] rfl ?_
    exact kwX1_keep_32 C hΓ  _ _ _ _ hb
  ·
    replace hb := hb.2 (c)
    refine g_aload_n (some v0) C dX1_keep_22 0 rfl ?_
    refine g_getIx (zFi σ 65 v0) C fl_RX1_17 dX1_keep_23 (by rw [zK_uAr]; exact q1) rfl rfl (by rw [zFi_uAr]) ?_
    refine g_iconst (v := 1) C dX1_keep_26 (by decide) ?_
    refine g_iadd C dX1_keep_27 ?_
    refine g_goto (tgt := 32) C dX1_keep_28 (by decide) ?_
    refine g_sub (lv' := [(0, .ref v0)]) [0] rfl ?_
    exact kwX1_keep_32 C hΓ  _ _ _ _ hb
theorem okX1_keep {v0 : Nat} {v1 : Nat} {σ : St} {Q : St → Prop} (hb : wX1_keep v0 v1 σ Q) : hM yX1_keep cX1_keep 2 ((Option.none : Option Jvm.ClassFile.FieldType)) 1 40 0 0 [.ref v0, .ref v1] σ (oV Q) :=
  hM_of (by decide) (Nat.le_of_ble_eq_true rfl) (fun Γ hΓ C => kwX1_keep_0 C hΓ _ _ _ hb)
def wX11_accepted_0 (Q : St → Prop) (v0 : Nat) (v1 : Nat) (σ : St) : Prop :=
  zK σ v0 = 12 ∧ ∃ a2 : Nat, zFr σ 713 v0 = some a2 ∧ zK σ a2 = 2 ∧ wX1_keep a2 v1 (uFi σ 714 v0 0) (fun σ5 => Q σ5)
def wX11_accepted (v0 : Nat) (v1 : Nat) (σ : St) (Q : St → Prop) : Prop := wX11_accepted_0 Q v0 v1 σ
set_option maxRecDepth 20000 in
theorem kwX11_accepted_0 {Γ : hCT} (C : hC Γ RX11 cX11_accepted ((Option.none : Option Jvm.ClassFile.FieldType)) "accepted" 2 61) {Q : St → Prop} (hΓ : Γ.2.2.2.2.2.2.2.2.2.2.2 = (2, 0, 0, oV Q)) (v0 : Nat) (v1 : Nat) (σ : St) (hb : wX11_accepted_0 Q v0 v1 σ) : hW Γ 0 0 0 [(0, .ref v0), (1, .ref v1)] [] σ := by
  unfold wX11_accepted_0 at hb
  refine g_aload_n (some v0) C dX11_accepted_0 0 rfl ?_
  refine g_iconst (v := 0) C dX11_accepted_1 (by decide) ?_
  obtain ⟨q1, hb⟩ := hb
  refine g_putI C fl_RX11_101 dX11_accepted_2 q1 rfl rfl rfl rfl ?_
  refine g_aload_n (some v0) C dX11_accepted_5 0 rfl ?_
  obtain ⟨a2, q3, hb⟩ := hb
  refine g_getR (some a2) C fl_RX11_63 dX11_accepted_6 (by rw [zK_uFi]; exact q1) rfl rfl (by rw [zFr_uFi]; exact q3) ?_
  refine g_aload_n (some v1) C dX11_accepted_9 1 rfl ?_
  obtain ⟨q4, hb⟩ := hb
  refine g_invV (ci := 1) [.ref v1] [] zy_X1_keep wd_396 wd_397 wd_398 ⟨_, _, rfl⟩ (by decide) C dX11_accepted_10 (by first | exact Nat.le_of_ble_eq_true rfl | simp [cat_rf]) (by first | exact Nat.le_of_ble_eq_true rfl | simp [cat_rf]) (by first | exact Nat.le_of_ble_eq_true rfl | simp [cat_rf]) (Nat.zero_le _) (Nat.zero_le _) rfl rfl (by rw [zK_uFi]; exact q4) (okX1_keep hb) ?_
  rintro o σ5 ⟨rfl, hb⟩
  refine ⟨_, rfl, ?_⟩
  exact g_vreturn C hΓ (Nat.zero_le _) (Nat.zero_le _) dX11_accepted_13 ⟨rfl, hb⟩
theorem okX11_accepted {v0 : Nat} {v1 : Nat} {σ : St} {Q : St → Prop} (hb : wX11_accepted v0 v1 σ Q) : hM yX11_accepted cX11_accepted 2 ((Option.none : Option Jvm.ClassFile.FieldType)) 2 61 0 0 [.ref v0, .ref v1] σ (oV Q) :=
  hM_of (by decide) (Nat.le_of_ble_eq_true rfl) (fun Γ hΓ C => kwX11_accepted_0 C hΓ _ _ _ hb)
def wX6_newTable_0 (Q : Int32 → St → Prop) (v0 : Nat) (v1 : Int32) (σ : St) : Prop :=
  zK σ v0 = 7 ∧ ∃ a2 : Nat, zFr σ 384 v0 = some a2 ∧ zK σ a2 = 20 ∧ vp_in (zFi σ 385 v0) (zL σ a2) ∧ Q ((zFi (uFi (uAi σ a2 (ix (zFi σ 385 v0)) v1) 385 v0 ((zFi σ 385 v0) + 1)) 385 v0) - 1) (uFi (uAi σ a2 (ix (zFi σ 385 v0)) v1) 385 v0 ((zFi σ 385 v0) + 1))
def wX6_newTable (v0 : Nat) (v1 : Int32) (σ : St) (Q : Int32 → St → Prop) : Prop := wX6_newTable_0 Q v0 v1 σ
set_option maxRecDepth 20000 in
theorem kwX6_newTable_0 {Γ : hCT} (C : hC Γ RX6 cX6_newTable ((Option.some FieldType.int)) "newTable" 0 0) {Q : Int32 → St → Prop} (hΓ : Γ.2.2.2.2.2.2.2.2.2.2.2 = (2, 0, 0, oI Q)) (v0 : Nat) (v1 : Int32) (σ : St) (hb : wX6_newTable_0 Q v0 v1 σ) : hW Γ 0 0 0 [(0, .ref v0), (1, .int v1)] [] σ := by
  unfold wX6_newTable_0 at hb
  refine g_aload_n (some v0) C dX6_newTable_0 0 rfl ?_
  obtain ⟨q1, hb⟩ := hb
  obtain ⟨a2, q3, hb⟩ := hb
  refine g_getR (some a2) C fl_RX6_9 dX6_newTable_1 q1 rfl rfl q3 ?_
  refine g_aload_n (some v0) C dX6_newTable_4 0 rfl ?_
  refine g_getIx (zFi σ 385 v0) C fl_RX6_25 dX6_newTable_5 q1 rfl rfl rfl ?_
  refine g_iload_n C dX6_newTable_8 1 rfl ?_
  obtain ⟨q4, hb⟩ := hb
  obtain ⟨q5, hb⟩ := hb
  refine g_iast C dX6_newTable_9 q4 q5 ?_
  refine g_aload_n (some v0) C dX6_newTable_10 0 rfl ?_
  refine g_dup C dX6_newTable_11 rfl ?_
  refine g_getIx (zFi σ 385 v0) C fl_RX6_25 dX6_newTable_12 (by rw [zK_uAi]; exact q1) rfl rfl (by rw [zFi_uAi]) ?_
  refine g_iconst (v := 1) C dX6_newTable_15 (by decide) ?_
  refine g_iadd C dX6_newTable_16 ?_
  refine g_putI C fl_RX6_25 dX6_newTable_17 (by rw [zK_uAi]; exact q1) rfl rfl rfl rfl ?_
  refine g_aload_n (some v0) C dX6_newTable_20 0 rfl ?_
  refine g_getIx (zFi (uFi (uAi σ a2 (ix (zFi σ 385 v0)) v1) 385 v0 ((zFi σ 385 v0) + 1)) 385 v0) C fl_RX6_25 dX6_newTable_21 (by rw [zK_uFi, zK_uAi]; exact q1) rfl rfl rfl ?_
  refine g_iconst (v := 1) C dX6_newTable_24 (by decide) ?_
  refine g_isub C dX6_newTable_25 ?_
  exact g_ireturn C hΓ (Nat.zero_le _) (Nat.zero_le _) dX6_newTable_26 ⟨_, rfl, hb⟩
theorem okX6_newTable {v0 : Nat} {v1 : Int32} {σ : St} {Q : Int32 → St → Prop} (hb : wX6_newTable v0 v1 σ Q) : hM yX6_newTable cX6_newTable 2 ((Option.some FieldType.int)) 0 0 0 0 [.ref v0, .int v1] σ (oI Q) :=
  hM_of (by decide) (Nat.le_of_ble_eq_true rfl) (fun Γ hΓ C => kwX6_newTable_0 C hΓ _ _ _ hb)
def wX11_table_10 (mc ms : Nat) (Q : Int32 → St → Prop) (k n : Nat) (v0 : Nat) (σ : St) : Prop :=
  k ≤ mc ∧ n ≤ ms ∧ zK σ v0 = 12 ∧ wX11_refused v0 2 σ (fun y5 σ4 => k ≤ mc ∧ n ≤ ms ∧ Q y5 σ4)
def wX11_table_0 (mc ms : Nat) (Q : Int32 → St → Prop) (k n : Nat) (v0 : Nat) (v1 : Int32) (σ : St) : Prop :=
  ((v1 < (1 : Int32) → wX11_table_10 mc ms Q k n v0 σ) ∧ (¬ v1 < (1 : Int32) → ((v1 ≤ (4 : Int32) → zK σ v0 = 12 ∧ ∃ a2 : Nat, zFr σ 704 v0 = some a2 ∧ zK σ a2 = 7 ∧ (((zFi σ 385 a2) < (10 : Int32) → k + 1 ≤ mc ∧ n + 5 ≤ ms ∧ ∀ b7 : Nat, zK σ b7 = 0 → k + 1 ≤ mc ∧ n + 5 ≤ ms ∧ wX0_init b7 0 0 0 0 none (nO σ b7 1) (fun σ11 => k + 1 ≤ mc ∧ n + 5 ≤ ms ∧ zK σ11 v0 = 12 ∧ wX11_accepted v0 b7 σ11 (fun σ15 => zK σ15 v0 = 12 ∧ ∃ a17 : Nat, zFr σ15 704 v0 = some a17 ∧ k + 1 ≤ mc ∧ n + 5 ≤ ms ∧ zK σ15 a17 = 7 ∧ wX6_newTable a17 v1 σ15 (fun y23 σ22 => k + 1 ≤ mc ∧ n + 5 ≤ ms ∧ Q y23 σ22)))) ∧ (¬ (zFi σ 385 a2) < (10 : Int32) → k ≤ mc ∧ n ≤ ms ∧ wX11_refused v0 4 σ (fun y29 σ28 => k ≤ mc ∧ n ≤ ms ∧ Q y29 σ28)))) ∧ (¬ v1 ≤ (4 : Int32) → wX11_table_10 mc ms Q k n v0 σ))))
def wX11_table (mc ms : Nat) (v0 : Nat) (v1 : Int32) (σ : St) (Q : Int32 → St → Prop) : Prop := wX11_table_0 mc ms Q 0 0 v0 v1 σ
set_option maxRecDepth 20000 in
theorem kwX11_table_10 {Γ : hCT} {mc ms : Nat} (C : hC Γ RX11 cX11_table ((Option.some FieldType.int)) "table" 3 82) {Q : Int32 → St → Prop} (hΓ : Γ.2.2.2.2.2.2.2.2.2.2.2 = (2, mc, ms, oI Q)) (k n : Nat) (v0 : Nat) (σ : St) (hb : wX11_table_10 mc ms Q k n v0 σ) : hW Γ k n 10 [(0, .ref v0)] [] σ := by
  unfold wX11_table_10 at hb
  refine g_aload_n (some v0) C dX11_table_10 0 rfl ?_
  refine g_iconst (v := 2) C dX11_table_11 (by decide) ?_
  obtain ⟨q1, q2, hb⟩ := hb
  obtain ⟨q3, hb⟩ := hb
  refine g_invV (ci := 11) [.int 2] [] zy_X11_refused wd_361 wd_363 wd_0 ⟨_, _, rfl⟩ (by decide) C dX11_table_12 (by first | exact Nat.le_of_ble_eq_true rfl | simp [cat_rf]) (by first | exact Nat.le_of_ble_eq_true rfl | simp [cat_rf]) (by first | exact Nat.le_of_ble_eq_true rfl | simp [cat_rf]) (by rw [hmc_of hΓ]; exact q1) (by rw [hms_of hΓ]; exact q2) rfl rfl q3 (okX11_refused hb) ?_
  rintro o σ4 ⟨y5, rfl, hb⟩
  refine ⟨_, rfl, ?_⟩
  obtain ⟨q6, q7, hb⟩ := hb
  exact g_ireturn C hΓ q6 q7 dX11_table_15 ⟨_, rfl, hb⟩
set_option maxRecDepth 20000 in
theorem kwX11_table_0 {Γ : hCT} {mc ms : Nat} (C : hC Γ RX11 cX11_table ((Option.some FieldType.int)) "table" 3 82) {Q : Int32 → St → Prop} (hΓ : Γ.2.2.2.2.2.2.2.2.2.2.2 = (2, mc, ms, oI Q)) (k n : Nat) (v0 : Nat) (v1 : Int32) (σ : St) (hb : wX11_table_0 mc ms Q k n v0 v1 σ) : hW Γ k n 0 [(0, .ref v0), (1, .int v1)] [] σ := by
  unfold wX11_table_0 at hb
  refine g_iload_n C dX11_table_0 1 rfl ?_
  refine g_iconst (v := 1) C dX11_table_1 (by decide) ?_
  refine g_icmp_lt (tgt := 10) C dX11_table_2 (by decide) (fun c => ?_) (fun c => ?_)
  ·
    replace hb := hb.1 (c)
    refine g_sub (lv' := [(0, .ref v0)]) [0] rfl ?_
    exact kwX11_table_10 C hΓ  _ _ _ _ hb
  ·
    replace hb := hb.2 (c)
    refine g_iload_n C dX11_table_5 1 rfl ?_
    refine g_iconst (v := 4) C dX11_table_6 (by decide) ?_
    refine g_icmp_le (tgt := 16) C dX11_table_7 (by decide) (fun c => ?_) (fun c => ?_)
    ·
      replace hb := hb.1 (c)
      refine g_aload_n (some v0) C dX11_table_16 0 rfl ?_
      obtain ⟨q1, hb⟩ := hb
      obtain ⟨a2, q3, hb⟩ := hb
      refine g_getR (some a2) C fl_RX11_12 dX11_table_17 q1 rfl rfl q3 ?_
      obtain ⟨q4, hb⟩ := hb
      refine g_getIx (zFi σ 385 a2) C fl_RX11_71 dX11_table_20 q4 rfl rfl rfl ?_
      refine g_bipush (v := 10) C dX11_table_23 (by decide) ?_
      refine g_icmp_lt (tgt := 34) C dX11_table_25 (by decide) (fun c => ?_) (fun c => ?_)
      ·
        replace hb := hb.1 (c)
        refine g_aload_n (some v0) C dX11_table_34 0 rfl ?_
        obtain ⟨q5, q6, hb⟩ := hb
        refine g_new zc_0 zd_0 ⟨_, rfl⟩ wd_365 wd_366 wd_86 C dX11_table_35 (by rw [hmc_of hΓ]; exact q5) (by rw [hms_of hΓ]; exact q6) (fun b7 q8 => ?_)
        replace hb := hb b7 q8
        refine g_dup C dX11_table_38 rfl ?_
        refine g_iconst (v := 0) C dX11_table_39 (by decide) ?_
        refine g_iconst (v := 0) C dX11_table_40 (by decide) ?_
        refine g_iconst (v := 0) C dX11_table_41 (by decide) ?_
        refine g_lconst (v := 0) C dX11_table_42 (by decide) ?_
        refine g_null C dX11_table_43 ?_
        obtain ⟨q9, q10, hb⟩ := hb
        refine g_invI [.int 0, .int 0, .int 0, .long 0, va_rf none] [.ref b7, .ref v0] zy_X0_init wd_367 wd_368 rfl C dX11_table_44 (by first | exact Nat.le_of_ble_eq_true rfl | simp [cat_rf]) (by first | exact Nat.le_of_ble_eq_true rfl | simp [cat_rf]) (by first | exact Nat.le_of_ble_eq_true rfl | simp [cat_rf]) (by rw [hmc_of hΓ]; exact q9) (by rw [hms_of hΓ]; exact q10) rfl rfl  (okX0_init hb) ?_
        rintro o σ11 ⟨rfl, hb⟩
        refine ⟨_, rfl, ?_⟩
        obtain ⟨q12, q13, hb⟩ := hb
        obtain ⟨q14, hb⟩ := hb
        refine g_invV (ci := 11) [.ref b7] [] zy_X11_accepted wd_392 wd_394 wd_1 ⟨_, _, rfl⟩ (by decide) C dX11_table_47 (by first | exact Nat.le_of_ble_eq_true rfl | simp [cat_rf]) (by first | exact Nat.le_of_ble_eq_true rfl | simp [cat_rf]) (by first | exact Nat.le_of_ble_eq_true rfl | simp [cat_rf]) (by rw [hmc_of hΓ]; exact q12) (by rw [hms_of hΓ]; exact q13) rfl rfl q14 (okX11_accepted hb) ?_
        rintro o σ15 ⟨rfl, hb⟩
        refine ⟨_, rfl, ?_⟩
        refine g_aload_n (some v0) C dX11_table_50 0 rfl ?_
        obtain ⟨q16, hb⟩ := hb
        obtain ⟨a17, q18, hb⟩ := hb
        refine g_getR (some a17) C fl_RX11_12 dX11_table_51 q16 rfl rfl q18 ?_
        refine g_iload_n C dX11_table_54 1 rfl ?_
        obtain ⟨q19, q20, hb⟩ := hb
        obtain ⟨q21, hb⟩ := hb
        refine g_invV (ci := 6) [.int v1] [] zy_X6_newTable wd_403 wd_404 wd_405 ⟨_, _, rfl⟩ (by decide) C dX11_table_55 (by first | exact Nat.le_of_ble_eq_true rfl | simp [cat_rf]) (by first | exact Nat.le_of_ble_eq_true rfl | simp [cat_rf]) (by first | exact Nat.le_of_ble_eq_true rfl | simp [cat_rf]) (by rw [hmc_of hΓ]; exact q19) (by rw [hms_of hΓ]; exact q20) rfl rfl q21 (okX6_newTable hb) ?_
        rintro o σ22 ⟨y23, rfl, hb⟩
        refine ⟨_, rfl, ?_⟩
        obtain ⟨q24, q25, hb⟩ := hb
        exact g_ireturn C hΓ q24 q25 dX11_table_58 ⟨_, rfl, hb⟩
      ·
        replace hb := hb.2 (c)
        refine g_aload_n (some v0) C dX11_table_28 0 rfl ?_
        refine g_iconst (v := 4) C dX11_table_29 (by decide) ?_
        obtain ⟨q26, q27, hb⟩ := hb
        refine g_invV (ci := 11) [.int 4] [] zy_X11_refused wd_361 wd_363 wd_0 ⟨_, _, rfl⟩ (by decide) C dX11_table_30 (by first | exact Nat.le_of_ble_eq_true rfl | simp [cat_rf]) (by first | exact Nat.le_of_ble_eq_true rfl | simp [cat_rf]) (by first | exact Nat.le_of_ble_eq_true rfl | simp [cat_rf]) (by rw [hmc_of hΓ]; exact q26) (by rw [hms_of hΓ]; exact q27) rfl rfl q1 (okX11_refused hb) ?_
        rintro o σ28 ⟨y29, rfl, hb⟩
        refine ⟨_, rfl, ?_⟩
        obtain ⟨q30, q31, hb⟩ := hb
        exact g_ireturn C hΓ q30 q31 dX11_table_33 ⟨_, rfl, hb⟩
    ·
      replace hb := hb.2 (c)
      refine g_sub (lv' := [(0, .ref v0)]) [0] rfl ?_
      exact kwX11_table_10 C hΓ  _ _ _ _ hb
theorem okX11_table {mc ms : Nat} {v0 : Nat} {v1 : Int32} {σ : St} {Q : Int32 → St → Prop} (hb : wX11_table mc ms v0 v1 σ Q) : hM yX11_table cX11_table 2 ((Option.some FieldType.int)) 3 82 mc ms [.ref v0, .int v1] σ (oI Q) :=
  hM_of (by decide) (Nat.le_of_ble_eq_true rfl) (fun Γ hΓ C => kwX11_table_0 (mc := mc) (ms := ms) C hΓ 0 0 _ _ _ hb)
def wX6_isTable_0 (Q : Int32 → St → Prop) (v0 : Nat) (v1 : Int32) (σ : St) : Prop :=
  ((v1 < 0 → Q 0 σ) ∧ (¬ v1 < 0 → zK σ v0 = 7 ∧ (((zFi σ 385 v0) ≤ v1 → Q 0 σ) ∧ (¬ (zFi σ 385 v0) ≤ v1 → Q 1 σ))))
def wX6_isTable (v0 : Nat) (v1 : Int32) (σ : St) (Q : Int32 → St → Prop) : Prop := wX6_isTable_0 Q v0 v1 σ
set_option maxRecDepth 20000 in
theorem kwX6_isTable_0 {Γ : hCT} (C : hC Γ RX6 cX6_isTable ((Option.some FieldType.boolean)) "isTable" 0 0) {Q : Int32 → St → Prop} (hΓ : Γ.2.2.2.2.2.2.2.2.2.2.2 = (2, 0, 0, oI Q)) (v0 : Nat) (v1 : Int32) (σ : St) (hb : wX6_isTable_0 Q v0 v1 σ) : hW Γ 0 0 0 [(0, .ref v0), (1, .int v1)] [] σ := by
  unfold wX6_isTable_0 at hb
  refine g_iload_n C dX6_isTable_0 1 rfl ?_
  refine g_if_lt (tgt := 16) C dX6_isTable_1 (by decide) (fun c => ?_) (fun c => ?_)
  ·
    replace hb := hb.1 (c)
    refine g_iconst (v := 0) C dX6_isTable_16 (by decide) ?_
    exact g_zreturn C (by decide) hΓ (Nat.zero_le _) (Nat.zero_le _) dX6_isTable_17 ⟨_, rfl, hb⟩
  ·
    replace hb := hb.2 (c)
    refine g_iload_n C dX6_isTable_4 1 rfl ?_
    refine g_aload_n (some v0) C dX6_isTable_5 0 rfl ?_
    obtain ⟨q1, hb⟩ := hb
    refine g_getIx (zFi σ 385 v0) C fl_RX6_25 dX6_isTable_6 q1 rfl rfl rfl ?_
    refine g_icmp_ge (tgt := 16) C dX6_isTable_9 (by decide) (fun c => ?_) (fun c => ?_)
    ·
      replace hb := hb.1 (c)
      refine g_iconst (v := 0) C dX6_isTable_16 (by decide) ?_
      exact g_zreturn C (by decide) hΓ (Nat.zero_le _) (Nat.zero_le _) dX6_isTable_17 ⟨_, rfl, hb⟩
    ·
      replace hb := hb.2 (c)
      refine g_iconst (v := 1) C dX6_isTable_12 (by decide) ?_
      refine g_goto (tgt := 17) C dX6_isTable_13 (by decide) ?_
      exact g_zreturn C (by decide) hΓ (Nat.zero_le _) (Nat.zero_le _) dX6_isTable_17 ⟨_, rfl, hb⟩
theorem okX6_isTable {v0 : Nat} {v1 : Int32} {σ : St} {Q : Int32 → St → Prop} (hb : wX6_isTable v0 v1 σ Q) : hM yX6_isTable cX6_isTable 2 ((Option.some FieldType.boolean)) 0 0 0 0 [.ref v0, .int v1] σ (oI Q) :=
  hM_of (by decide) (Nat.le_of_ble_eq_true rfl) (fun Γ hΓ C => kwX6_isTable_0 C hΓ _ _ _ hb)
def wX6_markDropped_0 (Q : St → Prop) (v0 : Nat) (v1 : Int32) (v2 : Int32) (σ : St) : Prop :=
  ((v2 = 0 → zK σ v0 = 7 ∧ Q (uFj σ 389 v0 ((zFj σ 389 v0) &&& (((1 : Int64) <<< (Int32.toInt64 v1 &&& 63)) ^^^ (-1))))) ∧ (¬ v2 = 0 → zK σ v0 = 7 ∧ Q (uFj σ 389 v0 ((zFj σ 389 v0) ||| ((1 : Int64) <<< (Int32.toInt64 v1 &&& 63))))))
def wX6_markDropped (v0 : Nat) (v1 : Int32) (v2 : Int32) (σ : St) (Q : St → Prop) : Prop := wX6_markDropped_0 Q v0 v1 v2 σ
set_option maxRecDepth 20000 in
theorem kwX6_markDropped_0 {Γ : hCT} (C : hC Γ RX6 cX6_markDropped ((Option.none : Option Jvm.ClassFile.FieldType)) "markDropped" 0 0) {Q : St → Prop} (hΓ : Γ.2.2.2.2.2.2.2.2.2.2.2 = (3, 0, 0, oV Q)) (v0 : Nat) (v1 : Int32) (v2 : Int32) (σ : St) (hb : wX6_markDropped_0 Q v0 v1 v2 σ) : hW Γ 0 0 0 [(0, .ref v0), (1, .int v1), (2, .int v2)] [] σ := by
  unfold wX6_markDropped_0 at hb
  refine g_iload_n C dX6_markDropped_0 2 rfl ?_
  refine g_if_eq (tgt := 19) C dX6_markDropped_1 (by decide) (fun c => ?_) (fun c => ?_)
  ·
    replace hb := hb.1 (c)
    refine g_aload_n (some v0) C dX6_markDropped_19 0 rfl ?_
    refine g_dup C dX6_markDropped_20 rfl ?_
    obtain ⟨q1, hb⟩ := hb
    refine g_getJx (zFj σ 389 v0) C fl_RX6_45 dX6_markDropped_21 q1 rfl rfl rfl ?_
    refine g_lconst (v := 1) C dX6_markDropped_24 (by decide) ?_
    refine g_iload_n C dX6_markDropped_25 1 rfl ?_
    refine g_lshl C dX6_markDropped_26 ?_
    refine g_ldc2 C wd_428 dX6_markDropped_27 ?_
    refine g_lxor C dX6_markDropped_30 ?_
    refine g_land C dX6_markDropped_31 ?_
    refine g_putJ C fl_RX6_45 dX6_markDropped_32 q1 rfl rfl rfl rfl ?_
    exact g_vreturn C hΓ (Nat.zero_le _) (Nat.zero_le _) dX6_markDropped_35 ⟨rfl, hb⟩
  ·
    replace hb := hb.2 (c)
    refine g_aload_n (some v0) C dX6_markDropped_4 0 rfl ?_
    refine g_dup C dX6_markDropped_5 rfl ?_
    obtain ⟨q2, hb⟩ := hb
    refine g_getJx (zFj σ 389 v0) C fl_RX6_45 dX6_markDropped_6 q2 rfl rfl rfl ?_
    refine g_lconst (v := 1) C dX6_markDropped_9 (by decide) ?_
    refine g_iload_n C dX6_markDropped_10 1 rfl ?_
    refine g_lshl C dX6_markDropped_11 ?_
    refine g_lor C dX6_markDropped_12 ?_
    refine g_putJ C fl_RX6_45 dX6_markDropped_13 q2 rfl rfl rfl rfl ?_
    refine g_goto (tgt := 35) C dX6_markDropped_16 (by decide) ?_
    exact g_vreturn C hΓ (Nat.zero_le _) (Nat.zero_le _) dX6_markDropped_35 ⟨rfl, hb⟩
theorem okX6_markDropped {v0 : Nat} {v1 : Int32} {v2 : Int32} {σ : St} {Q : St → Prop} (hb : wX6_markDropped v0 v1 v2 σ Q) : hM yX6_markDropped cX6_markDropped 3 ((Option.none : Option Jvm.ClassFile.FieldType)) 0 0 0 0 [.ref v0, .int v1, .int v2] σ (oV Q) :=
  hM_of (by decide) (Nat.le_of_ble_eq_true rfl) (fun Γ hΓ C => kwX6_markDropped_0 C hΓ _ _ _ _ hb)
def wX6_newFact_0 (Q : Int32 → St → Prop) (v0 : Nat) (v1 : Int32) (v2 : Int32) (v3 : Int32) (v4 : Int32) (v5 : Int32) (σ : St) : Prop :=
  zK σ v0 = 7 ∧ ∃ a2 : Nat, zFr σ 386 v0 = some a2 ∧ zK σ a2 = 20 ∧ vp_in (zFi σ 390 v0) (zL σ a2) ∧ ∃ a6 : Nat, zFr σ 387 v0 = some a6 ∧ zK σ a6 = 20 ∧ vp_in ((zFi σ 390 v0) * 4) (zL σ a6) ∧ vp_in (((zFi σ 390 v0) * 4) + 1) (zL σ a6) ∧ vp_in (((zFi σ 390 v0) * 4) + 2) (zL σ a6) ∧ vp_in (((zFi σ 390 v0) * 4) + 3) (zL σ a6) ∧ ∃ a13 : Nat, zFr σ 388 v0 = some a13 ∧ zK σ a13 = 21 ∧ ¬ (0 : Int32) < 0 ∧ ¬ ((zFi σ 390 v0) * 4) < 0 ∧ ¬ (4 : Int32) < 0 ∧ ix 0 + ix 4 ≤ 4 ∧ ix ((zFi σ 390 v0) * 4) + ix 4 ≤ zL σ a13 ∧ wX6_markDropped v0 (zFi σ 390 v0) 0 (uCx (uAi (uAi (uAi (uAi (uAi (uFi σ 390 v0 ((zFi σ 390 v0) + 1)) a2 (ix (zFi σ 390 v0)) v1) a6 (ix ((zFi σ 390 v0) * 4)) v2) a6 (ix (((zFi σ 390 v0) * 4) + 1)) v3) a6 (ix (((zFi σ 390 v0) * 4) + 2)) v4) a6 (ix (((zFi σ 390 v0) * 4) + 3)) v5) fwL (ix 0) a13 (ix ((zFi σ 390 v0) * 4)) (ix 4)) (fun σ21 => Q (zFi σ 390 v0) σ21)
def wX6_newFact (v0 : Nat) (v1 : Int32) (v2 : Int32) (v3 : Int32) (v4 : Int32) (v5 : Int32) (σ : St) (Q : Int32 → St → Prop) : Prop := wX6_newFact_0 Q v0 v1 v2 v3 v4 v5 σ
set_option maxRecDepth 20000 in
theorem kwX6_newFact_0 {Γ : hCT} (C : hC Γ RX6 cX6_newFact ((Option.some FieldType.int)) "newFact" 1 60) {Q : Int32 → St → Prop} (hΓ : Γ.2.2.2.2.2.2.2.2.2.2.2 = (8, 0, 0, oI Q)) (v0 : Nat) (v1 : Int32) (v2 : Int32) (v3 : Int32) (v4 : Int32) (v5 : Int32) (σ : St) (hb : wX6_newFact_0 Q v0 v1 v2 v3 v4 v5 σ) : hW Γ 0 0 0 [(0, .ref v0), (1, .int v1), (2, .int v2), (3, .int v3), (4, .int v4), (5, .int v5)] [] σ := by
  unfold wX6_newFact_0 at hb
  refine g_aload_n (some v0) C dX6_newFact_0 0 rfl ?_
  obtain ⟨q1, hb⟩ := hb
  refine g_getIx (zFi σ 390 v0) C fl_RX6_29 dX6_newFact_1 q1 rfl rfl rfl ?_
  refine g_istore (lv' := [(6, .int (zFi σ 390 v0)), (0, .ref v0), (1, .int v1), (2, .int v2), (3, .int v3), (4, .int v4), (5, .int v5)]) C dX6_newFact_4 (hnl_of hΓ (by decide)) (by first | rfl | simp [cat_rf]) ?_
  refine g_aload_n (some v0) C dX6_newFact_6 1 rfl ?_
  refine g_dup C dX6_newFact_7 rfl ?_
  refine g_getIx (zFi σ 390 v0) C fl_RX6_29 dX6_newFact_8 q1 rfl rfl rfl ?_
  refine g_iconst (v := 1) C dX6_newFact_11 (by decide) ?_
  refine g_iadd C dX6_newFact_12 ?_
  refine g_putI C fl_RX6_29 dX6_newFact_13 q1 rfl rfl rfl rfl ?_
  refine g_aload_n (some v0) C dX6_newFact_16 1 rfl ?_
  obtain ⟨a2, q3, hb⟩ := hb
  refine g_getR (some a2) C fl_RX6_15 dX6_newFact_17 (by rw [zK_uFi]; exact q1) rfl rfl (by rw [zFr_uFi]; exact q3) ?_
  refine g_iload C dX6_newFact_20 0 rfl ?_
  refine g_iload_n C dX6_newFact_22 2 rfl ?_
  obtain ⟨q4, hb⟩ := hb
  obtain ⟨q5, hb⟩ := hb
  refine g_iast C dX6_newFact_23 (by rw [zK_uFi]; exact q4) (by rw [zL_uFi]; exact q5) ?_
  refine g_iload C dX6_newFact_24 0 rfl ?_
  refine g_iconst (v := 4) C dX6_newFact_26 (by decide) ?_
  refine g_imul C dX6_newFact_27 ?_
  refine g_istore (lv' := [(7, .int ((zFi σ 390 v0) * 4)), (6, .int (zFi σ 390 v0)), (0, .ref v0), (1, .int v1), (2, .int v2), (3, .int v3), (4, .int v4), (5, .int v5)]) C dX6_newFact_28 (hnl_of hΓ (by decide)) (by first | rfl | simp [cat_rf]) ?_
  refine g_aload_n (some v0) C dX6_newFact_30 2 rfl ?_
  obtain ⟨a6, q7, hb⟩ := hb
  refine g_getR (some a6) C fl_RX6_18 dX6_newFact_31 (by rw [zK_uAi, zK_uFi]; exact q1) rfl rfl (by rw [zFr_uAi, zFr_uFi]; exact q7) ?_
  refine g_iload C dX6_newFact_34 0 rfl ?_
  refine g_iload_n C dX6_newFact_36 4 rfl ?_
  obtain ⟨q8, hb⟩ := hb
  obtain ⟨q9, hb⟩ := hb
  refine g_iast C dX6_newFact_37 (by rw [zK_uAi, zK_uFi]; exact q8) (by rw [zL_uAi, zL_uFi]; exact q9) ?_
  refine g_aload_n (some v0) C dX6_newFact_38 2 rfl ?_
  refine g_getR (some a6) C fl_RX6_18 dX6_newFact_39 (by rw [zK_uAi, zK_uAi, zK_uFi]; exact q1) rfl rfl (by rw [zFr_uAi, zFr_uAi, zFr_uFi]; exact q7) ?_
  refine g_iload C dX6_newFact_42 0 rfl ?_
  refine g_iconst (v := 1) C dX6_newFact_44 (by decide) ?_
  refine g_iadd C dX6_newFact_45 ?_
  refine g_iload_n C dX6_newFact_46 5 rfl ?_
  obtain ⟨q10, hb⟩ := hb
  refine g_iast C dX6_newFact_47 (by rw [zK_uAi, zK_uAi, zK_uFi]; exact q8) (by rw [zL_uAi, zL_uAi, zL_uFi]; exact q10) ?_
  refine g_aload_n (some v0) C dX6_newFact_48 2 rfl ?_
  refine g_getR (some a6) C fl_RX6_18 dX6_newFact_49 (by rw [zK_uAi, zK_uAi, zK_uAi, zK_uFi]; exact q1) rfl rfl (by rw [zFr_uAi, zFr_uAi, zFr_uAi, zFr_uFi]; exact q7) ?_
  refine g_iload C dX6_newFact_52 0 rfl ?_
  refine g_iconst (v := 2) C dX6_newFact_54 (by decide) ?_
  refine g_iadd C dX6_newFact_55 ?_
  refine g_iload C dX6_newFact_56 6 rfl ?_
  obtain ⟨q11, hb⟩ := hb
  refine g_iast C dX6_newFact_58 (by rw [zK_uAi, zK_uAi, zK_uAi, zK_uFi]; exact q8) (by rw [zL_uAi, zL_uAi, zL_uAi, zL_uFi]; exact q11) ?_
  refine g_aload_n (some v0) C dX6_newFact_59 2 rfl ?_
  refine g_getR (some a6) C fl_RX6_18 dX6_newFact_60 (by rw [zK_uAi, zK_uAi, zK_uAi, zK_uAi, zK_uFi]; exact q1) rfl rfl (by rw [zFr_uAi, zFr_uAi, zFr_uAi, zFr_uAi, zFr_uFi]; exact q7) ?_
  refine g_iload C dX6_newFact_63 0 rfl ?_
  refine g_iconst (v := 3) C dX6_newFact_65 (by decide) ?_
  refine g_iadd C dX6_newFact_66 ?_
  refine g_iload C dX6_newFact_67 7 rfl ?_
  obtain ⟨q12, hb⟩ := hb
  refine g_iast C dX6_newFact_69 (by rw [zK_uAi, zK_uAi, zK_uAi, zK_uAi, zK_uFi]; exact q8) (by rw [zL_uAi, zL_uAi, zL_uAi, zL_uAi, zL_uFi]; exact q12) ?_
  refine g_getsFN C wn_419 dX6_newFact_70 ?_
  refine g_iconst (v := 0) C dX6_newFact_73 (by decide) ?_
  refine g_aload_n (some v0) C dX6_newFact_74 2 rfl ?_
  obtain ⟨a13, q14, hb⟩ := hb
  refine g_getR (some a13) C fl_RX6_21 dX6_newFact_75 (by rw [zK_uAi, zK_uAi, zK_uAi, zK_uAi, zK_uAi, zK_uFi]; exact q1) rfl rfl (by rw [zFr_uAi, zFr_uAi, zFr_uAi, zFr_uAi, zFr_uAi, zFr_uFi]; exact q14) ?_
  refine g_iload C dX6_newFact_78 1 rfl ?_
  refine g_iconst (v := 4) C dX6_newFact_80 (by decide) ?_
  refine g_imul C dX6_newFact_81 ?_
  refine g_iconst (v := 4) C dX6_newFact_82 (by decide) ?_
  obtain ⟨q15, hb⟩ := hb
  obtain ⟨q16, hb⟩ := hb
  obtain ⟨q17, hb⟩ := hb
  obtain ⟨q18, hb⟩ := hb
  obtain ⟨q19, hb⟩ := hb
  obtain ⟨q20, hb⟩ := hb
  refine g_xcopy wd_421 wd_423 wd_422 wd_88 C (by first | exact Nat.le_of_ble_eq_true rfl | simp [cat_rf]) (by first | exact Nat.le_of_ble_eq_true rfl | simp [cat_rf]) dX6_newFact_83 (by rw [zK_uAi, zK_uAi, zK_uAi, zK_uAi, zK_uAi, zK_uFi]; exact q15) q16 q17 q18 q19 (by rw [zL_uAi, zL_uAi, zL_uAi, zL_uAi, zL_uAi, zL_uFi]; exact q20) ?_
  refine g_aload_n (some v0) C dX6_newFact_86 2 rfl ?_
  refine g_iload C dX6_newFact_87 1 rfl ?_
  refine g_iconst (v := 0) C dX6_newFact_89 (by decide) ?_
  refine g_invV (ci := 6) [.int (zFi σ 390 v0), .int 0] [] zy_X6_markDropped wd_424 wd_425 wd_426 ⟨_, _, rfl⟩ (by decide) C dX6_newFact_90 (by first | exact Nat.le_of_ble_eq_true rfl | simp [cat_rf]) (by first | exact Nat.le_of_ble_eq_true rfl | simp [cat_rf]) (by first | exact Nat.le_of_ble_eq_true rfl | simp [cat_rf]) (Nat.zero_le _) (Nat.zero_le _) rfl rfl (by rw [zK_uCx, zK_uAi, zK_uAi, zK_uAi, zK_uAi, zK_uAi, zK_uFi]; exact q1) (okX6_markDropped hb) ?_
  rintro o σ21 ⟨rfl, hb⟩
  refine ⟨_, rfl, ?_⟩
  refine g_iload C dX6_newFact_93 1 rfl ?_
  exact g_ireturn C hΓ (Nat.zero_le _) (Nat.zero_le _) dX6_newFact_95 ⟨_, rfl, hb⟩
theorem okX6_newFact {v0 : Nat} {v1 : Int32} {v2 : Int32} {v3 : Int32} {v4 : Int32} {v5 : Int32} {σ : St} {Q : Int32 → St → Prop} (hb : wX6_newFact v0 v1 v2 v3 v4 v5 σ Q) : hM yX6_newFact cX6_newFact 8 ((Option.some FieldType.int)) 1 60 0 0 [.ref v0, .int v1, .int v2, .int v3, .int v4, .int v5] σ (oI Q) :=
  hM_of (by decide) (Nat.le_of_ble_eq_true rfl) (fun Γ hΓ C => kwX6_newFact_0 C hΓ _ _ _ _ _ _ _ hb)
def wX11_fact_0 (mc ms : Nat) (Q : Int32 → St → Prop) (k n : Nat) (v0 : Nat) (v1 : Int32) (v2 : Int32) (v3 : Int32) (v4 : Int32) (v5 : Int32) (σ : St) : Prop :=
  zK σ v0 = 12 ∧ ∃ a2 : Nat, zFr σ 704 v0 = some a2 ∧ k ≤ mc ∧ n ≤ ms ∧ zK σ a2 = 7 ∧ wX6_isTable a2 v1 σ (fun y8 σ7 => ((¬ y8 = 0 → zK σ7 v0 = 12 ∧ ∃ a10 : Nat, zFr σ7 704 v0 = some a10 ∧ zK σ7 a10 = 7 ∧ (((zFi σ7 390 a10) < (60 : Int32) → k + 1 ≤ mc ∧ n + 5 ≤ ms ∧ ∀ b15 : Nat, zK σ7 b15 = 0 → k + 1 ≤ mc ∧ n + 5 ≤ ms ∧ wX0_init b15 1 0 0 0 none (nO σ7 b15 1) (fun σ19 => k + 1 ≤ mc ∧ n + 5 ≤ ms ∧ zK σ19 v0 = 12 ∧ wX11_accepted v0 b15 σ19 (fun σ23 => zK σ23 v0 = 12 ∧ ∃ a25 : Nat, zFr σ23 704 v0 = some a25 ∧ k + 1 ≤ mc ∧ n + 5 ≤ ms ∧ zK σ23 a25 = 7 ∧ wX6_newFact a25 v1 v2 v3 v4 v5 σ23 (fun y31 σ30 => k + 1 ≤ mc ∧ n + 5 ≤ ms ∧ Q y31 σ30)))) ∧ (¬ (zFi σ7 390 a10) < (60 : Int32) → k ≤ mc ∧ n ≤ ms ∧ wX11_refused v0 4 σ7 (fun y37 σ36 => k ≤ mc ∧ n ≤ ms ∧ Q y37 σ36)))) ∧ (y8 = 0 → k ≤ mc ∧ n ≤ ms ∧ zK σ7 v0 = 12 ∧ wX11_refused v0 1 σ7 (fun y44 σ43 => k ≤ mc ∧ n ≤ ms ∧ Q y44 σ43))))
def wX11_fact (mc ms : Nat) (v0 : Nat) (v1 : Int32) (v2 : Int32) (v3 : Int32) (v4 : Int32) (v5 : Int32) (σ : St) (Q : Int32 → St → Prop) : Prop := wX11_fact_0 mc ms Q 0 0 v0 v1 v2 v3 v4 v5 σ
set_option maxRecDepth 20000 in
theorem kwX11_fact_0 {Γ : hCT} {mc ms : Nat} (C : hC Γ RX11 cX11_fact ((Option.some FieldType.int)) "fact" 3 87) {Q : Int32 → St → Prop} (hΓ : Γ.2.2.2.2.2.2.2.2.2.2.2 = (6, mc, ms, oI Q)) (k n : Nat) (v0 : Nat) (v1 : Int32) (v2 : Int32) (v3 : Int32) (v4 : Int32) (v5 : Int32) (σ : St) (hb : wX11_fact_0 mc ms Q k n v0 v1 v2 v3 v4 v5 σ) : hW Γ k n 0 [(0, .ref v0), (1, .int v1), (2, .int v2), (3, .int v3), (4, .int v4), (5, .int v5)] [] σ := by
  unfold wX11_fact_0 at hb
  refine g_aload_n (some v0) C dX11_fact_0 0 rfl ?_
  obtain ⟨q1, hb⟩ := hb
  obtain ⟨a2, q3, hb⟩ := hb
  refine g_getR (some a2) C fl_RX11_12 dX11_fact_1 q1 rfl rfl q3 ?_
  refine g_iload_n C dX11_fact_4 1 rfl ?_
  obtain ⟨q4, q5, hb⟩ := hb
  obtain ⟨q6, hb⟩ := hb
  refine g_invV (ci := 6) [.int v1] [] zy_X6_isTable wd_411 wd_412 wd_413 ⟨_, _, rfl⟩ (by decide) C dX11_fact_5 (by first | exact Nat.le_of_ble_eq_true rfl | simp [cat_rf]) (by first | exact Nat.le_of_ble_eq_true rfl | simp [cat_rf]) (by first | exact Nat.le_of_ble_eq_true rfl | simp [cat_rf]) (by rw [hmc_of hΓ]; exact q4) (by rw [hms_of hΓ]; exact q5) rfl rfl q6 (okX6_isTable hb) ?_
  rintro o σ7 ⟨y8, rfl, hb⟩
  refine ⟨_, rfl, ?_⟩
  refine g_if_ne (tgt := 17) C dX11_fact_8 (by decide) (fun c => ?_) (fun c => ?_)
  ·
    replace hb := hb.1 (c)
    refine g_aload_n (some v0) C dX11_fact_17 0 rfl ?_
    obtain ⟨q9, hb⟩ := hb
    obtain ⟨a10, q11, hb⟩ := hb
    refine g_getR (some a10) C fl_RX11_12 dX11_fact_18 q9 rfl rfl q11 ?_
    obtain ⟨q12, hb⟩ := hb
    refine g_getIx (zFi σ7 390 a10) C fl_RX11_91 dX11_fact_21 q12 rfl rfl rfl ?_
    refine g_bipush (v := 60) C dX11_fact_24 (by decide) ?_
    refine g_icmp_lt (tgt := 35) C dX11_fact_26 (by decide) (fun c => ?_) (fun c => ?_)
    ·
      replace hb := hb.1 (c)
      refine g_aload_n (some v0) C dX11_fact_35 0 rfl ?_
      obtain ⟨q13, q14, hb⟩ := hb
      refine g_new zc_0 zd_0 ⟨_, rfl⟩ wd_365 wd_366 wd_86 C dX11_fact_36 (by rw [hmc_of hΓ]; exact q13) (by rw [hms_of hΓ]; exact q14) (fun b15 q16 => ?_)
      replace hb := hb b15 q16
      refine g_dup C dX11_fact_39 rfl ?_
      refine g_iconst (v := 1) C dX11_fact_40 (by decide) ?_
      refine g_iconst (v := 0) C dX11_fact_41 (by decide) ?_
      refine g_iconst (v := 0) C dX11_fact_42 (by decide) ?_
      refine g_lconst (v := 0) C dX11_fact_43 (by decide) ?_
      refine g_null C dX11_fact_44 ?_
      obtain ⟨q17, q18, hb⟩ := hb
      refine g_invI [.int 1, .int 0, .int 0, .long 0, va_rf none] [.ref b15, .ref v0] zy_X0_init wd_367 wd_368 rfl C dX11_fact_45 (by first | exact Nat.le_of_ble_eq_true rfl | simp [cat_rf]) (by first | exact Nat.le_of_ble_eq_true rfl | simp [cat_rf]) (by first | exact Nat.le_of_ble_eq_true rfl | simp [cat_rf]) (by rw [hmc_of hΓ]; exact q17) (by rw [hms_of hΓ]; exact q18) rfl rfl  (okX0_init hb) ?_
      rintro o σ19 ⟨rfl, hb⟩
      refine ⟨_, rfl, ?_⟩
      obtain ⟨q20, q21, hb⟩ := hb
      obtain ⟨q22, hb⟩ := hb
      refine g_invV (ci := 11) [.ref b15] [] zy_X11_accepted wd_392 wd_394 wd_1 ⟨_, _, rfl⟩ (by decide) C dX11_fact_48 (by first | exact Nat.le_of_ble_eq_true rfl | simp [cat_rf]) (by first | exact Nat.le_of_ble_eq_true rfl | simp [cat_rf]) (by first | exact Nat.le_of_ble_eq_true rfl | simp [cat_rf]) (by rw [hmc_of hΓ]; exact q20) (by rw [hms_of hΓ]; exact q21) rfl rfl q22 (okX11_accepted hb) ?_
      rintro o σ23 ⟨rfl, hb⟩
      refine ⟨_, rfl, ?_⟩
      refine g_aload_n (some v0) C dX11_fact_51 0 rfl ?_
      obtain ⟨q24, hb⟩ := hb
      obtain ⟨a25, q26, hb⟩ := hb
      refine g_getR (some a25) C fl_RX11_12 dX11_fact_52 q24 rfl rfl q26 ?_
      refine g_iload_n C dX11_fact_55 1 rfl ?_
      refine g_iload_n C dX11_fact_56 2 rfl ?_
      refine g_iload_n C dX11_fact_57 3 rfl ?_
      refine g_iload C dX11_fact_58 4 rfl ?_
      refine g_iload C dX11_fact_60 5 rfl ?_
      obtain ⟨q27, q28, hb⟩ := hb
      obtain ⟨q29, hb⟩ := hb
      refine g_invV (ci := 6) [.int v1, .int v2, .int v3, .int v4, .int v5] [] zy_X6_newFact wd_415 wd_416 wd_417 ⟨_, _, rfl⟩ (by decide) C dX11_fact_62 (by first | exact Nat.le_of_ble_eq_true rfl | simp [cat_rf]) (by first | exact Nat.le_of_ble_eq_true rfl | simp [cat_rf]) (by first | exact Nat.le_of_ble_eq_true rfl | simp [cat_rf]) (by rw [hmc_of hΓ]; exact q27) (by rw [hms_of hΓ]; exact q28) rfl rfl q29 (okX6_newFact hb) ?_
      rintro o σ30 ⟨y31, rfl, hb⟩
      refine ⟨_, rfl, ?_⟩
      obtain ⟨q32, q33, hb⟩ := hb
      exact g_ireturn C hΓ q32 q33 dX11_fact_65 ⟨_, rfl, hb⟩
    ·
      replace hb := hb.2 (c)
      refine g_aload_n (some v0) C dX11_fact_29 0 rfl ?_
      refine g_iconst (v := 4) C dX11_fact_30 (by decide) ?_
      obtain ⟨q34, q35, hb⟩ := hb
      refine g_invV (ci := 11) [.int 4] [] zy_X11_refused wd_361 wd_363 wd_0 ⟨_, _, rfl⟩ (by decide) C dX11_fact_31 (by first | exact Nat.le_of_ble_eq_true rfl | simp [cat_rf]) (by first | exact Nat.le_of_ble_eq_true rfl | simp [cat_rf]) (by first | exact Nat.le_of_ble_eq_true rfl | simp [cat_rf]) (by rw [hmc_of hΓ]; exact q34) (by rw [hms_of hΓ]; exact q35) rfl rfl q9 (okX11_refused hb) ?_
      rintro o σ36 ⟨y37, rfl, hb⟩
      refine ⟨_, rfl, ?_⟩
      obtain ⟨q38, q39, hb⟩ := hb
      exact g_ireturn C hΓ q38 q39 dX11_fact_34 ⟨_, rfl, hb⟩
  ·
    replace hb := hb.2 (c)
    refine g_aload_n (some v0) C dX11_fact_11 0 rfl ?_
    refine g_iconst (v := 1) C dX11_fact_12 (by decide) ?_
    obtain ⟨q40, q41, hb⟩ := hb
    obtain ⟨q42, hb⟩ := hb
    refine g_invV (ci := 11) [.int 1] [] zy_X11_refused wd_361 wd_363 wd_0 ⟨_, _, rfl⟩ (by decide) C dX11_fact_13 (by first | exact Nat.le_of_ble_eq_true rfl | simp [cat_rf]) (by first | exact Nat.le_of_ble_eq_true rfl | simp [cat_rf]) (by first | exact Nat.le_of_ble_eq_true rfl | simp [cat_rf]) (by rw [hmc_of hΓ]; exact q40) (by rw [hms_of hΓ]; exact q41) rfl rfl q42 (okX11_refused hb) ?_
    rintro o σ43 ⟨y44, rfl, hb⟩
    refine ⟨_, rfl, ?_⟩
    obtain ⟨q45, q46, hb⟩ := hb
    exact g_ireturn C hΓ q45 q46 dX11_fact_16 ⟨_, rfl, hb⟩
theorem okX11_fact {mc ms : Nat} {v0 : Nat} {v1 : Int32} {v2 : Int32} {v3 : Int32} {v4 : Int32} {v5 : Int32} {σ : St} {Q : Int32 → St → Prop} (hb : wX11_fact mc ms v0 v1 v2 v3 v4 v5 σ Q) : hM yX11_fact cX11_fact 6 ((Option.some FieldType.int)) 3 87 mc ms [.ref v0, .int v1, .int v2, .int v3, .int v4, .int v5] σ (oI Q) :=
  hM_of (by decide) (Nat.le_of_ble_eq_true rfl) (fun Γ hΓ C => kwX11_fact_0 (mc := mc) (ms := ms) C hΓ 0 0 _ _ _ _ _ _ _ hb)
def wX6_isFact_0 (Q : Int32 → St → Prop) (v0 : Nat) (v1 : Int32) (σ : St) : Prop :=
  ((v1 < 0 → Q 0 σ) ∧ (¬ v1 < 0 → zK σ v0 = 7 ∧ (((zFi σ 390 v0) ≤ v1 → Q 0 σ) ∧ (¬ (zFi σ 390 v0) ≤ v1 → Q 1 σ))))
def wX6_isFact (v0 : Nat) (v1 : Int32) (σ : St) (Q : Int32 → St → Prop) : Prop := wX6_isFact_0 Q v0 v1 σ
set_option maxRecDepth 20000 in
theorem kwX6_isFact_0 {Γ : hCT} (C : hC Γ RX6 cX6_isFact ((Option.some FieldType.boolean)) "isFact" 0 0) {Q : Int32 → St → Prop} (hΓ : Γ.2.2.2.2.2.2.2.2.2.2.2 = (2, 0, 0, oI Q)) (v0 : Nat) (v1 : Int32) (σ : St) (hb : wX6_isFact_0 Q v0 v1 σ) : hW Γ 0 0 0 [(0, .ref v0), (1, .int v1)] [] σ := by
  unfold wX6_isFact_0 at hb
  refine g_iload_n C dX6_isFact_0 1 rfl ?_
  refine g_if_lt (tgt := 16) C dX6_isFact_1 (by decide) (fun c => ?_) (fun c => ?_)
  ·
    replace hb := hb.1 (c)
    refine g_iconst (v := 0) C dX6_isFact_16 (by decide) ?_
    exact g_zreturn C (by decide) hΓ (Nat.zero_le _) (Nat.zero_le _) dX6_isFact_17 ⟨_, rfl, hb⟩
  ·
    replace hb := hb.2 (c)
    refine g_iload_n C dX6_isFact_4 1 rfl ?_
    refine g_aload_n (some v0) C dX6_isFact_5 0 rfl ?_
    obtain ⟨q1, hb⟩ := hb
    refine g_getIx (zFi σ 390 v0) C fl_RX6_29 dX6_isFact_6 q1 rfl rfl rfl ?_
    refine g_icmp_ge (tgt := 16) C dX6_isFact_9 (by decide) (fun c => ?_) (fun c => ?_)
    ·
      replace hb := hb.1 (c)
      refine g_iconst (v := 0) C dX6_isFact_16 (by decide) ?_
      exact g_zreturn C (by decide) hΓ (Nat.zero_le _) (Nat.zero_le _) dX6_isFact_17 ⟨_, rfl, hb⟩
    ·
      replace hb := hb.2 (c)
      refine g_iconst (v := 1) C dX6_isFact_12 (by decide) ?_
      refine g_goto (tgt := 17) C dX6_isFact_13 (by decide) ?_
      exact g_zreturn C (by decide) hΓ (Nat.zero_le _) (Nat.zero_le _) dX6_isFact_17 ⟨_, rfl, hb⟩
theorem okX6_isFact {v0 : Nat} {v1 : Int32} {σ : St} {Q : Int32 → St → Prop} (hb : wX6_isFact v0 v1 σ Q) : hM yX6_isFact cX6_isFact 2 ((Option.some FieldType.boolean)) 0 0 0 0 [.ref v0, .int v1] σ (oI Q) :=
  hM_of (by decide) (Nat.le_of_ble_eq_true rfl) (fun Γ hΓ C => kwX6_isFact_0 C hΓ _ _ _ hb)
def wX11_has_0 (Q : Int32 → St → Prop) (v0 : Int64) (v2 : Int32) (σ : St) : Prop :=
  ((((zUsh v0 v2) &&& 1) = 0 → Q 0 σ) ∧ (¬ ((zUsh v0 v2) &&& 1) = 0 → Q 1 σ))
def wX11_has (v0 : Int64) (v2 : Int32) (σ : St) (Q : Int32 → St → Prop) : Prop := wX11_has_0 Q v0 v2 σ
set_option maxRecDepth 20000 in
theorem kwX11_has_0 {Γ : hCT} (C : hC Γ RX11 cX11_has ((Option.some FieldType.boolean)) "has" 0 0) {Q : Int32 → St → Prop} (hΓ : Γ.2.2.2.2.2.2.2.2.2.2.2 = (3, 0, 0, oI Q)) (v0 : Int64) (v2 : Int32) (σ : St) (hb : wX11_has_0 Q v0 v2 σ) : hW Γ 0 0 0 [(0, .long v0), (2, .int v2)] [] σ := by
  unfold wX11_has_0 at hb
  refine g_lload_n C dX11_has_0 0 rfl ?_
  refine g_iload_n C dX11_has_1 1 rfl ?_
  refine g_lushr C dX11_has_2 ?_
  refine g_lconst (v := 1) C dX11_has_3 (by decide) ?_
  refine g_land C dX11_has_4 ?_
  refine g_lconst (v := 0) C dX11_has_5 (by decide) ?_
  refine g_lcmp C dX11_has_6 ?_
  refine g_if_eq (tgt := 14) C dX11_has_7 (by decide) (fun c => ?_) (fun c => ?_)
  ·
    replace hb := hb.1 (lc_eq.mp c)
    refine g_iconst (v := 0) C dX11_has_14 (by decide) ?_
    exact g_zreturn C (by decide) hΓ (Nat.zero_le _) (Nat.zero_le _) dX11_has_15 ⟨_, rfl, hb⟩
  ·
    replace hb := hb.2 (lcn_eq.mp c)
    refine g_iconst (v := 1) C dX11_has_10 (by decide) ?_
    refine g_goto (tgt := 15) C dX11_has_11 (by decide) ?_
    exact g_zreturn C (by decide) hΓ (Nat.zero_le _) (Nat.zero_le _) dX11_has_15 ⟨_, rfl, hb⟩
theorem okX11_has {v0 : Int64} {v2 : Int32} {σ : St} {Q : Int32 → St → Prop} (hb : wX11_has v0 v2 σ Q) : hM yX11_has cX11_has 3 ((Option.some FieldType.boolean)) 0 0 0 0 [.long v0, .int v2] σ (oI Q) :=
  hM_of (by decide) (Nat.le_of_ble_eq_true rfl) (fun Γ hΓ C => kwX11_has_0 C hΓ _ _ _ hb)
def wX6_isDropped_0 (Q : Int32 → St → Prop) (v0 : Nat) (v1 : Int32) (σ : St) : Prop :=
  zK σ v0 = 7 ∧ wX11_has (zFj σ 389 v0) v1 σ (fun y3 σ2 => (y3 = 0 ∨ y3 = 1) ∧ Q y3 σ2)
def wX6_isDropped (v0 : Nat) (v1 : Int32) (σ : St) (Q : Int32 → St → Prop) : Prop := wX6_isDropped_0 Q v0 v1 σ
set_option maxRecDepth 20000 in
theorem kwX6_isDropped_0 {Γ : hCT} (C : hC Γ RX6 cX6_isDropped ((Option.some FieldType.boolean)) "isDropped" 1 22) {Q : Int32 → St → Prop} (hΓ : Γ.2.2.2.2.2.2.2.2.2.2.2 = (2, 0, 0, oI Q)) (v0 : Nat) (v1 : Int32) (σ : St) (hb : wX6_isDropped_0 Q v0 v1 σ) : hW Γ 0 0 0 [(0, .ref v0), (1, .int v1)] [] σ := by
  unfold wX6_isDropped_0 at hb
  refine g_aload_n (some v0) C dX6_isDropped_0 0 rfl ?_
  obtain ⟨q1, hb⟩ := hb
  refine g_getJx (zFj σ 389 v0) C fl_RX6_45 dX6_isDropped_1 q1 rfl rfl rfl ?_
  refine g_iload_n C dX6_isDropped_4 1 rfl ?_
  refine g_invSN [.long (zFj σ 389 v0), .int v1] [] zy_X11_has wn_441 wd_442 C dX6_isDropped_5 (by first | exact Nat.le_of_ble_eq_true rfl | simp [cat_rf]) (by first | exact Nat.le_of_ble_eq_true rfl | simp [cat_rf]) (by first | exact Nat.le_of_ble_eq_true rfl | simp [cat_rf]) (Nat.zero_le _) (Nat.zero_le _) rfl rfl  (okX11_has hb) ?_
  rintro o σ2 ⟨y3, rfl, hb⟩
  refine ⟨_, rfl, ?_⟩
  obtain ⟨q4, hb⟩ := hb
  exact g_zreturn C (nz_n q4) hΓ (Nat.zero_le _) (Nat.zero_le _) dX6_isDropped_8 ⟨_, rfl, hb⟩
theorem okX6_isDropped {v0 : Nat} {v1 : Int32} {σ : St} {Q : Int32 → St → Prop} (hb : wX6_isDropped v0 v1 σ Q) : hM yX6_isDropped cX6_isDropped 2 ((Option.some FieldType.boolean)) 1 22 0 0 [.ref v0, .int v1] σ (oI Q) :=
  hM_of (by decide) (Nat.le_of_ble_eq_true rfl) (fun Γ hΓ C => kwX6_isDropped_0 C hΓ _ _ _ hb)
def wX11_drop_42 (mc ms : Nat) (Q : Int32 → St → Prop) (k n : Nat) (v0 : Nat) (v1 : Int32) (v2 : Int32) (s6 : Int64) (s5 : Int32) (s4 : Int32) (s3 : Int32) (s2 : Nat) (s1 : Nat) (s0 : Nat) (σ : St) : Prop :=
  k ≤ mc ∧ n ≤ ms ∧ wX0_init s2 s3 s4 s5 s6 none σ (fun σ3 => k ≤ mc ∧ n ≤ ms ∧ zK σ3 s0 = 12 ∧ wX11_accepted s0 s1 σ3 (fun σ7 => zK σ7 v0 = 12 ∧ ∃ a9 : Nat, zFr σ7 704 v0 = some a9 ∧ k ≤ mc ∧ n ≤ ms ∧ zK σ7 a9 = 7 ∧ wX6_markDropped a9 v1 v2 σ7 (fun σ14 => k ≤ mc ∧ n ≤ ms ∧ Q 1 σ14)))
def wX11_drop_0 (mc ms : Nat) (Q : Int32 → St → Prop) (k n : Nat) (v0 : Nat) (v1 : Int32) (v2 : Int32) (σ : St) : Prop :=
  zK σ v0 = 12 ∧ ∃ a2 : Nat, zFr σ 704 v0 = some a2 ∧ k ≤ mc ∧ n ≤ ms ∧ zK σ a2 = 7 ∧ wX6_isFact a2 v1 σ (fun y8 σ7 => ((¬ y8 = 0 → k + 1 ≤ mc ∧ n + 5 ≤ ms ∧ ∀ b11 : Nat, zK σ7 b11 = 0 → zK (nO σ7 b11 1) v0 = 12 ∧ ∃ a14 : Nat, zFr (nO σ7 b11 1) 704 v0 = some a14 ∧ k + 1 ≤ mc ∧ n + 5 ≤ ms ∧ zK (nO σ7 b11 1) a14 = 7 ∧ wX6_isDropped a14 v1 (nO σ7 b11 1) (fun y20 σ19 => ((y20 = 0 → wX11_drop_42 mc ms Q (k + 1) (n + 5) v0 v1 v2 0 0 v1 2 b11 b11 v0 σ19) ∧ (¬ y20 = 0 → wX11_drop_42 mc ms Q (k + 1) (n + 5) v0 v1 v2 1 0 v1 2 b11 b11 v0 σ19)))) ∧ (y8 = 0 → zK σ7 v0 = 12 ∧ k ≤ mc ∧ n ≤ ms ∧ Q 0 (uFi σ7 714 v0 1))))
def wX11_drop (mc ms : Nat) (v0 : Nat) (v1 : Int32) (v2 : Int32) (σ : St) (Q : Int32 → St → Prop) : Prop := wX11_drop_0 mc ms Q 0 0 v0 v1 v2 σ
set_option maxRecDepth 20000 in
theorem kwX11_drop_42 {Γ : hCT} {mc ms : Nat} (C : hC Γ RX11 cX11_drop ((Option.some FieldType.boolean)) "drop" 3 82) {Q : Int32 → St → Prop} (hΓ : Γ.2.2.2.2.2.2.2.2.2.2.2 = (3, mc, ms, oI Q)) (k n : Nat) (v0 : Nat) (v1 : Int32) (v2 : Int32) (s6 : Int64) (s5 : Int32) (s4 : Int32) (s3 : Int32) (s2 : Nat) (s1 : Nat) (s0 : Nat) (σ : St) (hb : wX11_drop_42 mc ms Q k n v0 v1 v2 s6 s5 s4 s3 s2 s1 s0 σ) : hW Γ k n 42 [(0, .ref v0), (1, .int v1), (2, .int v2)] [.long s6, .int s5, .int s4, .int s3, .ref s2, .ref s1, .ref s0] σ := by
  unfold wX11_drop_42 at hb
  refine g_null C dX11_drop_42 ?_
  obtain ⟨q1, q2, hb⟩ := hb
  refine g_invI [.int s3, .int s4, .int s5, .long s6, va_rf none] [.ref s1, .ref s0] zy_X0_init wd_367 wd_368 rfl C dX11_drop_43 (by first | exact Nat.le_of_ble_eq_true rfl | simp [cat_rf]) (by first | exact Nat.le_of_ble_eq_true rfl | simp [cat_rf]) (by first | exact Nat.le_of_ble_eq_true rfl | simp [cat_rf]) (by rw [hmc_of hΓ]; exact q1) (by rw [hms_of hΓ]; exact q2) rfl rfl  (okX0_init hb) ?_
  rintro o σ3 ⟨rfl, hb⟩
  refine ⟨_, rfl, ?_⟩
  obtain ⟨q4, q5, hb⟩ := hb
  obtain ⟨q6, hb⟩ := hb
  refine g_invV (ci := 11) [.ref s1] [] zy_X11_accepted wd_392 wd_394 wd_1 ⟨_, _, rfl⟩ (by decide) C dX11_drop_46 (by first | exact Nat.le_of_ble_eq_true rfl | simp [cat_rf]) (by first | exact Nat.le_of_ble_eq_true rfl | simp [cat_rf]) (by first | exact Nat.le_of_ble_eq_true rfl | simp [cat_rf]) (by rw [hmc_of hΓ]; exact q4) (by rw [hms_of hΓ]; exact q5) rfl rfl q6 (okX11_accepted hb) ?_
  rintro o σ7 ⟨rfl, hb⟩
  refine ⟨_, rfl, ?_⟩
  refine g_aload_n (some v0) C dX11_drop_49 0 rfl ?_
  obtain ⟨q8, hb⟩ := hb
  obtain ⟨a9, q10, hb⟩ := hb
  refine g_getR (some a9) C fl_RX11_12 dX11_drop_50 q8 rfl rfl q10 ?_
  refine g_iload_n C dX11_drop_53 1 rfl ?_
  refine g_iload_n C dX11_drop_54 2 rfl ?_
  obtain ⟨q11, q12, hb⟩ := hb
  obtain ⟨q13, hb⟩ := hb
  refine g_invV (ci := 6) [.int v1, .int v2] [] zy_X6_markDropped wd_444 wd_425 wd_426 ⟨_, _, rfl⟩ (by decide) C dX11_drop_55 (by first | exact Nat.le_of_ble_eq_true rfl | simp [cat_rf]) (by first | exact Nat.le_of_ble_eq_true rfl | simp [cat_rf]) (by first | exact Nat.le_of_ble_eq_true rfl | simp [cat_rf]) (by rw [hmc_of hΓ]; exact q11) (by rw [hms_of hΓ]; exact q12) rfl rfl q13 (okX6_markDropped hb) ?_
  rintro o σ14 ⟨rfl, hb⟩
  refine ⟨_, rfl, ?_⟩
  refine g_iconst (v := 1) C dX11_drop_58 (by decide) ?_
  obtain ⟨q15, q16, hb⟩ := hb
  exact g_zreturn C (by decide) hΓ q15 q16 dX11_drop_59 ⟨_, rfl, hb⟩
set_option maxRecDepth 20000 in
theorem kwX11_drop_0 {Γ : hCT} {mc ms : Nat} (C : hC Γ RX11 cX11_drop ((Option.some FieldType.boolean)) "drop" 3 82) {Q : Int32 → St → Prop} (hΓ : Γ.2.2.2.2.2.2.2.2.2.2.2 = (3, mc, ms, oI Q)) (k n : Nat) (v0 : Nat) (v1 : Int32) (v2 : Int32) (σ : St) (hb : wX11_drop_0 mc ms Q k n v0 v1 v2 σ) : hW Γ k n 0 [(0, .ref v0), (1, .int v1), (2, .int v2)] [] σ := by
  unfold wX11_drop_0 at hb
  refine g_aload_n (some v0) C dX11_drop_0 0 rfl ?_
  obtain ⟨q1, hb⟩ := hb
  obtain ⟨a2, q3, hb⟩ := hb
  refine g_getR (some a2) C fl_RX11_12 dX11_drop_1 q1 rfl rfl q3 ?_
  refine g_iload_n C dX11_drop_4 1 rfl ?_
  obtain ⟨q4, q5, hb⟩ := hb
  obtain ⟨q6, hb⟩ := hb
  refine g_invV (ci := 6) [.int v1] [] zy_X6_isFact wd_433 wd_434 wd_435 ⟨_, _, rfl⟩ (by decide) C dX11_drop_5 (by first | exact Nat.le_of_ble_eq_true rfl | simp [cat_rf]) (by first | exact Nat.le_of_ble_eq_true rfl | simp [cat_rf]) (by first | exact Nat.le_of_ble_eq_true rfl | simp [cat_rf]) (by rw [hmc_of hΓ]; exact q4) (by rw [hms_of hΓ]; exact q5) rfl rfl q6 (okX6_isFact hb) ?_
  rintro o σ7 ⟨y8, rfl, hb⟩
  refine ⟨_, rfl, ?_⟩
  refine g_if_ne (tgt := 18) C dX11_drop_8 (by decide) (fun c => ?_) (fun c => ?_)
  ·
    replace hb := hb.1 (c)
    refine g_aload_n (some v0) C dX11_drop_18 0 rfl ?_
    obtain ⟨q9, q10, hb⟩ := hb
    refine g_new zc_0 zd_0 ⟨_, rfl⟩ wd_365 wd_366 wd_86 C dX11_drop_19 (by rw [hmc_of hΓ]; exact q9) (by rw [hms_of hΓ]; exact q10) (fun b11 q12 => ?_)
    replace hb := hb b11 q12
    refine g_dup C dX11_drop_22 rfl ?_
    refine g_iconst (v := 2) C dX11_drop_23 (by decide) ?_
    refine g_iload_n C dX11_drop_24 1 rfl ?_
    refine g_iconst (v := 0) C dX11_drop_25 (by decide) ?_
    refine g_aload_n (some v0) C dX11_drop_26 0 rfl ?_
    obtain ⟨q13, hb⟩ := hb
    obtain ⟨a14, q15, hb⟩ := hb
    refine g_getR (some a14) C fl_RX11_12 dX11_drop_27 q13 rfl rfl q15 ?_
    refine g_iload_n C dX11_drop_30 1 rfl ?_
    obtain ⟨q16, q17, hb⟩ := hb
    obtain ⟨q18, hb⟩ := hb
    refine g_invV (ci := 6) [.int v1] [.int 0, .int v1, .int 2, .ref b11, .ref b11, .ref v0] zy_X6_isDropped wd_437 wd_438 wd_439 ⟨_, _, rfl⟩ (by decide) C dX11_drop_31 (by first | exact Nat.le_of_ble_eq_true rfl | simp [cat_rf]) (by first | exact Nat.le_of_ble_eq_true rfl | simp [cat_rf]) (by first | exact Nat.le_of_ble_eq_true rfl | simp [cat_rf]) (by rw [hmc_of hΓ]; exact q16) (by rw [hms_of hΓ]; exact q17) rfl rfl q18 (okX6_isDropped hb) ?_
    rintro o σ19 ⟨y20, rfl, hb⟩
    refine ⟨_, rfl, ?_⟩
    refine g_if_eq (tgt := 41) C dX11_drop_34 (by decide) (fun c => ?_) (fun c => ?_)
    ·
      replace hb := hb.1 (c)
      refine g_lconst (v := 0) C dX11_drop_41 (by decide) ?_
      refine g_sub (lv' := [(0, .ref v0), (1, .int v1), (2, .int v2)]) [0, 1, 2] rfl ?_
      exact kwX11_drop_42 C hΓ  _ _ _ _ _ _ _ _ _ _ _ _ _ hb
    ·
      replace hb := hb.2 (c)
      refine g_lconst (v := 1) C dX11_drop_37 (by decide) ?_
      refine g_goto (tgt := 42) C dX11_drop_38 (by decide) ?_
      refine g_sub (lv' := [(0, .ref v0), (1, .int v1), (2, .int v2)]) [0, 1, 2] rfl ?_
      exact kwX11_drop_42 C hΓ  _ _ _ _ _ _ _ _ _ _ _ _ _ hb
  ·
    replace hb := hb.2 (c)
    refine g_aload_n (some v0) C dX11_drop_11 0 rfl ?_
    refine g_iconst (v := 1) C dX11_drop_12 (by decide) ?_
    obtain ⟨q21, hb⟩ := hb
    refine g_putI C fl_RX11_101 dX11_drop_13 q21 rfl rfl rfl rfl ?_
    refine g_iconst (v := 0) C dX11_drop_16 (by decide) ?_
    obtain ⟨q22, q23, hb⟩ := hb
    exact g_zreturn C (by decide) hΓ q22 q23 dX11_drop_17 ⟨_, rfl, hb⟩
theorem okX11_drop {mc ms : Nat} {v0 : Nat} {v1 : Int32} {v2 : Int32} {σ : St} {Q : Int32 → St → Prop} (hb : wX11_drop mc ms v0 v1 v2 σ Q) : hM yX11_drop cX11_drop 3 ((Option.some FieldType.boolean)) 3 82 mc ms [.ref v0, .int v1, .int v2] σ (oI Q) :=
  hM_of (by decide) (Nat.le_of_ble_eq_true rfl) (fun Γ hΓ C => kwX11_drop_0 (mc := mc) (ms := ms) C hΓ 0 0 _ _ _ _ hb)
def wX6_weight_0 (Q : Int64 → St → Prop) (v0 : Nat) (v1 : Int32) (v2 : Int32) (σ : St) : Prop :=
  zK σ v0 = 7 ∧ ∃ a2 : Nat, zFr σ 388 v0 = some a2 ∧ zK σ a2 = 21 ∧ vp_in ((v1 * 4) + v2) (zL σ a2) ∧ Q (zAj σ a2 (ix ((v1 * 4) + v2))) σ
def wX6_weight (v0 : Nat) (v1 : Int32) (v2 : Int32) (σ : St) (Q : Int64 → St → Prop) : Prop := wX6_weight_0 Q v0 v1 v2 σ
set_option maxRecDepth 20000 in
theorem kwX6_weight_0 {Γ : hCT} (C : hC Γ RX6 cX6_weight ((Option.some FieldType.long)) "weight" 0 0) {Q : Int64 → St → Prop} (hΓ : Γ.2.2.2.2.2.2.2.2.2.2.2 = (3, 0, 0, oJ Q)) (v0 : Nat) (v1 : Int32) (v2 : Int32) (σ : St) (hb : wX6_weight_0 Q v0 v1 v2 σ) : hW Γ 0 0 0 [(0, .ref v0), (1, .int v1), (2, .int v2)] [] σ := by
  unfold wX6_weight_0 at hb
  refine g_aload_n (some v0) C dX6_weight_0 0 rfl ?_
  obtain ⟨q1, hb⟩ := hb
  obtain ⟨a2, q3, hb⟩ := hb
  refine g_getR (some a2) C fl_RX6_21 dX6_weight_1 q1 rfl rfl q3 ?_
  refine g_iload_n C dX6_weight_4 1 rfl ?_
  refine g_iconst (v := 4) C dX6_weight_5 (by decide) ?_
  refine g_imul C dX6_weight_6 ?_
  refine g_iload_n C dX6_weight_7 2 rfl ?_
  refine g_iadd C dX6_weight_8 ?_
  obtain ⟨q4, hb⟩ := hb
  obtain ⟨q5, hb⟩ := hb
  refine g_laldx (zAj σ a2 (ix ((v1 * 4) + v2))) C dX6_weight_9 q4 q5 rfl ?_
  exact g_lreturn C hΓ (Nat.zero_le _) (Nat.zero_le _) dX6_weight_10 ⟨_, rfl, hb⟩
theorem okX6_weight {v0 : Nat} {v1 : Int32} {v2 : Int32} {σ : St} {Q : Int64 → St → Prop} (hb : wX6_weight v0 v1 v2 σ Q) : hM yX6_weight cX6_weight 3 ((Option.some FieldType.long)) 0 0 0 0 [.ref v0, .int v1, .int v2] σ (oJ Q) :=
  hM_of (by decide) (Nat.le_of_ble_eq_true rfl) (fun Γ hΓ C => kwX6_weight_0 C hΓ _ _ _ _ hb)
def wX6_weigh_0 (Q : St → Prop) (v0 : Nat) (v1 : Int32) (v2 : Int32) (v3 : Int64) (σ : St) : Prop :=
  zK σ v0 = 7 ∧ ∃ a2 : Nat, zFr σ 388 v0 = some a2 ∧ zK σ a2 = 21 ∧ vp_in ((v1 * 4) + v2) (zL σ a2) ∧ Q (uAj σ a2 (ix ((v1 * 4) + v2)) v3)
def wX6_weigh (v0 : Nat) (v1 : Int32) (v2 : Int32) (v3 : Int64) (σ : St) (Q : St → Prop) : Prop := wX6_weigh_0 Q v0 v1 v2 v3 σ
set_option maxRecDepth 20000 in
theorem kwX6_weigh_0 {Γ : hCT} (C : hC Γ RX6 cX6_weigh ((Option.none : Option Jvm.ClassFile.FieldType)) "weigh" 0 0) {Q : St → Prop} (hΓ : Γ.2.2.2.2.2.2.2.2.2.2.2 = (5, 0, 0, oV Q)) (v0 : Nat) (v1 : Int32) (v2 : Int32) (v3 : Int64) (σ : St) (hb : wX6_weigh_0 Q v0 v1 v2 v3 σ) : hW Γ 0 0 0 [(0, .ref v0), (1, .int v1), (2, .int v2), (3, .long v3)] [] σ := by
  unfold wX6_weigh_0 at hb
  refine g_aload_n (some v0) C dX6_weigh_0 0 rfl ?_
  obtain ⟨q1, hb⟩ := hb
  obtain ⟨a2, q3, hb⟩ := hb
  refine g_getR (some a2) C fl_RX6_21 dX6_weigh_1 q1 rfl rfl q3 ?_
  refine g_iload_n C dX6_weigh_4 1 rfl ?_
  refine g_iconst (v := 4) C dX6_weigh_5 (by decide) ?_
  refine g_imul C dX6_weigh_6 ?_
  refine g_iload_n C dX6_weigh_7 2 rfl ?_
  refine g_iadd C dX6_weigh_8 ?_
  refine g_lload_n C dX6_weigh_9 3 rfl ?_
  obtain ⟨q4, hb⟩ := hb
  obtain ⟨q5, hb⟩ := hb
  refine g_last C dX6_weigh_10 q4 q5 ?_
  exact g_vreturn C hΓ (Nat.zero_le _) (Nat.zero_le _) dX6_weigh_11 ⟨rfl, hb⟩
theorem okX6_weigh {v0 : Nat} {v1 : Int32} {v2 : Int32} {v3 : Int64} {σ : St} {Q : St → Prop} (hb : wX6_weigh v0 v1 v2 v3 σ Q) : hM yX6_weigh cX6_weigh 5 ((Option.none : Option Jvm.ClassFile.FieldType)) 0 0 0 0 [.ref v0, .int v1, .int v2, .long v3] σ (oV Q) :=
  hM_of (by decide) (Nat.le_of_ble_eq_true rfl) (fun Γ hΓ C => kwX6_weigh_0 C hΓ _ _ _ _ _ hb)
def wX11_put_43 (mc ms : Nat) (Q : Int32 → St → Prop) (k n : Nat) (v0 : Nat) (σ : St) : Prop :=
  zK σ v0 = 12 ∧ k ≤ mc ∧ n ≤ ms ∧ Q 0 (uFi σ 714 v0 2)
def wX11_put_0 (mc ms : Nat) (Q : Int32 → St → Prop) (k n : Nat) (v0 : Nat) (v1 : Int32) (v2 : Int32) (v3 : Int64) (σ : St) : Prop :=
  zK σ v0 = 12 ∧ ∃ a2 : Nat, zFr σ 704 v0 = some a2 ∧ k ≤ mc ∧ n ≤ ms ∧ zK σ a2 = 7 ∧ wX6_isFact a2 v1 σ (fun y8 σ7 => ((¬ y8 = 0 → ((v2 < 0 → wX11_put_43 mc ms Q k n v0 σ7) ∧ (¬ v2 < 0 → (((4 : Int32) ≤ v2 → wX11_put_43 mc ms Q k n v0 σ7) ∧ (¬ (4 : Int32) ≤ v2 → ((v3 < 0 → wX11_put_43 mc ms Q k n v0 σ7) ∧ (¬ v3 < 0 → vp_in v2 4 ∧ ((v3 ≤ (mwL (ix v2)) → k + 1 ≤ mc ∧ n + 5 ≤ ms ∧ ∀ b12 : Nat, zK σ7 b12 = 0 → zK (nO σ7 b12 1) v0 = 12 ∧ ∃ a15 : Nat, zFr (nO σ7 b12 1) 704 v0 = some a15 ∧ k + 1 ≤ mc ∧ n + 5 ≤ ms ∧ zK (nO σ7 b12 1) a15 = 7 ∧ wX6_weight a15 v1 v2 (nO σ7 b12 1) (fun y21 σ20 => k + 1 ≤ mc ∧ n + 5 ≤ ms ∧ wX0_init b12 3 v1 v2 y21 none σ20 (fun σ24 => k + 1 ≤ mc ∧ n + 5 ≤ ms ∧ zK σ24 v0 = 12 ∧ wX11_accepted v0 b12 σ24 (fun σ28 => zK σ28 v0 = 12 ∧ ∃ a30 : Nat, zFr σ28 704 v0 = some a30 ∧ k + 1 ≤ mc ∧ n + 5 ≤ ms ∧ zK σ28 a30 = 7 ∧ wX6_weigh a30 v1 v2 v3 σ28 (fun σ35 => k + 1 ≤ mc ∧ n + 5 ≤ ms ∧ Q 1 σ35))))) ∧ (¬ v3 ≤ (mwL (ix v2)) → wX11_put_43 mc ms Q k n v0 σ7))))))))) ∧ (y8 = 0 → zK σ7 v0 = 12 ∧ k ≤ mc ∧ n ≤ ms ∧ Q 0 (uFi σ7 714 v0 1))))
def wX11_put (mc ms : Nat) (v0 : Nat) (v1 : Int32) (v2 : Int32) (v3 : Int64) (σ : St) (Q : Int32 → St → Prop) : Prop := wX11_put_0 mc ms Q 0 0 v0 v1 v2 v3 σ
set_option maxRecDepth 20000 in
theorem kwX11_put_43 {Γ : hCT} {mc ms : Nat} (C : hC Γ RX11 cX11_put ((Option.some FieldType.boolean)) "put" 3 82) {Q : Int32 → St → Prop} (hΓ : Γ.2.2.2.2.2.2.2.2.2.2.2 = (5, mc, ms, oI Q)) (k n : Nat) (v0 : Nat) (σ : St) (hb : wX11_put_43 mc ms Q k n v0 σ) : hW Γ k n 43 [(0, .ref v0)] [] σ := by
  unfold wX11_put_43 at hb
  refine g_aload_n (some v0) C dX11_put_43 0 rfl ?_
  refine g_iconst (v := 2) C dX11_put_44 (by decide) ?_
  obtain ⟨q1, hb⟩ := hb
  refine g_putI C fl_RX11_101 dX11_put_45 q1 rfl rfl rfl rfl ?_
  refine g_iconst (v := 0) C dX11_put_48 (by decide) ?_
  obtain ⟨q2, q3, hb⟩ := hb
  exact g_zreturn C (by decide) hΓ q2 q3 dX11_put_49 ⟨_, rfl, hb⟩
set_option maxRecDepth 20000 in
theorem kwX11_put_0 {Γ : hCT} {mc ms : Nat} (C : hC Γ RX11 cX11_put ((Option.some FieldType.boolean)) "put" 3 82) {Q : Int32 → St → Prop} (hΓ : Γ.2.2.2.2.2.2.2.2.2.2.2 = (5, mc, ms, oI Q)) (k n : Nat) (v0 : Nat) (v1 : Int32) (v2 : Int32) (v3 : Int64) (σ : St) (hb : wX11_put_0 mc ms Q k n v0 v1 v2 v3 σ) : hW Γ k n 0 [(0, .ref v0), (1, .int v1), (2, .int v2), (3, .long v3)] [] σ := by
  unfold wX11_put_0 at hb
  refine g_aload_n (some v0) C dX11_put_0 0 rfl ?_
  obtain ⟨q1, hb⟩ := hb
  obtain ⟨a2, q3, hb⟩ := hb
  refine g_getR (some a2) C fl_RX11_12 dX11_put_1 q1 rfl rfl q3 ?_
  refine g_iload_n C dX11_put_4 1 rfl ?_
  obtain ⟨q4, q5, hb⟩ := hb
  obtain ⟨q6, hb⟩ := hb
  refine g_invV (ci := 6) [.int v1] [] zy_X6_isFact wd_433 wd_434 wd_435 ⟨_, _, rfl⟩ (by decide) C dX11_put_5 (by first | exact Nat.le_of_ble_eq_true rfl | simp [cat_rf]) (by first | exact Nat.le_of_ble_eq_true rfl | simp [cat_rf]) (by first | exact Nat.le_of_ble_eq_true rfl | simp [cat_rf]) (by rw [hmc_of hΓ]; exact q4) (by rw [hms_of hΓ]; exact q5) rfl rfl q6 (okX6_isFact hb) ?_
  rintro o σ7 ⟨y8, rfl, hb⟩
  refine ⟨_, rfl, ?_⟩
  refine g_if_ne (tgt := 18) C dX11_put_8 (by decide) (fun c => ?_) (fun c => ?_)
  ·
    replace hb := hb.1 (c)
    refine g_iload_n C dX11_put_18 2 rfl ?_
    refine g_if_lt (tgt := 43) C dX11_put_19 (by decide) (fun c => ?_) (fun c => ?_)
    ·
      replace hb := hb.1 (c)
      refine g_sub (lv' := [(0, .ref v0)]) [0] rfl ?_
      exact kwX11_put_43 C hΓ  _ _ _ _ hb
    ·
      replace hb := hb.2 (c)
      refine g_iload_n C dX11_put_22 2 rfl ?_
      refine g_iconst (v := 4) C dX11_put_23 (by decide) ?_
      refine g_icmp_ge (tgt := 43) C dX11_put_24 (by decide) (fun c => ?_) (fun c => ?_)
      ·
        replace hb := hb.1 (c)
        refine g_sub (lv' := [(0, .ref v0)]) [0] rfl ?_
        exact kwX11_put_43 C hΓ  _ _ _ _ hb
      ·
        replace hb := hb.2 (c)
        refine g_lload_n C dX11_put_27 3 rfl ?_
        refine g_lconst (v := 0) C dX11_put_28 (by decide) ?_
        refine g_lcmp C dX11_put_29 ?_
        refine g_if_lt (tgt := 43) C dX11_put_30 (by decide) (fun c => ?_) (fun c => ?_)
        ·
          replace hb := hb.1 (lc_lt.mp c)
          refine g_sub (lv' := [(0, .ref v0)]) [0] rfl ?_
          exact kwX11_put_43 C hΓ  _ _ _ _ hb
        ·
          replace hb := hb.2 (lcn_lt.mp c)
          refine g_lload_n C dX11_put_33 3 rfl ?_
          refine g_getsM C wd_449 dX11_put_34 ?_
          refine g_iload_n C dX11_put_37 2 rfl ?_
          obtain ⟨q9, hb⟩ := hb
          refine g_xld C dX11_put_38 q9 ?_
          refine g_lcmp C dX11_put_39 ?_
          refine g_if_le (tgt := 50) C dX11_put_40 (by decide) (fun c => ?_) (fun c => ?_)
          ·
            replace hb := hb.1 (lc_le.mp c)
            refine g_aload_n (some v0) C dX11_put_50 0 rfl ?_
            obtain ⟨q10, q11, hb⟩ := hb
            refine g_new zc_0 zd_0 ⟨_, rfl⟩ wd_365 wd_366 wd_86 C dX11_put_51 (by rw [hmc_of hΓ]; exact q10) (by rw [hms_of hΓ]; exact q11) (fun b12 q13 => ?_)
            replace hb := hb b12 q13
            refine g_dup C dX11_put_54 rfl ?_
            refine g_iconst (v := 3) C dX11_put_55 (by decide) ?_
            refine g_iload_n C dX11_put_56 1 rfl ?_
            refine g_iload_n C dX11_put_57 2 rfl ?_
            refine g_aload_n (some v0) C dX11_put_58 0 rfl ?_
            obtain ⟨q14, hb⟩ := hb
            obtain ⟨a15, q16, hb⟩ := hb
            refine g_getR (some a15) C fl_RX11_12 dX11_put_59 q14 rfl rfl q16 ?_
            refine g_iload_n C dX11_put_62 1 rfl ?_
            refine g_iload_n C dX11_put_63 2 rfl ?_
            obtain ⟨q17, q18, hb⟩ := hb
            obtain ⟨q19, hb⟩ := hb
            refine g_invV (ci := 6) [.int v1, .int v2] [.int v2, .int v1, .int 3, .ref b12, .ref b12, .ref v0] zy_X6_weight wd_451 wd_452 wd_453 ⟨_, _, rfl⟩ (by decide) C dX11_put_64 (by first | exact Nat.le_of_ble_eq_true rfl | simp [cat_rf]) (by first | exact Nat.le_of_ble_eq_true rfl | simp [cat_rf]) (by first | exact Nat.le_of_ble_eq_true rfl | simp [cat_rf]) (by rw [hmc_of hΓ]; exact q17) (by rw [hms_of hΓ]; exact q18) rfl rfl q19 (okX6_weight hb) ?_
            rintro o σ20 ⟨y21, rfl, hb⟩
            refine ⟨_, rfl, ?_⟩
            refine g_null C dX11_put_67 ?_
            obtain ⟨q22, q23, hb⟩ := hb
            refine g_invI [.int 3, .int v1, .int v2, .long y21, va_rf none] [.ref b12, .ref v0] zy_X0_init wd_367 wd_368 rfl C dX11_put_68 (by first | exact Nat.le_of_ble_eq_true rfl | simp [cat_rf]) (by first | exact Nat.le_of_ble_eq_true rfl | simp [cat_rf]) (by first | exact Nat.le_of_ble_eq_true rfl | simp [cat_rf]) (by rw [hmc_of hΓ]; exact q22) (by rw [hms_of hΓ]; exact q23) rfl rfl  (okX0_init hb) ?_
            rintro o σ24 ⟨rfl, hb⟩
            refine ⟨_, rfl, ?_⟩
            obtain ⟨q25, q26, hb⟩ := hb
            obtain ⟨q27, hb⟩ := hb
            refine g_invV (ci := 11) [.ref b12] [] zy_X11_accepted wd_392 wd_394 wd_1 ⟨_, _, rfl⟩ (by decide) C dX11_put_71 (by first | exact Nat.le_of_ble_eq_true rfl | simp [cat_rf]) (by first | exact Nat.le_of_ble_eq_true rfl | simp [cat_rf]) (by first | exact Nat.le_of_ble_eq_true rfl | simp [cat_rf]) (by rw [hmc_of hΓ]; exact q25) (by rw [hms_of hΓ]; exact q26) rfl rfl q27 (okX11_accepted hb) ?_
            rintro o σ28 ⟨rfl, hb⟩
            refine ⟨_, rfl, ?_⟩
            refine g_aload_n (some v0) C dX11_put_74 0 rfl ?_
            obtain ⟨q29, hb⟩ := hb
            obtain ⟨a30, q31, hb⟩ := hb
            refine g_getR (some a30) C fl_RX11_12 dX11_put_75 q29 rfl rfl q31 ?_
            refine g_iload_n C dX11_put_78 1 rfl ?_
            refine g_iload_n C dX11_put_79 2 rfl ?_
            refine g_lload_n C dX11_put_80 3 rfl ?_
            obtain ⟨q32, q33, hb⟩ := hb
            obtain ⟨q34, hb⟩ := hb
            refine g_invV (ci := 6) [.int v1, .int v2, .long v3] [] zy_X6_weigh wd_455 wd_456 wd_457 ⟨_, _, rfl⟩ (by decide) C dX11_put_81 (by first | exact Nat.le_of_ble_eq_true rfl | simp [cat_rf]) (by first | exact Nat.le_of_ble_eq_true rfl | simp [cat_rf]) (by first | exact Nat.le_of_ble_eq_true rfl | simp [cat_rf]) (by rw [hmc_of hΓ]; exact q32) (by rw [hms_of hΓ]; exact q33) rfl rfl q34 (okX6_weigh hb) ?_
            rintro o σ35 ⟨rfl, hb⟩
            refine ⟨_, rfl, ?_⟩
            refine g_iconst (v := 1) C dX11_put_84 (by decide) ?_
            obtain ⟨q36, q37, hb⟩ := hb
            exact g_zreturn C (by decide) hΓ q36 q37 dX11_put_85 ⟨_, rfl, hb⟩
          ·
            replace hb := hb.2 (lcn_le.mp c)
            refine g_sub (lv' := [(0, .ref v0)]) [0] rfl ?_
            exact kwX11_put_43 C hΓ  _ _ _ _ hb
  ·
    replace hb := hb.2 (c)
    refine g_aload_n (some v0) C dX11_put_11 0 rfl ?_
    refine g_iconst (v := 1) C dX11_put_12 (by decide) ?_
    obtain ⟨q38, hb⟩ := hb
    refine g_putI C fl_RX11_101 dX11_put_13 q38 rfl rfl rfl rfl ?_
    refine g_iconst (v := 0) C dX11_put_16 (by decide) ?_
    obtain ⟨q39, q40, hb⟩ := hb
    exact g_zreturn C (by decide) hΓ q39 q40 dX11_put_17 ⟨_, rfl, hb⟩
theorem okX11_put {mc ms : Nat} {v0 : Nat} {v1 : Int32} {v2 : Int32} {v3 : Int64} {σ : St} {Q : Int32 → St → Prop} (hb : wX11_put mc ms v0 v1 v2 v3 σ Q) : hM yX11_put cX11_put 5 ((Option.some FieldType.boolean)) 3 82 mc ms [.ref v0, .int v1, .int v2, .long v3] σ (oI Q) :=
  hM_of (by decide) (Nat.le_of_ble_eq_true rfl) (fun Γ hΓ C => kwX11_put_0 (mc := mc) (ms := ms) C hΓ 0 0 _ _ _ _ _ hb)
def wX6_placesOf_0 (Q : Int32 → St → Prop) (v0 : Nat) (v1 : Int32) (σ : St) : Prop :=
  zK σ v0 = 7 ∧ ∃ a2 : Nat, zFr σ 384 v0 = some a2 ∧ ∃ a4 : Nat, zFr σ 386 v0 = some a4 ∧ zK σ a4 = 20 ∧ vp_in v1 (zL σ a4) ∧ zK σ a2 = 20 ∧ vp_in (zAi σ a4 (ix v1)) (zL σ a2) ∧ Q (zAi σ a2 (ix (zAi σ a4 (ix v1)))) σ
def wX6_placesOf (v0 : Nat) (v1 : Int32) (σ : St) (Q : Int32 → St → Prop) : Prop := wX6_placesOf_0 Q v0 v1 σ
set_option maxRecDepth 20000 in
theorem kwX6_placesOf_0 {Γ : hCT} (C : hC Γ RX6 cX6_placesOf ((Option.some FieldType.int)) "placesOf" 0 0) {Q : Int32 → St → Prop} (hΓ : Γ.2.2.2.2.2.2.2.2.2.2.2 = (2, 0, 0, oI Q)) (v0 : Nat) (v1 : Int32) (σ : St) (hb : wX6_placesOf_0 Q v0 v1 σ) : hW Γ 0 0 0 [(0, .ref v0), (1, .int v1)] [] σ := by
  unfold wX6_placesOf_0 at hb
  refine g_aload_n (some v0) C dX6_placesOf_0 0 rfl ?_
  obtain ⟨q1, hb⟩ := hb
  obtain ⟨a2, q3, hb⟩ := hb
  refine g_getR (some a2) C fl_RX6_9 dX6_placesOf_1 q1 rfl rfl q3 ?_
  refine g_aload_n (some v0) C dX6_placesOf_4 0 rfl ?_
  obtain ⟨a4, q5, hb⟩ := hb
  refine g_getR (some a4) C fl_RX6_15 dX6_placesOf_5 q1 rfl rfl q5 ?_
  refine g_iload_n C dX6_placesOf_8 1 rfl ?_
  obtain ⟨q6, hb⟩ := hb
  obtain ⟨q7, hb⟩ := hb
  refine g_ialdx (zAi σ a4 (ix v1)) C dX6_placesOf_9 q6 q7 rfl ?_
  obtain ⟨q8, hb⟩ := hb
  obtain ⟨q9, hb⟩ := hb
  refine g_ialdx (zAi σ a2 (ix (zAi σ a4 (ix v1)))) C dX6_placesOf_10 q8 q9 rfl ?_
  exact g_ireturn C hΓ (Nat.zero_le _) (Nat.zero_le _) dX6_placesOf_11 ⟨_, rfl, hb⟩
theorem okX6_placesOf {v0 : Nat} {v1 : Int32} {σ : St} {Q : Int32 → St → Prop} (hb : wX6_placesOf v0 v1 σ Q) : hM yX6_placesOf cX6_placesOf 2 ((Option.some FieldType.int)) 0 0 0 0 [.ref v0, .int v1] σ (oI Q) :=
  hM_of (by decide) (Nat.le_of_ble_eq_true rfl) (fun Γ hΓ C => kwX6_placesOf_0 C hΓ _ _ _ hb)
def wX6_cell_0 (Q : Int32 → St → Prop) (v0 : Nat) (v1 : Int32) (v2 : Int32) (σ : St) : Prop :=
  zK σ v0 = 7 ∧ ∃ a2 : Nat, zFr σ 387 v0 = some a2 ∧ zK σ a2 = 20 ∧ vp_in ((v1 * 4) + v2) (zL σ a2) ∧ Q (zAi σ a2 (ix ((v1 * 4) + v2))) σ
def wX6_cell (v0 : Nat) (v1 : Int32) (v2 : Int32) (σ : St) (Q : Int32 → St → Prop) : Prop := wX6_cell_0 Q v0 v1 v2 σ
set_option maxRecDepth 20000 in
theorem kwX6_cell_0 {Γ : hCT} (C : hC Γ RX6 cX6_cell ((Option.some FieldType.int)) "cell" 0 0) {Q : Int32 → St → Prop} (hΓ : Γ.2.2.2.2.2.2.2.2.2.2.2 = (3, 0, 0, oI Q)) (v0 : Nat) (v1 : Int32) (v2 : Int32) (σ : St) (hb : wX6_cell_0 Q v0 v1 v2 σ) : hW Γ 0 0 0 [(0, .ref v0), (1, .int v1), (2, .int v2)] [] σ := by
  unfold wX6_cell_0 at hb
  refine g_aload_n (some v0) C dX6_cell_0 0 rfl ?_
  obtain ⟨q1, hb⟩ := hb
  obtain ⟨a2, q3, hb⟩ := hb
  refine g_getR (some a2) C fl_RX6_18 dX6_cell_1 q1 rfl rfl q3 ?_
  refine g_iload_n C dX6_cell_4 1 rfl ?_
  refine g_iconst (v := 4) C dX6_cell_5 (by decide) ?_
  refine g_imul C dX6_cell_6 ?_
  refine g_iload_n C dX6_cell_7 2 rfl ?_
  refine g_iadd C dX6_cell_8 ?_
  obtain ⟨q4, hb⟩ := hb
  obtain ⟨q5, hb⟩ := hb
  refine g_ialdx (zAi σ a2 (ix ((v1 * 4) + v2))) C dX6_cell_9 q4 q5 rfl ?_
  exact g_ireturn C hΓ (Nat.zero_le _) (Nat.zero_le _) dX6_cell_10 ⟨_, rfl, hb⟩
theorem okX6_cell {v0 : Nat} {v1 : Int32} {v2 : Int32} {σ : St} {Q : Int32 → St → Prop} (hb : wX6_cell v0 v1 v2 σ Q) : hM yX6_cell cX6_cell 3 ((Option.some FieldType.int)) 0 0 0 0 [.ref v0, .int v1, .int v2] σ (oI Q) :=
  hM_of (by decide) (Nat.le_of_ble_eq_true rfl) (fun Γ hΓ C => kwX6_cell_0 C hΓ _ _ _ _ hb)
def wX11_told_0 (Q : Int64 → St → Prop) (v0 : Nat) (v1 : Int32) (v2 : Int32) (σ : St) : Prop :=
  zK σ v0 = 12 ∧ ∃ a2 : Nat, zFr σ 704 v0 = some a2 ∧ zK σ a2 = 7 ∧ wX6_isFact a2 v1 σ (fun y6 σ5 => ((y6 = 0 → Q (-1) σ5) ∧ (¬ y6 = 0 → ((0 ≤ v2 → (((4 : Int32) ≤ v2 → zK σ5 v0 = 12 ∧ ∃ a8 : Nat, zFr σ5 704 v0 = some a8 ∧ zK σ5 a8 = 7 ∧ wX6_placesOf a8 v1 σ5 (fun y12 σ11 => ((v2 = 4 → zK σ11 v0 = 12 ∧ ∃ a14 : Nat, zFr σ11 704 v0 = some a14 ∧ zK σ11 a14 = 7 ∧ wX6_isDropped a14 v1 σ11 (fun y18 σ17 => ((y18 = 0 → Q 0 σ17) ∧ (¬ y18 = 0 → Q 1 σ17)))) ∧ (v2 = 5 → zK σ11 v0 = 12 ∧ ∃ a21 : Nat, zFr σ11 704 v0 = some a21 ∧ zK σ11 a21 = 7 ∧ ∃ a24 : Nat, zFr σ11 386 a21 = some a24 ∧ zK σ11 a24 = 20 ∧ vp_in v1 (zL σ11 a24) ∧ Q (Int32.toInt64 (zAi σ11 a24 (ix v1))) σ11) ∧ (v2 = 6 → Q (Int32.toInt64 y12) σ11) ∧ (¬ v2 = 4 → ¬ v2 = 5 → ¬ v2 = 6 → ((y12 ≤ (v2 - 7) → Q (-1) σ11) ∧ (¬ y12 ≤ (v2 - 7) → zK σ11 v0 = 12 ∧ ∃ a31 : Nat, zFr σ11 704 v0 = some a31 ∧ zK σ11 a31 = 7 ∧ wX6_cell a31 v1 (v2 - 7) σ11 (fun y35 σ34 => Q (Int32.toInt64 y35) σ34))))))) ∧ (¬ (4 : Int32) ≤ v2 → zK σ5 v0 = 12 ∧ ∃ a37 : Nat, zFr σ5 704 v0 = some a37 ∧ zK σ5 a37 = 7 ∧ wX6_weight a37 v1 v2 σ5 (fun y41 σ40 => Q y41 σ40)))) ∧ (¬ 0 ≤ v2 → Q (-1) σ5)))))
def wX11_told (v0 : Nat) (v1 : Int32) (v2 : Int32) (σ : St) (Q : Int64 → St → Prop) : Prop := wX11_told_0 Q v0 v1 v2 σ
set_option maxRecDepth 20000 in
theorem kwX11_told_0 {Γ : hCT} (C : hC Γ RX11 cX11_told ((Option.some FieldType.long)) "told" 2 43) {Q : Int64 → St → Prop} (hΓ : Γ.2.2.2.2.2.2.2.2.2.2.2 = (4, 0, 0, oJ Q)) (v0 : Nat) (v1 : Int32) (v2 : Int32) (σ : St) (hb : wX11_told_0 Q v0 v1 v2 σ) : hW Γ 0 0 0 [(0, .ref v0), (1, .int v1), (2, .int v2)] [] σ := by
  unfold wX11_told_0 at hb
  refine g_aload_n (some v0) C dX11_told_0 0 rfl ?_
  obtain ⟨q1, hb⟩ := hb
  obtain ⟨a2, q3, hb⟩ := hb
  refine g_getR (some a2) C fl_RX11_12 dX11_told_1 q1 rfl rfl q3 ?_
  refine g_iload_n C dX11_told_4 1 rfl ?_
  obtain ⟨q4, hb⟩ := hb
  refine g_invV (ci := 6) [.int v1] [] zy_X6_isFact wd_433 wd_434 wd_435 ⟨_, _, rfl⟩ (by decide) C dX11_told_5 (by first | exact Nat.le_of_ble_eq_true rfl | simp [cat_rf]) (by first | exact Nat.le_of_ble_eq_true rfl | simp [cat_rf]) (by first | exact Nat.le_of_ble_eq_true rfl | simp [cat_rf]) (Nat.zero_le _) (Nat.zero_le _) rfl rfl q4 (okX6_isFact hb) ?_
  rintro o σ5 ⟨y6, rfl, hb⟩
  refine ⟨_, rfl, ?_⟩
  refine g_if_eq (tgt := 15) C dX11_told_8 (by decide) (fun c => ?_) (fun c => ?_)
  ·
    replace hb := hb.1 (c)
    refine g_ldc2 C wd_463 dX11_told_15 ?_
    exact g_lreturn C hΓ (Nat.zero_le _) (Nat.zero_le _) dX11_told_18 ⟨_, rfl, hb⟩
  ·
    replace hb := hb.2 (c)
    refine g_iload_n C dX11_told_11 2 rfl ?_
    refine g_if_ge (tgt := 19) C dX11_told_12 (by decide) (fun c => ?_) (fun c => ?_)
    ·
      replace hb := hb.1 (c)
      refine g_iload_n C dX11_told_19 2 rfl ?_
      refine g_iconst (v := 4) C dX11_told_20 (by decide) ?_
      refine g_icmp_ge (tgt := 34) C dX11_told_21 (by decide) (fun c => ?_) (fun c => ?_)
      ·
        replace hb := hb.1 (c)
        refine g_aload_n (some v0) C dX11_told_34 0 rfl ?_
        obtain ⟨q7, hb⟩ := hb
        obtain ⟨a8, q9, hb⟩ := hb
        refine g_getR (some a8) C fl_RX11_12 dX11_told_35 q7 rfl rfl q9 ?_
        refine g_iload_n C dX11_told_38 1 rfl ?_
        obtain ⟨q10, hb⟩ := hb
        refine g_invV (ci := 6) [.int v1] [] zy_X6_placesOf wd_464 wd_465 wd_466 ⟨_, _, rfl⟩ (by decide) C dX11_told_39 (by first | exact Nat.le_of_ble_eq_true rfl | simp [cat_rf]) (by first | exact Nat.le_of_ble_eq_true rfl | simp [cat_rf]) (by first | exact Nat.le_of_ble_eq_true rfl | simp [cat_rf]) (Nat.zero_le _) (Nat.zero_le _) rfl rfl q10 (okX6_placesOf hb) ?_
        rintro o σ11 ⟨y12, rfl, hb⟩
        refine ⟨_, rfl, ?_⟩
        refine g_istore_n (i := 3) (lv' := [(3, .int y12), (0, .ref v0), (1, .int v1), (2, .int v2)]) C dX11_told_42 rfl (hnl_of hΓ (by decide)) (by first | rfl | simp [cat_rf]) ?_
        refine g_iload_n C dX11_told_43 3 rfl ?_
        by_cases c19 : v2 = 4
        ·
          replace hb := hb.1 c19
          refine g_tabIn (tgt := 72) (off := 28) C dX11_told_44 (by rw [c19]; decide) (by rw [c19]; decide) (by rw [c19]; rfl) (by decide) ?_
          refine g_aload_n (some v0) C dX11_told_72 1 rfl ?_
          obtain ⟨q13, hb⟩ := hb
          obtain ⟨a14, q15, hb⟩ := hb
          refine g_getR (some a14) C fl_RX11_12 dX11_told_73 q13 rfl rfl q15 ?_
          refine g_iload_n C dX11_told_76 2 rfl ?_
          obtain ⟨q16, hb⟩ := hb
          refine g_invV (ci := 6) [.int v1] [] zy_X6_isDropped wd_437 wd_438 wd_439 ⟨_, _, rfl⟩ (by decide) C dX11_told_77 (by first | exact Nat.le_of_ble_eq_true rfl | simp [cat_rf]) (by first | exact Nat.le_of_ble_eq_true rfl | simp [cat_rf]) (by first | exact Nat.le_of_ble_eq_true rfl | simp [cat_rf]) (Nat.zero_le _) (Nat.zero_le _) rfl rfl q16 (okX6_isDropped hb) ?_
          rintro o σ17 ⟨y18, rfl, hb⟩
          refine ⟨_, rfl, ?_⟩
          refine g_if_eq (tgt := 87) C dX11_told_80 (by decide) (fun c => ?_) (fun c => ?_)
          ·
            replace hb := hb.1 (c)
            refine g_lconst (v := 0) C dX11_told_87 (by decide) ?_
            exact g_lreturn C hΓ (Nat.zero_le _) (Nat.zero_le _) dX11_told_88 ⟨_, rfl, hb⟩
          ·
            replace hb := hb.2 (c)
            refine g_lconst (v := 1) C dX11_told_83 (by decide) ?_
            refine g_goto (tgt := 88) C dX11_told_84 (by decide) ?_
            exact g_lreturn C hΓ (Nat.zero_le _) (Nat.zero_le _) dX11_told_88 ⟨_, rfl, hb⟩
        ·
          by_cases c28 : v2 = 5
          ·
            replace hb := hb.2.1 c28
            refine g_tabIn (tgt := 89) (off := 45) C dX11_told_44 (by rw [c28]; decide) (by rw [c28]; decide) (by rw [c28]; rfl) (by decide) ?_
            refine g_aload_n (some v0) C dX11_told_89 1 rfl ?_
            obtain ⟨q20, hb⟩ := hb
            obtain ⟨a21, q22, hb⟩ := hb
            refine g_getR (some a21) C fl_RX11_12 dX11_told_90 q20 rfl rfl q22 ?_
            obtain ⟨q23, hb⟩ := hb
            obtain ⟨a24, q25, hb⟩ := hb
            refine g_getR (some a24) C fl_RX11_128 dX11_told_93 q23 rfl rfl q25 ?_
            refine g_iload_n C dX11_told_96 2 rfl ?_
            obtain ⟨q26, hb⟩ := hb
            obtain ⟨q27, hb⟩ := hb
            refine g_ialdx (zAi σ11 a24 (ix v1)) C dX11_told_97 q26 q27 rfl ?_
            refine g_i2l C dX11_told_98 ?_
            exact g_lreturn C hΓ (Nat.zero_le _) (Nat.zero_le _) dX11_told_99 ⟨_, rfl, hb⟩
          ·
            by_cases c29 : v2 = 6
            ·
              replace hb := hb.2.2.1 c29
              refine g_tabIn (tgt := 100) (off := 56) C dX11_told_44 (by rw [c29]; decide) (by rw [c29]; decide) (by rw [c29]; rfl) (by decide) ?_
              refine g_iload_n C dX11_told_100 0 rfl ?_
              refine g_i2l C dX11_told_101 ?_
              exact g_lreturn C hΓ (Nat.zero_le _) (Nat.zero_le _) dX11_told_102 ⟨_, rfl, hb⟩
            ·
              replace hb := hb.2.2.2 c19 c28 c29
              have hz : Int32.toInt v2 < 4 ∨ 6 < Int32.toInt v2 := by
                have h_c19 := i32_ne c19
                have h_c28 := i32_ne c28
                have h_c29 := i32_ne c29
                rw [show Int32.toInt 4 = 4 from rfl] at h_c19; rw [show Int32.toInt 5 = 5 from rfl] at h_c28; rw [show Int32.toInt 6 = 6 from rfl] at h_c29
                omega
              refine g_tabOut (tgt := 103) C dX11_told_44 hz (by decide) ?_
              refine g_iload_n C dX11_told_103 3 rfl ?_
              refine g_bipush (v := 7) C dX11_told_104 (by decide) ?_
              refine g_isub C dX11_told_106 ?_
              refine g_iload_n C dX11_told_107 0 rfl ?_
              refine g_icmp_ge (tgt := 127) C dX11_told_108 (by decide) (fun c => ?_) (fun c => ?_)
              ·
                replace hb := hb.1 (c)
                refine g_ldc2 C wd_463 dX11_told_127 ?_
                exact g_lreturn C hΓ (Nat.zero_le _) (Nat.zero_le _) dX11_told_130 ⟨_, rfl, hb⟩
              ·
                replace hb := hb.2 (c)
                refine g_aload_n (some v0) C dX11_told_111 1 rfl ?_
                obtain ⟨q30, hb⟩ := hb
                obtain ⟨a31, q32, hb⟩ := hb
                refine g_getR (some a31) C fl_RX11_12 dX11_told_112 q30 rfl rfl q32 ?_
                refine g_iload_n C dX11_told_115 2 rfl ?_
                refine g_iload_n C dX11_told_116 3 rfl ?_
                refine g_bipush (v := 7) C dX11_told_117 (by decide) ?_
                refine g_isub C dX11_told_119 ?_
                obtain ⟨q33, hb⟩ := hb
                refine g_invV (ci := 6) [.int v1, .int (v2 - 7)] [] zy_X6_cell wd_468 wd_469 wd_470 ⟨_, _, rfl⟩ (by decide) C dX11_told_120 (by first | exact Nat.le_of_ble_eq_true rfl | simp [cat_rf]) (by first | exact Nat.le_of_ble_eq_true rfl | simp [cat_rf]) (by first | exact Nat.le_of_ble_eq_true rfl | simp [cat_rf]) (Nat.zero_le _) (Nat.zero_le _) rfl rfl q33 (okX6_cell hb) ?_
                rintro o σ34 ⟨y35, rfl, hb⟩
                refine ⟨_, rfl, ?_⟩
                refine g_i2l C dX11_told_123 ?_
                refine g_goto (tgt := 130) C dX11_told_124 (by decide) ?_
                exact g_lreturn C hΓ (Nat.zero_le _) (Nat.zero_le _) dX11_told_130 ⟨_, rfl, hb⟩
      ·
        replace hb := hb.2 (c)
        refine g_aload_n (some v0) C dX11_told_24 0 rfl ?_
        obtain ⟨q36, hb⟩ := hb
        obtain ⟨a37, q38, hb⟩ := hb
        refine g_getR (some a37) C fl_RX11_12 dX11_told_25 q36 rfl rfl q38 ?_
        refine g_iload_n C dX11_told_28 1 rfl ?_
        refine g_iload_n C dX11_told_29 2 rfl ?_
        obtain ⟨q39, hb⟩ := hb
        refine g_invV (ci := 6) [.int v1, .int v2] [] zy_X6_weight wd_451 wd_452 wd_453 ⟨_, _, rfl⟩ (by decide) C dX11_told_30 (by first | exact Nat.le_of_ble_eq_true rfl | simp [cat_rf]) (by first | exact Nat.le_of_ble_eq_true rfl | simp [cat_rf]) (by first | exact Nat.le_of_ble_eq_true rfl | simp [cat_rf]) (Nat.zero_le _) (Nat.zero_le _) rfl rfl q39 (okX6_weight hb) ?_
        rintro o σ40 ⟨y41, rfl, hb⟩
        refine ⟨_, rfl, ?_⟩
        exact g_lreturn C hΓ (Nat.zero_le _) (Nat.zero_le _) dX11_told_33 ⟨_, rfl, hb⟩
    ·
      replace hb := hb.2 (c)
      refine g_ldc2 C wd_463 dX11_told_15 ?_
      exact g_lreturn C hΓ (Nat.zero_le _) (Nat.zero_le _) dX11_told_18 ⟨_, rfl, hb⟩
theorem okX11_told {v0 : Nat} {v1 : Int32} {v2 : Int32} {σ : St} {Q : Int64 → St → Prop} (hb : wX11_told v0 v1 v2 σ Q) : hM yX11_told cX11_told 4 ((Option.some FieldType.long)) 2 43 0 0 [.ref v0, .int v1, .int v2] σ (oJ Q) :=
  hM_of (by decide) (Nat.le_of_ble_eq_true rfl) (fun Γ hΓ C => kwX11_told_0 C hΓ _ _ _ _ hb)
def wX9_init_0 (mc ms : Nat) (Q : St → Prop) (k n : Nat) (v0 : Nat) (v1 : Int32) (v2 : Int32) (v3 : Int32) (v4 : Int32) (v5 : Int32) (σ : St) : Prop :=
  k + 1 ≤ mc ∧ n + 4 ≤ ms ∧ ∀ b3 : Nat, zK σ b3 = 0 → zK (nA σ b3 20 4) v0 = 10 ∧ (v5 = 0 ∨ v5 = 1) ∧ k + 1 ≤ mc ∧ n + 4 ≤ ms ∧ Q (uFi (uFi (uFi (uFi (uFi (uFr (nA σ b3 20 4) 581 v0 (some b3)) 576 v0 v1) 577 v0 v2) 578 v0 v3) 579 v0 v4) 580 v0 v5)
def wX9_init (mc ms : Nat) (v0 : Nat) (v1 : Int32) (v2 : Int32) (v3 : Int32) (v4 : Int32) (v5 : Int32) (σ : St) (Q : St → Prop) : Prop := wX9_init_0 mc ms Q 0 0 v0 v1 v2 v3 v4 v5 σ
set_option maxRecDepth 20000 in
theorem kwX9_init_0 {Γ : hCT} {mc ms : Nat} (C : hC Γ RX9 cX9_init ((Option.none : Option Jvm.ClassFile.FieldType)) "<init>" 1 12) {Q : St → Prop} (hΓ : Γ.2.2.2.2.2.2.2.2.2.2.2 = (6, mc, ms, oV Q)) (k n : Nat) (v0 : Nat) (v1 : Int32) (v2 : Int32) (v3 : Int32) (v4 : Int32) (v5 : Int32) (σ : St) (hb : wX9_init_0 mc ms Q k n v0 v1 v2 v3 v4 v5 σ) : hW Γ k n 0 [(0, .ref v0), (1, .int v1), (2, .int v2), (3, .int v3), (4, .int v4), (5, .int v5)] [] σ := by
  unfold wX9_init_0 at hb
  refine g_aload_n (some v0) C dX9_init_0 0 rfl ?_
  refine g_objInit wd_480 wd_101 wd_102 C dX9_init_1 (by first | exact Nat.le_of_ble_eq_true rfl | simp [cat_rf]) (by first | exact Nat.le_of_ble_eq_true rfl | simp [cat_rf]) ?_
  refine g_aload_n (some v0) C dX9_init_4 0 rfl ?_
  refine g_iconst (v := 4) C dX9_init_5 (by decide) ?_
  obtain ⟨q1, q2, hb⟩ := hb
  refine g_newa (N := 4) at_int C dX9_init_6 (by decide) (by decide) (by decide) (by rw [hmc_of hΓ]; exact q1) (by rw [hms_of hΓ]; exact q2) (fun b3 q4 => ?_)
  replace hb := hb b3 q4
  obtain ⟨q5, hb⟩ := hb
  refine g_putFR (some b3) C fo_RX9_7 dX9_init_8 q5 rfl rfl rfl rfl ?_
  refine g_aload_n (some v0) C dX9_init_11 0 rfl ?_
  refine g_iload_n C dX9_init_12 1 rfl ?_
  refine g_putFI C fo_RX9_13 dX9_init_13 (by rw [zK_uFr]; exact q5) rfl rfl rfl rfl ?_
  refine g_aload_n (some v0) C dX9_init_16 0 rfl ?_
  refine g_iload_n C dX9_init_17 2 rfl ?_
  refine g_putFI C fo_RX9_17 dX9_init_18 (by rw [zK_uFi, zK_uFr]; exact q5) rfl rfl rfl rfl ?_
  refine g_aload_n (some v0) C dX9_init_21 0 rfl ?_
  refine g_iload_n C dX9_init_22 3 rfl ?_
  refine g_putFI C fo_RX9_20 dX9_init_23 (by rw [zK_uFi, zK_uFi, zK_uFr]; exact q5) rfl rfl rfl rfl ?_
  refine g_aload_n (some v0) C dX9_init_26 0 rfl ?_
  refine g_iload C dX9_init_27 4 rfl ?_
  refine g_putFI C fo_RX9_23 dX9_init_29 (by rw [zK_uFi, zK_uFi, zK_uFi, zK_uFr]; exact q5) rfl rfl rfl rfl ?_
  refine g_aload_n (some v0) C dX9_init_32 0 rfl ?_
  refine g_iload C dX9_init_33 5 rfl ?_
  obtain ⟨q6, hb⟩ := hb
  refine g_putFI C fo_RX9_26 dX9_init_35 (by rw [zK_uFi, zK_uFi, zK_uFi, zK_uFi, zK_uFr]; exact q5) rfl rfl (nz_n q6) (nz_f q6) ?_
  obtain ⟨q7, q8, hb⟩ := hb
  exact g_vreturn C hΓ q7 q8 dX9_init_38 ⟨rfl, hb⟩
theorem okX9_init {mc ms : Nat} {v0 : Nat} {v1 : Int32} {v2 : Int32} {v3 : Int32} {v4 : Int32} {v5 : Int32} {σ : St} {Q : St → Prop} (hb : wX9_init mc ms v0 v1 v2 v3 v4 v5 σ Q) : hM yX9_init cX9_init 6 ((Option.none : Option Jvm.ClassFile.FieldType)) 1 12 mc ms [.ref v0, .int v1, .int v2, .int v3, .int v4, .int v5] σ (oV Q) :=
  hM_of (by decide) (Nat.le_of_ble_eq_true rfl) (fun Γ hΓ C => kwX9_init_0 (mc := mc) (ms := ms) C hΓ 0 0 _ _ _ _ _ _ _ hb)
def wX11_asked_0 (mc ms : Nat) (Q : Int32 → St → Prop) (k n : Nat) (v0 : Nat) (v1 : Nat) (σ : St) : Prop :=
  zK σ v0 = 12 ∧ (((zFi σ 706 v0) < (40 : Int32) → k + 1 ≤ mc ∧ n + 5 ≤ ms ∧ ∀ b4 : Nat, zK σ b4 = 0 → k + 1 ≤ mc ∧ n + 5 ≤ ms ∧ wX0_init b4 4 0 0 0 none (nO σ b4 1) (fun σ8 => k + 1 ≤ mc ∧ n + 5 ≤ ms ∧ zK σ8 v0 = 12 ∧ wX11_accepted v0 b4 σ8 (fun σ12 => zK σ12 v0 = 12 ∧ ∃ a14 : Nat, zFr σ12 705 v0 = some a14 ∧ zK σ12 a14 = 27 ∧ vp_in (zFi σ12 706 v0) (zL σ12 a14) ∧ zK σ12 v1 = 10 ∧ k + 1 ≤ mc ∧ n + 5 ≤ ms ∧ Q ((zFi (uFi (uAr σ12 a14 (ix (zFi σ12 706 v0)) (some v1)) 706 v0 ((zFi σ12 706 v0) + 1)) 706 v0) - 1) (uFi (uAr σ12 a14 (ix (zFi σ12 706 v0)) (some v1)) 706 v0 ((zFi σ12 706 v0) + 1))))) ∧ (¬ (zFi σ 706 v0) < (40 : Int32) → k ≤ mc ∧ n ≤ ms ∧ wX11_refused v0 4 σ (fun y24 σ23 => k ≤ mc ∧ n ≤ ms ∧ Q y24 σ23)))
def wX11_asked (mc ms : Nat) (v0 : Nat) (v1 : Nat) (σ : St) (Q : Int32 → St → Prop) : Prop := wX11_asked_0 mc ms Q 0 0 v0 v1 σ
set_option maxRecDepth 20000 in
theorem kwX11_asked_0 {Γ : hCT} {mc ms : Nat} (C : hC Γ RX11 cX11_asked ((Option.some FieldType.int)) "asked" 3 82) {Q : Int32 → St → Prop} (hΓ : Γ.2.2.2.2.2.2.2.2.2.2.2 = (2, mc, ms, oI Q)) (k n : Nat) (v0 : Nat) (v1 : Nat) (σ : St) (hb : wX11_asked_0 mc ms Q k n v0 v1 σ) : hW Γ k n 0 [(0, .ref v0), (1, .ref v1)] [] σ := by
  unfold wX11_asked_0 at hb
  refine g_aload_n (some v0) C dX11_asked_0 0 rfl ?_
  obtain ⟨q1, hb⟩ := hb
  refine g_getIx (zFi σ 706 v0) C fl_RX11_315 dX11_asked_1 q1 rfl rfl rfl ?_
  refine g_bipush (v := 40) C dX11_asked_4 (by decide) ?_
  refine g_icmp_lt (tgt := 15) C dX11_asked_6 (by decide) (fun c => ?_) (fun c => ?_)
  ·
    replace hb := hb.1 (c)
    refine g_aload_n (some v0) C dX11_asked_15 0 rfl ?_
    obtain ⟨q2, q3, hb⟩ := hb
    refine g_new zc_0 zd_0 ⟨_, rfl⟩ wd_365 wd_366 wd_86 C dX11_asked_16 (by rw [hmc_of hΓ]; exact q2) (by rw [hms_of hΓ]; exact q3) (fun b4 q5 => ?_)
    replace hb := hb b4 q5
    refine g_dup C dX11_asked_19 rfl ?_
    refine g_iconst (v := 4) C dX11_asked_20 (by decide) ?_
    refine g_iconst (v := 0) C dX11_asked_21 (by decide) ?_
    refine g_iconst (v := 0) C dX11_asked_22 (by decide) ?_
    refine g_lconst (v := 0) C dX11_asked_23 (by decide) ?_
    refine g_null C dX11_asked_24 ?_
    obtain ⟨q6, q7, hb⟩ := hb
    refine g_invI [.int 4, .int 0, .int 0, .long 0, va_rf none] [.ref b4, .ref v0] zy_X0_init wd_367 wd_368 rfl C dX11_asked_25 (by first | exact Nat.le_of_ble_eq_true rfl | simp [cat_rf]) (by first | exact Nat.le_of_ble_eq_true rfl | simp [cat_rf]) (by first | exact Nat.le_of_ble_eq_true rfl | simp [cat_rf]) (by rw [hmc_of hΓ]; exact q6) (by rw [hms_of hΓ]; exact q7) rfl rfl  (okX0_init hb) ?_
    rintro o σ8 ⟨rfl, hb⟩
    refine ⟨_, rfl, ?_⟩
    obtain ⟨q9, q10, hb⟩ := hb
    obtain ⟨q11, hb⟩ := hb
    refine g_invV (ci := 11) [.ref b4] [] zy_X11_accepted wd_392 wd_394 wd_1 ⟨_, _, rfl⟩ (by decide) C dX11_asked_28 (by first | exact Nat.le_of_ble_eq_true rfl | simp [cat_rf]) (by first | exact Nat.le_of_ble_eq_true rfl | simp [cat_rf]) (by first | exact Nat.le_of_ble_eq_true rfl | simp [cat_rf]) (by rw [hmc_of hΓ]; exact q9) (by rw [hms_of hΓ]; exact q10) rfl rfl q11 (okX11_accepted hb) ?_
    rintro o σ12 ⟨rfl, hb⟩
    refine ⟨_, rfl, ?_⟩
    refine g_aload_n (some v0) C dX11_asked_31 0 rfl ?_
    obtain ⟨q13, hb⟩ := hb
    obtain ⟨a14, q15, hb⟩ := hb
    refine g_getR (some a14) C fl_RX11_18 dX11_asked_32 q13 rfl rfl q15 ?_
    refine g_aload_n (some v0) C dX11_asked_35 0 rfl ?_
    refine g_getIx (zFi σ12 706 v0) C fl_RX11_315 dX11_asked_36 q13 rfl rfl rfl ?_
    refine g_aload_n (some v1) C dX11_asked_39 1 rfl ?_
    obtain ⟨q16, hb⟩ := hb
    obtain ⟨q17, hb⟩ := hb
    obtain ⟨q18, hb⟩ := hb
    refine g_aast (some v1) el_27 C dX11_asked_40 q16 q17 (fun _ hv => by cases hv; exact q18) ?_
    refine g_aload_n (some v0) C dX11_asked_41 0 rfl ?_
    refine g_dup C dX11_asked_42 rfl ?_
    refine g_getIx (zFi σ12 706 v0) C fl_RX11_315 dX11_asked_43 (by rw [zK_uAr]; exact q13) rfl rfl (by rw [zFi_uAr]) ?_
    refine g_iconst (v := 1) C dX11_asked_46 (by decide) ?_
    refine g_iadd C dX11_asked_47 ?_
    refine g_putI C fl_RX11_315 dX11_asked_48 (by rw [zK_uAr]; exact q13) rfl rfl rfl rfl ?_
    refine g_aload_n (some v0) C dX11_asked_51 0 rfl ?_
    refine g_getIx (zFi (uFi (uAr σ12 a14 (ix (zFi σ12 706 v0)) (some v1)) 706 v0 ((zFi σ12 706 v0) + 1)) 706 v0) C fl_RX11_315 dX11_asked_52 (by rw [zK_uFi, zK_uAr]; exact q13) rfl rfl rfl ?_
    refine g_iconst (v := 1) C dX11_asked_55 (by decide) ?_
    refine g_isub C dX11_asked_56 ?_
    obtain ⟨q19, q20, hb⟩ := hb
    exact g_ireturn C hΓ q19 q20 dX11_asked_57 ⟨_, rfl, hb⟩
  ·
    replace hb := hb.2 (c)
    refine g_aload_n (some v0) C dX11_asked_9 0 rfl ?_
    refine g_iconst (v := 4) C dX11_asked_10 (by decide) ?_
    obtain ⟨q21, q22, hb⟩ := hb
    refine g_invV (ci := 11) [.int 4] [] zy_X11_refused wd_361 wd_363 wd_0 ⟨_, _, rfl⟩ (by decide) C dX11_asked_11 (by first | exact Nat.le_of_ble_eq_true rfl | simp [cat_rf]) (by first | exact Nat.le_of_ble_eq_true rfl | simp [cat_rf]) (by first | exact Nat.le_of_ble_eq_true rfl | simp [cat_rf]) (by rw [hmc_of hΓ]; exact q21) (by rw [hms_of hΓ]; exact q22) rfl rfl q1 (okX11_refused hb) ?_
    rintro o σ23 ⟨y24, rfl, hb⟩
    refine ⟨_, rfl, ?_⟩
    obtain ⟨q25, q26, hb⟩ := hb
    exact g_ireturn C hΓ q25 q26 dX11_asked_14 ⟨_, rfl, hb⟩
theorem okX11_asked {mc ms : Nat} {v0 : Nat} {v1 : Nat} {σ : St} {Q : Int32 → St → Prop} (hb : wX11_asked mc ms v0 v1 σ Q) : hM yX11_asked cX11_asked 2 ((Option.some FieldType.int)) 3 82 mc ms [.ref v0, .ref v1] σ (oI Q) :=
  hM_of (by decide) (Nat.le_of_ble_eq_true rfl) (fun Γ hΓ C => kwX11_asked_0 (mc := mc) (ms := ms) C hΓ 0 0 _ _ _ hb)
def wX11_base_0 (mc ms : Nat) (Q : Int32 → St → Prop) (k n : Nat) (v0 : Nat) (v1 : Int32) (σ : St) : Prop :=
  zK σ v0 = 12 ∧ ∃ a2 : Nat, zFr σ 704 v0 = some a2 ∧ k ≤ mc ∧ n ≤ ms ∧ zK σ a2 = 7 ∧ wX6_isTable a2 v1 σ (fun y8 σ7 => ((¬ y8 = 0 → k + 1 ≤ mc ∧ n + 6 ≤ ms ∧ ∀ b11 : Nat, zK σ7 b11 = 0 → zK (nO σ7 b11 10) v0 = 12 ∧ ∃ a14 : Nat, zFr (nO σ7 b11 10) 704 v0 = some a14 ∧ zK (nO σ7 b11 10) a14 = 7 ∧ ∃ a17 : Nat, zFr (nO σ7 b11 10) 384 a14 = some a17 ∧ zK (nO σ7 b11 10) a17 = 20 ∧ vp_in v1 (zL (nO σ7 b11 10) a17) ∧ ∃ m21 m22 : Nat, k + 1 + m21 ≤ mc ∧ n + 6 + m22 ≤ ms ∧ wX9_init m21 m22 b11 0 (zAi (nO σ7 b11 10) a17 (ix v1)) v1 (-1) 0 (nO σ7 b11 10) (fun σ25 => ∃ m26 m27 : Nat, k + 1 + m21 + m26 ≤ mc ∧ n + 6 + m22 + m27 ≤ ms ∧ zK σ25 v0 = 12 ∧ wX11_asked m26 m27 v0 b11 σ25 (fun y32 σ31 => k + 1 + m21 + m26 ≤ mc ∧ n + 6 + m22 + m27 ≤ ms ∧ Q y32 σ31))) ∧ (y8 = 0 → k ≤ mc ∧ n ≤ ms ∧ zK σ7 v0 = 12 ∧ wX11_refused v0 1 σ7 (fun y39 σ38 => k ≤ mc ∧ n ≤ ms ∧ Q y39 σ38))))
def wX11_base (mc ms : Nat) (v0 : Nat) (v1 : Int32) (σ : St) (Q : Int32 → St → Prop) : Prop := wX11_base_0 mc ms Q 0 0 v0 v1 σ
set_option maxRecDepth 20000 in
theorem kwX11_base_0 {Γ : hCT} {mc ms : Nat} (C : hC Γ RX11 cX11_base ((Option.some FieldType.int)) "base" 4 103) {Q : Int32 → St → Prop} (hΓ : Γ.2.2.2.2.2.2.2.2.2.2.2 = (2, mc, ms, oI Q)) (k n : Nat) (v0 : Nat) (v1 : Int32) (σ : St) (hb : wX11_base_0 mc ms Q k n v0 v1 σ) : hW Γ k n 0 [(0, .ref v0), (1, .int v1)] [] σ := by
  unfold wX11_base_0 at hb
  refine g_aload_n (some v0) C dX11_base_0 0 rfl ?_
  obtain ⟨q1, hb⟩ := hb
  obtain ⟨a2, q3, hb⟩ := hb
  refine g_getR (some a2) C fl_RX11_12 dX11_base_1 q1 rfl rfl q3 ?_
  refine g_iload_n C dX11_base_4 1 rfl ?_
  obtain ⟨q4, q5, hb⟩ := hb
  obtain ⟨q6, hb⟩ := hb
  refine g_invV (ci := 6) [.int v1] [] zy_X6_isTable wd_411 wd_412 wd_413 ⟨_, _, rfl⟩ (by decide) C dX11_base_5 (by first | exact Nat.le_of_ble_eq_true rfl | simp [cat_rf]) (by first | exact Nat.le_of_ble_eq_true rfl | simp [cat_rf]) (by first | exact Nat.le_of_ble_eq_true rfl | simp [cat_rf]) (by rw [hmc_of hΓ]; exact q4) (by rw [hms_of hΓ]; exact q5) rfl rfl q6 (okX6_isTable hb) ?_
  rintro o σ7 ⟨y8, rfl, hb⟩
  refine ⟨_, rfl, ?_⟩
  refine g_if_ne (tgt := 17) C dX11_base_8 (by decide) (fun c => ?_) (fun c => ?_)
  ·
    replace hb := hb.1 (c)
    refine g_aload_n (some v0) C dX11_base_17 0 rfl ?_
    obtain ⟨q9, q10, hb⟩ := hb
    refine g_new zc_9 zd_9 ⟨_, rfl⟩ wd_141 wd_476 wd_91 C dX11_base_18 (by rw [hmc_of hΓ]; exact q9) (by rw [hms_of hΓ]; exact q10) (fun b11 q12 => ?_)
    replace hb := hb b11 q12
    refine g_dup C dX11_base_21 rfl ?_
    refine g_iconst (v := 0) C dX11_base_22 (by decide) ?_
    refine g_aload_n (some v0) C dX11_base_23 0 rfl ?_
    obtain ⟨q13, hb⟩ := hb
    obtain ⟨a14, q15, hb⟩ := hb
    refine g_getR (some a14) C fl_RX11_12 dX11_base_24 q13 rfl rfl q15 ?_
    obtain ⟨q16, hb⟩ := hb
    obtain ⟨a17, q18, hb⟩ := hb
    refine g_getR (some a17) C fl_RX11_136 dX11_base_27 q16 rfl rfl q18 ?_
    refine g_iload_n C dX11_base_30 1 rfl ?_
    obtain ⟨q19, hb⟩ := hb
    obtain ⟨q20, hb⟩ := hb
    refine g_ialdx (zAi (nO σ7 b11 10) a17 (ix v1)) C dX11_base_31 q19 q20 rfl ?_
    refine g_iload_n C dX11_base_32 1 rfl ?_
    refine g_iconst (v := (-1)) C dX11_base_33 (by decide) ?_
    refine g_iconst (v := 0) C dX11_base_34 (by decide) ?_
    obtain ⟨m21, m22, q23, q24, hb⟩ := hb
    refine g_invI [.int 0, .int (zAi (nO σ7 b11 10) a17 (ix v1)), .int v1, .int (-1), .int 0] [.ref b11, .ref v0] zy_X9_init wd_477 wd_478 rfl C dX11_base_35 (by first | exact Nat.le_of_ble_eq_true rfl | simp [cat_rf]) (by first | exact Nat.le_of_ble_eq_true rfl | simp [cat_rf]) (by first | exact Nat.le_of_ble_eq_true rfl | simp [cat_rf]) (by rw [hmc_of hΓ]; exact q23) (by rw [hms_of hΓ]; exact q24) rfl rfl  (okX9_init hb) ?_
    rintro o σ25 ⟨rfl, hb⟩
    refine ⟨_, rfl, ?_⟩
    obtain ⟨m26, m27, q28, q29, hb⟩ := hb
    obtain ⟨q30, hb⟩ := hb
    refine g_invV (ci := 11) [.ref b11] [] zy_X11_asked wd_510 wd_512 wd_2 ⟨_, _, rfl⟩ (by decide) C dX11_base_38 (by first | exact Nat.le_of_ble_eq_true rfl | simp [cat_rf]) (by first | exact Nat.le_of_ble_eq_true rfl | simp [cat_rf]) (by first | exact Nat.le_of_ble_eq_true rfl | simp [cat_rf]) (by rw [hmc_of hΓ]; exact q28) (by rw [hms_of hΓ]; exact q29) rfl rfl q30 (okX11_asked hb) ?_
    rintro o σ31 ⟨y32, rfl, hb⟩
    refine ⟨_, rfl, ?_⟩
    obtain ⟨q33, q34, hb⟩ := hb
    exact g_ireturn C hΓ q33 q34 dX11_base_41 ⟨_, rfl, hb⟩
  ·
    replace hb := hb.2 (c)
    refine g_aload_n (some v0) C dX11_base_11 0 rfl ?_
    refine g_iconst (v := 1) C dX11_base_12 (by decide) ?_
    obtain ⟨q35, q36, hb⟩ := hb
    obtain ⟨q37, hb⟩ := hb
    refine g_invV (ci := 11) [.int 1] [] zy_X11_refused wd_361 wd_363 wd_0 ⟨_, _, rfl⟩ (by decide) C dX11_base_13 (by first | exact Nat.le_of_ble_eq_true rfl | simp [cat_rf]) (by first | exact Nat.le_of_ble_eq_true rfl | simp [cat_rf]) (by first | exact Nat.le_of_ble_eq_true rfl | simp [cat_rf]) (by rw [hmc_of hΓ]; exact q35) (by rw [hms_of hΓ]; exact q36) rfl rfl q37 (okX11_refused hb) ?_
    rintro o σ38 ⟨y39, rfl, hb⟩
    refine ⟨_, rfl, ?_⟩
    obtain ⟨q40, q41, hb⟩ := hb
    exact g_ireturn C hΓ q40 q41 dX11_base_16 ⟨_, rfl, hb⟩
theorem okX11_base {mc ms : Nat} {v0 : Nat} {v1 : Int32} {σ : St} {Q : Int32 → St → Prop} (hb : wX11_base mc ms v0 v1 σ Q) : hM yX11_base cX11_base 2 ((Option.some FieldType.int)) 4 103 mc ms [.ref v0, .int v1] σ (oI Q) :=
  hM_of (by decide) (Nat.le_of_ble_eq_true rfl) (fun Γ hΓ C => kwX11_base_0 (mc := mc) (ms := ms) C hΓ 0 0 _ _ _ hb)
def wX11_isQuestion_0 (Q : Int32 → St → Prop) (v0 : Nat) (v1 : Int32) (σ : St) : Prop :=
  ((v1 < 0 → Q 0 σ) ∧ (¬ v1 < 0 → zK σ v0 = 12 ∧ (((zFi σ 706 v0) ≤ v1 → Q 0 σ) ∧ (¬ (zFi σ 706 v0) ≤ v1 → Q 1 σ))))
def wX11_isQuestion (v0 : Nat) (v1 : Int32) (σ : St) (Q : Int32 → St → Prop) : Prop := wX11_isQuestion_0 Q v0 v1 σ
set_option maxRecDepth 20000 in
theorem kwX11_isQuestion_0 {Γ : hCT} (C : hC Γ RX11 cX11_isQuestion ((Option.some FieldType.boolean)) "isQuestion" 0 0) {Q : Int32 → St → Prop} (hΓ : Γ.2.2.2.2.2.2.2.2.2.2.2 = (2, 0, 0, oI Q)) (v0 : Nat) (v1 : Int32) (σ : St) (hb : wX11_isQuestion_0 Q v0 v1 σ) : hW Γ 0 0 0 [(0, .ref v0), (1, .int v1)] [] σ := by
  unfold wX11_isQuestion_0 at hb
  refine g_iload_n C dX11_isQuestion_0 1 rfl ?_
  refine g_if_lt (tgt := 16) C dX11_isQuestion_1 (by decide) (fun c => ?_) (fun c => ?_)
  ·
    replace hb := hb.1 (c)
    refine g_iconst (v := 0) C dX11_isQuestion_16 (by decide) ?_
    exact g_zreturn C (by decide) hΓ (Nat.zero_le _) (Nat.zero_le _) dX11_isQuestion_17 ⟨_, rfl, hb⟩
  ·
    replace hb := hb.2 (c)
    refine g_iload_n C dX11_isQuestion_4 1 rfl ?_
    refine g_aload_n (some v0) C dX11_isQuestion_5 0 rfl ?_
    obtain ⟨q1, hb⟩ := hb
    refine g_getIx (zFi σ 706 v0) C fl_RX11_315 dX11_isQuestion_6 q1 rfl rfl rfl ?_
    refine g_icmp_ge (tgt := 16) C dX11_isQuestion_9 (by decide) (fun c => ?_) (fun c => ?_)
    ·
      replace hb := hb.1 (c)
      refine g_iconst (v := 0) C dX11_isQuestion_16 (by decide) ?_
      exact g_zreturn C (by decide) hΓ (Nat.zero_le _) (Nat.zero_le _) dX11_isQuestion_17 ⟨_, rfl, hb⟩
    ·
      replace hb := hb.2 (c)
      refine g_iconst (v := 1) C dX11_isQuestion_12 (by decide) ?_
      refine g_goto (tgt := 17) C dX11_isQuestion_13 (by decide) ?_
      exact g_zreturn C (by decide) hΓ (Nat.zero_le _) (Nat.zero_le _) dX11_isQuestion_17 ⟨_, rfl, hb⟩
theorem okX11_isQuestion {v0 : Nat} {v1 : Int32} {σ : St} {Q : Int32 → St → Prop} (hb : wX11_isQuestion v0 v1 σ Q) : hM yX11_isQuestion cX11_isQuestion 2 ((Option.some FieldType.boolean)) 0 0 0 0 [.ref v0, .int v1] σ (oI Q) :=
  hM_of (by decide) (Nat.le_of_ble_eq_true rfl) (fun Γ hΓ C => kwX11_isQuestion_0 C hΓ _ _ _ hb)
def wX11_hasPlace_0 (Q : Int32 → St → Prop) (v0 : Nat) (v1 : Int32) (v2 : Int32) (σ : St) : Prop :=
  ((v2 < 0 → Q 0 σ) ∧ (¬ v2 < 0 → zK σ v0 = 12 ∧ ∃ a2 : Nat, zFr σ 705 v0 = some a2 ∧ zK σ a2 = 27 ∧ vp_in v1 (zL σ a2) ∧ ∃ a6 : Nat, zAr σ a2 (ix v1) = some a6 ∧ zK σ a6 = 10 ∧ (((zFi σ 577 a6) ≤ v2 → Q 0 σ) ∧ (¬ (zFi σ 577 a6) ≤ v2 → Q 1 σ))))
def wX11_hasPlace (v0 : Nat) (v1 : Int32) (v2 : Int32) (σ : St) (Q : Int32 → St → Prop) : Prop := wX11_hasPlace_0 Q v0 v1 v2 σ
set_option maxRecDepth 20000 in
theorem kwX11_hasPlace_0 {Γ : hCT} (C : hC Γ RX11 cX11_hasPlace ((Option.some FieldType.boolean)) "hasPlace" 0 0) {Q : Int32 → St → Prop} (hΓ : Γ.2.2.2.2.2.2.2.2.2.2.2 = (3, 0, 0, oI Q)) (v0 : Nat) (v1 : Int32) (v2 : Int32) (σ : St) (hb : wX11_hasPlace_0 Q v0 v1 v2 σ) : hW Γ 0 0 0 [(0, .ref v0), (1, .int v1), (2, .int v2)] [] σ := by
  unfold wX11_hasPlace_0 at hb
  refine g_iload_n C dX11_hasPlace_0 2 rfl ?_
  refine g_if_lt (tgt := 21) C dX11_hasPlace_1 (by decide) (fun c => ?_) (fun c => ?_)
  ·
    replace hb := hb.1 (c)
    refine g_iconst (v := 0) C dX11_hasPlace_21 (by decide) ?_
    exact g_zreturn C (by decide) hΓ (Nat.zero_le _) (Nat.zero_le _) dX11_hasPlace_22 ⟨_, rfl, hb⟩
  ·
    replace hb := hb.2 (c)
    refine g_iload_n C dX11_hasPlace_4 2 rfl ?_
    refine g_aload_n (some v0) C dX11_hasPlace_5 0 rfl ?_
    obtain ⟨q1, hb⟩ := hb
    obtain ⟨a2, q3, hb⟩ := hb
    refine g_getR (some a2) C fl_RX11_18 dX11_hasPlace_6 q1 rfl rfl q3 ?_
    refine g_iload_n C dX11_hasPlace_9 1 rfl ?_
    obtain ⟨q4, hb⟩ := hb
    obtain ⟨q5, hb⟩ := hb
    obtain ⟨a6, q7, hb⟩ := hb
    refine g_aald (some a6) el_27 C dX11_hasPlace_10 q4 q5 q7 ?_
    obtain ⟨q8, hb⟩ := hb
    refine g_getIx (zFi σ 577 a6) C fl_RX11_153 dX11_hasPlace_11 q8 rfl rfl rfl ?_
    refine g_icmp_ge (tgt := 21) C dX11_hasPlace_14 (by decide) (fun c => ?_) (fun c => ?_)
    ·
      replace hb := hb.1 (c)
      refine g_iconst (v := 0) C dX11_hasPlace_21 (by decide) ?_
      exact g_zreturn C (by decide) hΓ (Nat.zero_le _) (Nat.zero_le _) dX11_hasPlace_22 ⟨_, rfl, hb⟩
    ·
      replace hb := hb.2 (c)
      refine g_iconst (v := 1) C dX11_hasPlace_17 (by decide) ?_
      refine g_goto (tgt := 22) C dX11_hasPlace_18 (by decide) ?_
      exact g_zreturn C (by decide) hΓ (Nat.zero_le _) (Nat.zero_le _) dX11_hasPlace_22 ⟨_, rfl, hb⟩
theorem okX11_hasPlace {v0 : Nat} {v1 : Int32} {v2 : Int32} {σ : St} {Q : Int32 → St → Prop} (hb : wX11_hasPlace v0 v1 v2 σ Q) : hM yX11_hasPlace cX11_hasPlace 3 ((Option.some FieldType.boolean)) 0 0 0 0 [.ref v0, .int v1, .int v2] σ (oI Q) :=
  hM_of (by decide) (Nat.le_of_ble_eq_true rfl) (fun Γ hΓ C => kwX11_hasPlace_0 C hΓ _ _ _ _ hb)
def wX11_oneQuestion_0 (mc ms : Nat) (Q : Nat → St → Prop) (k n : Nat) (v0 : Nat) (v1 : Int32) (v2 : Int32) (v3 : Int32) (σ : St) : Prop :=
  k + 1 ≤ mc ∧ n + 6 ≤ ms ∧ ∀ b3 : Nat, zK σ b3 = 0 → zK (nO σ b3 10) v0 = 12 ∧ ∃ a6 : Nat, zFr (nO σ b3 10) 705 v0 = some a6 ∧ zK (nO σ b3 10) a6 = 27 ∧ vp_in v2 (zL (nO σ b3 10) a6) ∧ ∃ a10 : Nat, zAr (nO σ b3 10) a6 (ix v2) = some a10 ∧ zK (nO σ b3 10) a10 = 10 ∧ ∃ m13 m14 : Nat, k + 1 + m13 ≤ mc ∧ n + 6 + m14 ≤ ms ∧ wX9_init m13 m14 b3 v1 v3 v2 (-1) (zFi (nO σ b3 10) 580 a10) (nO σ b3 10) (fun σ17 => k + 1 + m13 ≤ mc ∧ n + 6 + m14 ≤ ms ∧ Q b3 σ17)
def wX11_oneQuestion (mc ms : Nat) (v0 : Nat) (v1 : Int32) (v2 : Int32) (v3 : Int32) (σ : St) (Q : Nat → St → Prop) : Prop := wX11_oneQuestion_0 mc ms Q 0 0 v0 v1 v2 v3 σ
set_option maxRecDepth 20000 in
theorem kwX11_oneQuestion_0 {Γ : hCT} {mc ms : Nat} (C : hC Γ RX11 cX11_oneQuestion ((Option.some (FieldType.object RX9))) "oneQuestion" 2 37) {Q : Nat → St → Prop} (hΓ : Γ.2.2.2.2.2.2.2.2.2.2.2 = (4, mc, ms, oA Q)) (k n : Nat) (v0 : Nat) (v1 : Int32) (v2 : Int32) (v3 : Int32) (σ : St) (hb : wX11_oneQuestion_0 mc ms Q k n v0 v1 v2 v3 σ) : hW Γ k n 0 [(0, .ref v0), (1, .int v1), (2, .int v2), (3, .int v3)] [] σ := by
  unfold wX11_oneQuestion_0 at hb
  obtain ⟨q1, q2, hb⟩ := hb
  refine g_new zc_9 zd_9 ⟨_, rfl⟩ wd_141 wd_476 wd_91 C dX11_oneQuestion_0 (by rw [hmc_of hΓ]; exact q1) (by rw [hms_of hΓ]; exact q2) (fun b3 q4 => ?_)
  replace hb := hb b3 q4
  refine g_dup C dX11_oneQuestion_3 rfl ?_
  refine g_iload_n C dX11_oneQuestion_4 1 rfl ?_
  refine g_iload_n C dX11_oneQuestion_5 3 rfl ?_
  refine g_iload_n C dX11_oneQuestion_6 2 rfl ?_
  refine g_iconst (v := (-1)) C dX11_oneQuestion_7 (by decide) ?_
  refine g_aload_n (some v0) C dX11_oneQuestion_8 0 rfl ?_
  obtain ⟨q5, hb⟩ := hb
  obtain ⟨a6, q7, hb⟩ := hb
  refine g_getR (some a6) C fl_RX11_18 dX11_oneQuestion_9 q5 rfl rfl q7 ?_
  refine g_iload_n C dX11_oneQuestion_12 2 rfl ?_
  obtain ⟨q8, hb⟩ := hb
  obtain ⟨q9, hb⟩ := hb
  obtain ⟨a10, q11, hb⟩ := hb
  refine g_aald (some a10) el_27 C dX11_oneQuestion_13 q8 q9 q11 ?_
  obtain ⟨q12, hb⟩ := hb
  refine g_getIx (zFi (nO σ b3 10) 580 a10) C fl_RX11_183 dX11_oneQuestion_14 q12 rfl rfl rfl ?_
  obtain ⟨m13, m14, q15, q16, hb⟩ := hb
  refine g_invI [.int v1, .int v3, .int v2, .int (-1), .int (zFi (nO σ b3 10) 580 a10)] [.ref b3] zy_X9_init wd_477 wd_478 rfl C dX11_oneQuestion_17 (by first | exact Nat.le_of_ble_eq_true rfl | simp [cat_rf]) (by first | exact Nat.le_of_ble_eq_true rfl | simp [cat_rf]) (by first | exact Nat.le_of_ble_eq_true rfl | simp [cat_rf]) (by rw [hmc_of hΓ]; exact q15) (by rw [hms_of hΓ]; exact q16) rfl rfl  (okX9_init hb) ?_
  rintro o σ17 ⟨rfl, hb⟩
  refine ⟨_, rfl, ?_⟩
  obtain ⟨q18, q19, hb⟩ := hb
  exact g_areturn (some b3) (Or.inl ⟨_, rfl⟩) C hΓ q18 q19 dX11_oneQuestion_20 ⟨_, rfl, hb⟩
theorem okX11_oneQuestion {mc ms : Nat} {v0 : Nat} {v1 : Int32} {v2 : Int32} {v3 : Int32} {σ : St} {Q : Nat → St → Prop} (hb : wX11_oneQuestion mc ms v0 v1 v2 v3 σ Q) : hM yX11_oneQuestion cX11_oneQuestion 4 ((Option.some (FieldType.object RX9))) 2 37 mc ms [.ref v0, .int v1, .int v2, .int v3] σ (oA Q) :=
  hM_of (by decide) (Nat.le_of_ble_eq_true rfl) (fun Γ hΓ C => kwX11_oneQuestion_0 (mc := mc) (ms := ms) C hΓ 0 0 _ _ _ _ _ hb)
def wX9_tell_0 (Q : St → Prop) (v0 : Nat) (v1 : Int32) (v2 : Int32) (σ : St) : Prop :=
  zK σ v0 = 10 ∧ ∃ a2 : Nat, zFr σ 581 v0 = some a2 ∧ zK σ a2 = 20 ∧ vp_in 0 (zL σ a2) ∧ vp_in 1 (zL σ a2) ∧ Q (uAi (uAi σ a2 (ix 0) v1) a2 (ix 1) v2)
def wX9_tell (v0 : Nat) (v1 : Int32) (v2 : Int32) (σ : St) (Q : St → Prop) : Prop := wX9_tell_0 Q v0 v1 v2 σ
set_option maxRecDepth 20000 in
theorem kwX9_tell_0 {Γ : hCT} (C : hC Γ RX9 cX9_tell ((Option.none : Option Jvm.ClassFile.FieldType)) "tell" 0 0) {Q : St → Prop} (hΓ : Γ.2.2.2.2.2.2.2.2.2.2.2 = (3, 0, 0, oV Q)) (v0 : Nat) (v1 : Int32) (v2 : Int32) (σ : St) (hb : wX9_tell_0 Q v0 v1 v2 σ) : hW Γ 0 0 0 [(0, .ref v0), (1, .int v1), (2, .int v2)] [] σ := by
  unfold wX9_tell_0 at hb
  refine g_aload_n (some v0) C dX9_tell_0 0 rfl ?_
  obtain ⟨q1, hb⟩ := hb
  obtain ⟨a2, q3, hb⟩ := hb
  refine g_getR (some a2) C fl_RX9_7 dX9_tell_1 q1 rfl rfl q3 ?_
  refine g_iconst (v := 0) C dX9_tell_4 (by decide) ?_
  refine g_iload_n C dX9_tell_5 1 rfl ?_
  obtain ⟨q4, hb⟩ := hb
  obtain ⟨q5, hb⟩ := hb
  refine g_iast C dX9_tell_6 q4 q5 ?_
  refine g_aload_n (some v0) C dX9_tell_7 0 rfl ?_
  refine g_getR (some a2) C fl_RX9_7 dX9_tell_8 (by rw [zK_uAi]; exact q1) rfl rfl (by rw [zFr_uAi]; exact q3) ?_
  refine g_iconst (v := 1) C dX9_tell_11 (by decide) ?_
  refine g_iload_n C dX9_tell_12 2 rfl ?_
  obtain ⟨q6, hb⟩ := hb
  refine g_iast C dX9_tell_13 (by rw [zK_uAi]; exact q4) (by rw [zL_uAi]; exact q6) ?_
  exact g_vreturn C hΓ (Nat.zero_le _) (Nat.zero_le _) dX9_tell_14 ⟨rfl, hb⟩
theorem okX9_tell {v0 : Nat} {v1 : Int32} {v2 : Int32} {σ : St} {Q : St → Prop} (hb : wX9_tell v0 v1 v2 σ Q) : hM yX9_tell cX9_tell 3 ((Option.none : Option Jvm.ClassFile.FieldType)) 0 0 0 0 [.ref v0, .int v1, .int v2] σ (oV Q) :=
  hM_of (by decide) (Nat.le_of_ble_eq_true rfl) (fun Γ hΓ C => kwX9_tell_0 C hΓ _ _ _ _ hb)
def wX11_pick_0 (mc ms : Nat) (Q : Int32 → St → Prop) (k n : Nat) (v0 : Nat) (v1 : Int32) (v2 : Int32) (v3 : Int32) (σ : St) : Prop :=
  k ≤ mc ∧ n ≤ ms ∧ zK σ v0 = 12 ∧ wX11_isQuestion v0 v1 σ (fun y5 σ4 => ((¬ y5 = 0 → k ≤ mc ∧ n ≤ ms ∧ zK σ4 v0 = 12 ∧ wX11_hasPlace v0 v1 v2 σ4 (fun y10 σ9 => ((¬ y10 = 0 → zK σ9 v0 = 12 ∧ ∃ a12 : Nat, zFr σ9 705 v0 = some a12 ∧ zK σ9 a12 = 27 ∧ vp_in v1 (zL σ9 a12) ∧ ∃ a16 : Nat, zAr σ9 a12 (ix v1) = some a16 ∧ zK σ9 a16 = 10 ∧ ∃ m19 m20 : Nat, k + m19 ≤ mc ∧ n + m20 ≤ ms ∧ wX11_oneQuestion m19 m20 v0 1 v1 (zFi σ9 577 a16) σ9 (fun y24 σ23 => k + m19 ≤ mc ∧ n + m20 ≤ ms ∧ zK σ23 y24 = 10 ∧ wX9_tell y24 v2 v3 σ23 (fun σ28 => ∃ m29 m30 : Nat, k + m19 + m29 ≤ mc ∧ n + m20 + m30 ≤ ms ∧ zK σ28 v0 = 12 ∧ wX11_asked m29 m30 v0 y24 σ28 (fun y35 σ34 => k + m19 + m29 ≤ mc ∧ n + m20 + m30 ≤ ms ∧ Q y35 σ34)))) ∧ (y10 = 0 → k ≤ mc ∧ n ≤ ms ∧ zK σ9 v0 = 12 ∧ wX11_refused v0 2 σ9 (fun y42 σ41 => k ≤ mc ∧ n ≤ ms ∧ Q y42 σ41))))) ∧ (y5 = 0 → k ≤ mc ∧ n ≤ ms ∧ zK σ4 v0 = 12 ∧ wX11_refused v0 1 σ4 (fun y49 σ48 => k ≤ mc ∧ n ≤ ms ∧ Q y49 σ48))))
def wX11_pick (mc ms : Nat) (v0 : Nat) (v1 : Int32) (v2 : Int32) (v3 : Int32) (σ : St) (Q : Int32 → St → Prop) : Prop := wX11_pick_0 mc ms Q 0 0 v0 v1 v2 v3 σ
set_option maxRecDepth 20000 in
theorem kwX11_pick_0 {Γ : hCT} {mc ms : Nat} (C : hC Γ RX11 cX11_pick ((Option.some FieldType.int)) "pick" 4 103) {Q : Int32 → St → Prop} (hΓ : Γ.2.2.2.2.2.2.2.2.2.2.2 = (5, mc, ms, oI Q)) (k n : Nat) (v0 : Nat) (v1 : Int32) (v2 : Int32) (v3 : Int32) (σ : St) (hb : wX11_pick_0 mc ms Q k n v0 v1 v2 v3 σ) : hW Γ k n 0 [(0, .ref v0), (1, .int v1), (2, .int v2), (3, .int v3)] [] σ := by
  unfold wX11_pick_0 at hb
  refine g_aload_n (some v0) C dX11_pick_0 0 rfl ?_
  refine g_iload_n C dX11_pick_1 1 rfl ?_
  obtain ⟨q1, q2, hb⟩ := hb
  obtain ⟨q3, hb⟩ := hb
  refine g_invV (ci := 11) [.int v1] [] zy_X11_isQuestion wd_518 wd_520 wd_3 ⟨_, _, rfl⟩ (by decide) C dX11_pick_2 (by first | exact Nat.le_of_ble_eq_true rfl | simp [cat_rf]) (by first | exact Nat.le_of_ble_eq_true rfl | simp [cat_rf]) (by first | exact Nat.le_of_ble_eq_true rfl | simp [cat_rf]) (by rw [hmc_of hΓ]; exact q1) (by rw [hms_of hΓ]; exact q2) rfl rfl q3 (okX11_isQuestion hb) ?_
  rintro o σ4 ⟨y5, rfl, hb⟩
  refine ⟨_, rfl, ?_⟩
  refine g_if_ne (tgt := 14) C dX11_pick_5 (by decide) (fun c => ?_) (fun c => ?_)
  ·
    replace hb := hb.1 (c)
    refine g_aload_n (some v0) C dX11_pick_14 0 rfl ?_
    refine g_iload_n C dX11_pick_15 1 rfl ?_
    refine g_iload_n C dX11_pick_16 2 rfl ?_
    obtain ⟨q6, q7, hb⟩ := hb
    obtain ⟨q8, hb⟩ := hb
    refine g_invV (ci := 11) [.int v1, .int v2] [] zy_X11_hasPlace wd_522 wd_524 wd_4 ⟨_, _, rfl⟩ (by decide) C dX11_pick_17 (by first | exact Nat.le_of_ble_eq_true rfl | simp [cat_rf]) (by first | exact Nat.le_of_ble_eq_true rfl | simp [cat_rf]) (by first | exact Nat.le_of_ble_eq_true rfl | simp [cat_rf]) (by rw [hmc_of hΓ]; exact q6) (by rw [hms_of hΓ]; exact q7) rfl rfl q8 (okX11_hasPlace hb) ?_
    rintro o σ9 ⟨y10, rfl, hb⟩
    refine ⟨_, rfl, ?_⟩
    refine g_if_ne (tgt := 29) C dX11_pick_20 (by decide) (fun c => ?_) (fun c => ?_)
    ·
      replace hb := hb.1 (c)
      refine g_aload_n (some v0) C dX11_pick_29 0 rfl ?_
      refine g_iconst (v := 1) C dX11_pick_30 (by decide) ?_
      refine g_iload_n C dX11_pick_31 1 rfl ?_
      refine g_aload_n (some v0) C dX11_pick_32 0 rfl ?_
      obtain ⟨q11, hb⟩ := hb
      obtain ⟨a12, q13, hb⟩ := hb
      refine g_getR (some a12) C fl_RX11_18 dX11_pick_33 q11 rfl rfl q13 ?_
      refine g_iload_n C dX11_pick_36 1 rfl ?_
      obtain ⟨q14, hb⟩ := hb
      obtain ⟨q15, hb⟩ := hb
      obtain ⟨a16, q17, hb⟩ := hb
      refine g_aald (some a16) el_27 C dX11_pick_37 q14 q15 q17 ?_
      obtain ⟨q18, hb⟩ := hb
      refine g_getIx (zFi σ9 577 a16) C fl_RX11_153 dX11_pick_38 q18 rfl rfl rfl ?_
      obtain ⟨m19, m20, q21, q22, hb⟩ := hb
      refine g_invV (ci := 11) [.int 1, .int v1, .int (zFi σ9 577 a16)] [] zy_X11_oneQuestion wd_526 wd_528 wd_5 ⟨_, _, rfl⟩ (by decide) C dX11_pick_41 (by first | exact Nat.le_of_ble_eq_true rfl | simp [cat_rf]) (by first | exact Nat.le_of_ble_eq_true rfl | simp [cat_rf]) (by first | exact Nat.le_of_ble_eq_true rfl | simp [cat_rf]) (by rw [hmc_of hΓ]; exact q21) (by rw [hms_of hΓ]; exact q22) rfl rfl q11 (okX11_oneQuestion hb) ?_
      rintro o σ23 ⟨y24, rfl, hb⟩
      refine ⟨_, rfl, ?_⟩
      refine g_astore (lv' := [(4, .ref y24), (0, .ref v0), (1, .int v1), (2, .int v2), (3, .int v3)]) (some y24) C dX11_pick_44 (hnl_of hΓ (by decide)) (by first | rfl | simp [cat_rf]) ?_
      refine g_aload (some y24) C dX11_pick_46 0 rfl ?_
      refine g_iload_n C dX11_pick_48 3 rfl ?_
      refine g_iload_n C dX11_pick_49 4 rfl ?_
      obtain ⟨q25, q26, hb⟩ := hb
      obtain ⟨q27, hb⟩ := hb
      refine g_invV (ci := 9) [.int v2, .int v3] [] zy_X9_tell wd_530 wd_531 wd_532 ⟨_, _, rfl⟩ (by decide) C dX11_pick_50 (by first | exact Nat.le_of_ble_eq_true rfl | simp [cat_rf]) (by first | exact Nat.le_of_ble_eq_true rfl | simp [cat_rf]) (by first | exact Nat.le_of_ble_eq_true rfl | simp [cat_rf]) (by rw [hmc_of hΓ]; exact q25) (by rw [hms_of hΓ]; exact q26) rfl rfl q27 (okX9_tell hb) ?_
      rintro o σ28 ⟨rfl, hb⟩
      refine ⟨_, rfl, ?_⟩
      refine g_aload_n (some v0) C dX11_pick_53 1 rfl ?_
      refine g_aload (some y24) C dX11_pick_54 0 rfl ?_
      obtain ⟨m29, m30, q31, q32, hb⟩ := hb
      obtain ⟨q33, hb⟩ := hb
      refine g_invV (ci := 11) [.ref y24] [] zy_X11_asked wd_510 wd_512 wd_2 ⟨_, _, rfl⟩ (by decide) C dX11_pick_56 (by first | exact Nat.le_of_ble_eq_true rfl | simp [cat_rf]) (by first | exact Nat.le_of_ble_eq_true rfl | simp [cat_rf]) (by first | exact Nat.le_of_ble_eq_true rfl | simp [cat_rf]) (by rw [hmc_of hΓ]; exact q31) (by rw [hms_of hΓ]; exact q32) rfl rfl q33 (okX11_asked hb) ?_
      rintro o σ34 ⟨y35, rfl, hb⟩
      refine ⟨_, rfl, ?_⟩
      obtain ⟨q36, q37, hb⟩ := hb
      exact g_ireturn C hΓ q36 q37 dX11_pick_59 ⟨_, rfl, hb⟩
    ·
      replace hb := hb.2 (c)
      refine g_aload_n (some v0) C dX11_pick_23 0 rfl ?_
      refine g_iconst (v := 2) C dX11_pick_24 (by decide) ?_
      obtain ⟨q38, q39, hb⟩ := hb
      obtain ⟨q40, hb⟩ := hb
      refine g_invV (ci := 11) [.int 2] [] zy_X11_refused wd_361 wd_363 wd_0 ⟨_, _, rfl⟩ (by decide) C dX11_pick_25 (by first | exact Nat.le_of_ble_eq_true rfl | simp [cat_rf]) (by first | exact Nat.le_of_ble_eq_true rfl | simp [cat_rf]) (by first | exact Nat.le_of_ble_eq_true rfl | simp [cat_rf]) (by rw [hmc_of hΓ]; exact q38) (by rw [hms_of hΓ]; exact q39) rfl rfl q40 (okX11_refused hb) ?_
      rintro o σ41 ⟨y42, rfl, hb⟩
      refine ⟨_, rfl, ?_⟩
      obtain ⟨q43, q44, hb⟩ := hb
      exact g_ireturn C hΓ q43 q44 dX11_pick_28 ⟨_, rfl, hb⟩
  ·
    replace hb := hb.2 (c)
    refine g_aload_n (some v0) C dX11_pick_8 0 rfl ?_
    refine g_iconst (v := 1) C dX11_pick_9 (by decide) ?_
    obtain ⟨q45, q46, hb⟩ := hb
    obtain ⟨q47, hb⟩ := hb
    refine g_invV (ci := 11) [.int 1] [] zy_X11_refused wd_361 wd_363 wd_0 ⟨_, _, rfl⟩ (by decide) C dX11_pick_10 (by first | exact Nat.le_of_ble_eq_true rfl | simp [cat_rf]) (by first | exact Nat.le_of_ble_eq_true rfl | simp [cat_rf]) (by first | exact Nat.le_of_ble_eq_true rfl | simp [cat_rf]) (by rw [hmc_of hΓ]; exact q45) (by rw [hms_of hΓ]; exact q46) rfl rfl q47 (okX11_refused hb) ?_
    rintro o σ48 ⟨y49, rfl, hb⟩
    refine ⟨_, rfl, ?_⟩
    obtain ⟨q50, q51, hb⟩ := hb
    exact g_ireturn C hΓ q50 q51 dX11_pick_13 ⟨_, rfl, hb⟩
theorem okX11_pick {mc ms : Nat} {v0 : Nat} {v1 : Int32} {v2 : Int32} {v3 : Int32} {σ : St} {Q : Int32 → St → Prop} (hb : wX11_pick mc ms v0 v1 v2 v3 σ Q) : hM yX11_pick cX11_pick 5 ((Option.some FieldType.int)) 4 103 mc ms [.ref v0, .int v1, .int v2, .int v3] σ (oI Q) :=
  hM_of (by decide) (Nat.le_of_ble_eq_true rfl) (fun Γ hΓ C => kwX11_pick_0 (mc := mc) (ms := ms) C hΓ 0 0 _ _ _ _ _ hb)
def wX11_like_32 (mc ms : Nat) (Q : Int32 → St → Prop) (k n : Nat) (v0 : Nat) (σ : St) : Prop :=
  k ≤ mc ∧ n ≤ ms ∧ zK σ v0 = 12 ∧ wX11_refused v0 2 σ (fun y5 σ4 => k ≤ mc ∧ n ≤ ms ∧ Q y5 σ4)
def wX11_like_0 (mc ms : Nat) (Q : Int32 → St → Prop) (k n : Nat) (v0 : Nat) (v1 : Int32) (v2 : Int32) (v3 : Int32) (σ : St) : Prop :=
  k ≤ mc ∧ n ≤ ms ∧ zK σ v0 = 12 ∧ wX11_isQuestion v0 v1 σ (fun y5 σ4 => ((¬ y5 = 0 → k ≤ mc ∧ n ≤ ms ∧ zK σ4 v0 = 12 ∧ wX11_hasPlace v0 v1 v2 σ4 (fun y10 σ9 => ((y10 = 0 → wX11_like_32 mc ms Q k n v0 σ9) ∧ (¬ y10 = 0 → k ≤ mc ∧ n ≤ ms ∧ zK σ9 v0 = 12 ∧ wX11_hasPlace v0 v1 v3 σ9 (fun y15 σ14 => ((¬ y15 = 0 → zK σ14 v0 = 12 ∧ ∃ a17 : Nat, zFr σ14 705 v0 = some a17 ∧ zK σ14 a17 = 27 ∧ vp_in v1 (zL σ14 a17) ∧ ∃ a21 : Nat, zAr σ14 a17 (ix v1) = some a21 ∧ zK σ14 a21 = 10 ∧ ∃ m24 m25 : Nat, k + m24 ≤ mc ∧ n + m25 ≤ ms ∧ wX11_oneQuestion m24 m25 v0 2 v1 (zFi σ14 577 a21) σ14 (fun y29 σ28 => k + m24 ≤ mc ∧ n + m25 ≤ ms ∧ zK σ28 y29 = 10 ∧ wX9_tell y29 v2 v3 σ28 (fun σ33 => ∃ m34 m35 : Nat, k + m24 + m34 ≤ mc ∧ n + m25 + m35 ≤ ms ∧ zK σ33 v0 = 12 ∧ wX11_asked m34 m35 v0 y29 σ33 (fun y40 σ39 => k + m24 + m34 ≤ mc ∧ n + m25 + m35 ≤ ms ∧ Q y40 σ39)))) ∧ (y15 = 0 → wX11_like_32 mc ms Q k n v0 σ14))))))) ∧ (y5 = 0 → k ≤ mc ∧ n ≤ ms ∧ zK σ4 v0 = 12 ∧ wX11_refused v0 1 σ4 (fun y47 σ46 => k ≤ mc ∧ n ≤ ms ∧ Q y47 σ46))))
def wX11_like (mc ms : Nat) (v0 : Nat) (v1 : Int32) (v2 : Int32) (v3 : Int32) (σ : St) (Q : Int32 → St → Prop) : Prop := wX11_like_0 mc ms Q 0 0 v0 v1 v2 v3 σ
set_option maxRecDepth 20000 in
theorem kwX11_like_32 {Γ : hCT} {mc ms : Nat} (C : hC Γ RX11 cX11_like ((Option.some FieldType.int)) "like" 4 103) {Q : Int32 → St → Prop} (hΓ : Γ.2.2.2.2.2.2.2.2.2.2.2 = (5, mc, ms, oI Q)) (k n : Nat) (v0 : Nat) (σ : St) (hb : wX11_like_32 mc ms Q k n v0 σ) : hW Γ k n 32 [(0, .ref v0)] [] σ := by
  unfold wX11_like_32 at hb
  refine g_aload_n (some v0) C dX11_like_32 0 rfl ?_
  refine g_iconst (v := 2) C dX11_like_33 (by decide) ?_
  obtain ⟨q1, q2, hb⟩ := hb
  obtain ⟨q3, hb⟩ := hb
  refine g_invV (ci := 11) [.int 2] [] zy_X11_refused wd_361 wd_363 wd_0 ⟨_, _, rfl⟩ (by decide) C dX11_like_34 (by first | exact Nat.le_of_ble_eq_true rfl | simp [cat_rf]) (by first | exact Nat.le_of_ble_eq_true rfl | simp [cat_rf]) (by first | exact Nat.le_of_ble_eq_true rfl | simp [cat_rf]) (by rw [hmc_of hΓ]; exact q1) (by rw [hms_of hΓ]; exact q2) rfl rfl q3 (okX11_refused hb) ?_
  rintro o σ4 ⟨y5, rfl, hb⟩
  refine ⟨_, rfl, ?_⟩
  obtain ⟨q6, q7, hb⟩ := hb
  exact g_ireturn C hΓ q6 q7 dX11_like_37 ⟨_, rfl, hb⟩
set_option maxRecDepth 20000 in
theorem kwX11_like_0 {Γ : hCT} {mc ms : Nat} (C : hC Γ RX11 cX11_like ((Option.some FieldType.int)) "like" 4 103) {Q : Int32 → St → Prop} (hΓ : Γ.2.2.2.2.2.2.2.2.2.2.2 = (5, mc, ms, oI Q)) (k n : Nat) (v0 : Nat) (v1 : Int32) (v2 : Int32) (v3 : Int32) (σ : St) (hb : wX11_like_0 mc ms Q k n v0 v1 v2 v3 σ) : hW Γ k n 0 [(0, .ref v0), (1, .int v1), (2, .int v2), (3, .int v3)] [] σ := by
  unfold wX11_like_0 at hb
  refine g_aload_n (some v0) C dX11_like_0 0 rfl ?_
  refine g_iload_n C dX11_like_1 1 rfl ?_
  obtain ⟨q1, q2, hb⟩ := hb
  obtain ⟨q3, hb⟩ := hb
  refine g_invV (ci := 11) [.int v1] [] zy_X11_isQuestion wd_518 wd_520 wd_3 ⟨_, _, rfl⟩ (by decide) C dX11_like_2 (by first | exact Nat.le_of_ble_eq_true rfl | simp [cat_rf]) (by first | exact Nat.le_of_ble_eq_true rfl | simp [cat_rf]) (by first | exact Nat.le_of_ble_eq_true rfl | simp [cat_rf]) (by rw [hmc_of hΓ]; exact q1) (by rw [hms_of hΓ]; exact q2) rfl rfl q3 (okX11_isQuestion hb) ?_
  rintro o σ4 ⟨y5, rfl, hb⟩
  refine ⟨_, rfl, ?_⟩
  refine g_if_ne (tgt := 14) C dX11_like_5 (by decide) (fun c => ?_) (fun c => ?_)
  ·
    replace hb := hb.1 (c)
    refine g_aload_n (some v0) C dX11_like_14 0 rfl ?_
    refine g_iload_n C dX11_like_15 1 rfl ?_
    refine g_iload_n C dX11_like_16 2 rfl ?_
    obtain ⟨q6, q7, hb⟩ := hb
    obtain ⟨q8, hb⟩ := hb
    refine g_invV (ci := 11) [.int v1, .int v2] [] zy_X11_hasPlace wd_522 wd_524 wd_4 ⟨_, _, rfl⟩ (by decide) C dX11_like_17 (by first | exact Nat.le_of_ble_eq_true rfl | simp [cat_rf]) (by first | exact Nat.le_of_ble_eq_true rfl | simp [cat_rf]) (by first | exact Nat.le_of_ble_eq_true rfl | simp [cat_rf]) (by rw [hmc_of hΓ]; exact q6) (by rw [hms_of hΓ]; exact q7) rfl rfl q8 (okX11_hasPlace hb) ?_
    rintro o σ9 ⟨y10, rfl, hb⟩
    refine ⟨_, rfl, ?_⟩
    refine g_if_eq (tgt := 32) C dX11_like_20 (by decide) (fun c => ?_) (fun c => ?_)
    ·
      replace hb := hb.1 (c)
      refine g_sub (lv' := [(0, .ref v0)]) [0] rfl ?_
      exact kwX11_like_32 C hΓ  _ _ _ _ hb
    ·
      replace hb := hb.2 (c)
      refine g_aload_n (some v0) C dX11_like_23 0 rfl ?_
      refine g_iload_n C dX11_like_24 1 rfl ?_
      refine g_iload_n C dX11_like_25 3 rfl ?_
      obtain ⟨q11, q12, hb⟩ := hb
      obtain ⟨q13, hb⟩ := hb
      refine g_invV (ci := 11) [.int v1, .int v3] [] zy_X11_hasPlace wd_522 wd_524 wd_4 ⟨_, _, rfl⟩ (by decide) C dX11_like_26 (by first | exact Nat.le_of_ble_eq_true rfl | simp [cat_rf]) (by first | exact Nat.le_of_ble_eq_true rfl | simp [cat_rf]) (by first | exact Nat.le_of_ble_eq_true rfl | simp [cat_rf]) (by rw [hmc_of hΓ]; exact q11) (by rw [hms_of hΓ]; exact q12) rfl rfl q13 (okX11_hasPlace hb) ?_
      rintro o σ14 ⟨y15, rfl, hb⟩
      refine ⟨_, rfl, ?_⟩
      refine g_if_ne (tgt := 38) C dX11_like_29 (by decide) (fun c => ?_) (fun c => ?_)
      ·
        replace hb := hb.1 (c)
        refine g_aload_n (some v0) C dX11_like_38 0 rfl ?_
        refine g_iconst (v := 2) C dX11_like_39 (by decide) ?_
        refine g_iload_n C dX11_like_40 1 rfl ?_
        refine g_aload_n (some v0) C dX11_like_41 0 rfl ?_
        obtain ⟨q16, hb⟩ := hb
        obtain ⟨a17, q18, hb⟩ := hb
        refine g_getR (some a17) C fl_RX11_18 dX11_like_42 q16 rfl rfl q18 ?_
        refine g_iload_n C dX11_like_45 1 rfl ?_
        obtain ⟨q19, hb⟩ := hb
        obtain ⟨q20, hb⟩ := hb
        obtain ⟨a21, q22, hb⟩ := hb
        refine g_aald (some a21) el_27 C dX11_like_46 q19 q20 q22 ?_
        obtain ⟨q23, hb⟩ := hb
        refine g_getIx (zFi σ14 577 a21) C fl_RX11_153 dX11_like_47 q23 rfl rfl rfl ?_
        obtain ⟨m24, m25, q26, q27, hb⟩ := hb
        refine g_invV (ci := 11) [.int 2, .int v1, .int (zFi σ14 577 a21)] [] zy_X11_oneQuestion wd_526 wd_528 wd_5 ⟨_, _, rfl⟩ (by decide) C dX11_like_50 (by first | exact Nat.le_of_ble_eq_true rfl | simp [cat_rf]) (by first | exact Nat.le_of_ble_eq_true rfl | simp [cat_rf]) (by first | exact Nat.le_of_ble_eq_true rfl | simp [cat_rf]) (by rw [hmc_of hΓ]; exact q26) (by rw [hms_of hΓ]; exact q27) rfl rfl q16 (okX11_oneQuestion hb) ?_
        rintro o σ28 ⟨y29, rfl, hb⟩
        refine ⟨_, rfl, ?_⟩
        refine g_astore (lv' := [(4, .ref y29), (0, .ref v0), (1, .int v1), (2, .int v2), (3, .int v3)]) (some y29) C dX11_like_53 (hnl_of hΓ (by decide)) (by first | rfl | simp [cat_rf]) ?_
        refine g_aload (some y29) C dX11_like_55 0 rfl ?_
        refine g_iload_n C dX11_like_57 3 rfl ?_
        refine g_iload_n C dX11_like_58 4 rfl ?_
        obtain ⟨q30, q31, hb⟩ := hb
        obtain ⟨q32, hb⟩ := hb
        refine g_invV (ci := 9) [.int v2, .int v3] [] zy_X9_tell wd_530 wd_531 wd_532 ⟨_, _, rfl⟩ (by decide) C dX11_like_59 (by first | exact Nat.le_of_ble_eq_true rfl | simp [cat_rf]) (by first | exact Nat.le_of_ble_eq_true rfl | simp [cat_rf]) (by first | exact Nat.le_of_ble_eq_true rfl | simp [cat_rf]) (by rw [hmc_of hΓ]; exact q30) (by rw [hms_of hΓ]; exact q31) rfl rfl q32 (okX9_tell hb) ?_
        rintro o σ33 ⟨rfl, hb⟩
        refine ⟨_, rfl, ?_⟩
        refine g_aload_n (some v0) C dX11_like_62 1 rfl ?_
        refine g_aload (some y29) C dX11_like_63 0 rfl ?_
        obtain ⟨m34, m35, q36, q37, hb⟩ := hb
        obtain ⟨q38, hb⟩ := hb
        refine g_invV (ci := 11) [.ref y29] [] zy_X11_asked wd_510 wd_512 wd_2 ⟨_, _, rfl⟩ (by decide) C dX11_like_65 (by first | exact Nat.le_of_ble_eq_true rfl | simp [cat_rf]) (by first | exact Nat.le_of_ble_eq_true rfl | simp [cat_rf]) (by first | exact Nat.le_of_ble_eq_true rfl | simp [cat_rf]) (by rw [hmc_of hΓ]; exact q36) (by rw [hms_of hΓ]; exact q37) rfl rfl q38 (okX11_asked hb) ?_
        rintro o σ39 ⟨y40, rfl, hb⟩
        refine ⟨_, rfl, ?_⟩
        obtain ⟨q41, q42, hb⟩ := hb
        exact g_ireturn C hΓ q41 q42 dX11_like_68 ⟨_, rfl, hb⟩
      ·
        replace hb := hb.2 (c)
        refine g_sub (lv' := [(0, .ref v0)]) [0] rfl ?_
        exact kwX11_like_32 C hΓ  _ _ _ _ hb
  ·
    replace hb := hb.2 (c)
    refine g_aload_n (some v0) C dX11_like_8 0 rfl ?_
    refine g_iconst (v := 1) C dX11_like_9 (by decide) ?_
    obtain ⟨q43, q44, hb⟩ := hb
    obtain ⟨q45, hb⟩ := hb
    refine g_invV (ci := 11) [.int 1] [] zy_X11_refused wd_361 wd_363 wd_0 ⟨_, _, rfl⟩ (by decide) C dX11_like_10 (by first | exact Nat.le_of_ble_eq_true rfl | simp [cat_rf]) (by first | exact Nat.le_of_ble_eq_true rfl | simp [cat_rf]) (by first | exact Nat.le_of_ble_eq_true rfl | simp [cat_rf]) (by rw [hmc_of hΓ]; exact q43) (by rw [hms_of hΓ]; exact q44) rfl rfl q45 (okX11_refused hb) ?_
    rintro o σ46 ⟨y47, rfl, hb⟩
    refine ⟨_, rfl, ?_⟩
    obtain ⟨q48, q49, hb⟩ := hb
    exact g_ireturn C hΓ q48 q49 dX11_like_13 ⟨_, rfl, hb⟩
theorem okX11_like {mc ms : Nat} {v0 : Nat} {v1 : Int32} {v2 : Int32} {v3 : Int32} {σ : St} {Q : Int32 → St → Prop} (hb : wX11_like mc ms v0 v1 v2 v3 σ Q) : hM yX11_like cX11_like 5 ((Option.some FieldType.int)) 4 103 mc ms [.ref v0, .int v1, .int v2, .int v3] σ (oI Q) :=
  hM_of (by decide) (Nat.le_of_ble_eq_true rfl) (fun Γ hΓ C => kwX11_like_0 (mc := mc) (ms := ms) C hΓ 0 0 _ _ _ _ _ hb)
def wX9_tellMore_0 (Q : St → Prop) (v0 : Nat) (v1 : Int32) (v2 : Int32) (σ : St) : Prop :=
  zK σ v0 = 10 ∧ ∃ a2 : Nat, zFr σ 581 v0 = some a2 ∧ zK σ a2 = 20 ∧ vp_in 2 (zL σ a2) ∧ vp_in 3 (zL σ a2) ∧ Q (uAi (uAi σ a2 (ix 2) v1) a2 (ix 3) v2)
def wX9_tellMore (v0 : Nat) (v1 : Int32) (v2 : Int32) (σ : St) (Q : St → Prop) : Prop := wX9_tellMore_0 Q v0 v1 v2 σ
set_option maxRecDepth 20000 in
theorem kwX9_tellMore_0 {Γ : hCT} (C : hC Γ RX9 cX9_tellMore ((Option.none : Option Jvm.ClassFile.FieldType)) "tellMore" 0 0) {Q : St → Prop} (hΓ : Γ.2.2.2.2.2.2.2.2.2.2.2 = (3, 0, 0, oV Q)) (v0 : Nat) (v1 : Int32) (v2 : Int32) (σ : St) (hb : wX9_tellMore_0 Q v0 v1 v2 σ) : hW Γ 0 0 0 [(0, .ref v0), (1, .int v1), (2, .int v2)] [] σ := by
  unfold wX9_tellMore_0 at hb
  refine g_aload_n (some v0) C dX9_tellMore_0 0 rfl ?_
  obtain ⟨q1, hb⟩ := hb
  obtain ⟨a2, q3, hb⟩ := hb
  refine g_getR (some a2) C fl_RX9_7 dX9_tellMore_1 q1 rfl rfl q3 ?_
  refine g_iconst (v := 2) C dX9_tellMore_4 (by decide) ?_
  refine g_iload_n C dX9_tellMore_5 1 rfl ?_
  obtain ⟨q4, hb⟩ := hb
  obtain ⟨q5, hb⟩ := hb
  refine g_iast C dX9_tellMore_6 q4 q5 ?_
  refine g_aload_n (some v0) C dX9_tellMore_7 0 rfl ?_
  refine g_getR (some a2) C fl_RX9_7 dX9_tellMore_8 (by rw [zK_uAi]; exact q1) rfl rfl (by rw [zFr_uAi]; exact q3) ?_
  refine g_iconst (v := 3) C dX9_tellMore_11 (by decide) ?_
  refine g_iload_n C dX9_tellMore_12 2 rfl ?_
  obtain ⟨q6, hb⟩ := hb
  refine g_iast C dX9_tellMore_13 (by rw [zK_uAi]; exact q4) (by rw [zL_uAi]; exact q6) ?_
  exact g_vreturn C hΓ (Nat.zero_le _) (Nat.zero_le _) dX9_tellMore_14 ⟨rfl, hb⟩
theorem okX9_tellMore {v0 : Nat} {v1 : Int32} {v2 : Int32} {σ : St} {Q : St → Prop} (hb : wX9_tellMore v0 v1 v2 σ Q) : hM yX9_tellMore cX9_tellMore 3 ((Option.none : Option Jvm.ClassFile.FieldType)) 0 0 0 0 [.ref v0, .int v1, .int v2] σ (oV Q) :=
  hM_of (by decide) (Nat.le_of_ble_eq_true rfl) (fun Γ hΓ C => kwX9_tellMore_0 C hΓ _ _ _ _ hb)
def wX11_cut_84 (mc ms : Nat) (Q : Int32 → St → Prop) (k n : Nat) (v0 : Nat) (v1 : Int32) (v2 : Int32) (v3 : Int32) (v4 : Int32) (v5 : Int32) (v6 : Int32) (σ : St) : Prop :=
  ∃ m1 m2 : Nat, k + m1 ≤ mc ∧ n + m2 ≤ ms ∧ zK σ v0 = 12 ∧ wX11_oneQuestion m1 m2 v0 3 v1 v2 σ (fun y7 σ6 => k + m1 ≤ mc ∧ n + m2 ≤ ms ∧ zK σ6 y7 = 10 ∧ wX9_tell y7 v3 v4 σ6 (fun σ11 => k + m1 ≤ mc ∧ n + m2 ≤ ms ∧ zK σ11 y7 = 10 ∧ wX9_tellMore y7 v5 v6 σ11 (fun σ15 => ∃ m16 m17 : Nat, k + m1 + m16 ≤ mc ∧ n + m2 + m17 ≤ ms ∧ zK σ15 v0 = 12 ∧ wX11_asked m16 m17 v0 y7 σ15 (fun y22 σ21 => k + m1 + m16 ≤ mc ∧ n + m2 + m17 ≤ ms ∧ Q y22 σ21))))
def wX11_cut_78 (mc ms : Nat) (Q : Int32 → St → Prop) (k n : Nat) (v0 : Nat) (σ : St) : Prop :=
  k ≤ mc ∧ n ≤ ms ∧ zK σ v0 = 12 ∧ wX11_refused v0 2 σ (fun y5 σ4 => k ≤ mc ∧ n ≤ ms ∧ Q y5 σ4)
def wX11_cut_63 (mc ms : Nat) (Q : Int32 → St → Prop) (k n : Nat) (v0 : Nat) (v1 : Int32) (v2 : Int32) (v3 : Int32) (v4 : Int32) (v5 : Int32) (v6 : Int32) (σ : St) : Prop :=
  ((v2 ≤ (3 : Int32) → wX11_cut_84 mc ms Q k n v0 v1 v2 v3 v4 v5 v6 σ) ∧ (¬ v2 ≤ (3 : Int32) → k ≤ mc ∧ n ≤ ms ∧ zK σ v0 = 12 ∧ wX11_hasPlace v0 v1 v6 σ (fun y5 σ4 => ((¬ y5 = 0 → wX11_cut_84 mc ms Q k n v0 v1 v2 v3 v4 v5 v6 σ4) ∧ (y5 = 0 → wX11_cut_78 mc ms Q k n v0 σ4)))))
def wX11_cut_48 (mc ms : Nat) (Q : Int32 → St → Prop) (k n : Nat) (v0 : Nat) (v1 : Int32) (v2 : Int32) (v3 : Int32) (v4 : Int32) (v5 : Int32) (v6 : Int32) (σ : St) : Prop :=
  ((v2 ≤ (2 : Int32) → wX11_cut_63 mc ms Q k n v0 v1 v2 v3 v4 v5 v6 σ) ∧ (¬ v2 ≤ (2 : Int32) → k ≤ mc ∧ n ≤ ms ∧ zK σ v0 = 12 ∧ wX11_hasPlace v0 v1 v5 σ (fun y5 σ4 => ((y5 = 0 → wX11_cut_78 mc ms Q k n v0 σ4) ∧ (¬ y5 = 0 → wX11_cut_63 mc ms Q k n v0 v1 v2 v3 v4 v5 v6 σ4)))))
def wX11_cut_0 (mc ms : Nat) (Q : Int32 → St → Prop) (k n : Nat) (v0 : Nat) (v1 : Int32) (v2 : Int32) (v3 : Int32) (v4 : Int32) (v5 : Int32) (v6 : Int32) (σ : St) : Prop :=
  k ≤ mc ∧ n ≤ ms ∧ zK σ v0 = 12 ∧ wX11_isQuestion v0 v1 σ (fun y5 σ4 => ((¬ y5 = 0 → ((v2 < (1 : Int32) → wX11_cut_78 mc ms Q k n v0 σ4) ∧ (¬ v2 < (1 : Int32) → (((4 : Int32) < v2 → wX11_cut_78 mc ms Q k n v0 σ4) ∧ (¬ (4 : Int32) < v2 → k ≤ mc ∧ n ≤ ms ∧ zK σ4 v0 = 12 ∧ wX11_hasPlace v0 v1 v3 σ4 (fun y10 σ9 => ((y10 = 0 → wX11_cut_78 mc ms Q k n v0 σ9) ∧ (¬ y10 = 0 → ((v2 ≤ (1 : Int32) → wX11_cut_48 mc ms Q k n v0 v1 v2 v3 v4 v5 v6 σ9) ∧ (¬ v2 ≤ (1 : Int32) → k ≤ mc ∧ n ≤ ms ∧ zK σ9 v0 = 12 ∧ wX11_hasPlace v0 v1 v4 σ9 (fun y15 σ14 => ((y15 = 0 → wX11_cut_78 mc ms Q k n v0 σ14) ∧ (¬ y15 = 0 → wX11_cut_48 mc ms Q k n v0 v1 v2 v3 v4 v5 v6 σ14))))))))))))) ∧ (y5 = 0 → k ≤ mc ∧ n ≤ ms ∧ zK σ4 v0 = 12 ∧ wX11_refused v0 1 σ4 (fun y20 σ19 => k ≤ mc ∧ n ≤ ms ∧ Q y20 σ19))))
def wX11_cut (mc ms : Nat) (v0 : Nat) (v1 : Int32) (v2 : Int32) (v3 : Int32) (v4 : Int32) (v5 : Int32) (v6 : Int32) (σ : St) (Q : Int32 → St → Prop) : Prop := wX11_cut_0 mc ms Q 0 0 v0 v1 v2 v3 v4 v5 v6 σ
set_option maxRecDepth 20000 in
theorem kwX11_cut_84 {Γ : hCT} {mc ms : Nat} (C : hC Γ RX11 cX11_cut ((Option.some FieldType.int)) "cut" 4 103) {Q : Int32 → St → Prop} (hΓ : Γ.2.2.2.2.2.2.2.2.2.2.2 = (8, mc, ms, oI Q)) (k n : Nat) (v0 : Nat) (v1 : Int32) (v2 : Int32) (v3 : Int32) (v4 : Int32) (v5 : Int32) (v6 : Int32) (σ : St) (hb : wX11_cut_84 mc ms Q k n v0 v1 v2 v3 v4 v5 v6 σ) : hW Γ k n 84 [(0, .ref v0), (1, .int v1), (2, .int v2), (3, .int v3), (4, .int v4), (5, .int v5), (6, .int v6)] [] σ := by
  unfold wX11_cut_84 at hb
  refine g_aload_n (some v0) C dX11_cut_84 0 rfl ?_
  refine g_iconst (v := 3) C dX11_cut_85 (by decide) ?_
  refine g_iload_n C dX11_cut_86 1 rfl ?_
  refine g_iload_n C dX11_cut_87 2 rfl ?_
  obtain ⟨m1, m2, q3, q4, hb⟩ := hb
  obtain ⟨q5, hb⟩ := hb
  refine g_invV (ci := 11) [.int 3, .int v1, .int v2] [] zy_X11_oneQuestion wd_526 wd_528 wd_5 ⟨_, _, rfl⟩ (by decide) C dX11_cut_88 (by first | exact Nat.le_of_ble_eq_true rfl | simp [cat_rf]) (by first | exact Nat.le_of_ble_eq_true rfl | simp [cat_rf]) (by first | exact Nat.le_of_ble_eq_true rfl | simp [cat_rf]) (by rw [hmc_of hΓ]; exact q3) (by rw [hms_of hΓ]; exact q4) rfl rfl q5 (okX11_oneQuestion hb) ?_
  rintro o σ6 ⟨y7, rfl, hb⟩
  refine ⟨_, rfl, ?_⟩
  refine g_astore (lv' := [(7, .ref y7), (0, .ref v0), (1, .int v1), (2, .int v2), (3, .int v3), (4, .int v4), (5, .int v5), (6, .int v6)]) (some y7) C dX11_cut_91 (hnl_of hΓ (by decide)) (by first | rfl | simp [cat_rf]) ?_
  refine g_aload (some y7) C dX11_cut_93 0 rfl ?_
  refine g_iload_n C dX11_cut_95 4 rfl ?_
  refine g_iload C dX11_cut_96 5 rfl ?_
  obtain ⟨q8, q9, hb⟩ := hb
  obtain ⟨q10, hb⟩ := hb
  refine g_invV (ci := 9) [.int v3, .int v4] [] zy_X9_tell wd_530 wd_531 wd_532 ⟨_, _, rfl⟩ (by decide) C dX11_cut_98 (by first | exact Nat.le_of_ble_eq_true rfl | simp [cat_rf]) (by first | exact Nat.le_of_ble_eq_true rfl | simp [cat_rf]) (by first | exact Nat.le_of_ble_eq_true rfl | simp [cat_rf]) (by rw [hmc_of hΓ]; exact q8) (by rw [hms_of hΓ]; exact q9) rfl rfl q10 (okX9_tell hb) ?_
  rintro o σ11 ⟨rfl, hb⟩
  refine ⟨_, rfl, ?_⟩
  refine g_aload (some y7) C dX11_cut_101 0 rfl ?_
  refine g_iload C dX11_cut_103 6 rfl ?_
  refine g_iload C dX11_cut_105 7 rfl ?_
  obtain ⟨q12, q13, hb⟩ := hb
  obtain ⟨q14, hb⟩ := hb
  refine g_invV (ci := 9) [.int v5, .int v6] [] zy_X9_tellMore wd_542 wd_543 wd_544 ⟨_, _, rfl⟩ (by decide) C dX11_cut_107 (by first | exact Nat.le_of_ble_eq_true rfl | simp [cat_rf]) (by first | exact Nat.le_of_ble_eq_true rfl | simp [cat_rf]) (by first | exact Nat.le_of_ble_eq_true rfl | simp [cat_rf]) (by rw [hmc_of hΓ]; exact q12) (by rw [hms_of hΓ]; exact q13) rfl rfl q14 (okX9_tellMore hb) ?_
  rintro o σ15 ⟨rfl, hb⟩
  refine ⟨_, rfl, ?_⟩
  refine g_aload_n (some v0) C dX11_cut_110 1 rfl ?_
  refine g_aload (some y7) C dX11_cut_111 0 rfl ?_
  obtain ⟨m16, m17, q18, q19, hb⟩ := hb
  obtain ⟨q20, hb⟩ := hb
  refine g_invV (ci := 11) [.ref y7] [] zy_X11_asked wd_510 wd_512 wd_2 ⟨_, _, rfl⟩ (by decide) C dX11_cut_113 (by first | exact Nat.le_of_ble_eq_true rfl | simp [cat_rf]) (by first | exact Nat.le_of_ble_eq_true rfl | simp [cat_rf]) (by first | exact Nat.le_of_ble_eq_true rfl | simp [cat_rf]) (by rw [hmc_of hΓ]; exact q18) (by rw [hms_of hΓ]; exact q19) rfl rfl q20 (okX11_asked hb) ?_
  rintro o σ21 ⟨y22, rfl, hb⟩
  refine ⟨_, rfl, ?_⟩
  obtain ⟨q23, q24, hb⟩ := hb
  exact g_ireturn C hΓ q23 q24 dX11_cut_116 ⟨_, rfl, hb⟩
set_option maxRecDepth 20000 in
theorem kwX11_cut_78 {Γ : hCT} {mc ms : Nat} (C : hC Γ RX11 cX11_cut ((Option.some FieldType.int)) "cut" 4 103) {Q : Int32 → St → Prop} (hΓ : Γ.2.2.2.2.2.2.2.2.2.2.2 = (8, mc, ms, oI Q)) (k n : Nat) (v0 : Nat) (σ : St) (hb : wX11_cut_78 mc ms Q k n v0 σ) : hW Γ k n 78 [(0, .ref v0)] [] σ := by
  unfold wX11_cut_78 at hb
  refine g_aload_n (some v0) C dX11_cut_78 0 rfl ?_
  refine g_iconst (v := 2) C dX11_cut_79 (by decide) ?_
  obtain ⟨q1, q2, hb⟩ := hb
  obtain ⟨q3, hb⟩ := hb
  refine g_invV (ci := 11) [.int 2] [] zy_X11_refused wd_361 wd_363 wd_0 ⟨_, _, rfl⟩ (by decide) C dX11_cut_80 (by first | exact Nat.le_of_ble_eq_true rfl | simp [cat_rf]) (by first | exact Nat.le_of_ble_eq_true rfl | simp [cat_rf]) (by first | exact Nat.le_of_ble_eq_true rfl | simp [cat_rf]) (by rw [hmc_of hΓ]; exact q1) (by rw [hms_of hΓ]; exact q2) rfl rfl q3 (okX11_refused hb) ?_
  rintro o σ4 ⟨y5, rfl, hb⟩
  refine ⟨_, rfl, ?_⟩
  obtain ⟨q6, q7, hb⟩ := hb
  exact g_ireturn C hΓ q6 q7 dX11_cut_83 ⟨_, rfl, hb⟩
set_option maxRecDepth 20000 in
theorem kwX11_cut_63 {Γ : hCT} {mc ms : Nat} (C : hC Γ RX11 cX11_cut ((Option.some FieldType.int)) "cut" 4 103) {Q : Int32 → St → Prop} (hΓ : Γ.2.2.2.2.2.2.2.2.2.2.2 = (8, mc, ms, oI Q)) (k n : Nat) (v0 : Nat) (v1 : Int32) (v2 : Int32) (v3 : Int32) (v4 : Int32) (v5 : Int32) (v6 : Int32) (σ : St) (hb : wX11_cut_63 mc ms Q k n v0 v1 v2 v3 v4 v5 v6 σ) : hW Γ k n 63 [(0, .ref v0), (1, .int v1), (2, .int v2), (3, .int v3), (4, .int v4), (5, .int v5), (6, .int v6)] [] σ := by
  unfold wX11_cut_63 at hb
  refine g_iload_n C dX11_cut_63 2 rfl ?_
  refine g_iconst (v := 3) C dX11_cut_64 (by decide) ?_
  refine g_icmp_le (tgt := 84) C dX11_cut_65 (by decide) (fun c => ?_) (fun c => ?_)
  ·
    replace hb := hb.1 (c)
    refine g_sub (lv' := [(0, .ref v0), (1, .int v1), (2, .int v2), (3, .int v3), (4, .int v4), (5, .int v5), (6, .int v6)]) [0, 1, 2, 3, 4, 5, 6] rfl ?_
    exact kwX11_cut_84 C hΓ  _ _ _ _ _ _ _ _ _ _ hb
  ·
    replace hb := hb.2 (c)
    refine g_aload_n (some v0) C dX11_cut_68 0 rfl ?_
    refine g_iload_n C dX11_cut_69 1 rfl ?_
    refine g_iload C dX11_cut_70 6 rfl ?_
    obtain ⟨q1, q2, hb⟩ := hb
    obtain ⟨q3, hb⟩ := hb
    refine g_invV (ci := 11) [.int v1, .int v6] [] zy_X11_hasPlace wd_522 wd_524 wd_4 ⟨_, _, rfl⟩ (by decide) C dX11_cut_72 (by first | exact Nat.le_of_ble_eq_true rfl | simp [cat_rf]) (by first | exact Nat.le_of_ble_eq_true rfl | simp [cat_rf]) (by first | exact Nat.le_of_ble_eq_true rfl | simp [cat_rf]) (by rw [hmc_of hΓ]; exact q1) (by rw [hms_of hΓ]; exact q2) rfl rfl q3 (okX11_hasPlace hb) ?_
    rintro o σ4 ⟨y5, rfl, hb⟩
    refine ⟨_, rfl, ?_⟩
    refine g_if_ne (tgt := 84) C dX11_cut_75 (by decide) (fun c => ?_) (fun c => ?_)
    ·
      replace hb := hb.1 (c)
      refine g_sub (lv' := [(0, .ref v0), (1, .int v1), (2, .int v2), (3, .int v3), (4, .int v4), (5, .int v5), (6, .int v6)]) [0, 1, 2, 3, 4, 5, 6] rfl ?_
      exact kwX11_cut_84 C hΓ  _ _ _ _ _ _ _ _ _ _ hb
    ·
      replace hb := hb.2 (c)
      refine g_sub (lv' := [(0, .ref v0)]) [0] rfl ?_
      exact kwX11_cut_78 C hΓ  _ _ _ _ hb
set_option maxRecDepth 20000 in
theorem kwX11_cut_48 {Γ : hCT} {mc ms : Nat} (C : hC Γ RX11 cX11_cut ((Option.some FieldType.int)) "cut" 4 103) {Q : Int32 → St → Prop} (hΓ : Γ.2.2.2.2.2.2.2.2.2.2.2 = (8, mc, ms, oI Q)) (k n : Nat) (v0 : Nat) (v1 : Int32) (v2 : Int32) (v3 : Int32) (v4 : Int32) (v5 : Int32) (v6 : Int32) (σ : St) (hb : wX11_cut_48 mc ms Q k n v0 v1 v2 v3 v4 v5 v6 σ) : hW Γ k n 48 [(0, .ref v0), (1, .int v1), (2, .int v2), (3, .int v3), (4, .int v4), (5, .int v5), (6, .int v6)] [] σ := by
  unfold wX11_cut_48 at hb
  refine g_iload_n C dX11_cut_48 2 rfl ?_
  refine g_iconst (v := 2) C dX11_cut_49 (by decide) ?_
  refine g_icmp_le (tgt := 63) C dX11_cut_50 (by decide) (fun c => ?_) (fun c => ?_)
  ·
    replace hb := hb.1 (c)
    refine g_sub (lv' := [(0, .ref v0), (1, .int v1), (2, .int v2), (3, .int v3), (4, .int v4), (5, .int v5), (6, .int v6)]) [0, 1, 2, 3, 4, 5, 6] rfl ?_
    exact kwX11_cut_63 C hΓ  _ _ _ _ _ _ _ _ _ _ hb
  ·
    replace hb := hb.2 (c)
    refine g_aload_n (some v0) C dX11_cut_53 0 rfl ?_
    refine g_iload_n C dX11_cut_54 1 rfl ?_
    refine g_iload C dX11_cut_55 5 rfl ?_
    obtain ⟨q1, q2, hb⟩ := hb
    obtain ⟨q3, hb⟩ := hb
    refine g_invV (ci := 11) [.int v1, .int v5] [] zy_X11_hasPlace wd_522 wd_524 wd_4 ⟨_, _, rfl⟩ (by decide) C dX11_cut_57 (by first | exact Nat.le_of_ble_eq_true rfl | simp [cat_rf]) (by first | exact Nat.le_of_ble_eq_true rfl | simp [cat_rf]) (by first | exact Nat.le_of_ble_eq_true rfl | simp [cat_rf]) (by rw [hmc_of hΓ]; exact q1) (by rw [hms_of hΓ]; exact q2) rfl rfl q3 (okX11_hasPlace hb) ?_
    rintro o σ4 ⟨y5, rfl, hb⟩
    refine ⟨_, rfl, ?_⟩
    refine g_if_eq (tgt := 78) C dX11_cut_60 (by decide) (fun c => ?_) (fun c => ?_)
    ·
      replace hb := hb.1 (c)
      refine g_sub (lv' := [(0, .ref v0)]) [0] rfl ?_
      exact kwX11_cut_78 C hΓ  _ _ _ _ hb
    ·
      replace hb := hb.2 (c)
      refine g_sub (lv' := [(0, .ref v0), (1, .int v1), (2, .int v2), (3, .int v3), (4, .int v4), (5, .int v5), (6, .int v6)]) [0, 1, 2, 3, 4, 5, 6] rfl ?_
      exact kwX11_cut_63 C hΓ  _ _ _ _ _ _ _ _ _ _ hb
set_option maxRecDepth 20000 in
theorem kwX11_cut_0 {Γ : hCT} {mc ms : Nat} (C : hC Γ RX11 cX11_cut ((Option.some FieldType.int)) "cut" 4 103) {Q : Int32 → St → Prop} (hΓ : Γ.2.2.2.2.2.2.2.2.2.2.2 = (8, mc, ms, oI Q)) (k n : Nat) (v0 : Nat) (v1 : Int32) (v2 : Int32) (v3 : Int32) (v4 : Int32) (v5 : Int32) (v6 : Int32) (σ : St) (hb : wX11_cut_0 mc ms Q k n v0 v1 v2 v3 v4 v5 v6 σ) : hW Γ k n 0 [(0, .ref v0), (1, .int v1), (2, .int v2), (3, .int v3), (4, .int v4), (5, .int v5), (6, .int v6)] [] σ := by
  unfold wX11_cut_0 at hb
  refine g_aload_n (some v0) C dX11_cut_0 0 rfl ?_
  refine g_iload_n C dX11_cut_1 1 rfl ?_
  obtain ⟨q1, q2, hb⟩ := hb
  obtain ⟨q3, hb⟩ := hb
  refine g_invV (ci := 11) [.int v1] [] zy_X11_isQuestion wd_518 wd_520 wd_3 ⟨_, _, rfl⟩ (by decide) C dX11_cut_2 (by first | exact Nat.le_of_ble_eq_true rfl | simp [cat_rf]) (by first | exact Nat.le_of_ble_eq_true rfl | simp [cat_rf]) (by first | exact Nat.le_of_ble_eq_true rfl | simp [cat_rf]) (by rw [hmc_of hΓ]; exact q1) (by rw [hms_of hΓ]; exact q2) rfl rfl q3 (okX11_isQuestion hb) ?_
  rintro o σ4 ⟨y5, rfl, hb⟩
  refine ⟨_, rfl, ?_⟩
  refine g_if_ne (tgt := 14) C dX11_cut_5 (by decide) (fun c => ?_) (fun c => ?_)
  ·
    replace hb := hb.1 (c)
    refine g_iload_n C dX11_cut_14 2 rfl ?_
    refine g_iconst (v := 1) C dX11_cut_15 (by decide) ?_
    refine g_icmp_lt (tgt := 78) C dX11_cut_16 (by decide) (fun c => ?_) (fun c => ?_)
    ·
      replace hb := hb.1 (c)
      refine g_sub (lv' := [(0, .ref v0)]) [0] rfl ?_
      exact kwX11_cut_78 C hΓ  _ _ _ _ hb
    ·
      replace hb := hb.2 (c)
      refine g_iload_n C dX11_cut_19 2 rfl ?_
      refine g_iconst (v := 4) C dX11_cut_20 (by decide) ?_
      refine g_icmp_gt (tgt := 78) C dX11_cut_21 (by decide) (fun c => ?_) (fun c => ?_)
      ·
        replace hb := hb.1 (c)
        refine g_sub (lv' := [(0, .ref v0)]) [0] rfl ?_
        exact kwX11_cut_78 C hΓ  _ _ _ _ hb
      ·
        replace hb := hb.2 (c)
        refine g_aload_n (some v0) C dX11_cut_24 0 rfl ?_
        refine g_iload_n C dX11_cut_25 1 rfl ?_
        refine g_iload_n C dX11_cut_26 3 rfl ?_
        obtain ⟨q6, q7, hb⟩ := hb
        obtain ⟨q8, hb⟩ := hb
        refine g_invV (ci := 11) [.int v1, .int v3] [] zy_X11_hasPlace wd_522 wd_524 wd_4 ⟨_, _, rfl⟩ (by decide) C dX11_cut_27 (by first | exact Nat.le_of_ble_eq_true rfl | simp [cat_rf]) (by first | exact Nat.le_of_ble_eq_true rfl | simp [cat_rf]) (by first | exact Nat.le_of_ble_eq_true rfl | simp [cat_rf]) (by rw [hmc_of hΓ]; exact q6) (by rw [hms_of hΓ]; exact q7) rfl rfl q8 (okX11_hasPlace hb) ?_
        rintro o σ9 ⟨y10, rfl, hb⟩
        refine ⟨_, rfl, ?_⟩
        refine g_if_eq (tgt := 78) C dX11_cut_30 (by decide) (fun c => ?_) (fun c => ?_)
        ·
          replace hb := hb.1 (c)
          refine g_sub (lv' := [(0, .ref v0)]) [0] rfl ?_
          exact kwX11_cut_78 C hΓ  _ _ _ _ hb
        ·
          replace hb := hb.2 (c)
          refine g_iload_n C dX11_cut_33 2 rfl ?_
          refine g_iconst (v := 1) C dX11_cut_34 (by decide) ?_
          refine g_icmp_le (tgt := 48) C dX11_cut_35 (by decide) (fun c => ?_) (fun c => ?_)
          ·
            replace hb := hb.1 (c)
            refine g_sub (lv' := [(0, .ref v0), (1, .int v1), (2, .int v2), (3, .int v3), (4, .int v4), (5, .int v5), (6, .int v6)]) [0, 1, 2, 3, 4, 5, 6] rfl ?_
            exact kwX11_cut_48 C hΓ  _ _ _ _ _ _ _ _ _ _ hb
          ·
            replace hb := hb.2 (c)
            refine g_aload_n (some v0) C dX11_cut_38 0 rfl ?_
            refine g_iload_n C dX11_cut_39 1 rfl ?_
            refine g_iload C dX11_cut_40 4 rfl ?_
            obtain ⟨q11, q12, hb⟩ := hb
            obtain ⟨q13, hb⟩ := hb
            refine g_invV (ci := 11) [.int v1, .int v4] [] zy_X11_hasPlace wd_522 wd_524 wd_4 ⟨_, _, rfl⟩ (by decide) C dX11_cut_42 (by first | exact Nat.le_of_ble_eq_true rfl | simp [cat_rf]) (by first | exact Nat.le_of_ble_eq_true rfl | simp [cat_rf]) (by first | exact Nat.le_of_ble_eq_true rfl | simp [cat_rf]) (by rw [hmc_of hΓ]; exact q11) (by rw [hms_of hΓ]; exact q12) rfl rfl q13 (okX11_hasPlace hb) ?_
            rintro o σ14 ⟨y15, rfl, hb⟩
            refine ⟨_, rfl, ?_⟩
            refine g_if_eq (tgt := 78) C dX11_cut_45 (by decide) (fun c => ?_) (fun c => ?_)
            ·
              replace hb := hb.1 (c)
              refine g_sub (lv' := [(0, .ref v0)]) [0] rfl ?_
              exact kwX11_cut_78 C hΓ  _ _ _ _ hb
            ·
              replace hb := hb.2 (c)
              refine g_sub (lv' := [(0, .ref v0), (1, .int v1), (2, .int v2), (3, .int v3), (4, .int v4), (5, .int v5), (6, .int v6)]) [0, 1, 2, 3, 4, 5, 6] rfl ?_
              exact kwX11_cut_48 C hΓ  _ _ _ _ _ _ _ _ _ _ hb
  ·
    replace hb := hb.2 (c)
    refine g_aload_n (some v0) C dX11_cut_8 0 rfl ?_
    refine g_iconst (v := 1) C dX11_cut_9 (by decide) ?_
    obtain ⟨q16, q17, hb⟩ := hb
    obtain ⟨q18, hb⟩ := hb
    refine g_invV (ci := 11) [.int 1] [] zy_X11_refused wd_361 wd_363 wd_0 ⟨_, _, rfl⟩ (by decide) C dX11_cut_10 (by first | exact Nat.le_of_ble_eq_true rfl | simp [cat_rf]) (by first | exact Nat.le_of_ble_eq_true rfl | simp [cat_rf]) (by first | exact Nat.le_of_ble_eq_true rfl | simp [cat_rf]) (by rw [hmc_of hΓ]; exact q16) (by rw [hms_of hΓ]; exact q17) rfl rfl q18 (okX11_refused hb) ?_
    rintro o σ19 ⟨y20, rfl, hb⟩
    refine ⟨_, rfl, ?_⟩
    obtain ⟨q21, q22, hb⟩ := hb
    exact g_ireturn C hΓ q21 q22 dX11_cut_13 ⟨_, rfl, hb⟩
theorem okX11_cut {mc ms : Nat} {v0 : Nat} {v1 : Int32} {v2 : Int32} {v3 : Int32} {v4 : Int32} {v5 : Int32} {v6 : Int32} {σ : St} {Q : Int32 → St → Prop} (hb : wX11_cut mc ms v0 v1 v2 v3 v4 v5 v6 σ Q) : hM yX11_cut cX11_cut 8 ((Option.some FieldType.int)) 4 103 mc ms [.ref v0, .int v1, .int v2, .int v3, .int v4, .int v5, .int v6] σ (oI Q) :=
  hM_of (by decide) (Nat.le_of_ble_eq_true rfl) (fun Γ hΓ C => kwX11_cut_0 (mc := mc) (ms := ms) C hΓ 0 0 _ _ _ _ _ _ _ _ hb)
def wX11_twoQuestions_29 (mc ms : Nat) (Q : Nat → St → Prop) (k n : Nat) (v1 : Int32) (v2 : Int32) (v3 : Int32) (v4 : Int32) (s0 : Int32) (σ : St) : Prop :=
  k + 1 ≤ mc ∧ n + 6 ≤ ms ∧ ∀ b3 : Nat, zK σ b3 = 0 → ∃ m5 m6 : Nat, k + 1 + m5 ≤ mc ∧ n + 6 + m6 ≤ ms ∧ wX9_init m5 m6 b3 v1 v4 v2 v3 s0 (nO σ b3 10) (fun σ9 => k + 1 + m5 ≤ mc ∧ n + 6 + m6 ≤ ms ∧ Q b3 σ9)
def wX11_twoQuestions_24 (mc ms : Nat) (Q : Nat → St → Prop) (k n : Nat) (v1 : Int32) (v2 : Int32) (v3 : Int32) (v4 : Int32) (σ : St) : Prop :=
  wX11_twoQuestions_29 mc ms Q k n v1 v2 v3 v4 1 σ
def wX11_twoQuestions_0 (mc ms : Nat) (Q : Nat → St → Prop) (k n : Nat) (v0 : Nat) (v1 : Int32) (v2 : Int32) (v3 : Int32) (v4 : Int32) (σ : St) : Prop :=
  zK σ v0 = 12 ∧ ∃ a2 : Nat, zFr σ 705 v0 = some a2 ∧ zK σ a2 = 27 ∧ vp_in v2 (zL σ a2) ∧ ∃ a6 : Nat, zAr σ a2 (ix v2) = some a6 ∧ zK σ a6 = 10 ∧ ((¬ (zFi σ 580 a6) = 0 → wX11_twoQuestions_24 mc ms Q k n v1 v2 v3 v4 σ) ∧ ((zFi σ 580 a6) = 0 → vp_in v3 (zL σ a2) ∧ ∃ a10 : Nat, zAr σ a2 (ix v3) = some a10 ∧ zK σ a10 = 10 ∧ (((zFi σ 580 a10) = 0 → wX11_twoQuestions_29 mc ms Q k n v1 v2 v3 v4 0 σ) ∧ (¬ (zFi σ 580 a10) = 0 → wX11_twoQuestions_24 mc ms Q k n v1 v2 v3 v4 σ))))
def wX11_twoQuestions (mc ms : Nat) (v0 : Nat) (v1 : Int32) (v2 : Int32) (v3 : Int32) (v4 : Int32) (σ : St) (Q : Nat → St → Prop) : Prop := wX11_twoQuestions_0 mc ms Q 0 0 v0 v1 v2 v3 v4 σ
set_option maxRecDepth 20000 in
theorem kwX11_twoQuestions_29 {Γ : hCT} {mc ms : Nat} (C : hC Γ RX11 cX11_twoQuestions ((Option.some (FieldType.object RX9))) "twoQuestions" 2 37) {Q : Nat → St → Prop} (hΓ : Γ.2.2.2.2.2.2.2.2.2.2.2 = (6, mc, ms, oA Q)) (k n : Nat) (v1 : Int32) (v2 : Int32) (v3 : Int32) (v4 : Int32) (s0 : Int32) (σ : St) (hb : wX11_twoQuestions_29 mc ms Q k n v1 v2 v3 v4 s0 σ) : hW Γ k n 29 [(1, .int v1), (2, .int v2), (3, .int v3), (4, .int v4)] [.int s0] σ := by
  unfold wX11_twoQuestions_29 at hb
  refine g_istore (lv' := [(5, .int s0), (1, .int v1), (2, .int v2), (3, .int v3), (4, .int v4)]) C dX11_twoQuestions_29 (hnl_of hΓ (by decide)) (by first | rfl | simp [cat_rf]) ?_
  obtain ⟨q1, q2, hb⟩ := hb
  refine g_new zc_9 zd_9 ⟨_, rfl⟩ wd_141 wd_476 wd_91 C dX11_twoQuestions_31 (by rw [hmc_of hΓ]; exact q1) (by rw [hms_of hΓ]; exact q2) (fun b3 q4 => ?_)
  replace hb := hb b3 q4
  refine g_dup C dX11_twoQuestions_34 rfl ?_
  refine g_iload_n C dX11_twoQuestions_35 1 rfl ?_
  refine g_iload C dX11_twoQuestions_36 4 rfl ?_
  refine g_iload_n C dX11_twoQuestions_38 2 rfl ?_
  refine g_iload_n C dX11_twoQuestions_39 3 rfl ?_
  refine g_iload C dX11_twoQuestions_40 0 rfl ?_
  obtain ⟨m5, m6, q7, q8, hb⟩ := hb
  refine g_invI [.int v1, .int v4, .int v2, .int v3, .int s0] [.ref b3] zy_X9_init wd_477 wd_478 rfl C dX11_twoQuestions_42 (by first | exact Nat.le_of_ble_eq_true rfl | simp [cat_rf]) (by first | exact Nat.le_of_ble_eq_true rfl | simp [cat_rf]) (by first | exact Nat.le_of_ble_eq_true rfl | simp [cat_rf]) (by rw [hmc_of hΓ]; exact q7) (by rw [hms_of hΓ]; exact q8) rfl rfl  (okX9_init hb) ?_
  rintro o σ9 ⟨rfl, hb⟩
  refine ⟨_, rfl, ?_⟩
  obtain ⟨q10, q11, hb⟩ := hb
  exact g_areturn (some b3) (Or.inl ⟨_, rfl⟩) C hΓ q10 q11 dX11_twoQuestions_45 ⟨_, rfl, hb⟩
set_option maxRecDepth 20000 in
theorem kwX11_twoQuestions_24 {Γ : hCT} {mc ms : Nat} (C : hC Γ RX11 cX11_twoQuestions ((Option.some (FieldType.object RX9))) "twoQuestions" 2 37) {Q : Nat → St → Prop} (hΓ : Γ.2.2.2.2.2.2.2.2.2.2.2 = (6, mc, ms, oA Q)) (k n : Nat) (v1 : Int32) (v2 : Int32) (v3 : Int32) (v4 : Int32) (σ : St) (hb : wX11_twoQuestions_24 mc ms Q k n v1 v2 v3 v4 σ) : hW Γ k n 24 [(1, .int v1), (2, .int v2), (3, .int v3), (4, .int v4)] [] σ := by
  unfold wX11_twoQuestions_24 at hb
  refine g_iconst (v := 1) C dX11_twoQuestions_24 (by decide) ?_
  refine g_goto (tgt := 29) C dX11_twoQuestions_25 (by decide) ?_
  refine g_sub (lv' := [(1, .int v1), (2, .int v2), (3, .int v3), (4, .int v4)]) [0, 1, 2, 3] rfl ?_
  exact kwX11_twoQuestions_29 C hΓ  _ _ _ _ _ _ _ _ hb
set_option maxRecDepth 20000 in
theorem kwX11_twoQuestions_0 {Γ : hCT} {mc ms : Nat} (C : hC Γ RX11 cX11_twoQuestions ((Option.some (FieldType.object RX9))) "twoQuestions" 2 37) {Q : Nat → St → Prop} (hΓ : Γ.2.2.2.2.2.2.2.2.2.2.2 = (6, mc, ms, oA Q)) (k n : Nat) (v0 : Nat) (v1 : Int32) (v2 : Int32) (v3 : Int32) (v4 : Int32) (σ : St) (hb : wX11_twoQuestions_0 mc ms Q k n v0 v1 v2 v3 v4 σ) : hW Γ k n 0 [(0, .ref v0), (1, .int v1), (2, .int v2), (3, .int v3), (4, .int v4)] [] σ := by
  unfold wX11_twoQuestions_0 at hb
  refine g_aload_n (some v0) C dX11_twoQuestions_0 0 rfl ?_
  obtain ⟨q1, hb⟩ := hb
  obtain ⟨a2, q3, hb⟩ := hb
  refine g_getR (some a2) C fl_RX11_18 dX11_twoQuestions_1 q1 rfl rfl q3 ?_
  refine g_iload_n C dX11_twoQuestions_4 2 rfl ?_
  obtain ⟨q4, hb⟩ := hb
  obtain ⟨q5, hb⟩ := hb
  obtain ⟨a6, q7, hb⟩ := hb
  refine g_aald (some a6) el_27 C dX11_twoQuestions_5 q4 q5 q7 ?_
  obtain ⟨q8, hb⟩ := hb
  refine g_getIx (zFi σ 580 a6) C fl_RX11_183 dX11_twoQuestions_6 q8 rfl rfl rfl ?_
  refine g_if_ne (tgt := 24) C dX11_twoQuestions_9 (by decide) (fun c => ?_) (fun c => ?_)
  ·
    replace hb := hb.1 (c)
    refine g_sub (lv' := [(1, .int v1), (2, .int v2), (3, .int v3), (4, .int v4)]) [1, 2, 3, 4] rfl ?_
    exact kwX11_twoQuestions_24 C hΓ  _ _ _ _ _ _ _ hb
  ·
    replace hb := hb.2 (c)
    refine g_aload_n (some v0) C dX11_twoQuestions_12 0 rfl ?_
    refine g_getR (some a2) C fl_RX11_18 dX11_twoQuestions_13 q1 rfl rfl q3 ?_
    refine g_iload_n C dX11_twoQuestions_16 3 rfl ?_
    obtain ⟨q9, hb⟩ := hb
    obtain ⟨a10, q11, hb⟩ := hb
    refine g_aald (some a10) el_27 C dX11_twoQuestions_17 q4 q9 q11 ?_
    obtain ⟨q12, hb⟩ := hb
    refine g_getIx (zFi σ 580 a10) C fl_RX11_183 dX11_twoQuestions_18 q12 rfl rfl rfl ?_
    refine g_if_eq (tgt := 28) C dX11_twoQuestions_21 (by decide) (fun c => ?_) (fun c => ?_)
    ·
      replace hb := hb.1 (c)
      refine g_iconst (v := 0) C dX11_twoQuestions_28 (by decide) ?_
      refine g_sub (lv' := [(1, .int v1), (2, .int v2), (3, .int v3), (4, .int v4)]) [1, 2, 3, 4] rfl ?_
      exact kwX11_twoQuestions_29 C hΓ  _ _ _ _ _ _ _ _ hb
    ·
      replace hb := hb.2 (c)
      refine g_sub (lv' := [(1, .int v1), (2, .int v2), (3, .int v3), (4, .int v4)]) [1, 2, 3, 4] rfl ?_
      exact kwX11_twoQuestions_24 C hΓ  _ _ _ _ _ _ _ hb
theorem okX11_twoQuestions {mc ms : Nat} {v0 : Nat} {v1 : Int32} {v2 : Int32} {v3 : Int32} {v4 : Int32} {σ : St} {Q : Nat → St → Prop} (hb : wX11_twoQuestions mc ms v0 v1 v2 v3 v4 σ Q) : hM yX11_twoQuestions cX11_twoQuestions 6 ((Option.some (FieldType.object RX9))) 2 37 mc ms [.ref v0, .int v1, .int v2, .int v3, .int v4] σ (oA Q) :=
  hM_of (by decide) (Nat.le_of_ble_eq_true rfl) (fun Γ hΓ C => kwX11_twoQuestions_0 (mc := mc) (ms := ms) C hΓ 0 0 _ _ _ _ _ _ hb)
def wX11_pair_41 (mc ms : Nat) (Q : Int32 → St → Prop) (k n : Nat) (v0 : Nat) (σ : St) : Prop :=
  k ≤ mc ∧ n ≤ ms ∧ zK σ v0 = 12 ∧ wX11_refused v0 2 σ (fun y5 σ4 => k ≤ mc ∧ n ≤ ms ∧ Q y5 σ4)
def wX11_pair_16 (mc ms : Nat) (Q : Int32 → St → Prop) (k n : Nat) (v0 : Nat) (σ : St) : Prop :=
  k ≤ mc ∧ n ≤ ms ∧ zK σ v0 = 12 ∧ wX11_refused v0 1 σ (fun y5 σ4 => k ≤ mc ∧ n ≤ ms ∧ Q y5 σ4)
def wX11_pair_0 (mc ms : Nat) (Q : Int32 → St → Prop) (k n : Nat) (v0 : Nat) (v1 : Int32) (v2 : Int32) (v3 : Int32) (v4 : Int32) (σ : St) : Prop :=
  k ≤ mc ∧ n ≤ ms ∧ zK σ v0 = 12 ∧ wX11_isQuestion v0 v1 σ (fun y5 σ4 => ((y5 = 0 → wX11_pair_16 mc ms Q k n v0 σ4) ∧ (¬ y5 = 0 → k ≤ mc ∧ n ≤ ms ∧ zK σ4 v0 = 12 ∧ wX11_isQuestion v0 v2 σ4 (fun y10 σ9 => ((¬ y10 = 0 → k ≤ mc ∧ n ≤ ms ∧ zK σ9 v0 = 12 ∧ wX11_hasPlace v0 v1 v3 σ9 (fun y15 σ14 => ((y15 = 0 → wX11_pair_41 mc ms Q k n v0 σ14) ∧ (¬ y15 = 0 → k ≤ mc ∧ n ≤ ms ∧ zK σ14 v0 = 12 ∧ wX11_hasPlace v0 v2 v4 σ14 (fun y20 σ19 => ((¬ y20 = 0 → zK σ19 v0 = 12 ∧ ∃ a22 : Nat, zFr σ19 705 v0 = some a22 ∧ zK σ19 a22 = 27 ∧ vp_in v1 (zL σ19 a22) ∧ ∃ a26 : Nat, zAr σ19 a22 (ix v1) = some a26 ∧ zK σ19 a26 = 10 ∧ vp_in v2 (zL σ19 a22) ∧ ∃ a30 : Nat, zAr σ19 a22 (ix v2) = some a30 ∧ zK σ19 a30 = 10 ∧ ((((zFi σ19 577 a26) + (zFi σ19 577 a30)) ≤ (6 : Int32) → ∃ m33 m34 : Nat, k + m33 ≤ mc ∧ n + m34 ≤ ms ∧ wX11_twoQuestions m33 m34 v0 4 v1 v2 ((zFi σ19 577 a26) + (zFi σ19 577 a30)) σ19 (fun y38 σ37 => k + m33 ≤ mc ∧ n + m34 ≤ ms ∧ zK σ37 y38 = 10 ∧ wX9_tell y38 v3 v4 σ37 (fun σ42 => ∃ m43 m44 : Nat, k + m33 + m43 ≤ mc ∧ n + m34 + m44 ≤ ms ∧ zK σ42 v0 = 12 ∧ wX11_asked m43 m44 v0 y38 σ42 (fun y49 σ48 => k + m33 + m43 ≤ mc ∧ n + m34 + m44 ≤ ms ∧ Q y49 σ48)))) ∧ (¬ ((zFi σ19 577 a26) + (zFi σ19 577 a30)) ≤ (6 : Int32) → k ≤ mc ∧ n ≤ ms ∧ wX11_refused v0 3 σ19 (fun y55 σ54 => k ≤ mc ∧ n ≤ ms ∧ Q y55 σ54)))) ∧ (y20 = 0 → wX11_pair_41 mc ms Q k n v0 σ19))))))) ∧ (y10 = 0 → wX11_pair_16 mc ms Q k n v0 σ9))))))
def wX11_pair (mc ms : Nat) (v0 : Nat) (v1 : Int32) (v2 : Int32) (v3 : Int32) (v4 : Int32) (σ : St) (Q : Int32 → St → Prop) : Prop := wX11_pair_0 mc ms Q 0 0 v0 v1 v2 v3 v4 σ
set_option maxRecDepth 20000 in
theorem kwX11_pair_41 {Γ : hCT} {mc ms : Nat} (C : hC Γ RX11 cX11_pair ((Option.some FieldType.int)) "pair" 4 103) {Q : Int32 → St → Prop} (hΓ : Γ.2.2.2.2.2.2.2.2.2.2.2 = (7, mc, ms, oI Q)) (k n : Nat) (v0 : Nat) (σ : St) (hb : wX11_pair_41 mc ms Q k n v0 σ) : hW Γ k n 41 [(0, .ref v0)] [] σ := by
  unfold wX11_pair_41 at hb
  refine g_aload_n (some v0) C dX11_pair_41 0 rfl ?_
  refine g_iconst (v := 2) C dX11_pair_42 (by decide) ?_
  obtain ⟨q1, q2, hb⟩ := hb
  obtain ⟨q3, hb⟩ := hb
  refine g_invV (ci := 11) [.int 2] [] zy_X11_refused wd_361 wd_363 wd_0 ⟨_, _, rfl⟩ (by decide) C dX11_pair_43 (by first | exact Nat.le_of_ble_eq_true rfl | simp [cat_rf]) (by first | exact Nat.le_of_ble_eq_true rfl | simp [cat_rf]) (by first | exact Nat.le_of_ble_eq_true rfl | simp [cat_rf]) (by rw [hmc_of hΓ]; exact q1) (by rw [hms_of hΓ]; exact q2) rfl rfl q3 (okX11_refused hb) ?_
  rintro o σ4 ⟨y5, rfl, hb⟩
  refine ⟨_, rfl, ?_⟩
  obtain ⟨q6, q7, hb⟩ := hb
  exact g_ireturn C hΓ q6 q7 dX11_pair_46 ⟨_, rfl, hb⟩
set_option maxRecDepth 20000 in
theorem kwX11_pair_16 {Γ : hCT} {mc ms : Nat} (C : hC Γ RX11 cX11_pair ((Option.some FieldType.int)) "pair" 4 103) {Q : Int32 → St → Prop} (hΓ : Γ.2.2.2.2.2.2.2.2.2.2.2 = (7, mc, ms, oI Q)) (k n : Nat) (v0 : Nat) (σ : St) (hb : wX11_pair_16 mc ms Q k n v0 σ) : hW Γ k n 16 [(0, .ref v0)] [] σ := by
  unfold wX11_pair_16 at hb
  refine g_aload_n (some v0) C dX11_pair_16 0 rfl ?_
  refine g_iconst (v := 1) C dX11_pair_17 (by decide) ?_
  obtain ⟨q1, q2, hb⟩ := hb
  obtain ⟨q3, hb⟩ := hb
  refine g_invV (ci := 11) [.int 1] [] zy_X11_refused wd_361 wd_363 wd_0 ⟨_, _, rfl⟩ (by decide) C dX11_pair_18 (by first | exact Nat.le_of_ble_eq_true rfl | simp [cat_rf]) (by first | exact Nat.le_of_ble_eq_true rfl | simp [cat_rf]) (by first | exact Nat.le_of_ble_eq_true rfl | simp [cat_rf]) (by rw [hmc_of hΓ]; exact q1) (by rw [hms_of hΓ]; exact q2) rfl rfl q3 (okX11_refused hb) ?_
  rintro o σ4 ⟨y5, rfl, hb⟩
  refine ⟨_, rfl, ?_⟩
  obtain ⟨q6, q7, hb⟩ := hb
  exact g_ireturn C hΓ q6 q7 dX11_pair_21 ⟨_, rfl, hb⟩
set_option maxRecDepth 20000 in
theorem kwX11_pair_0 {Γ : hCT} {mc ms : Nat} (C : hC Γ RX11 cX11_pair ((Option.some FieldType.int)) "pair" 4 103) {Q : Int32 → St → Prop} (hΓ : Γ.2.2.2.2.2.2.2.2.2.2.2 = (7, mc, ms, oI Q)) (k n : Nat) (v0 : Nat) (v1 : Int32) (v2 : Int32) (v3 : Int32) (v4 : Int32) (σ : St) (hb : wX11_pair_0 mc ms Q k n v0 v1 v2 v3 v4 σ) : hW Γ k n 0 [(0, .ref v0), (1, .int v1), (2, .int v2), (3, .int v3), (4, .int v4)] [] σ := by
  unfold wX11_pair_0 at hb
  refine g_aload_n (some v0) C dX11_pair_0 0 rfl ?_
  refine g_iload_n C dX11_pair_1 1 rfl ?_
  obtain ⟨q1, q2, hb⟩ := hb
  obtain ⟨q3, hb⟩ := hb
  refine g_invV (ci := 11) [.int v1] [] zy_X11_isQuestion wd_518 wd_520 wd_3 ⟨_, _, rfl⟩ (by decide) C dX11_pair_2 (by first | exact Nat.le_of_ble_eq_true rfl | simp [cat_rf]) (by first | exact Nat.le_of_ble_eq_true rfl | simp [cat_rf]) (by first | exact Nat.le_of_ble_eq_true rfl | simp [cat_rf]) (by rw [hmc_of hΓ]; exact q1) (by rw [hms_of hΓ]; exact q2) rfl rfl q3 (okX11_isQuestion hb) ?_
  rintro o σ4 ⟨y5, rfl, hb⟩
  refine ⟨_, rfl, ?_⟩
  refine g_if_eq (tgt := 16) C dX11_pair_5 (by decide) (fun c => ?_) (fun c => ?_)
  ·
    replace hb := hb.1 (c)
    refine g_sub (lv' := [(0, .ref v0)]) [0] rfl ?_
    exact kwX11_pair_16 C hΓ  _ _ _ _ hb
  ·
    replace hb := hb.2 (c)
    refine g_aload_n (some v0) C dX11_pair_8 0 rfl ?_
    refine g_iload_n C dX11_pair_9 2 rfl ?_
    obtain ⟨q6, q7, hb⟩ := hb
    obtain ⟨q8, hb⟩ := hb
    refine g_invV (ci := 11) [.int v2] [] zy_X11_isQuestion wd_518 wd_520 wd_3 ⟨_, _, rfl⟩ (by decide) C dX11_pair_10 (by first | exact Nat.le_of_ble_eq_true rfl | simp [cat_rf]) (by first | exact Nat.le_of_ble_eq_true rfl | simp [cat_rf]) (by first | exact Nat.le_of_ble_eq_true rfl | simp [cat_rf]) (by rw [hmc_of hΓ]; exact q6) (by rw [hms_of hΓ]; exact q7) rfl rfl q8 (okX11_isQuestion hb) ?_
    rintro o σ9 ⟨y10, rfl, hb⟩
    refine ⟨_, rfl, ?_⟩
    refine g_if_ne (tgt := 22) C dX11_pair_13 (by decide) (fun c => ?_) (fun c => ?_)
    ·
      replace hb := hb.1 (c)
      refine g_aload_n (some v0) C dX11_pair_22 0 rfl ?_
      refine g_iload_n C dX11_pair_23 1 rfl ?_
      refine g_iload_n C dX11_pair_24 3 rfl ?_
      obtain ⟨q11, q12, hb⟩ := hb
      obtain ⟨q13, hb⟩ := hb
      refine g_invV (ci := 11) [.int v1, .int v3] [] zy_X11_hasPlace wd_522 wd_524 wd_4 ⟨_, _, rfl⟩ (by decide) C dX11_pair_25 (by first | exact Nat.le_of_ble_eq_true rfl | simp [cat_rf]) (by first | exact Nat.le_of_ble_eq_true rfl | simp [cat_rf]) (by first | exact Nat.le_of_ble_eq_true rfl | simp [cat_rf]) (by rw [hmc_of hΓ]; exact q11) (by rw [hms_of hΓ]; exact q12) rfl rfl q13 (okX11_hasPlace hb) ?_
      rintro o σ14 ⟨y15, rfl, hb⟩
      refine ⟨_, rfl, ?_⟩
      refine g_if_eq (tgt := 41) C dX11_pair_28 (by decide) (fun c => ?_) (fun c => ?_)
      ·
        replace hb := hb.1 (c)
        refine g_sub (lv' := [(0, .ref v0)]) [0] rfl ?_
        exact kwX11_pair_41 C hΓ  _ _ _ _ hb
      ·
        replace hb := hb.2 (c)
        refine g_aload_n (some v0) C dX11_pair_31 0 rfl ?_
        refine g_iload_n C dX11_pair_32 2 rfl ?_
        refine g_iload C dX11_pair_33 4 rfl ?_
        obtain ⟨q16, q17, hb⟩ := hb
        obtain ⟨q18, hb⟩ := hb
        refine g_invV (ci := 11) [.int v2, .int v4] [] zy_X11_hasPlace wd_522 wd_524 wd_4 ⟨_, _, rfl⟩ (by decide) C dX11_pair_35 (by first | exact Nat.le_of_ble_eq_true rfl | simp [cat_rf]) (by first | exact Nat.le_of_ble_eq_true rfl | simp [cat_rf]) (by first | exact Nat.le_of_ble_eq_true rfl | simp [cat_rf]) (by rw [hmc_of hΓ]; exact q16) (by rw [hms_of hΓ]; exact q17) rfl rfl q18 (okX11_hasPlace hb) ?_
        rintro o σ19 ⟨y20, rfl, hb⟩
        refine ⟨_, rfl, ?_⟩
        refine g_if_ne (tgt := 47) C dX11_pair_38 (by decide) (fun c => ?_) (fun c => ?_)
        ·
          replace hb := hb.1 (c)
          refine g_aload_n (some v0) C dX11_pair_47 0 rfl ?_
          obtain ⟨q21, hb⟩ := hb
          obtain ⟨a22, q23, hb⟩ := hb
          refine g_getR (some a22) C fl_RX11_18 dX11_pair_48 q21 rfl rfl q23 ?_
          refine g_iload_n C dX11_pair_51 1 rfl ?_
          obtain ⟨q24, hb⟩ := hb
          obtain ⟨q25, hb⟩ := hb
          obtain ⟨a26, q27, hb⟩ := hb
          refine g_aald (some a26) el_27 C dX11_pair_52 q24 q25 q27 ?_
          obtain ⟨q28, hb⟩ := hb
          refine g_getIx (zFi σ19 577 a26) C fl_RX11_153 dX11_pair_53 q28 rfl rfl rfl ?_
          refine g_aload_n (some v0) C dX11_pair_56 0 rfl ?_
          refine g_getR (some a22) C fl_RX11_18 dX11_pair_57 q21 rfl rfl q23 ?_
          refine g_iload_n C dX11_pair_60 2 rfl ?_
          obtain ⟨q29, hb⟩ := hb
          obtain ⟨a30, q31, hb⟩ := hb
          refine g_aald (some a30) el_27 C dX11_pair_61 q24 q29 q31 ?_
          obtain ⟨q32, hb⟩ := hb
          refine g_getIx (zFi σ19 577 a30) C fl_RX11_153 dX11_pair_62 q32 rfl rfl rfl ?_
          refine g_iadd C dX11_pair_65 ?_
          refine g_istore (lv' := [(5, .int ((zFi σ19 577 a26) + (zFi σ19 577 a30))), (0, .ref v0), (1, .int v1), (2, .int v2), (3, .int v3), (4, .int v4)]) C dX11_pair_66 (hnl_of hΓ (by decide)) (by first | rfl | simp [cat_rf]) ?_
          refine g_iload C dX11_pair_68 0 rfl ?_
          refine g_bipush (v := 6) C dX11_pair_70 (by decide) ?_
          refine g_icmp_le (tgt := 81) C dX11_pair_72 (by decide) (fun c => ?_) (fun c => ?_)
          ·
            replace hb := hb.1 (c)
            refine g_aload_n (some v0) C dX11_pair_81 1 rfl ?_
            refine g_iconst (v := 4) C dX11_pair_82 (by decide) ?_
            refine g_iload_n C dX11_pair_83 2 rfl ?_
            refine g_iload_n C dX11_pair_84 3 rfl ?_
            refine g_iload C dX11_pair_85 0 rfl ?_
            obtain ⟨m33, m34, q35, q36, hb⟩ := hb
            refine g_invV (ci := 11) [.int 4, .int v1, .int v2, .int ((zFi σ19 577 a26) + (zFi σ19 577 a30))] [] zy_X11_twoQuestions wd_550 wd_552 wd_6 ⟨_, _, rfl⟩ (by decide) C dX11_pair_87 (by first | exact Nat.le_of_ble_eq_true rfl | simp [cat_rf]) (by first | exact Nat.le_of_ble_eq_true rfl | simp [cat_rf]) (by first | exact Nat.le_of_ble_eq_true rfl | simp [cat_rf]) (by rw [hmc_of hΓ]; exact q35) (by rw [hms_of hΓ]; exact q36) rfl rfl q21 (okX11_twoQuestions hb) ?_
            rintro o σ37 ⟨y38, rfl, hb⟩
            refine ⟨_, rfl, ?_⟩
            refine g_astore (lv' := [(6, .ref y38), (5, .int ((zFi σ19 577 a26) + (zFi σ19 577 a30))), (0, .ref v0), (1, .int v1), (2, .int v2), (3, .int v3), (4, .int v4)]) (some y38) C dX11_pair_90 (hnl_of hΓ (by decide)) (by first | rfl | simp [cat_rf]) ?_
            refine g_aload (some y38) C dX11_pair_92 0 rfl ?_
            refine g_iload_n C dX11_pair_94 5 rfl ?_
            refine g_iload C dX11_pair_95 6 rfl ?_
            obtain ⟨q39, q40, hb⟩ := hb
            obtain ⟨q41, hb⟩ := hb
            refine g_invV (ci := 9) [.int v3, .int v4] [] zy_X9_tell wd_530 wd_531 wd_532 ⟨_, _, rfl⟩ (by decide) C dX11_pair_97 (by first | exact Nat.le_of_ble_eq_true rfl | simp [cat_rf]) (by first | exact Nat.le_of_ble_eq_true rfl | simp [cat_rf]) (by first | exact Nat.le_of_ble_eq_true rfl | simp [cat_rf]) (by rw [hmc_of hΓ]; exact q39) (by rw [hms_of hΓ]; exact q40) rfl rfl q41 (okX9_tell hb) ?_
            rintro o σ42 ⟨rfl, hb⟩
            refine ⟨_, rfl, ?_⟩
            refine g_aload_n (some v0) C dX11_pair_100 2 rfl ?_
            refine g_aload (some y38) C dX11_pair_101 0 rfl ?_
            obtain ⟨m43, m44, q45, q46, hb⟩ := hb
            obtain ⟨q47, hb⟩ := hb
            refine g_invV (ci := 11) [.ref y38] [] zy_X11_asked wd_510 wd_512 wd_2 ⟨_, _, rfl⟩ (by decide) C dX11_pair_103 (by first | exact Nat.le_of_ble_eq_true rfl | simp [cat_rf]) (by first | exact Nat.le_of_ble_eq_true rfl | simp [cat_rf]) (by first | exact Nat.le_of_ble_eq_true rfl | simp [cat_rf]) (by rw [hmc_of hΓ]; exact q45) (by rw [hms_of hΓ]; exact q46) rfl rfl q47 (okX11_asked hb) ?_
            rintro o σ48 ⟨y49, rfl, hb⟩
            refine ⟨_, rfl, ?_⟩
            obtain ⟨q50, q51, hb⟩ := hb
            exact g_ireturn C hΓ q50 q51 dX11_pair_106 ⟨_, rfl, hb⟩
          ·
            replace hb := hb.2 (c)
            refine g_aload_n (some v0) C dX11_pair_75 1 rfl ?_
            refine g_iconst (v := 3) C dX11_pair_76 (by decide) ?_
            obtain ⟨q52, q53, hb⟩ := hb
            refine g_invV (ci := 11) [.int 3] [] zy_X11_refused wd_361 wd_363 wd_0 ⟨_, _, rfl⟩ (by decide) C dX11_pair_77 (by first | exact Nat.le_of_ble_eq_true rfl | simp [cat_rf]) (by first | exact Nat.le_of_ble_eq_true rfl | simp [cat_rf]) (by first | exact Nat.le_of_ble_eq_true rfl | simp [cat_rf]) (by rw [hmc_of hΓ]; exact q52) (by rw [hms_of hΓ]; exact q53) rfl rfl q21 (okX11_refused hb) ?_
            rintro o σ54 ⟨y55, rfl, hb⟩
            refine ⟨_, rfl, ?_⟩
            obtain ⟨q56, q57, hb⟩ := hb
            exact g_ireturn C hΓ q56 q57 dX11_pair_80 ⟨_, rfl, hb⟩
        ·
          replace hb := hb.2 (c)
          refine g_sub (lv' := [(0, .ref v0)]) [0] rfl ?_
          exact kwX11_pair_41 C hΓ  _ _ _ _ hb
    ·
      replace hb := hb.2 (c)
      refine g_sub (lv' := [(0, .ref v0)]) [0] rfl ?_
      exact kwX11_pair_16 C hΓ  _ _ _ _ hb
theorem okX11_pair {mc ms : Nat} {v0 : Nat} {v1 : Int32} {v2 : Int32} {v3 : Int32} {v4 : Int32} {σ : St} {Q : Int32 → St → Prop} (hb : wX11_pair mc ms v0 v1 v2 v3 v4 σ Q) : hM yX11_pair cX11_pair 7 ((Option.some FieldType.int)) 4 103 mc ms [.ref v0, .int v1, .int v2, .int v3, .int v4] σ (oI Q) :=
  hM_of (by decide) (Nat.le_of_ble_eq_true rfl) (fun Γ hΓ C => kwX11_pair_0 (mc := mc) (ms := ms) C hΓ 0 0 _ _ _ _ _ _ hb)
def wX11_ofAsManyPlaces_16 (mc ms : Nat) (Q : Int32 → St → Prop) (k n : Nat) (v0 : Nat) (σ : St) : Prop :=
  k ≤ mc ∧ n ≤ ms ∧ zK σ v0 = 12 ∧ wX11_refused v0 1 σ (fun y5 σ4 => k ≤ mc ∧ n ≤ ms ∧ Q y5 σ4)
def wX11_ofAsManyPlaces_0 (mc ms : Nat) (Q : Int32 → St → Prop) (k n : Nat) (v0 : Nat) (v1 : Int32) (v2 : Int32) (v3 : Int32) (σ : St) : Prop :=
  k ≤ mc ∧ n ≤ ms ∧ zK σ v0 = 12 ∧ wX11_isQuestion v0 v2 σ (fun y5 σ4 => ((y5 = 0 → wX11_ofAsManyPlaces_16 mc ms Q k n v0 σ4) ∧ (¬ y5 = 0 → k ≤ mc ∧ n ≤ ms ∧ zK σ4 v0 = 12 ∧ wX11_isQuestion v0 v3 σ4 (fun y10 σ9 => ((¬ y10 = 0 → zK σ9 v0 = 12 ∧ ∃ a12 : Nat, zFr σ9 705 v0 = some a12 ∧ zK σ9 a12 = 27 ∧ vp_in v2 (zL σ9 a12) ∧ ∃ a16 : Nat, zAr σ9 a12 (ix v2) = some a16 ∧ zK σ9 a16 = 10 ∧ vp_in v3 (zL σ9 a12) ∧ ∃ a20 : Nat, zAr σ9 a12 (ix v3) = some a20 ∧ zK σ9 a20 = 10 ∧ (((zFi σ9 577 a16) = (zFi σ9 577 a20) → ∃ m23 m24 : Nat, k + m23 ≤ mc ∧ n + m24 ≤ ms ∧ wX11_twoQuestions m23 m24 v0 v1 v2 v3 (zFi σ9 577 a16) σ9 (fun y28 σ27 => ∃ m29 m30 : Nat, k + m23 + m29 ≤ mc ∧ n + m24 + m30 ≤ ms ∧ zK σ27 v0 = 12 ∧ wX11_asked m29 m30 v0 y28 σ27 (fun y35 σ34 => k + m23 + m29 ≤ mc ∧ n + m24 + m30 ≤ ms ∧ Q y35 σ34))) ∧ (¬ (zFi σ9 577 a16) = (zFi σ9 577 a20) → k ≤ mc ∧ n ≤ ms ∧ wX11_refused v0 3 σ9 (fun y41 σ40 => k ≤ mc ∧ n ≤ ms ∧ Q y41 σ40)))) ∧ (y10 = 0 → wX11_ofAsManyPlaces_16 mc ms Q k n v0 σ9))))))
def wX11_ofAsManyPlaces (mc ms : Nat) (v0 : Nat) (v1 : Int32) (v2 : Int32) (v3 : Int32) (σ : St) (Q : Int32 → St → Prop) : Prop := wX11_ofAsManyPlaces_0 mc ms Q 0 0 v0 v1 v2 v3 σ
set_option maxRecDepth 20000 in
theorem kwX11_ofAsManyPlaces_16 {Γ : hCT} {mc ms : Nat} (C : hC Γ RX11 cX11_ofAsManyPlaces ((Option.some FieldType.int)) "ofAsManyPlaces" 4 103) {Q : Int32 → St → Prop} (hΓ : Γ.2.2.2.2.2.2.2.2.2.2.2 = (4, mc, ms, oI Q)) (k n : Nat) (v0 : Nat) (σ : St) (hb : wX11_ofAsManyPlaces_16 mc ms Q k n v0 σ) : hW Γ k n 16 [(0, .ref v0)] [] σ := by
  unfold wX11_ofAsManyPlaces_16 at hb
  refine g_aload_n (some v0) C dX11_ofAsManyPlaces_16 0 rfl ?_
  refine g_iconst (v := 1) C dX11_ofAsManyPlaces_17 (by decide) ?_
  obtain ⟨q1, q2, hb⟩ := hb
  obtain ⟨q3, hb⟩ := hb
  refine g_invV (ci := 11) [.int 1] [] zy_X11_refused wd_361 wd_363 wd_0 ⟨_, _, rfl⟩ (by decide) C dX11_ofAsManyPlaces_18 (by first | exact Nat.le_of_ble_eq_true rfl | simp [cat_rf]) (by first | exact Nat.le_of_ble_eq_true rfl | simp [cat_rf]) (by first | exact Nat.le_of_ble_eq_true rfl | simp [cat_rf]) (by rw [hmc_of hΓ]; exact q1) (by rw [hms_of hΓ]; exact q2) rfl rfl q3 (okX11_refused hb) ?_
  rintro o σ4 ⟨y5, rfl, hb⟩
  refine ⟨_, rfl, ?_⟩
  obtain ⟨q6, q7, hb⟩ := hb
  exact g_ireturn C hΓ q6 q7 dX11_ofAsManyPlaces_21 ⟨_, rfl, hb⟩
set_option maxRecDepth 20000 in
theorem kwX11_ofAsManyPlaces_0 {Γ : hCT} {mc ms : Nat} (C : hC Γ RX11 cX11_ofAsManyPlaces ((Option.some FieldType.int)) "ofAsManyPlaces" 4 103) {Q : Int32 → St → Prop} (hΓ : Γ.2.2.2.2.2.2.2.2.2.2.2 = (4, mc, ms, oI Q)) (k n : Nat) (v0 : Nat) (v1 : Int32) (v2 : Int32) (v3 : Int32) (σ : St) (hb : wX11_ofAsManyPlaces_0 mc ms Q k n v0 v1 v2 v3 σ) : hW Γ k n 0 [(0, .ref v0), (1, .int v1), (2, .int v2), (3, .int v3)] [] σ := by
  unfold wX11_ofAsManyPlaces_0 at hb
  refine g_aload_n (some v0) C dX11_ofAsManyPlaces_0 0 rfl ?_
  refine g_iload_n C dX11_ofAsManyPlaces_1 2 rfl ?_
  obtain ⟨q1, q2, hb⟩ := hb
  obtain ⟨q3, hb⟩ := hb
  refine g_invV (ci := 11) [.int v2] [] zy_X11_isQuestion wd_518 wd_520 wd_3 ⟨_, _, rfl⟩ (by decide) C dX11_ofAsManyPlaces_2 (by first | exact Nat.le_of_ble_eq_true rfl | simp [cat_rf]) (by first | exact Nat.le_of_ble_eq_true rfl | simp [cat_rf]) (by first | exact Nat.le_of_ble_eq_true rfl | simp [cat_rf]) (by rw [hmc_of hΓ]; exact q1) (by rw [hms_of hΓ]; exact q2) rfl rfl q3 (okX11_isQuestion hb) ?_
  rintro o σ4 ⟨y5, rfl, hb⟩
  refine ⟨_, rfl, ?_⟩
  refine g_if_eq (tgt := 16) C dX11_ofAsManyPlaces_5 (by decide) (fun c => ?_) (fun c => ?_)
  ·
    replace hb := hb.1 (c)
    refine g_sub (lv' := [(0, .ref v0)]) [0] rfl ?_
    exact kwX11_ofAsManyPlaces_16 C hΓ  _ _ _ _ hb
  ·
    replace hb := hb.2 (c)
    refine g_aload_n (some v0) C dX11_ofAsManyPlaces_8 0 rfl ?_
    refine g_iload_n C dX11_ofAsManyPlaces_9 3 rfl ?_
    obtain ⟨q6, q7, hb⟩ := hb
    obtain ⟨q8, hb⟩ := hb
    refine g_invV (ci := 11) [.int v3] [] zy_X11_isQuestion wd_518 wd_520 wd_3 ⟨_, _, rfl⟩ (by decide) C dX11_ofAsManyPlaces_10 (by first | exact Nat.le_of_ble_eq_true rfl | simp [cat_rf]) (by first | exact Nat.le_of_ble_eq_true rfl | simp [cat_rf]) (by first | exact Nat.le_of_ble_eq_true rfl | simp [cat_rf]) (by rw [hmc_of hΓ]; exact q6) (by rw [hms_of hΓ]; exact q7) rfl rfl q8 (okX11_isQuestion hb) ?_
    rintro o σ9 ⟨y10, rfl, hb⟩
    refine ⟨_, rfl, ?_⟩
    refine g_if_ne (tgt := 22) C dX11_ofAsManyPlaces_13 (by decide) (fun c => ?_) (fun c => ?_)
    ·
      replace hb := hb.1 (c)
      refine g_aload_n (some v0) C dX11_ofAsManyPlaces_22 0 rfl ?_
      obtain ⟨q11, hb⟩ := hb
      obtain ⟨a12, q13, hb⟩ := hb
      refine g_getR (some a12) C fl_RX11_18 dX11_ofAsManyPlaces_23 q11 rfl rfl q13 ?_
      refine g_iload_n C dX11_ofAsManyPlaces_26 2 rfl ?_
      obtain ⟨q14, hb⟩ := hb
      obtain ⟨q15, hb⟩ := hb
      obtain ⟨a16, q17, hb⟩ := hb
      refine g_aald (some a16) el_27 C dX11_ofAsManyPlaces_27 q14 q15 q17 ?_
      obtain ⟨q18, hb⟩ := hb
      refine g_getIx (zFi σ9 577 a16) C fl_RX11_153 dX11_ofAsManyPlaces_28 q18 rfl rfl rfl ?_
      refine g_aload_n (some v0) C dX11_ofAsManyPlaces_31 0 rfl ?_
      refine g_getR (some a12) C fl_RX11_18 dX11_ofAsManyPlaces_32 q11 rfl rfl q13 ?_
      refine g_iload_n C dX11_ofAsManyPlaces_35 3 rfl ?_
      obtain ⟨q19, hb⟩ := hb
      obtain ⟨a20, q21, hb⟩ := hb
      refine g_aald (some a20) el_27 C dX11_ofAsManyPlaces_36 q14 q19 q21 ?_
      obtain ⟨q22, hb⟩ := hb
      refine g_getIx (zFi σ9 577 a20) C fl_RX11_153 dX11_ofAsManyPlaces_37 q22 rfl rfl rfl ?_
      refine g_icmp_eq (tgt := 49) C dX11_ofAsManyPlaces_40 (by decide) (fun c => ?_) (fun c => ?_)
      ·
        replace hb := hb.1 (c)
        refine g_aload_n (some v0) C dX11_ofAsManyPlaces_49 0 rfl ?_
        refine g_aload_n (some v0) C dX11_ofAsManyPlaces_50 0 rfl ?_
        refine g_iload_n C dX11_ofAsManyPlaces_51 1 rfl ?_
        refine g_iload_n C dX11_ofAsManyPlaces_52 2 rfl ?_
        refine g_iload_n C dX11_ofAsManyPlaces_53 3 rfl ?_
        refine g_aload_n (some v0) C dX11_ofAsManyPlaces_54 0 rfl ?_
        refine g_getR (some a12) C fl_RX11_18 dX11_ofAsManyPlaces_55 q11 rfl rfl q13 ?_
        refine g_iload_n C dX11_ofAsManyPlaces_58 2 rfl ?_
        refine g_aald (some a16) el_27 C dX11_ofAsManyPlaces_59 q14 q15 q17 ?_
        refine g_getIx (zFi σ9 577 a16) C fl_RX11_153 dX11_ofAsManyPlaces_60 q18 rfl rfl rfl ?_
        obtain ⟨m23, m24, q25, q26, hb⟩ := hb
        refine g_invV (ci := 11) [.int v1, .int v2, .int v3, .int (zFi σ9 577 a16)] [.ref v0] zy_X11_twoQuestions wd_550 wd_552 wd_6 ⟨_, _, rfl⟩ (by decide) C dX11_ofAsManyPlaces_63 (by first | exact Nat.le_of_ble_eq_true rfl | simp [cat_rf]) (by first | exact Nat.le_of_ble_eq_true rfl | simp [cat_rf]) (by first | exact Nat.le_of_ble_eq_true rfl | simp [cat_rf]) (by rw [hmc_of hΓ]; exact q25) (by rw [hms_of hΓ]; exact q26) rfl rfl q11 (okX11_twoQuestions hb) ?_
        rintro o σ27 ⟨y28, rfl, hb⟩
        refine ⟨_, rfl, ?_⟩
        obtain ⟨m29, m30, q31, q32, hb⟩ := hb
        obtain ⟨q33, hb⟩ := hb
        refine g_invV (ci := 11) [.ref y28] [] zy_X11_asked wd_510 wd_512 wd_2 ⟨_, _, rfl⟩ (by decide) C dX11_ofAsManyPlaces_66 (by first | exact Nat.le_of_ble_eq_true rfl | simp [cat_rf]) (by first | exact Nat.le_of_ble_eq_true rfl | simp [cat_rf]) (by first | exact Nat.le_of_ble_eq_true rfl | simp [cat_rf]) (by rw [hmc_of hΓ]; exact q31) (by rw [hms_of hΓ]; exact q32) rfl rfl q33 (okX11_asked hb) ?_
        rintro o σ34 ⟨y35, rfl, hb⟩
        refine ⟨_, rfl, ?_⟩
        obtain ⟨q36, q37, hb⟩ := hb
        exact g_ireturn C hΓ q36 q37 dX11_ofAsManyPlaces_69 ⟨_, rfl, hb⟩
      ·
        replace hb := hb.2 (c)
        refine g_aload_n (some v0) C dX11_ofAsManyPlaces_43 0 rfl ?_
        refine g_iconst (v := 3) C dX11_ofAsManyPlaces_44 (by decide) ?_
        obtain ⟨q38, q39, hb⟩ := hb
        refine g_invV (ci := 11) [.int 3] [] zy_X11_refused wd_361 wd_363 wd_0 ⟨_, _, rfl⟩ (by decide) C dX11_ofAsManyPlaces_45 (by first | exact Nat.le_of_ble_eq_true rfl | simp [cat_rf]) (by first | exact Nat.le_of_ble_eq_true rfl | simp [cat_rf]) (by first | exact Nat.le_of_ble_eq_true rfl | simp [cat_rf]) (by rw [hmc_of hΓ]; exact q38) (by rw [hms_of hΓ]; exact q39) rfl rfl q11 (okX11_refused hb) ?_
        rintro o σ40 ⟨y41, rfl, hb⟩
        refine ⟨_, rfl, ?_⟩
        obtain ⟨q42, q43, hb⟩ := hb
        exact g_ireturn C hΓ q42 q43 dX11_ofAsManyPlaces_48 ⟨_, rfl, hb⟩
    ·
      replace hb := hb.2 (c)
      refine g_sub (lv' := [(0, .ref v0)]) [0] rfl ?_
      exact kwX11_ofAsManyPlaces_16 C hΓ  _ _ _ _ hb
theorem okX11_ofAsManyPlaces {mc ms : Nat} {v0 : Nat} {v1 : Int32} {v2 : Int32} {v3 : Int32} {σ : St} {Q : Int32 → St → Prop} (hb : wX11_ofAsManyPlaces mc ms v0 v1 v2 v3 σ Q) : hM yX11_ofAsManyPlaces cX11_ofAsManyPlaces 4 ((Option.some FieldType.int)) 4 103 mc ms [.ref v0, .int v1, .int v2, .int v3] σ (oI Q) :=
  hM_of (by decide) (Nat.le_of_ble_eq_true rfl) (fun Γ hΓ C => kwX11_ofAsManyPlaces_0 (mc := mc) (ms := ms) C hΓ 0 0 _ _ _ _ _ hb)
def wX11_either_0 (mc ms : Nat) (Q : Int32 → St → Prop) (k n : Nat) (v0 : Nat) (v1 : Int32) (v2 : Int32) (σ : St) : Prop :=
  ∃ m1 m2 : Nat, k + m1 ≤ mc ∧ n + m2 ≤ ms ∧ zK σ v0 = 12 ∧ wX11_ofAsManyPlaces m1 m2 v0 5 v1 v2 σ (fun y7 σ6 => k + m1 ≤ mc ∧ n + m2 ≤ ms ∧ Q y7 σ6)
def wX11_either (mc ms : Nat) (v0 : Nat) (v1 : Int32) (v2 : Int32) (σ : St) (Q : Int32 → St → Prop) : Prop := wX11_either_0 mc ms Q 0 0 v0 v1 v2 σ
set_option maxRecDepth 20000 in
theorem kwX11_either_0 {Γ : hCT} {mc ms : Nat} (C : hC Γ RX11 cX11_either ((Option.some FieldType.int)) "either" 5 126) {Q : Int32 → St → Prop} (hΓ : Γ.2.2.2.2.2.2.2.2.2.2.2 = (3, mc, ms, oI Q)) (k n : Nat) (v0 : Nat) (v1 : Int32) (v2 : Int32) (σ : St) (hb : wX11_either_0 mc ms Q k n v0 v1 v2 σ) : hW Γ k n 0 [(0, .ref v0), (1, .int v1), (2, .int v2)] [] σ := by
  unfold wX11_either_0 at hb
  refine g_aload_n (some v0) C dX11_either_0 0 rfl ?_
  refine g_iconst (v := 5) C dX11_either_1 (by decide) ?_
  refine g_iload_n C dX11_either_2 1 rfl ?_
  refine g_iload_n C dX11_either_3 2 rfl ?_
  obtain ⟨m1, m2, q3, q4, hb⟩ := hb
  obtain ⟨q5, hb⟩ := hb
  refine g_invV (ci := 11) [.int 5, .int v1, .int v2] [] zy_X11_ofAsManyPlaces wd_558 wd_560 wd_7 ⟨_, _, rfl⟩ (by decide) C dX11_either_4 (by first | exact Nat.le_of_ble_eq_true rfl | simp [cat_rf]) (by first | exact Nat.le_of_ble_eq_true rfl | simp [cat_rf]) (by first | exact Nat.le_of_ble_eq_true rfl | simp [cat_rf]) (by rw [hmc_of hΓ]; exact q3) (by rw [hms_of hΓ]; exact q4) rfl rfl q5 (okX11_ofAsManyPlaces hb) ?_
  rintro o σ6 ⟨y7, rfl, hb⟩
  refine ⟨_, rfl, ?_⟩
  obtain ⟨q8, q9, hb⟩ := hb
  exact g_ireturn C hΓ q8 q9 dX11_either_7 ⟨_, rfl, hb⟩
theorem okX11_either {mc ms : Nat} {v0 : Nat} {v1 : Int32} {v2 : Int32} {σ : St} {Q : Int32 → St → Prop} (hb : wX11_either mc ms v0 v1 v2 σ Q) : hM yX11_either cX11_either 3 ((Option.some FieldType.int)) 5 126 mc ms [.ref v0, .int v1, .int v2] σ (oI Q) :=
  hM_of (by decide) (Nat.le_of_ble_eq_true rfl) (fun Γ hΓ C => kwX11_either_0 (mc := mc) (ms := ms) C hΓ 0 0 _ _ _ _ hb)
def wX11_close_0 (mc ms : Nat) (Q : Int32 → St → Prop) (k n : Nat) (v0 : Nat) (v1 : Int32) (σ : St) : Prop :=
  k ≤ mc ∧ n ≤ ms ∧ zK σ v0 = 12 ∧ wX11_isQuestion v0 v1 σ (fun y5 σ4 => ((¬ y5 = 0 → zK σ4 v0 = 12 ∧ ∃ a7 : Nat, zFr σ4 705 v0 = some a7 ∧ zK σ4 a7 = 27 ∧ vp_in v1 (zL σ4 a7) ∧ ∃ a11 : Nat, zAr σ4 a7 (ix v1) = some a11 ∧ zK σ4 a11 = 10 ∧ (((zFi σ4 577 a11) = (2 : Int32) → k + 1 ≤ mc ∧ n + 6 ≤ ms ∧ ∀ b16 : Nat, zK σ4 b16 = 0 → ∃ m18 m19 : Nat, k + 1 + m18 ≤ mc ∧ n + 6 + m19 ≤ ms ∧ wX9_init m18 m19 b16 6 2 v1 (-1) 1 (nO σ4 b16 10) (fun σ22 => ∃ m23 m24 : Nat, k + 1 + m18 + m23 ≤ mc ∧ n + 6 + m19 + m24 ≤ ms ∧ zK σ22 v0 = 12 ∧ wX11_asked m23 m24 v0 b16 σ22 (fun y29 σ28 => k + 1 + m18 + m23 ≤ mc ∧ n + 6 + m19 + m24 ≤ ms ∧ Q y29 σ28))) ∧ (¬ (zFi σ4 577 a11) = (2 : Int32) → k ≤ mc ∧ n ≤ ms ∧ wX11_refused v0 3 σ4 (fun y35 σ34 => k ≤ mc ∧ n ≤ ms ∧ Q y35 σ34)))) ∧ (y5 = 0 → k ≤ mc ∧ n ≤ ms ∧ zK σ4 v0 = 12 ∧ wX11_refused v0 1 σ4 (fun y42 σ41 => k ≤ mc ∧ n ≤ ms ∧ Q y42 σ41))))
def wX11_close (mc ms : Nat) (v0 : Nat) (v1 : Int32) (σ : St) (Q : Int32 → St → Prop) : Prop := wX11_close_0 mc ms Q 0 0 v0 v1 σ
set_option maxRecDepth 20000 in
theorem kwX11_close_0 {Γ : hCT} {mc ms : Nat} (C : hC Γ RX11 cX11_close ((Option.some FieldType.int)) "close" 4 103) {Q : Int32 → St → Prop} (hΓ : Γ.2.2.2.2.2.2.2.2.2.2.2 = (2, mc, ms, oI Q)) (k n : Nat) (v0 : Nat) (v1 : Int32) (σ : St) (hb : wX11_close_0 mc ms Q k n v0 v1 σ) : hW Γ k n 0 [(0, .ref v0), (1, .int v1)] [] σ := by
  unfold wX11_close_0 at hb
  refine g_aload_n (some v0) C dX11_close_0 0 rfl ?_
  refine g_iload_n C dX11_close_1 1 rfl ?_
  obtain ⟨q1, q2, hb⟩ := hb
  obtain ⟨q3, hb⟩ := hb
  refine g_invV (ci := 11) [.int v1] [] zy_X11_isQuestion wd_518 wd_520 wd_3 ⟨_, _, rfl⟩ (by decide) C dX11_close_2 (by first | exact Nat.le_of_ble_eq_true rfl | simp [cat_rf]) (by first | exact Nat.le_of_ble_eq_true rfl | simp [cat_rf]) (by first | exact Nat.le_of_ble_eq_true rfl | simp [cat_rf]) (by rw [hmc_of hΓ]; exact q1) (by rw [hms_of hΓ]; exact q2) rfl rfl q3 (okX11_isQuestion hb) ?_
  rintro o σ4 ⟨y5, rfl, hb⟩
  refine ⟨_, rfl, ?_⟩
  refine g_if_ne (tgt := 14) C dX11_close_5 (by decide) (fun c => ?_) (fun c => ?_)
  ·
    replace hb := hb.1 (c)
    refine g_aload_n (some v0) C dX11_close_14 0 rfl ?_
    obtain ⟨q6, hb⟩ := hb
    obtain ⟨a7, q8, hb⟩ := hb
    refine g_getR (some a7) C fl_RX11_18 dX11_close_15 q6 rfl rfl q8 ?_
    refine g_iload_n C dX11_close_18 1 rfl ?_
    obtain ⟨q9, hb⟩ := hb
    obtain ⟨q10, hb⟩ := hb
    obtain ⟨a11, q12, hb⟩ := hb
    refine g_aald (some a11) el_27 C dX11_close_19 q9 q10 q12 ?_
    obtain ⟨q13, hb⟩ := hb
    refine g_getIx (zFi σ4 577 a11) C fl_RX11_153 dX11_close_20 q13 rfl rfl rfl ?_
    refine g_iconst (v := 2) C dX11_close_23 (by decide) ?_
    refine g_icmp_eq (tgt := 33) C dX11_close_24 (by decide) (fun c => ?_) (fun c => ?_)
    ·
      replace hb := hb.1 (c)
      refine g_aload_n (some v0) C dX11_close_33 0 rfl ?_
      obtain ⟨q14, q15, hb⟩ := hb
      refine g_new zc_9 zd_9 ⟨_, rfl⟩ wd_141 wd_476 wd_91 C dX11_close_34 (by rw [hmc_of hΓ]; exact q14) (by rw [hms_of hΓ]; exact q15) (fun b16 q17 => ?_)
      replace hb := hb b16 q17
      refine g_dup C dX11_close_37 rfl ?_
      refine g_bipush (v := 6) C dX11_close_38 (by decide) ?_
      refine g_iconst (v := 2) C dX11_close_40 (by decide) ?_
      refine g_iload_n C dX11_close_41 1 rfl ?_
      refine g_iconst (v := (-1)) C dX11_close_42 (by decide) ?_
      refine g_iconst (v := 1) C dX11_close_43 (by decide) ?_
      obtain ⟨m18, m19, q20, q21, hb⟩ := hb
      refine g_invI [.int 6, .int 2, .int v1, .int (-1), .int 1] [.ref b16, .ref v0] zy_X9_init wd_477 wd_478 rfl C dX11_close_44 (by first | exact Nat.le_of_ble_eq_true rfl | simp [cat_rf]) (by first | exact Nat.le_of_ble_eq_true rfl | simp [cat_rf]) (by first | exact Nat.le_of_ble_eq_true rfl | simp [cat_rf]) (by rw [hmc_of hΓ]; exact q20) (by rw [hms_of hΓ]; exact q21) rfl rfl  (okX9_init hb) ?_
      rintro o σ22 ⟨rfl, hb⟩
      refine ⟨_, rfl, ?_⟩
      obtain ⟨m23, m24, q25, q26, hb⟩ := hb
      obtain ⟨q27, hb⟩ := hb
      refine g_invV (ci := 11) [.ref b16] [] zy_X11_asked wd_510 wd_512 wd_2 ⟨_, _, rfl⟩ (by decide) C dX11_close_47 (by first | exact Nat.le_of_ble_eq_true rfl | simp [cat_rf]) (by first | exact Nat.le_of_ble_eq_true rfl | simp [cat_rf]) (by first | exact Nat.le_of_ble_eq_true rfl | simp [cat_rf]) (by rw [hmc_of hΓ]; exact q25) (by rw [hms_of hΓ]; exact q26) rfl rfl q27 (okX11_asked hb) ?_
      rintro o σ28 ⟨y29, rfl, hb⟩
      refine ⟨_, rfl, ?_⟩
      obtain ⟨q30, q31, hb⟩ := hb
      exact g_ireturn C hΓ q30 q31 dX11_close_50 ⟨_, rfl, hb⟩
    ·
      replace hb := hb.2 (c)
      refine g_aload_n (some v0) C dX11_close_27 0 rfl ?_
      refine g_iconst (v := 3) C dX11_close_28 (by decide) ?_
      obtain ⟨q32, q33, hb⟩ := hb
      refine g_invV (ci := 11) [.int 3] [] zy_X11_refused wd_361 wd_363 wd_0 ⟨_, _, rfl⟩ (by decide) C dX11_close_29 (by first | exact Nat.le_of_ble_eq_true rfl | simp [cat_rf]) (by first | exact Nat.le_of_ble_eq_true rfl | simp [cat_rf]) (by first | exact Nat.le_of_ble_eq_true rfl | simp [cat_rf]) (by rw [hmc_of hΓ]; exact q32) (by rw [hms_of hΓ]; exact q33) rfl rfl q6 (okX11_refused hb) ?_
      rintro o σ34 ⟨y35, rfl, hb⟩
      refine ⟨_, rfl, ?_⟩
      obtain ⟨q36, q37, hb⟩ := hb
      exact g_ireturn C hΓ q36 q37 dX11_close_32 ⟨_, rfl, hb⟩
  ·
    replace hb := hb.2 (c)
    refine g_aload_n (some v0) C dX11_close_8 0 rfl ?_
    refine g_iconst (v := 1) C dX11_close_9 (by decide) ?_
    obtain ⟨q38, q39, hb⟩ := hb
    obtain ⟨q40, hb⟩ := hb
    refine g_invV (ci := 11) [.int 1] [] zy_X11_refused wd_361 wd_363 wd_0 ⟨_, _, rfl⟩ (by decide) C dX11_close_10 (by first | exact Nat.le_of_ble_eq_true rfl | simp [cat_rf]) (by first | exact Nat.le_of_ble_eq_true rfl | simp [cat_rf]) (by first | exact Nat.le_of_ble_eq_true rfl | simp [cat_rf]) (by rw [hmc_of hΓ]; exact q38) (by rw [hms_of hΓ]; exact q39) rfl rfl q40 (okX11_refused hb) ?_
    rintro o σ41 ⟨y42, rfl, hb⟩
    refine ⟨_, rfl, ?_⟩
    obtain ⟨q43, q44, hb⟩ := hb
    exact g_ireturn C hΓ q43 q44 dX11_close_13 ⟨_, rfl, hb⟩
theorem okX11_close {mc ms : Nat} {v0 : Nat} {v1 : Int32} {σ : St} {Q : Int32 → St → Prop} (hb : wX11_close mc ms v0 v1 σ Q) : hM yX11_close cX11_close 2 ((Option.some FieldType.int)) 4 103 mc ms [.ref v0, .int v1] σ (oI Q) :=
  hM_of (by decide) (Nat.le_of_ble_eq_true rfl) (fun Γ hΓ C => kwX11_close_0 (mc := mc) (ms := ms) C hΓ 0 0 _ _ _ hb)
def wX11_most_0 (mc ms : Nat) (Q : Int32 → St → Prop) (k n : Nat) (v0 : Nat) (v1 : Int32) (v2 : Int32) (σ : St) : Prop :=
  ∃ m1 m2 : Nat, k + m1 ≤ mc ∧ n + m2 ≤ ms ∧ zK σ v0 = 12 ∧ wX11_ofAsManyPlaces m1 m2 v0 7 v1 v2 σ (fun y7 σ6 => k + m1 ≤ mc ∧ n + m2 ≤ ms ∧ Q y7 σ6)
def wX11_most (mc ms : Nat) (v0 : Nat) (v1 : Int32) (v2 : Int32) (σ : St) (Q : Int32 → St → Prop) : Prop := wX11_most_0 mc ms Q 0 0 v0 v1 v2 σ
set_option maxRecDepth 20000 in
theorem kwX11_most_0 {Γ : hCT} {mc ms : Nat} (C : hC Γ RX11 cX11_most ((Option.some FieldType.int)) "most" 5 126) {Q : Int32 → St → Prop} (hΓ : Γ.2.2.2.2.2.2.2.2.2.2.2 = (3, mc, ms, oI Q)) (k n : Nat) (v0 : Nat) (v1 : Int32) (v2 : Int32) (σ : St) (hb : wX11_most_0 mc ms Q k n v0 v1 v2 σ) : hW Γ k n 0 [(0, .ref v0), (1, .int v1), (2, .int v2)] [] σ := by
  unfold wX11_most_0 at hb
  refine g_aload_n (some v0) C dX11_most_0 0 rfl ?_
  refine g_bipush (v := 7) C dX11_most_1 (by decide) ?_
  refine g_iload_n C dX11_most_3 1 rfl ?_
  refine g_iload_n C dX11_most_4 2 rfl ?_
  obtain ⟨m1, m2, q3, q4, hb⟩ := hb
  obtain ⟨q5, hb⟩ := hb
  refine g_invV (ci := 11) [.int 7, .int v1, .int v2] [] zy_X11_ofAsManyPlaces wd_558 wd_560 wd_7 ⟨_, _, rfl⟩ (by decide) C dX11_most_5 (by first | exact Nat.le_of_ble_eq_true rfl | simp [cat_rf]) (by first | exact Nat.le_of_ble_eq_true rfl | simp [cat_rf]) (by first | exact Nat.le_of_ble_eq_true rfl | simp [cat_rf]) (by rw [hmc_of hΓ]; exact q3) (by rw [hms_of hΓ]; exact q4) rfl rfl q5 (okX11_ofAsManyPlaces hb) ?_
  rintro o σ6 ⟨y7, rfl, hb⟩
  refine ⟨_, rfl, ?_⟩
  obtain ⟨q8, q9, hb⟩ := hb
  exact g_ireturn C hΓ q8 q9 dX11_most_8 ⟨_, rfl, hb⟩
theorem okX11_most {mc ms : Nat} {v0 : Nat} {v1 : Int32} {v2 : Int32} {σ : St} {Q : Int32 → St → Prop} (hb : wX11_most mc ms v0 v1 v2 σ Q) : hM yX11_most cX11_most 3 ((Option.some FieldType.int)) 5 126 mc ms [.ref v0, .int v1, .int v2] σ (oI Q) :=
  hM_of (by decide) (Nat.le_of_ble_eq_true rfl) (fun Γ hΓ C => kwX11_most_0 (mc := mc) (ms := ms) C hΓ 0 0 _ _ _ _ hb)
def wX11_kind_0 (Q : Int32 → St → Prop) (v0 : Nat) (v1 : Int32) (v2 : Int32) (σ : St) : Prop :=
  zK σ v0 = 12 ∧ wX11_isQuestion v0 v1 σ (fun y3 σ2 => ((¬ y3 = 0 → zK σ2 v0 = 12 ∧ ∃ a5 : Nat, zFr σ2 705 v0 = some a5 ∧ zK σ2 a5 = 27 ∧ vp_in v1 (zL σ2 a5) ∧ ∃ a9 : Nat, zAr σ2 a5 (ix v1) = some a9 ∧ ((v2 = 0 → zK σ2 a9 = 10 ∧ Q (zFi σ2 576 a9) σ2) ∧ (v2 = 1 → zK σ2 a9 = 10 ∧ Q (zFi σ2 577 a9) σ2) ∧ (v2 = 2 → zK σ2 a9 = 10 ∧ Q (zFi σ2 578 a9) σ2) ∧ (v2 = 3 → zK σ2 a9 = 10 ∧ Q (zFi σ2 579 a9) σ2) ∧ (v2 = 4 → zK σ2 a9 = 10 ∧ (((zFi σ2 580 a9) = 0 → Q 0 σ2) ∧ (¬ (zFi σ2 580 a9) = 0 → Q 1 σ2))) ∧ (¬ v2 = 0 → ¬ v2 = 1 → ¬ v2 = 2 → ¬ v2 = 3 → ¬ v2 = 4 → Q (-1) σ2))) ∧ (y3 = 0 → Q (-1) σ2)))
def wX11_kind (v0 : Nat) (v1 : Int32) (v2 : Int32) (σ : St) (Q : Int32 → St → Prop) : Prop := wX11_kind_0 Q v0 v1 v2 σ
set_option maxRecDepth 20000 in
theorem kwX11_kind_0 {Γ : hCT} (C : hC Γ RX11 cX11_kind ((Option.some FieldType.int)) "kind" 1 21) {Q : Int32 → St → Prop} (hΓ : Γ.2.2.2.2.2.2.2.2.2.2.2 = (4, 0, 0, oI Q)) (v0 : Nat) (v1 : Int32) (v2 : Int32) (σ : St) (hb : wX11_kind_0 Q v0 v1 v2 σ) : hW Γ 0 0 0 [(0, .ref v0), (1, .int v1), (2, .int v2)] [] σ := by
  unfold wX11_kind_0 at hb
  refine g_aload_n (some v0) C dX11_kind_0 0 rfl ?_
  refine g_iload_n C dX11_kind_1 1 rfl ?_
  obtain ⟨q1, hb⟩ := hb
  refine g_invV (ci := 11) [.int v1] [] zy_X11_isQuestion wd_518 wd_520 wd_3 ⟨_, _, rfl⟩ (by decide) C dX11_kind_2 (by first | exact Nat.le_of_ble_eq_true rfl | simp [cat_rf]) (by first | exact Nat.le_of_ble_eq_true rfl | simp [cat_rf]) (by first | exact Nat.le_of_ble_eq_true rfl | simp [cat_rf]) (Nat.zero_le _) (Nat.zero_le _) rfl rfl q1 (okX11_isQuestion hb) ?_
  rintro o σ2 ⟨y3, rfl, hb⟩
  refine ⟨_, rfl, ?_⟩
  refine g_if_ne (tgt := 10) C dX11_kind_5 (by decide) (fun c => ?_) (fun c => ?_)
  ·
    replace hb := hb.1 (c)
    refine g_aload_n (some v0) C dX11_kind_10 0 rfl ?_
    obtain ⟨q4, hb⟩ := hb
    obtain ⟨a5, q6, hb⟩ := hb
    refine g_getR (some a5) C fl_RX11_18 dX11_kind_11 q4 rfl rfl q6 ?_
    refine g_iload_n C dX11_kind_14 1 rfl ?_
    obtain ⟨q7, hb⟩ := hb
    obtain ⟨q8, hb⟩ := hb
    obtain ⟨a9, q10, hb⟩ := hb
    refine g_aald (some a9) el_27 C dX11_kind_15 q7 q8 q10 ?_
    refine g_astore_n (i := 3) (lv' := [(3, .ref a9), (0, .ref v0), (1, .int v1), (2, .int v2)]) (some a9) C dX11_kind_16 rfl (hnl_of hΓ (by decide)) (by first | rfl | simp [cat_rf]) ?_
    refine g_iload_n C dX11_kind_17 3 rfl ?_
    by_cases c12 : v2 = 0
    ·
      replace hb := hb.1 c12
      refine g_tabIn (tgt := 52) (off := 34) C dX11_kind_18 (by rw [c12]; decide) (by rw [c12]; decide) (by rw [c12]; rfl) (by decide) ?_
      refine g_aload_n (some a9) C dX11_kind_52 0 rfl ?_
      obtain ⟨q11, hb⟩ := hb
      refine g_getIx (zFi σ2 576 a9) C fl_RX11_174 dX11_kind_53 q11 rfl rfl rfl ?_
      exact g_ireturn C hΓ (Nat.zero_le _) (Nat.zero_le _) dX11_kind_56 ⟨_, rfl, hb⟩
    ·
      by_cases c14 : v2 = 1
      ·
        replace hb := hb.2.1 c14
        refine g_tabIn (tgt := 57) (off := 39) C dX11_kind_18 (by rw [c14]; decide) (by rw [c14]; decide) (by rw [c14]; rfl) (by decide) ?_
        refine g_aload_n (some a9) C dX11_kind_57 0 rfl ?_
        obtain ⟨q13, hb⟩ := hb
        refine g_getIx (zFi σ2 577 a9) C fl_RX11_153 dX11_kind_58 q13 rfl rfl rfl ?_
        exact g_ireturn C hΓ (Nat.zero_le _) (Nat.zero_le _) dX11_kind_61 ⟨_, rfl, hb⟩
      ·
        by_cases c16 : v2 = 2
        ·
          replace hb := hb.2.2.1 c16
          refine g_tabIn (tgt := 62) (off := 44) C dX11_kind_18 (by rw [c16]; decide) (by rw [c16]; decide) (by rw [c16]; rfl) (by decide) ?_
          refine g_aload_n (some a9) C dX11_kind_62 0 rfl ?_
          obtain ⟨q15, hb⟩ := hb
          refine g_getIx (zFi σ2 578 a9) C fl_RX11_177 dX11_kind_63 q15 rfl rfl rfl ?_
          exact g_ireturn C hΓ (Nat.zero_le _) (Nat.zero_le _) dX11_kind_66 ⟨_, rfl, hb⟩
        ·
          by_cases c18 : v2 = 3
          ·
            replace hb := hb.2.2.2.1 c18
            refine g_tabIn (tgt := 67) (off := 49) C dX11_kind_18 (by rw [c18]; decide) (by rw [c18]; decide) (by rw [c18]; rfl) (by decide) ?_
            refine g_aload_n (some a9) C dX11_kind_67 0 rfl ?_
            obtain ⟨q17, hb⟩ := hb
            refine g_getIx (zFi σ2 579 a9) C fl_RX11_180 dX11_kind_68 q17 rfl rfl rfl ?_
            exact g_ireturn C hΓ (Nat.zero_le _) (Nat.zero_le _) dX11_kind_71 ⟨_, rfl, hb⟩
          ·
            by_cases c20 : v2 = 4
            ·
              replace hb := hb.2.2.2.2.1 c20
              refine g_tabIn (tgt := 72) (off := 54) C dX11_kind_18 (by rw [c20]; decide) (by rw [c20]; decide) (by rw [c20]; rfl) (by decide) ?_
              refine g_aload_n (some a9) C dX11_kind_72 0 rfl ?_
              obtain ⟨q19, hb⟩ := hb
              refine g_getIx (zFi σ2 580 a9) C fl_RX11_183 dX11_kind_73 q19 rfl rfl rfl ?_
              refine g_if_eq (tgt := 83) C dX11_kind_76 (by decide) (fun c => ?_) (fun c => ?_)
              ·
                replace hb := hb.1 (c)
                refine g_iconst (v := 0) C dX11_kind_83 (by decide) ?_
                exact g_ireturn C hΓ (Nat.zero_le _) (Nat.zero_le _) dX11_kind_84 ⟨_, rfl, hb⟩
              ·
                replace hb := hb.2 (c)
                refine g_iconst (v := 1) C dX11_kind_79 (by decide) ?_
                refine g_goto (tgt := 84) C dX11_kind_80 (by decide) ?_
                exact g_ireturn C hΓ (Nat.zero_le _) (Nat.zero_le _) dX11_kind_84 ⟨_, rfl, hb⟩
            ·
              replace hb := hb.2.2.2.2.2 c12 c14 c16 c18 c20
              have hz : Int32.toInt v2 < 0 ∨ 4 < Int32.toInt v2 := by
                have h_c12 := i32_ne c12
                have h_c14 := i32_ne c14
                have h_c16 := i32_ne c16
                have h_c18 := i32_ne c18
                have h_c20 := i32_ne c20
                rw [show Int32.toInt 0 = 0 from rfl] at h_c12; rw [show Int32.toInt 1 = 1 from rfl] at h_c14; rw [show Int32.toInt 2 = 2 from rfl] at h_c16; rw [show Int32.toInt 3 = 3 from rfl] at h_c18; rw [show Int32.toInt 4 = 4 from rfl] at h_c20
                omega
              refine g_tabOut (tgt := 85) C dX11_kind_18 hz (by decide) ?_
              refine g_iconst (v := (-1)) C dX11_kind_85 (by decide) ?_
              exact g_ireturn C hΓ (Nat.zero_le _) (Nat.zero_le _) dX11_kind_86 ⟨_, rfl, hb⟩
  ·
    replace hb := hb.2 (c)
    refine g_iconst (v := (-1)) C dX11_kind_8 (by decide) ?_
    exact g_ireturn C hΓ (Nat.zero_le _) (Nat.zero_le _) dX11_kind_9 ⟨_, rfl, hb⟩
theorem okX11_kind {v0 : Nat} {v1 : Int32} {v2 : Int32} {σ : St} {Q : Int32 → St → Prop} (hb : wX11_kind v0 v1 v2 σ Q) : hM yX11_kind cX11_kind 4 ((Option.some FieldType.int)) 1 21 0 0 [.ref v0, .int v1, .int v2] σ (oI Q) :=
  hM_of (by decide) (Nat.le_of_ble_eq_true rfl) (fun Γ hΓ C => kwX11_kind_0 C hΓ _ _ _ _ hb)
def wX4_allWithin_7 (Q : Int64 → St → Prop) (r7 : Nat → Int64 → Int32 → St → Prop) (v0 : Nat) (v2 : Int64) (v4 : Int32) (σ : St) : Prop :=
  ((v4 < 0 → Q v2 σ) ∧ (¬ v4 < 0 → zK σ v0 = 5 ∧ ∃ a2 : Nat, zFr σ 257 v0 = some a2 ∧ zK σ a2 = 27 ∧ vp_in v4 (zL σ a2) ∧ ∃ a6 : Nat, zAr σ a2 (ix v4) = some a6 ∧ wX11_has v2 v4 σ (fun y9 σ8 => ((y9 = 0 → r7 v0 v2 (v4 + (-1)) σ8) ∧ (¬ y9 = 0 → zK σ8 a6 = 10 ∧ ((¬ (zFi σ8 576 a6) = 0 → (((zFi σ8 579 a6) = ((-1) : Int32) → r7 v0 (v2 ||| ((1 : Int64) <<< (Int32.toInt64 (zFi σ8 578 a6) &&& 63))) (v4 + (-1)) σ8) ∧ (¬ (zFi σ8 579 a6) = ((-1) : Int32) → r7 v0 ((v2 ||| ((1 : Int64) <<< (Int32.toInt64 (zFi σ8 578 a6) &&& 63))) ||| ((1 : Int64) <<< (Int32.toInt64 (zFi σ8 579 a6) &&& 63))) (v4 + (-1)) σ8))) ∧ ((zFi σ8 576 a6) = 0 → r7 v0 v2 (v4 + (-1)) σ8)))))))
def lX4_allWithin_7 (Q : Int64 → St → Prop) : Nat → Nat → Int64 → Int32 → St → Prop
  | 0, _, _, _, _ => False
  | f + 1, v0, v2, v4, σ => wX4_allWithin_7 Q (lX4_allWithin_7 Q f) v0 v2 v4 σ
def wX4_allWithin_0 (Q : Int64 → St → Prop) (v0 : Nat) (v1 : Int32) (σ : St) : Prop :=
  ∃ f, lX4_allWithin_7 Q f v0 ((1 : Int64) <<< (Int32.toInt64 v1 &&& 63)) v1 σ
def wX4_allWithin (v0 : Nat) (v1 : Int32) (σ : St) (Q : Int64 → St → Prop) : Prop := wX4_allWithin_0 Q v0 v1 σ
set_option maxRecDepth 20000 in
theorem kwX4_allWithin_7 {Γ : hCT} (C : hC Γ RX4 cX4_allWithin ((Option.some FieldType.long)) "allWithin" 1 22) {Q : Int64 → St → Prop} (hΓ : Γ.2.2.2.2.2.2.2.2.2.2.2 = (6, 0, 0, oJ Q)) {r7 : Nat → Int64 → Int32 → St → Prop} (h7 : ∀ (v0 : Nat) (v2 : Int64) (v4 : Int32) (σ : St), r7 v0 v2 v4 σ → hW Γ 0 0 7 [(0, .ref v0), (2, .long v2), (4, .int v4)] [] σ) (v0 : Nat) (v2 : Int64) (v4 : Int32) (σ : St) (hb : wX4_allWithin_7 Q r7 v0 v2 v4 σ) : hW Γ 0 0 7 [(0, .ref v0), (2, .long v2), (4, .int v4)] [] σ := by
  unfold wX4_allWithin_7 at hb
  refine g_iload C dX4_allWithin_7 2 rfl ?_
  refine g_if_lt (tgt := 76) C dX4_allWithin_9 (by decide) (fun c => ?_) (fun c => ?_)
  ·
    replace hb := hb.1 (c)
    refine g_lload_n C dX4_allWithin_76 1 rfl ?_
    exact g_lreturn C hΓ (Nat.zero_le _) (Nat.zero_le _) dX4_allWithin_77 ⟨_, rfl, hb⟩
  ·
    replace hb := hb.2 (c)
    refine g_aload_n (some v0) C dX4_allWithin_12 0 rfl ?_
    obtain ⟨q1, hb⟩ := hb
    obtain ⟨a2, q3, hb⟩ := hb
    refine g_getR (some a2) C fl_RX4_45 dX4_allWithin_13 q1 rfl rfl q3 ?_
    refine g_iload C dX4_allWithin_16 2 rfl ?_
    obtain ⟨q4, hb⟩ := hb
    obtain ⟨q5, hb⟩ := hb
    obtain ⟨a6, q7, hb⟩ := hb
    refine g_aald (some a6) el_27 C dX4_allWithin_18 q4 q5 q7 ?_
    refine g_astore (lv' := [(5, .ref a6), (0, .ref v0), (2, .long v2), (4, .int v4)]) (some a6) C dX4_allWithin_19 (hnl_of hΓ (by decide)) (by first | rfl | simp [cat_rf]) ?_
    refine g_lload_n C dX4_allWithin_21 2 rfl ?_
    refine g_iload C dX4_allWithin_22 3 rfl ?_
    refine g_invSN [.long v2, .int v4] [] zy_X11_has wn_586 wd_442 C dX4_allWithin_24 (by first | exact Nat.le_of_ble_eq_true rfl | simp [cat_rf]) (by first | exact Nat.le_of_ble_eq_true rfl | simp [cat_rf]) (by first | exact Nat.le_of_ble_eq_true rfl | simp [cat_rf]) (Nat.zero_le _) (Nat.zero_le _) rfl rfl  (okX11_has hb) ?_
    rintro o σ8 ⟨y9, rfl, hb⟩
    refine ⟨_, rfl, ?_⟩
    refine g_if_eq (tgt := 70) C dX4_allWithin_27 (by decide) (fun c => ?_) (fun c => ?_)
    ·
      replace hb := hb.1 (c)
      refine g_iinc (v := v4 + (-1)) (lv' := [(4, .int (v4 + (-1))), (5, .ref a6), (0, .ref v0), (2, .long v2)]) C dX4_allWithin_70 3 rfl rfl (hnl_of hΓ (by decide)) (by first | rfl | simp [cat_rf]) ?_
      refine g_goto (tgt := 7) C dX4_allWithin_73 (by decide) ?_
      refine g_sub (lv' := [(0, .ref v0), (2, .long v2), (4, .int (v4 + (-1)))]) [2, 3, 0] rfl ?_
      exact h7 _ _ _ _ hb
    ·
      replace hb := hb.2 (c)
      refine g_aload (some a6) C dX4_allWithin_30 0 rfl ?_
      obtain ⟨q10, hb⟩ := hb
      refine g_getIx (zFi σ8 576 a6) C fl_RX4_61 dX4_allWithin_32 q10 rfl rfl rfl ?_
      refine g_if_ne (tgt := 41) C dX4_allWithin_35 (by decide) (fun c => ?_) (fun c => ?_)
      ·
        replace hb := hb.1 (c)
        refine g_lload_n C dX4_allWithin_41 2 rfl ?_
        refine g_lconst (v := 1) C dX4_allWithin_42 (by decide) ?_
        refine g_aload (some a6) C dX4_allWithin_43 0 rfl ?_
        refine g_getIx (zFi σ8 578 a6) C fl_RX4_67 dX4_allWithin_45 q10 rfl rfl rfl ?_
        refine g_lshl C dX4_allWithin_48 ?_
        refine g_lor C dX4_allWithin_49 ?_
        refine g_lstore_n (i := 2) (lv' := [(2, .long (v2 ||| ((1 : Int64) <<< (Int32.toInt64 (zFi σ8 578 a6) &&& 63)))), (5, .ref a6), (0, .ref v0), (4, .int v4)]) C dX4_allWithin_50 rfl (hnl_of hΓ (by decide)) (by first | rfl | simp [cat_rf]) ?_
        refine g_aload (some a6) C dX4_allWithin_51 1 rfl ?_
        refine g_getIx (zFi σ8 579 a6) C fl_RX4_70 dX4_allWithin_53 q10 rfl rfl rfl ?_
        refine g_iconst (v := (-1)) C dX4_allWithin_56 (by decide) ?_
        refine g_icmp_eq (tgt := 70) C dX4_allWithin_57 (by decide) (fun c => ?_) (fun c => ?_)
        ·
          replace hb := hb.1 (c)
          refine g_iinc (v := v4 + (-1)) (lv' := [(4, .int (v4 + (-1))), (2, .long (v2 ||| ((1 : Int64) <<< (Int32.toInt64 (zFi σ8 578 a6) &&& 63)))), (5, .ref a6), (0, .ref v0)]) C dX4_allWithin_70 3 rfl rfl (hnl_of hΓ (by decide)) (by first | rfl | simp [cat_rf]) ?_
          refine g_goto (tgt := 7) C dX4_allWithin_73 (by decide) ?_
          refine g_sub (lv' := [(0, .ref v0), (2, .long (v2 ||| ((1 : Int64) <<< (Int32.toInt64 (zFi σ8 578 a6) &&& 63)))), (4, .int (v4 + (-1)))]) [3, 1, 0] rfl ?_
          exact h7 _ _ _ _ hb
        ·
          replace hb := hb.2 (c)
          refine g_lload_n C dX4_allWithin_60 0 rfl ?_
          refine g_lconst (v := 1) C dX4_allWithin_61 (by decide) ?_
          refine g_aload (some a6) C dX4_allWithin_62 1 rfl ?_
          refine g_getIx (zFi σ8 579 a6) C fl_RX4_70 dX4_allWithin_64 q10 rfl rfl rfl ?_
          refine g_lshl C dX4_allWithin_67 ?_
          refine g_lor C dX4_allWithin_68 ?_
          refine g_lstore_n (i := 2) (lv' := [(2, .long ((v2 ||| ((1 : Int64) <<< (Int32.toInt64 (zFi σ8 578 a6) &&& 63))) ||| ((1 : Int64) <<< (Int32.toInt64 (zFi σ8 579 a6) &&& 63)))), (5, .ref a6), (0, .ref v0), (4, .int v4)]) C dX4_allWithin_69 rfl (hnl_of hΓ (by decide)) (by first | rfl | simp [cat_rf]) ?_
          refine g_iinc (v := v4 + (-1)) (lv' := [(4, .int (v4 + (-1))), (2, .long ((v2 ||| ((1 : Int64) <<< (Int32.toInt64 (zFi σ8 578 a6) &&& 63))) ||| ((1 : Int64) <<< (Int32.toInt64 (zFi σ8 579 a6) &&& 63)))), (5, .ref a6), (0, .ref v0)]) C dX4_allWithin_70 3 rfl rfl (hnl_of hΓ (by decide)) (by first | rfl | simp [cat_rf]) ?_
          refine g_goto (tgt := 7) C dX4_allWithin_73 (by decide) ?_
          refine g_sub (lv' := [(0, .ref v0), (2, .long ((v2 ||| ((1 : Int64) <<< (Int32.toInt64 (zFi σ8 578 a6) &&& 63))) ||| ((1 : Int64) <<< (Int32.toInt64 (zFi σ8 579 a6) &&& 63)))), (4, .int (v4 + (-1)))]) [3, 1, 0] rfl ?_
          exact h7 _ _ _ _ hb
      ·
        replace hb := hb.2 (c)
        refine g_goto (tgt := 70) C dX4_allWithin_38 (by decide) ?_
        refine g_iinc (v := v4 + (-1)) (lv' := [(4, .int (v4 + (-1))), (5, .ref a6), (0, .ref v0), (2, .long v2)]) C dX4_allWithin_70 3 rfl rfl (hnl_of hΓ (by decide)) (by first | rfl | simp [cat_rf]) ?_
        refine g_goto (tgt := 7) C dX4_allWithin_73 (by decide) ?_
        refine g_sub (lv' := [(0, .ref v0), (2, .long v2), (4, .int (v4 + (-1)))]) [2, 3, 0] rfl ?_
        exact h7 _ _ _ _ hb
theorem klX4_allWithin_7 {Γ : hCT} (C : hC Γ RX4 cX4_allWithin ((Option.some FieldType.long)) "allWithin" 1 22) {Q : Int64 → St → Prop} (hΓ : Γ.2.2.2.2.2.2.2.2.2.2.2 = (6, 0, 0, oJ Q)) (f : Nat) (v0 : Nat) (v2 : Int64) (v4 : Int32) (σ : St) (hb : lX4_allWithin_7 Q f v0 v2 v4 σ) : hW Γ 0 0 7 [(0, .ref v0), (2, .long v2), (4, .int v4)] [] σ := by
  induction f generalizing v0 v2 v4 σ with
  | zero => exact hb.elim
  | succ f ih => exact kwX4_allWithin_7 C hΓ  (fun v0 v2 v4 σ h => ih v0 v2 v4 σ h) _ _ _ _ hb
set_option maxRecDepth 20000 in
theorem kwX4_allWithin_0 {Γ : hCT} (C : hC Γ RX4 cX4_allWithin ((Option.some FieldType.long)) "allWithin" 1 22) {Q : Int64 → St → Prop} (hΓ : Γ.2.2.2.2.2.2.2.2.2.2.2 = (6, 0, 0, oJ Q)) (v0 : Nat) (v1 : Int32) (σ : St) (hb : wX4_allWithin_0 Q v0 v1 σ) : hW Γ 0 0 0 [(0, .ref v0), (1, .int v1)] [] σ := by
  unfold wX4_allWithin_0 at hb
  refine g_lconst (v := 1) C dX4_allWithin_0 (by decide) ?_
  refine g_iload_n C dX4_allWithin_1 1 rfl ?_
  refine g_lshl C dX4_allWithin_2 ?_
  refine g_lstore_n (i := 2) (lv' := [(2, .long ((1 : Int64) <<< (Int32.toInt64 v1 &&& 63))), (0, .ref v0), (1, .int v1)]) C dX4_allWithin_3 rfl (hnl_of hΓ (by decide)) (by first | rfl | simp [cat_rf]) ?_
  refine g_iload_n C dX4_allWithin_4 2 rfl ?_
  refine g_istore (lv' := [(4, .int v1), (2, .long ((1 : Int64) <<< (Int32.toInt64 v1 &&& 63))), (0, .ref v0), (1, .int v1)]) C dX4_allWithin_5 (hnl_of hΓ (by decide)) (by first | rfl | simp [cat_rf]) ?_
  refine g_sub (lv' := [(0, .ref v0), (2, .long ((1 : Int64) <<< (Int32.toInt64 v1 &&& 63))), (4, .int v1)]) [2, 1, 0] rfl ?_
  obtain ⟨f1, hb⟩ := hb
  exact klX4_allWithin_7 C hΓ  f1 _ _ _ _ hb
theorem okX4_allWithin {v0 : Nat} {v1 : Int32} {σ : St} {Q : Int64 → St → Prop} (hb : wX4_allWithin v0 v1 σ Q) : hM yX4_allWithin cX4_allWithin 6 ((Option.some FieldType.long)) 1 22 0 0 [.ref v0, .int v1] σ (oJ Q) :=
  hM_of (by decide) (Nat.le_of_ble_eq_true rfl) (fun Γ hΓ C => kwX4_allWithin_0 C hΓ _ _ _ hb)
def wX3_clear_0 (Q : St → Prop) (v0 : Nat) (v1 : Int32) (σ : St) : Prop :=
  zK σ v0 = 4 ∧ Q (uFi (uFi σ 193 v0 0) 194 v0 v1)
def wX3_clear (v0 : Nat) (v1 : Int32) (σ : St) (Q : St → Prop) : Prop := wX3_clear_0 Q v0 v1 σ
set_option maxRecDepth 20000 in
theorem kwX3_clear_0 {Γ : hCT} (C : hC Γ RX3 cX3_clear ((Option.none : Option Jvm.ClassFile.FieldType)) "clear" 0 0) {Q : St → Prop} (hΓ : Γ.2.2.2.2.2.2.2.2.2.2.2 = (2, 0, 0, oV Q)) (v0 : Nat) (v1 : Int32) (σ : St) (hb : wX3_clear_0 Q v0 v1 σ) : hW Γ 0 0 0 [(0, .ref v0), (1, .int v1)] [] σ := by
  unfold wX3_clear_0 at hb
  refine g_aload_n (some v0) C dX3_clear_0 0 rfl ?_
  refine g_iconst (v := 0) C dX3_clear_1 (by decide) ?_
  obtain ⟨q1, hb⟩ := hb
  refine g_putI C fl_RX3_18 dX3_clear_2 q1 rfl rfl rfl rfl ?_
  refine g_aload_n (some v0) C dX3_clear_5 0 rfl ?_
  refine g_iload_n C dX3_clear_6 1 rfl ?_
  refine g_putI C fl_RX3_22 dX3_clear_7 (by rw [zK_uFi]; exact q1) rfl rfl rfl rfl ?_
  exact g_vreturn C hΓ (Nat.zero_le _) (Nat.zero_le _) dX3_clear_10 ⟨rfl, hb⟩
theorem okX3_clear {v0 : Nat} {v1 : Int32} {σ : St} {Q : St → Prop} (hb : wX3_clear v0 v1 σ Q) : hM yX3_clear cX3_clear 2 ((Option.none : Option Jvm.ClassFile.FieldType)) 0 0 0 0 [.ref v0, .int v1] σ (oV Q) :=
  hM_of (by decide) (Nat.le_of_ble_eq_true rfl) (fun Γ hΓ C => kwX3_clear_0 C hΓ _ _ _ hb)
def wX3_grow_0 (Q : Option Nat → St → Prop) (v0 : Nat) (σ : St) : Prop :=
  zK σ v0 = 4 ∧ ∃ a2 : Nat, zFr σ 192 v0 = some a2 ∧ (20 ≤ zK σ a2 ∧ zK σ a2 < 32) ∧ (((zFi σ 193 v0) < (Int32.ofNat (zL σ a2)) → zK σ a2 = 25 ∧ vp_in ((zFi (uFi σ 193 v0 ((zFi σ 193 v0) + 1)) 193 v0) - 1) (zL σ a2) ∧ ∃ a7 : Nat, zAr σ a2 (ix ((zFi (uFi σ 193 v0 ((zFi σ 193 v0) + 1)) 193 v0) - 1)) = some a7 ∧ Q (some a7) (uFi σ 193 v0 ((zFi σ 193 v0) + 1))) ∧ (¬ (zFi σ 193 v0) < (Int32.ofNat (zL σ a2)) → Q none σ))
def wX3_grow (v0 : Nat) (σ : St) (Q : Option Nat → St → Prop) : Prop := wX3_grow_0 Q v0 σ
set_option maxRecDepth 20000 in
theorem kwX3_grow_0 {Γ : hCT} (C : hC Γ RX3 cX3_grow ((Option.some (FieldType.object RX2))) "grow" 0 0) {Q : Option Nat → St → Prop} (hΓ : Γ.2.2.2.2.2.2.2.2.2.2.2 = (1, 0, 0, oO Q)) (v0 : Nat) (σ : St) (hb : wX3_grow_0 Q v0 σ) : hW Γ 0 0 0 [(0, .ref v0)] [] σ := by
  unfold wX3_grow_0 at hb
  refine g_aload_n (some v0) C dX3_grow_0 0 rfl ?_
  obtain ⟨q1, hb⟩ := hb
  refine g_getIx (zFi σ 193 v0) C fl_RX3_18 dX3_grow_1 q1 rfl rfl rfl ?_
  refine g_aload_n (some v0) C dX3_grow_4 0 rfl ?_
  obtain ⟨a2, q3, hb⟩ := hb
  refine g_getR (some a2) C fl_RX3_11 dX3_grow_5 q1 rfl rfl q3 ?_
  obtain ⟨q4, hb⟩ := hb
  refine g_alen (v := Int32.ofNat (zL σ a2)) C dX3_grow_8 q4 rfl ?_
  refine g_icmp_lt (tgt := 14) C dX3_grow_9 (by decide) (fun c => ?_) (fun c => ?_)
  ·
    replace hb := hb.1 (c)
    refine g_aload_n (some v0) C dX3_grow_14 0 rfl ?_
    refine g_dup C dX3_grow_15 rfl ?_
    refine g_getIx (zFi σ 193 v0) C fl_RX3_18 dX3_grow_16 q1 rfl rfl rfl ?_
    refine g_iconst (v := 1) C dX3_grow_19 (by decide) ?_
    refine g_iadd C dX3_grow_20 ?_
    refine g_putI C fl_RX3_18 dX3_grow_21 q1 rfl rfl rfl rfl ?_
    refine g_aload_n (some v0) C dX3_grow_24 0 rfl ?_
    refine g_getR (some a2) C fl_RX3_11 dX3_grow_25 (by rw [zK_uFi]; exact q1) rfl rfl (by rw [zFr_uFi]; exact q3) ?_
    refine g_aload_n (some v0) C dX3_grow_28 0 rfl ?_
    refine g_getIx (zFi (uFi σ 193 v0 ((zFi σ 193 v0) + 1)) 193 v0) C fl_RX3_18 dX3_grow_29 (by rw [zK_uFi]; exact q1) rfl rfl rfl ?_
    refine g_iconst (v := 1) C dX3_grow_32 (by decide) ?_
    refine g_isub C dX3_grow_33 ?_
    obtain ⟨q5, hb⟩ := hb
    obtain ⟨q6, hb⟩ := hb
    obtain ⟨a7, q8, hb⟩ := hb
    refine g_aald (some a7) el_25 C dX3_grow_34 (by rw [zK_uFi]; exact q5) (by rw [zL_uFi]; exact q6) (by rw [zAr_uFi]; exact q8) ?_
    exact g_areturn (some a7) (Or.inl ⟨_, rfl⟩) C hΓ (Nat.zero_le _) (Nat.zero_le _) dX3_grow_35 ⟨_, rfl, hb⟩
  ·
    replace hb := hb.2 (c)
    refine g_null C dX3_grow_12 ?_
    exact g_areturn none (Or.inl ⟨_, rfl⟩) C hΓ (Nat.zero_le _) (Nat.zero_le _) dX3_grow_13 ⟨_, rfl, hb⟩
theorem okX3_grow {v0 : Nat} {σ : St} {Q : Option Nat → St → Prop} (hb : wX3_grow v0 σ Q) : hM yX3_grow cX3_grow 1 ((Option.some (FieldType.object RX2))) 0 0 0 0 [.ref v0] σ (oO Q) :=
  hM_of (by decide) (Nat.le_of_ble_eq_true rfl) (fun Γ hΓ C => kwX3_grow_0 C hΓ _ _ hb)
def wX2_takeFact_2 (Q : St → Prop) (r2 : Nat → Nat → Int32 → Int32 → St → Prop) (v0 : Nat) (v1 : Nat) (v2 : Int32) (v3 : Int32) (σ : St) : Prop :=
  (((4 : Int32) ≤ v3 → zK σ v0 = 3 ∧ ∃ a2 : Nat, zFr σ 129 v0 = some a2 ∧ zK σ a2 = 21 ∧ vp_in 0 (zL σ a2) ∧ zK σ v1 = 7 ∧ wX6_weight v1 v2 0 (uFi (uAj σ a2 (ix 0) ((1 : Int64) <<< (Int32.toInt64 v2 &&& 63))) 130 v0 1) (fun y8 σ7 => zK σ7 v0 = 3 ∧ zK σ7 v1 = 7 ∧ wX6_weight v1 v2 1 (uFj σ7 131 v0 y8) (fun y12 σ11 => zK σ11 v0 = 3 ∧ zK σ11 v1 = 7 ∧ wX6_weight v1 v2 2 (uFi σ11 132 v0 (Int64.toInt32 y12)) (fun y16 σ15 => zK σ15 v0 = 3 ∧ Q (uFj σ15 133 v0 y16))))) ∧ (¬ (4 : Int32) ≤ v3 → zK σ v0 = 3 ∧ ∃ a19 : Nat, zFr σ 128 v0 = some a19 ∧ zK σ v1 = 7 ∧ wX6_cell v1 v2 v3 σ (fun y23 σ22 => zK σ22 a19 = 20 ∧ vp_in v3 (zL σ22 a19) ∧ r2 v0 v1 v2 (v3 + 1) (uAi σ22 a19 (ix v3) y23))))
def lX2_takeFact_2 (Q : St → Prop) : Nat → Nat → Nat → Int32 → Int32 → St → Prop
  | 0, _, _, _, _, _ => False
  | f + 1, v0, v1, v2, v3, σ => wX2_takeFact_2 Q (lX2_takeFact_2 Q f) v0 v1 v2 v3 σ
def wX2_takeFact_0 (Q : St → Prop) (v0 : Nat) (v1 : Nat) (v2 : Int32) (σ : St) : Prop :=
  ∃ f, lX2_takeFact_2 Q f v0 v1 v2 0 σ
def wX2_takeFact (v0 : Nat) (v1 : Nat) (v2 : Int32) (σ : St) (Q : St → Prop) : Prop := wX2_takeFact_0 Q v0 v1 v2 σ
set_option maxRecDepth 20000 in
theorem kwX2_takeFact_2 {Γ : hCT} (C : hC Γ RX2 cX2_takeFact ((Option.none : Option Jvm.ClassFile.FieldType)) "takeFact" 1 22) {Q : St → Prop} (hΓ : Γ.2.2.2.2.2.2.2.2.2.2.2 = (4, 0, 0, oV Q)) {r2 : Nat → Nat → Int32 → Int32 → St → Prop} (h2 : ∀ (v0 : Nat) (v1 : Nat) (v2 : Int32) (v3 : Int32) (σ : St), r2 v0 v1 v2 v3 σ → hW Γ 0 0 2 [(0, .ref v0), (1, .ref v1), (2, .int v2), (3, .int v3)] [] σ) (v0 : Nat) (v1 : Nat) (v2 : Int32) (v3 : Int32) (σ : St) (hb : wX2_takeFact_2 Q r2 v0 v1 v2 v3 σ) : hW Γ 0 0 2 [(0, .ref v0), (1, .ref v1), (2, .int v2), (3, .int v3)] [] σ := by
  unfold wX2_takeFact_2 at hb
  refine g_iload_n C dX2_takeFact_2 3 rfl ?_
  refine g_iconst (v := 4) C dX2_takeFact_3 (by decide) ?_
  refine g_icmp_ge (tgt := 25) C dX2_takeFact_4 (by decide) (fun c => ?_) (fun c => ?_)
  ·
    replace hb := hb.1 (c)
    refine g_aload_n (some v0) C dX2_takeFact_25 0 rfl ?_
    obtain ⟨q1, hb⟩ := hb
    obtain ⟨a2, q3, hb⟩ := hb
    refine g_getR (some a2) C fl_RX2_15 dX2_takeFact_26 q1 rfl rfl q3 ?_
    refine g_iconst (v := 0) C dX2_takeFact_29 (by decide) ?_
    refine g_lconst (v := 1) C dX2_takeFact_30 (by decide) ?_
    refine g_iload_n C dX2_takeFact_31 2 rfl ?_
    refine g_lshl C dX2_takeFact_32 ?_
    obtain ⟨q4, hb⟩ := hb
    obtain ⟨q5, hb⟩ := hb
    refine g_last C dX2_takeFact_33 q4 q5 ?_
    refine g_aload_n (some v0) C dX2_takeFact_34 0 rfl ?_
    refine g_iconst (v := 1) C dX2_takeFact_35 (by decide) ?_
    refine g_putI C fl_RX2_25 dX2_takeFact_36 (by rw [zK_uAj]; exact q1) rfl rfl rfl rfl ?_
    refine g_aload_n (some v0) C dX2_takeFact_39 0 rfl ?_
    refine g_aload_n (some v1) C dX2_takeFact_40 1 rfl ?_
    refine g_iload_n C dX2_takeFact_41 2 rfl ?_
    refine g_iconst (v := 0) C dX2_takeFact_42 (by decide) ?_
    obtain ⟨q6, hb⟩ := hb
    refine g_invV (ci := 6) [.int v2, .int 0] [.ref v0] zy_X6_weight wd_608 wd_452 wd_453 ⟨_, _, rfl⟩ (by decide) C dX2_takeFact_43 (by first | exact Nat.le_of_ble_eq_true rfl | simp [cat_rf]) (by first | exact Nat.le_of_ble_eq_true rfl | simp [cat_rf]) (by first | exact Nat.le_of_ble_eq_true rfl | simp [cat_rf]) (Nat.zero_le _) (Nat.zero_le _) rfl rfl (by rw [zK_uFi, zK_uAj]; exact q6) (okX6_weight hb) ?_
    rintro o σ7 ⟨y8, rfl, hb⟩
    refine ⟨_, rfl, ?_⟩
    obtain ⟨q9, hb⟩ := hb
    refine g_putJ C fl_RX2_29 dX2_takeFact_46 q9 rfl rfl rfl rfl ?_
    refine g_aload_n (some v0) C dX2_takeFact_49 0 rfl ?_
    refine g_aload_n (some v1) C dX2_takeFact_50 1 rfl ?_
    refine g_iload_n C dX2_takeFact_51 2 rfl ?_
    refine g_iconst (v := 1) C dX2_takeFact_52 (by decide) ?_
    obtain ⟨q10, hb⟩ := hb
    refine g_invV (ci := 6) [.int v2, .int 1] [.ref v0] zy_X6_weight wd_608 wd_452 wd_453 ⟨_, _, rfl⟩ (by decide) C dX2_takeFact_53 (by first | exact Nat.le_of_ble_eq_true rfl | simp [cat_rf]) (by first | exact Nat.le_of_ble_eq_true rfl | simp [cat_rf]) (by first | exact Nat.le_of_ble_eq_true rfl | simp [cat_rf]) (Nat.zero_le _) (Nat.zero_le _) rfl rfl (by rw [zK_uFj]; exact q10) (okX6_weight hb) ?_
    rintro o σ11 ⟨y12, rfl, hb⟩
    refine ⟨_, rfl, ?_⟩
    refine g_l2i C dX2_takeFact_56 ?_
    obtain ⟨q13, hb⟩ := hb
    refine g_putI C fl_RX2_33 dX2_takeFact_57 q13 rfl rfl rfl rfl ?_
    refine g_aload_n (some v0) C dX2_takeFact_60 0 rfl ?_
    refine g_aload_n (some v1) C dX2_takeFact_61 1 rfl ?_
    refine g_iload_n C dX2_takeFact_62 2 rfl ?_
    refine g_iconst (v := 2) C dX2_takeFact_63 (by decide) ?_
    obtain ⟨q14, hb⟩ := hb
    refine g_invV (ci := 6) [.int v2, .int 2] [.ref v0] zy_X6_weight wd_608 wd_452 wd_453 ⟨_, _, rfl⟩ (by decide) C dX2_takeFact_64 (by first | exact Nat.le_of_ble_eq_true rfl | simp [cat_rf]) (by first | exact Nat.le_of_ble_eq_true rfl | simp [cat_rf]) (by first | exact Nat.le_of_ble_eq_true rfl | simp [cat_rf]) (Nat.zero_le _) (Nat.zero_le _) rfl rfl (by rw [zK_uFi]; exact q14) (okX6_weight hb) ?_
    rintro o σ15 ⟨y16, rfl, hb⟩
    refine ⟨_, rfl, ?_⟩
    obtain ⟨q17, hb⟩ := hb
    refine g_putJ C fl_RX2_36 dX2_takeFact_67 q17 rfl rfl rfl rfl ?_
    exact g_vreturn C hΓ (Nat.zero_le _) (Nat.zero_le _) dX2_takeFact_70 ⟨rfl, hb⟩
  ·
    replace hb := hb.2 (c)
    refine g_aload_n (some v0) C dX2_takeFact_7 0 rfl ?_
    obtain ⟨q18, hb⟩ := hb
    obtain ⟨a19, q20, hb⟩ := hb
    refine g_getR (some a19) C fl_RX2_9 dX2_takeFact_8 q18 rfl rfl q20 ?_
    refine g_iload_n C dX2_takeFact_11 3 rfl ?_
    refine g_aload_n (some v1) C dX2_takeFact_12 1 rfl ?_
    refine g_iload_n C dX2_takeFact_13 2 rfl ?_
    refine g_iload_n C dX2_takeFact_14 3 rfl ?_
    obtain ⟨q21, hb⟩ := hb
    refine g_invV (ci := 6) [.int v2, .int v3] [.int v3, .ref a19] zy_X6_cell wd_607 wd_469 wd_470 ⟨_, _, rfl⟩ (by decide) C dX2_takeFact_15 (by first | exact Nat.le_of_ble_eq_true rfl | simp [cat_rf]) (by first | exact Nat.le_of_ble_eq_true rfl | simp [cat_rf]) (by first | exact Nat.le_of_ble_eq_true rfl | simp [cat_rf]) (Nat.zero_le _) (Nat.zero_le _) rfl rfl q21 (okX6_cell hb) ?_
    rintro o σ22 ⟨y23, rfl, hb⟩
    refine ⟨_, rfl, ?_⟩
    obtain ⟨q24, hb⟩ := hb
    obtain ⟨q25, hb⟩ := hb
    refine g_iast C dX2_takeFact_18 q24 q25 ?_
    refine g_iinc (v := v3 + 1) (lv' := [(3, .int (v3 + 1)), (0, .ref v0), (1, .ref v1), (2, .int v2)]) C dX2_takeFact_19 3 rfl rfl (hnl_of hΓ (by decide)) (by first | rfl | simp [cat_rf]) ?_
    refine g_goto (tgt := 2) C dX2_takeFact_22 (by decide) ?_
    refine g_sub (lv' := [(0, .ref v0), (1, .ref v1), (2, .int v2), (3, .int (v3 + 1))]) [1, 2, 3, 0] rfl ?_
    exact h2 _ _ _ _ _ hb
theorem klX2_takeFact_2 {Γ : hCT} (C : hC Γ RX2 cX2_takeFact ((Option.none : Option Jvm.ClassFile.FieldType)) "takeFact" 1 22) {Q : St → Prop} (hΓ : Γ.2.2.2.2.2.2.2.2.2.2.2 = (4, 0, 0, oV Q)) (f : Nat) (v0 : Nat) (v1 : Nat) (v2 : Int32) (v3 : Int32) (σ : St) (hb : lX2_takeFact_2 Q f v0 v1 v2 v3 σ) : hW Γ 0 0 2 [(0, .ref v0), (1, .ref v1), (2, .int v2), (3, .int v3)] [] σ := by
  induction f generalizing v0 v1 v2 v3 σ with
  | zero => exact hb.elim
  | succ f ih => exact kwX2_takeFact_2 C hΓ  (fun v0 v1 v2 v3 σ h => ih v0 v1 v2 v3 σ h) _ _ _ _ _ hb
set_option maxRecDepth 20000 in
theorem kwX2_takeFact_0 {Γ : hCT} (C : hC Γ RX2 cX2_takeFact ((Option.none : Option Jvm.ClassFile.FieldType)) "takeFact" 1 22) {Q : St → Prop} (hΓ : Γ.2.2.2.2.2.2.2.2.2.2.2 = (4, 0, 0, oV Q)) (v0 : Nat) (v1 : Nat) (v2 : Int32) (σ : St) (hb : wX2_takeFact_0 Q v0 v1 v2 σ) : hW Γ 0 0 0 [(0, .ref v0), (1, .ref v1), (2, .int v2)] [] σ := by
  unfold wX2_takeFact_0 at hb
  refine g_iconst (v := 0) C dX2_takeFact_0 (by decide) ?_
  refine g_istore_n (i := 3) (lv' := [(3, .int 0), (0, .ref v0), (1, .ref v1), (2, .int v2)]) C dX2_takeFact_1 rfl (hnl_of hΓ (by decide)) (by first | rfl | simp [cat_rf]) ?_
  refine g_sub (lv' := [(0, .ref v0), (1, .ref v1), (2, .int v2), (3, .int 0)]) [1, 2, 3, 0] rfl ?_
  obtain ⟨f1, hb⟩ := hb
  exact klX2_takeFact_2 C hΓ  f1 _ _ _ _ _ hb
theorem okX2_takeFact {v0 : Nat} {v1 : Nat} {v2 : Int32} {σ : St} {Q : St → Prop} (hb : wX2_takeFact v0 v1 v2 σ Q) : hM yX2_takeFact cX2_takeFact 4 ((Option.none : Option Jvm.ClassFile.FieldType)) 1 22 0 0 [.ref v0, .ref v1, .int v2] σ (oV Q) :=
  hM_of (by decide) (Nat.le_of_ble_eq_true rfl) (fun Γ hΓ C => kwX2_takeFact_0 C hΓ _ _ _ _ hb)
def wX3_compare_2 (Q : Int32 → St → Prop) (r2 : Nat → Nat → Nat → Int32 → St → Prop) (v0 : Nat) (v1 : Nat) (v2 : Nat) (v3 : Int32) (σ : St) : Prop :=
  zK σ v0 = 4 ∧ (((zFi σ 194 v0) ≤ v3 → Q 0 σ) ∧ (¬ (zFi σ 194 v0) ≤ v3 → zK σ v1 = 20 ∧ vp_in v3 (zL σ v1) ∧ zK σ v2 = 20 ∧ vp_in v3 (zL σ v2) ∧ (((zAi σ v1 (ix v3)) = (zAi σ v2 (ix v3)) → r2 v0 v1 v2 (v3 + 1) σ) ∧ (¬ (zAi σ v1 (ix v3)) = (zAi σ v2 (ix v3)) → (((zAi σ v2 (ix v3)) ≤ (zAi σ v1 (ix v3)) → Q 1 σ) ∧ (¬ (zAi σ v2 (ix v3)) ≤ (zAi σ v1 (ix v3)) → Q (-1) σ))))))
def lX3_compare_2 (Q : Int32 → St → Prop) : Nat → Nat → Nat → Nat → Int32 → St → Prop
  | 0, _, _, _, _, _ => False
  | f + 1, v0, v1, v2, v3, σ => wX3_compare_2 Q (lX3_compare_2 Q f) v0 v1 v2 v3 σ
def wX3_compare_0 (Q : Int32 → St → Prop) (v0 : Nat) (v1 : Nat) (v2 : Nat) (σ : St) : Prop :=
  ∃ f, lX3_compare_2 Q f v0 v1 v2 0 σ
def wX3_compare (v0 : Nat) (v1 : Nat) (v2 : Nat) (σ : St) (Q : Int32 → St → Prop) : Prop := wX3_compare_0 Q v0 v1 v2 σ
set_option maxRecDepth 20000 in
theorem kwX3_compare_2 {Γ : hCT} (C : hC Γ RX3 cX3_compare ((Option.some FieldType.int)) "compare" 0 0) {Q : Int32 → St → Prop} (hΓ : Γ.2.2.2.2.2.2.2.2.2.2.2 = (4, 0, 0, oI Q)) {r2 : Nat → Nat → Nat → Int32 → St → Prop} (h2 : ∀ (v0 : Nat) (v1 : Nat) (v2 : Nat) (v3 : Int32) (σ : St), r2 v0 v1 v2 v3 σ → hW Γ 0 0 2 [(0, .ref v0), (1, .ref v1), (2, .ref v2), (3, .int v3)] [] σ) (v0 : Nat) (v1 : Nat) (v2 : Nat) (v3 : Int32) (σ : St) (hb : wX3_compare_2 Q r2 v0 v1 v2 v3 σ) : hW Γ 0 0 2 [(0, .ref v0), (1, .ref v1), (2, .ref v2), (3, .int v3)] [] σ := by
  unfold wX3_compare_2 at hb
  refine g_iload_n C dX3_compare_2 3 rfl ?_
  refine g_aload_n (some v0) C dX3_compare_3 0 rfl ?_
  obtain ⟨q1, hb⟩ := hb
  refine g_getIx (zFi σ 194 v0) C fl_RX3_22 dX3_compare_4 q1 rfl rfl rfl ?_
  refine g_icmp_ge (tgt := 40) C dX3_compare_7 (by decide) (fun c => ?_) (fun c => ?_)
  ·
    replace hb := hb.1 (c)
    refine g_iconst (v := 0) C dX3_compare_40 (by decide) ?_
    exact g_ireturn C hΓ (Nat.zero_le _) (Nat.zero_le _) dX3_compare_41 ⟨_, rfl, hb⟩
  ·
    replace hb := hb.2 (c)
    refine g_aload_n (some v1) C dX3_compare_10 1 rfl ?_
    refine g_iload_n C dX3_compare_11 3 rfl ?_
    obtain ⟨q2, hb⟩ := hb
    obtain ⟨q3, hb⟩ := hb
    refine g_ialdx (zAi σ v1 (ix v3)) C dX3_compare_12 q2 q3 rfl ?_
    refine g_aload_n (some v2) C dX3_compare_13 2 rfl ?_
    refine g_iload_n C dX3_compare_14 3 rfl ?_
    obtain ⟨q4, hb⟩ := hb
    obtain ⟨q5, hb⟩ := hb
    refine g_ialdx (zAi σ v2 (ix v3)) C dX3_compare_15 q4 q5 rfl ?_
    refine g_icmp_eq (tgt := 34) C dX3_compare_16 (by decide) (fun c => ?_) (fun c => ?_)
    ·
      replace hb := hb.1 (c)
      refine g_iinc (v := v3 + 1) (lv' := [(3, .int (v3 + 1)), (0, .ref v0), (1, .ref v1), (2, .ref v2)]) C dX3_compare_34 3 rfl rfl (hnl_of hΓ (by decide)) (by first | rfl | simp [cat_rf]) ?_
      refine g_goto (tgt := 2) C dX3_compare_37 (by decide) ?_
      refine g_sub (lv' := [(0, .ref v0), (1, .ref v1), (2, .ref v2), (3, .int (v3 + 1))]) [1, 2, 3, 0] rfl ?_
      exact h2 _ _ _ _ _ hb
    ·
      replace hb := hb.2 (c)
      refine g_aload_n (some v1) C dX3_compare_19 1 rfl ?_
      refine g_iload_n C dX3_compare_20 3 rfl ?_
      refine g_ialdx (zAi σ v1 (ix v3)) C dX3_compare_21 q2 q3 rfl ?_
      refine g_aload_n (some v2) C dX3_compare_22 2 rfl ?_
      refine g_iload_n C dX3_compare_23 3 rfl ?_
      refine g_ialdx (zAi σ v2 (ix v3)) C dX3_compare_24 q4 q5 rfl ?_
      refine g_icmp_ge (tgt := 32) C dX3_compare_25 (by decide) (fun c => ?_) (fun c => ?_)
      ·
        replace hb := hb.1 (c)
        refine g_iconst (v := 1) C dX3_compare_32 (by decide) ?_
        exact g_ireturn C hΓ (Nat.zero_le _) (Nat.zero_le _) dX3_compare_33 ⟨_, rfl, hb⟩
      ·
        replace hb := hb.2 (c)
        refine g_iconst (v := (-1)) C dX3_compare_28 (by decide) ?_
        refine g_goto (tgt := 33) C dX3_compare_29 (by decide) ?_
        exact g_ireturn C hΓ (Nat.zero_le _) (Nat.zero_le _) dX3_compare_33 ⟨_, rfl, hb⟩
theorem klX3_compare_2 {Γ : hCT} (C : hC Γ RX3 cX3_compare ((Option.some FieldType.int)) "compare" 0 0) {Q : Int32 → St → Prop} (hΓ : Γ.2.2.2.2.2.2.2.2.2.2.2 = (4, 0, 0, oI Q)) (f : Nat) (v0 : Nat) (v1 : Nat) (v2 : Nat) (v3 : Int32) (σ : St) (hb : lX3_compare_2 Q f v0 v1 v2 v3 σ) : hW Γ 0 0 2 [(0, .ref v0), (1, .ref v1), (2, .ref v2), (3, .int v3)] [] σ := by
  induction f generalizing v0 v1 v2 v3 σ with
  | zero => exact hb.elim
  | succ f ih => exact kwX3_compare_2 C hΓ  (fun v0 v1 v2 v3 σ h => ih v0 v1 v2 v3 σ h) _ _ _ _ _ hb
set_option maxRecDepth 20000 in
theorem kwX3_compare_0 {Γ : hCT} (C : hC Γ RX3 cX3_compare ((Option.some FieldType.int)) "compare" 0 0) {Q : Int32 → St → Prop} (hΓ : Γ.2.2.2.2.2.2.2.2.2.2.2 = (4, 0, 0, oI Q)) (v0 : Nat) (v1 : Nat) (v2 : Nat) (σ : St) (hb : wX3_compare_0 Q v0 v1 v2 σ) : hW Γ 0 0 0 [(0, .ref v0), (1, .ref v1), (2, .ref v2)] [] σ := by
  unfold wX3_compare_0 at hb
  refine g_iconst (v := 0) C dX3_compare_0 (by decide) ?_
  refine g_istore_n (i := 3) (lv' := [(3, .int 0), (0, .ref v0), (1, .ref v1), (2, .ref v2)]) C dX3_compare_1 rfl (hnl_of hΓ (by decide)) (by first | rfl | simp [cat_rf]) ?_
  refine g_sub (lv' := [(0, .ref v0), (1, .ref v1), (2, .ref v2), (3, .int 0)]) [1, 2, 3, 0] rfl ?_
  obtain ⟨f1, hb⟩ := hb
  exact klX3_compare_2 C hΓ  f1 _ _ _ _ _ hb
theorem okX3_compare {v0 : Nat} {v1 : Nat} {v2 : Nat} {σ : St} {Q : Int32 → St → Prop} (hb : wX3_compare v0 v1 v2 σ Q) : hM yX3_compare cX3_compare 4 ((Option.some FieldType.int)) 0 0 0 0 [.ref v0, .ref v1, .ref v2] σ (oI Q) :=
  hM_of (by decide) (Nat.le_of_ble_eq_true rfl) (fun Γ hΓ C => kwX3_compare_0 C hΓ _ _ _ _ hb)
def wX3_notBefore_7 (Q : Int32 → St → Prop) (r7 : Nat → Nat → Int32 → Int32 → St → Prop) (v0 : Nat) (v1 : Nat) (v2 : Int32) (v3 : Int32) (σ : St) : Prop :=
  ((v3 ≤ v2 → Q v2 σ) ∧ (¬ v3 ≤ v2 → zK σ v0 = 4 ∧ ∃ a2 : Nat, zFr σ 192 v0 = some a2 ∧ zK σ a2 = 25 ∧ vp_in ((v2 + v3) / 2) (zL σ a2) ∧ ∃ a6 : Nat, zAr σ a2 (ix ((v2 + v3) / 2)) = some a6 ∧ zK σ a6 = 3 ∧ ∃ a9 : Nat, zFr σ 128 a6 = some a9 ∧ wX3_compare v0 a9 v1 σ (fun y12 σ11 => ((0 ≤ y12 → r7 v0 v1 v2 ((v2 + v3) / 2) σ11) ∧ (¬ 0 ≤ y12 → r7 v0 v1 (((v2 + v3) / 2) + 1) v3 σ11)))))
def lX3_notBefore_7 (Q : Int32 → St → Prop) : Nat → Nat → Nat → Int32 → Int32 → St → Prop
  | 0, _, _, _, _, _ => False
  | f + 1, v0, v1, v2, v3, σ => wX3_notBefore_7 Q (lX3_notBefore_7 Q f) v0 v1 v2 v3 σ
def wX3_notBefore_0 (Q : Int32 → St → Prop) (v0 : Nat) (v1 : Nat) (σ : St) : Prop :=
  zK σ v0 = 4 ∧ ∃ f, lX3_notBefore_7 Q f v0 v1 0 (zFi σ 193 v0) σ
def wX3_notBefore (v0 : Nat) (v1 : Nat) (σ : St) (Q : Int32 → St → Prop) : Prop := wX3_notBefore_0 Q v0 v1 σ
set_option maxRecDepth 20000 in
theorem kwX3_notBefore_7 {Γ : hCT} (C : hC Γ RX3 cX3_notBefore ((Option.some FieldType.int)) "notBefore" 1 23) {Q : Int32 → St → Prop} (hΓ : Γ.2.2.2.2.2.2.2.2.2.2.2 = (5, 0, 0, oI Q)) {r7 : Nat → Nat → Int32 → Int32 → St → Prop} (h7 : ∀ (v0 : Nat) (v1 : Nat) (v2 : Int32) (v3 : Int32) (σ : St), r7 v0 v1 v2 v3 σ → hW Γ 0 0 7 [(0, .ref v0), (1, .ref v1), (2, .int v2), (3, .int v3)] [] σ) (v0 : Nat) (v1 : Nat) (v2 : Int32) (v3 : Int32) (σ : St) (hb : wX3_notBefore_7 Q r7 v0 v1 v2 v3 σ) : hW Γ 0 0 7 [(0, .ref v0), (1, .ref v1), (2, .int v2), (3, .int v3)] [] σ := by
  unfold wX3_notBefore_7 at hb
  refine g_iload_n C dX3_notBefore_7 2 rfl ?_
  refine g_iload_n C dX3_notBefore_8 3 rfl ?_
  refine g_icmp_ge (tgt := 51) C dX3_notBefore_9 (by decide) (fun c => ?_) (fun c => ?_)
  ·
    replace hb := hb.1 (c)
    refine g_iload_n C dX3_notBefore_51 2 rfl ?_
    exact g_ireturn C hΓ (Nat.zero_le _) (Nat.zero_le _) dX3_notBefore_52 ⟨_, rfl, hb⟩
  ·
    replace hb := hb.2 (c)
    refine g_iload_n C dX3_notBefore_12 2 rfl ?_
    refine g_iload_n C dX3_notBefore_13 3 rfl ?_
    refine g_iadd C dX3_notBefore_14 ?_
    refine g_iconst (v := 2) C dX3_notBefore_15 (by decide) ?_
    refine g_idiv C dX3_notBefore_16 (by decide) ?_
    refine g_istore (lv' := [(4, .int ((v2 + v3) / 2)), (0, .ref v0), (1, .ref v1), (2, .int v2), (3, .int v3)]) C dX3_notBefore_17 (hnl_of hΓ (by decide)) (by first | rfl | simp [cat_rf]) ?_
    refine g_aload_n (some v0) C dX3_notBefore_19 1 rfl ?_
    refine g_aload_n (some v0) C dX3_notBefore_20 1 rfl ?_
    obtain ⟨q1, hb⟩ := hb
    obtain ⟨a2, q3, hb⟩ := hb
    refine g_getR (some a2) C fl_RX3_11 dX3_notBefore_21 q1 rfl rfl q3 ?_
    refine g_iload C dX3_notBefore_24 0 rfl ?_
    obtain ⟨q4, hb⟩ := hb
    obtain ⟨q5, hb⟩ := hb
    obtain ⟨a6, q7, hb⟩ := hb
    refine g_aald (some a6) el_25 C dX3_notBefore_26 q4 q5 q7 ?_
    obtain ⟨q8, hb⟩ := hb
    obtain ⟨a9, q10, hb⟩ := hb
    refine g_getR (some a9) C fl_RX3_29 dX3_notBefore_27 q8 rfl rfl q10 ?_
    refine g_aload_n (some v1) C dX3_notBefore_30 2 rfl ?_
    refine g_invV (ci := 3) [.ref a9, .ref v1] [] zy_X3_compare wd_621 wd_622 wd_623 ⟨_, _, rfl⟩ (by decide) C dX3_notBefore_31 (by first | exact Nat.le_of_ble_eq_true rfl | simp [cat_rf]) (by first | exact Nat.le_of_ble_eq_true rfl | simp [cat_rf]) (by first | exact Nat.le_of_ble_eq_true rfl | simp [cat_rf]) (Nat.zero_le _) (Nat.zero_le _) rfl rfl q1 (okX3_compare hb) ?_
    rintro o σ11 ⟨y12, rfl, hb⟩
    refine ⟨_, rfl, ?_⟩
    refine g_if_ge (tgt := 45) C dX3_notBefore_34 (by decide) (fun c => ?_) (fun c => ?_)
    ·
      replace hb := hb.1 (c)
      refine g_iload C dX3_notBefore_45 0 rfl ?_
      refine g_istore_n (i := 3) (lv' := [(3, .int ((v2 + v3) / 2)), (4, .int ((v2 + v3) / 2)), (0, .ref v0), (1, .ref v1), (2, .int v2)]) C dX3_notBefore_47 rfl (hnl_of hΓ (by decide)) (by first | rfl | simp [cat_rf]) ?_
      refine g_goto (tgt := 7) C dX3_notBefore_48 (by decide) ?_
      refine g_sub (lv' := [(0, .ref v0), (1, .ref v1), (2, .int v2), (3, .int ((v2 + v3) / 2))]) [2, 3, 4, 0] rfl ?_
      exact h7 _ _ _ _ _ hb
    ·
      replace hb := hb.2 (c)
      refine g_iload C dX3_notBefore_37 0 rfl ?_
      refine g_iconst (v := 1) C dX3_notBefore_39 (by decide) ?_
      refine g_iadd C dX3_notBefore_40 ?_
      refine g_istore_n (i := 2) (lv' := [(2, .int (((v2 + v3) / 2) + 1)), (4, .int ((v2 + v3) / 2)), (0, .ref v0), (1, .ref v1), (3, .int v3)]) C dX3_notBefore_41 rfl (hnl_of hΓ (by decide)) (by first | rfl | simp [cat_rf]) ?_
      refine g_goto (tgt := 48) C dX3_notBefore_42 (by decide) ?_
      refine g_goto (tgt := 7) C dX3_notBefore_48 (by decide) ?_
      refine g_sub (lv' := [(0, .ref v0), (1, .ref v1), (2, .int (((v2 + v3) / 2) + 1)), (3, .int v3)]) [2, 3, 0, 4] rfl ?_
      exact h7 _ _ _ _ _ hb
theorem klX3_notBefore_7 {Γ : hCT} (C : hC Γ RX3 cX3_notBefore ((Option.some FieldType.int)) "notBefore" 1 23) {Q : Int32 → St → Prop} (hΓ : Γ.2.2.2.2.2.2.2.2.2.2.2 = (5, 0, 0, oI Q)) (f : Nat) (v0 : Nat) (v1 : Nat) (v2 : Int32) (v3 : Int32) (σ : St) (hb : lX3_notBefore_7 Q f v0 v1 v2 v3 σ) : hW Γ 0 0 7 [(0, .ref v0), (1, .ref v1), (2, .int v2), (3, .int v3)] [] σ := by
  induction f generalizing v0 v1 v2 v3 σ with
  | zero => exact hb.elim
  | succ f ih => exact kwX3_notBefore_7 C hΓ  (fun v0 v1 v2 v3 σ h => ih v0 v1 v2 v3 σ h) _ _ _ _ _ hb
set_option maxRecDepth 20000 in
theorem kwX3_notBefore_0 {Γ : hCT} (C : hC Γ RX3 cX3_notBefore ((Option.some FieldType.int)) "notBefore" 1 23) {Q : Int32 → St → Prop} (hΓ : Γ.2.2.2.2.2.2.2.2.2.2.2 = (5, 0, 0, oI Q)) (v0 : Nat) (v1 : Nat) (σ : St) (hb : wX3_notBefore_0 Q v0 v1 σ) : hW Γ 0 0 0 [(0, .ref v0), (1, .ref v1)] [] σ := by
  unfold wX3_notBefore_0 at hb
  refine g_iconst (v := 0) C dX3_notBefore_0 (by decide) ?_
  refine g_istore_n (i := 2) (lv' := [(2, .int 0), (0, .ref v0), (1, .ref v1)]) C dX3_notBefore_1 rfl (hnl_of hΓ (by decide)) (by first | rfl | simp [cat_rf]) ?_
  refine g_aload_n (some v0) C dX3_notBefore_2 1 rfl ?_
  obtain ⟨q1, hb⟩ := hb
  refine g_getIx (zFi σ 193 v0) C fl_RX3_18 dX3_notBefore_3 q1 rfl rfl rfl ?_
  refine g_istore_n (i := 3) (lv' := [(3, .int (zFi σ 193 v0)), (2, .int 0), (0, .ref v0), (1, .ref v1)]) C dX3_notBefore_6 rfl (hnl_of hΓ (by decide)) (by first | rfl | simp [cat_rf]) ?_
  refine g_sub (lv' := [(0, .ref v0), (1, .ref v1), (2, .int 0), (3, .int (zFi σ 193 v0))]) [2, 3, 1, 0] rfl ?_
  obtain ⟨f2, hb⟩ := hb
  exact klX3_notBefore_7 C hΓ  f2 _ _ _ _ _ hb
theorem okX3_notBefore {v0 : Nat} {v1 : Nat} {σ : St} {Q : Int32 → St → Prop} (hb : wX3_notBefore v0 v1 σ Q) : hM yX3_notBefore cX3_notBefore 5 ((Option.some FieldType.int)) 1 23 0 0 [.ref v0, .ref v1] σ (oI Q) :=
  hM_of (by decide) (Nat.le_of_ble_eq_true rfl) (fun Γ hΓ C => kwX3_notBefore_0 C hΓ _ _ _ hb)
def wX2_takeRow_0 (Q : St → Prop) (v0 : Nat) (v1 : Nat) (σ : St) : Prop :=
  zK σ v0 = 3 ∧ ∃ a2 : Nat, zFr σ 128 v0 = some a2 ∧ zK σ v1 = 20 ∧ zK σ a2 = 20 ∧ ¬ (0 : Int32) < 0 ∧ ¬ (0 : Int32) < 0 ∧ ¬ (6 : Int32) < 0 ∧ ix 0 + ix 6 ≤ zL σ v1 ∧ ix 0 + ix 6 ≤ zL σ a2 ∧ Q (uCi σ v1 (ix 0) a2 (ix 0) (ix 6))
def wX2_takeRow (v0 : Nat) (v1 : Nat) (σ : St) (Q : St → Prop) : Prop := wX2_takeRow_0 Q v0 v1 σ
set_option maxRecDepth 20000 in
theorem kwX2_takeRow_0 {Γ : hCT} (C : hC Γ RX2 cX2_takeRow ((Option.none : Option Jvm.ClassFile.FieldType)) "takeRow" 1 60) {Q : St → Prop} (hΓ : Γ.2.2.2.2.2.2.2.2.2.2.2 = (2, 0, 0, oV Q)) (v0 : Nat) (v1 : Nat) (σ : St) (hb : wX2_takeRow_0 Q v0 v1 σ) : hW Γ 0 0 0 [(0, .ref v0), (1, .ref v1)] [] σ := by
  unfold wX2_takeRow_0 at hb
  refine g_aload_n (some v1) C dX2_takeRow_0 1 rfl ?_
  refine g_iconst (v := 0) C dX2_takeRow_1 (by decide) ?_
  refine g_aload_n (some v0) C dX2_takeRow_2 0 rfl ?_
  obtain ⟨q1, hb⟩ := hb
  obtain ⟨a2, q3, hb⟩ := hb
  refine g_getR (some a2) C fl_RX2_9 dX2_takeRow_3 q1 rfl rfl q3 ?_
  refine g_iconst (v := 0) C dX2_takeRow_6 (by decide) ?_
  refine g_bipush (v := 6) C dX2_takeRow_7 (by decide) ?_
  obtain ⟨q4, hb⟩ := hb
  obtain ⟨q5, hb⟩ := hb
  obtain ⟨q6, hb⟩ := hb
  obtain ⟨q7, hb⟩ := hb
  obtain ⟨q8, hb⟩ := hb
  obtain ⟨q9, hb⟩ := hb
  obtain ⟨q10, hb⟩ := hb
  refine g_copyI wd_630 wd_423 wd_422 wd_88 C (by first | exact Nat.le_of_ble_eq_true rfl | simp [cat_rf]) (by first | exact Nat.le_of_ble_eq_true rfl | simp [cat_rf]) dX2_takeRow_9 q4 q5 q6 q7 q8 q9 q10 ?_
  exact g_vreturn C hΓ (Nat.zero_le _) (Nat.zero_le _) dX2_takeRow_12 ⟨rfl, hb⟩
theorem okX2_takeRow {v0 : Nat} {v1 : Nat} {σ : St} {Q : St → Prop} (hb : wX2_takeRow v0 v1 σ Q) : hM yX2_takeRow cX2_takeRow 2 ((Option.none : Option Jvm.ClassFile.FieldType)) 1 60 0 0 [.ref v0, .ref v1] σ (oV Q) :=
  hM_of (by decide) (Nat.le_of_ble_eq_true rfl) (fun Γ hΓ C => kwX2_takeRow_0 C hΓ _ _ _ hb)
def wX3_insert_52 (Q : Int32 → St → Prop) (r52 : Nat → Nat → Int32 → Nat → Int32 → St → Prop) (v0 : Nat) (v1 : Nat) (v2 : Int32) (v3 : Nat) (v4 : Int32) (σ : St) : Prop :=
  ((v4 ≤ v2 → zK σ v0 = 4 ∧ ∃ a2 : Nat, zFr σ 192 v0 = some a2 ∧ zK σ a2 = 25 ∧ vp_in v2 (zL σ a2) ∧ zK σ v3 = 3 ∧ wX2_takeRow v3 v1 (uAr σ a2 (ix v2) (some v3)) (fun σ7 => Q 1 σ7)) ∧ (¬ v4 ≤ v2 → zK σ v0 = 4 ∧ ∃ a9 : Nat, zFr σ 192 v0 = some a9 ∧ zK σ a9 = 25 ∧ vp_in (v4 - 1) (zL σ a9) ∧ ∃ a13 : Nat, zAr σ a9 (ix (v4 - 1)) = some a13 ∧ vp_in v4 (zL σ a9) ∧ zK σ a13 = 3 ∧ r52 v0 v1 v2 v3 (v4 + (-1)) (uAr σ a9 (ix v4) (some a13))))
def lX3_insert_52 (Q : Int32 → St → Prop) : Nat → Nat → Nat → Int32 → Nat → Int32 → St → Prop
  | 0, _, _, _, _, _, _ => False
  | f + 1, v0, v1, v2, v3, v4, σ => wX3_insert_52 Q (lX3_insert_52 Q f) v0 v1 v2 v3 v4 σ
def wX3_insert_33 (Q : Int32 → St → Prop) (v0 : Nat) (v1 : Nat) (v2 : Int32) (σ : St) : Prop :=
  zK σ v0 = 4 ∧ wX3_grow v0 σ (fun y3 σ2 => ((y3 = none → Q 0 σ2) ∧ (∀ a4 : Nat, y3 = some a4 → zK σ2 v0 = 4 ∧ ∃ f, lX3_insert_52 Q f v0 v1 v2 a4 ((zFi σ2 193 v0) - 1) σ2)))
def wX3_insert_0 (Q : Int32 → St → Prop) (v0 : Nat) (v1 : Nat) (σ : St) : Prop :=
  zK σ v0 = 4 ∧ wX3_notBefore v0 v1 σ (fun y3 σ2 => zK σ2 v0 = 4 ∧ (((zFi σ2 193 v0) ≤ y3 → wX3_insert_33 Q v0 v1 y3 σ2) ∧ (¬ (zFi σ2 193 v0) ≤ y3 → ∃ a5 : Nat, zFr σ2 192 v0 = some a5 ∧ zK σ2 a5 = 25 ∧ vp_in y3 (zL σ2 a5) ∧ ∃ a9 : Nat, zAr σ2 a5 (ix y3) = some a9 ∧ zK σ2 a9 = 3 ∧ ∃ a12 : Nat, zFr σ2 128 a9 = some a12 ∧ wX3_compare v0 a12 v1 σ2 (fun y15 σ14 => ((¬ y15 = 0 → wX3_insert_33 Q v0 v1 y3 σ14) ∧ (y15 = 0 → Q 1 σ14))))))
def wX3_insert (v0 : Nat) (v1 : Nat) (σ : St) (Q : Int32 → St → Prop) : Prop := wX3_insert_0 Q v0 v1 σ
set_option maxRecDepth 20000 in
theorem kwX3_insert_52 {Γ : hCT} (C : hC Γ RX3 cX3_insert ((Option.some FieldType.boolean)) "insert" 2 81) {Q : Int32 → St → Prop} (hΓ : Γ.2.2.2.2.2.2.2.2.2.2.2 = (5, 0, 0, oI Q)) {r52 : Nat → Nat → Int32 → Nat → Int32 → St → Prop} (h52 : ∀ (v0 : Nat) (v1 : Nat) (v2 : Int32) (v3 : Nat) (v4 : Int32) (σ : St), r52 v0 v1 v2 v3 v4 σ → hW Γ 0 0 52 [(0, .ref v0), (1, .ref v1), (2, .int v2), (3, .ref v3), (4, .int v4)] [] σ) (v0 : Nat) (v1 : Nat) (v2 : Int32) (v3 : Nat) (v4 : Int32) (σ : St) (hb : wX3_insert_52 Q r52 v0 v1 v2 v3 v4 σ) : hW Γ 0 0 52 [(0, .ref v0), (1, .ref v1), (2, .int v2), (3, .ref v3), (4, .int v4)] [] σ := by
  unfold wX3_insert_52 at hb
  refine g_iload C dX3_insert_52 4 rfl ?_
  refine g_iload_n C dX3_insert_54 2 rfl ?_
  refine g_icmp_le (tgt := 80) C dX3_insert_55 (by decide) (fun c => ?_) (fun c => ?_)
  ·
    replace hb := hb.1 (c)
    refine g_aload_n (some v0) C dX3_insert_80 0 rfl ?_
    obtain ⟨q1, hb⟩ := hb
    obtain ⟨a2, q3, hb⟩ := hb
    refine g_getR (some a2) C fl_RX3_11 dX3_insert_81 q1 rfl rfl q3 ?_
    refine g_iload_n C dX3_insert_84 2 rfl ?_
    refine g_aload_n (some v3) C dX3_insert_85 3 rfl ?_
    obtain ⟨q4, hb⟩ := hb
    obtain ⟨q5, hb⟩ := hb
    obtain ⟨q6, hb⟩ := hb
    refine g_aast (some v3) el_25 C dX3_insert_86 q4 q5 (fun _ hv => by cases hv; exact q6) ?_
    refine g_aload_n (some v3) C dX3_insert_87 3 rfl ?_
    refine g_aload_n (some v1) C dX3_insert_88 1 rfl ?_
    refine g_invV (ci := 2) [.ref v1] [] zy_X2_takeRow wd_626 wd_627 wd_628 ⟨_, _, rfl⟩ (by decide) C dX3_insert_89 (by first | exact Nat.le_of_ble_eq_true rfl | simp [cat_rf]) (by first | exact Nat.le_of_ble_eq_true rfl | simp [cat_rf]) (by first | exact Nat.le_of_ble_eq_true rfl | simp [cat_rf]) (Nat.zero_le _) (Nat.zero_le _) rfl rfl (by rw [zK_uAr]; exact q6) (okX2_takeRow hb) ?_
    rintro o σ7 ⟨rfl, hb⟩
    refine ⟨_, rfl, ?_⟩
    refine g_iconst (v := 1) C dX3_insert_92 (by decide) ?_
    exact g_zreturn C (by decide) hΓ (Nat.zero_le _) (Nat.zero_le _) dX3_insert_93 ⟨_, rfl, hb⟩
  ·
    replace hb := hb.2 (c)
    refine g_aload_n (some v0) C dX3_insert_58 0 rfl ?_
    obtain ⟨q8, hb⟩ := hb
    obtain ⟨a9, q10, hb⟩ := hb
    refine g_getR (some a9) C fl_RX3_11 dX3_insert_59 q8 rfl rfl q10 ?_
    refine g_iload C dX3_insert_62 4 rfl ?_
    refine g_aload_n (some v0) C dX3_insert_64 0 rfl ?_
    refine g_getR (some a9) C fl_RX3_11 dX3_insert_65 q8 rfl rfl q10 ?_
    refine g_iload C dX3_insert_68 4 rfl ?_
    refine g_iconst (v := 1) C dX3_insert_70 (by decide) ?_
    refine g_isub C dX3_insert_71 ?_
    obtain ⟨q11, hb⟩ := hb
    obtain ⟨q12, hb⟩ := hb
    obtain ⟨a13, q14, hb⟩ := hb
    refine g_aald (some a13) el_25 C dX3_insert_72 q11 q12 q14 ?_
    obtain ⟨q15, hb⟩ := hb
    obtain ⟨q16, hb⟩ := hb
    refine g_aast (some a13) el_25 C dX3_insert_73 q11 q15 (fun _ hv => by cases hv; exact q16) ?_
    refine g_iinc (v := v4 + (-1)) (lv' := [(4, .int (v4 + (-1))), (0, .ref v0), (1, .ref v1), (2, .int v2), (3, .ref v3)]) C dX3_insert_74 4 rfl rfl (hnl_of hΓ (by decide)) (by first | rfl | simp [cat_rf]) ?_
    refine g_goto (tgt := 52) C dX3_insert_77 (by decide) ?_
    refine g_sub (lv' := [(0, .ref v0), (1, .ref v1), (2, .int v2), (3, .ref v3), (4, .int (v4 + (-1)))]) [1, 2, 3, 4, 0] rfl ?_
    exact h52 _ _ _ _ _ _ hb
theorem klX3_insert_52 {Γ : hCT} (C : hC Γ RX3 cX3_insert ((Option.some FieldType.boolean)) "insert" 2 81) {Q : Int32 → St → Prop} (hΓ : Γ.2.2.2.2.2.2.2.2.2.2.2 = (5, 0, 0, oI Q)) (f : Nat) (v0 : Nat) (v1 : Nat) (v2 : Int32) (v3 : Nat) (v4 : Int32) (σ : St) (hb : lX3_insert_52 Q f v0 v1 v2 v3 v4 σ) : hW Γ 0 0 52 [(0, .ref v0), (1, .ref v1), (2, .int v2), (3, .ref v3), (4, .int v4)] [] σ := by
  induction f generalizing v0 v1 v2 v3 v4 σ with
  | zero => exact hb.elim
  | succ f ih => exact kwX3_insert_52 C hΓ  (fun v0 v1 v2 v3 v4 σ h => ih v0 v1 v2 v3 v4 σ h) _ _ _ _ _ _ hb
set_option maxRecDepth 20000 in
theorem kwX3_insert_33 {Γ : hCT} (C : hC Γ RX3 cX3_insert ((Option.some FieldType.boolean)) "insert" 2 81) {Q : Int32 → St → Prop} (hΓ : Γ.2.2.2.2.2.2.2.2.2.2.2 = (5, 0, 0, oI Q)) (v0 : Nat) (v1 : Nat) (v2 : Int32) (σ : St) (hb : wX3_insert_33 Q v0 v1 v2 σ) : hW Γ 0 0 33 [(0, .ref v0), (1, .ref v1), (2, .int v2)] [] σ := by
  unfold wX3_insert_33 at hb
  refine g_aload_n (some v0) C dX3_insert_33 0 rfl ?_
  obtain ⟨q1, hb⟩ := hb
  refine g_invV (ci := 3) [] [] zy_X3_grow wd_625 wd_600 wd_601 ⟨_, _, rfl⟩ (by decide) C dX3_insert_34 (by first | exact Nat.le_of_ble_eq_true rfl | simp [cat_rf]) (by first | exact Nat.le_of_ble_eq_true rfl | simp [cat_rf]) (by first | exact Nat.le_of_ble_eq_true rfl | simp [cat_rf]) (Nat.zero_le _) (Nat.zero_le _) rfl rfl q1 (okX3_grow hb) ?_
  rintro o σ2 ⟨y3, rfl, hb⟩
  refine ⟨_, rfl, ?_⟩
  refine g_astore_n (i := 3) (lv' := [(3, va_rf y3), (0, .ref v0), (1, .ref v1), (2, .int v2)]) y3 C dX3_insert_37 rfl (hnl_of hΓ (by decide)) (by first | rfl | simp [cat_rf]) ?_
  refine g_aload_n y3 C dX3_insert_38 0 rfl ?_
  refine g_ifnonnull (tgt := 44) y3 C dX3_insert_39 (by decide) (fun c => ?_) (fun c => ?_)
  ·
    obtain ⟨a4, rfl⟩ := rf_some c
    replace hb := hb.2 a4 rfl
    refine g_aload_n (some v0) C dX3_insert_44 1 rfl ?_
    obtain ⟨q5, hb⟩ := hb
    refine g_getIx (zFi σ2 193 v0) C fl_RX3_18 dX3_insert_45 q5 rfl rfl rfl ?_
    refine g_iconst (v := 1) C dX3_insert_48 (by decide) ?_
    refine g_isub C dX3_insert_49 ?_
    refine g_istore (lv' := [(4, .int ((zFi σ2 193 v0) - 1)), (3, .ref a4), (0, .ref v0), (1, .ref v1), (2, .int v2)]) C dX3_insert_50 (hnl_of hΓ (by decide)) (by first | rfl | simp [cat_rf]) ?_
    refine g_sub (lv' := [(0, .ref v0), (1, .ref v1), (2, .int v2), (3, .ref a4), (4, .int ((zFi σ2 193 v0) - 1))]) [2, 3, 4, 1, 0] rfl ?_
    obtain ⟨f6, hb⟩ := hb
    exact klX3_insert_52 C hΓ  f6 _ _ _ _ _ _ hb
  ·
    replace hb := hb.1 c
    refine g_iconst (v := 0) C dX3_insert_42 (by decide) ?_
    exact g_zreturn C (by decide) hΓ (Nat.zero_le _) (Nat.zero_le _) dX3_insert_43 ⟨_, rfl, hb⟩
set_option maxRecDepth 20000 in
theorem kwX3_insert_0 {Γ : hCT} (C : hC Γ RX3 cX3_insert ((Option.some FieldType.boolean)) "insert" 2 81) {Q : Int32 → St → Prop} (hΓ : Γ.2.2.2.2.2.2.2.2.2.2.2 = (5, 0, 0, oI Q)) (v0 : Nat) (v1 : Nat) (σ : St) (hb : wX3_insert_0 Q v0 v1 σ) : hW Γ 0 0 0 [(0, .ref v0), (1, .ref v1)] [] σ := by
  unfold wX3_insert_0 at hb
  refine g_aload_n (some v0) C dX3_insert_0 0 rfl ?_
  refine g_aload_n (some v1) C dX3_insert_1 1 rfl ?_
  obtain ⟨q1, hb⟩ := hb
  refine g_invV (ci := 3) [.ref v1] [] zy_X3_notBefore wd_617 wd_619 wd_12 ⟨_, _, rfl⟩ (by decide) C dX3_insert_2 (by first | exact Nat.le_of_ble_eq_true rfl | simp [cat_rf]) (by first | exact Nat.le_of_ble_eq_true rfl | simp [cat_rf]) (by first | exact Nat.le_of_ble_eq_true rfl | simp [cat_rf]) (Nat.zero_le _) (Nat.zero_le _) rfl rfl q1 (okX3_notBefore hb) ?_
  rintro o σ2 ⟨y3, rfl, hb⟩
  refine ⟨_, rfl, ?_⟩
  refine g_istore_n (i := 2) (lv' := [(2, .int y3), (0, .ref v0), (1, .ref v1)]) C dX3_insert_5 rfl (hnl_of hΓ (by decide)) (by first | rfl | simp [cat_rf]) ?_
  refine g_iload_n C dX3_insert_6 0 rfl ?_
  refine g_aload_n (some v0) C dX3_insert_7 1 rfl ?_
  obtain ⟨q4, hb⟩ := hb
  refine g_getIx (zFi σ2 193 v0) C fl_RX3_18 dX3_insert_8 q4 rfl rfl rfl ?_
  refine g_icmp_ge (tgt := 33) C dX3_insert_11 (by decide) (fun c => ?_) (fun c => ?_)
  ·
    replace hb := hb.1 (c)
    refine g_sub (lv' := [(0, .ref v0), (1, .ref v1), (2, .int y3)]) [1, 2, 0] rfl ?_
    exact kwX3_insert_33 C hΓ  _ _ _ _ hb
  ·
    replace hb := hb.2 (c)
    refine g_aload_n (some v0) C dX3_insert_14 1 rfl ?_
    refine g_aload_n (some v0) C dX3_insert_15 1 rfl ?_
    obtain ⟨a5, q6, hb⟩ := hb
    refine g_getR (some a5) C fl_RX3_11 dX3_insert_16 q4 rfl rfl q6 ?_
    refine g_iload_n C dX3_insert_19 0 rfl ?_
    obtain ⟨q7, hb⟩ := hb
    obtain ⟨q8, hb⟩ := hb
    obtain ⟨a9, q10, hb⟩ := hb
    refine g_aald (some a9) el_25 C dX3_insert_20 q7 q8 q10 ?_
    obtain ⟨q11, hb⟩ := hb
    obtain ⟨a12, q13, hb⟩ := hb
    refine g_getR (some a12) C fl_RX3_29 dX3_insert_21 q11 rfl rfl q13 ?_
    refine g_aload_n (some v1) C dX3_insert_24 2 rfl ?_
    refine g_invV (ci := 3) [.ref a12, .ref v1] [] zy_X3_compare wd_621 wd_622 wd_623 ⟨_, _, rfl⟩ (by decide) C dX3_insert_25 (by first | exact Nat.le_of_ble_eq_true rfl | simp [cat_rf]) (by first | exact Nat.le_of_ble_eq_true rfl | simp [cat_rf]) (by first | exact Nat.le_of_ble_eq_true rfl | simp [cat_rf]) (Nat.zero_le _) (Nat.zero_le _) rfl rfl q4 (okX3_compare hb) ?_
    rintro o σ14 ⟨y15, rfl, hb⟩
    refine ⟨_, rfl, ?_⟩
    refine g_if_ne (tgt := 33) C dX3_insert_28 (by decide) (fun c => ?_) (fun c => ?_)
    ·
      replace hb := hb.1 (c)
      refine g_sub (lv' := [(0, .ref v0), (1, .ref v1), (2, .int y3)]) [1, 2, 0] rfl ?_
      exact kwX3_insert_33 C hΓ  _ _ _ _ hb
    ·
      replace hb := hb.2 (c)
      refine g_iconst (v := 1) C dX3_insert_31 (by decide) ?_
      exact g_zreturn C (by decide) hΓ (Nat.zero_le _) (Nat.zero_le _) dX3_insert_32 ⟨_, rfl, hb⟩
theorem okX3_insert {v0 : Nat} {v1 : Nat} {σ : St} {Q : Int32 → St → Prop} (hb : wX3_insert v0 v1 σ Q) : hM yX3_insert cX3_insert 5 ((Option.some FieldType.boolean)) 2 81 0 0 [.ref v0, .ref v1] σ (oI Q) :=
  hM_of (by decide) (Nat.le_of_ble_eq_true rfl) (fun Γ hΓ C => kwX3_insert_0 C hΓ _ _ _ hb)
def wX3_spot_0 (Q : Int32 → St → Prop) (v0 : Nat) (v1 : Nat) (σ : St) : Prop :=
  zK σ v0 = 4 ∧ wX3_notBefore v0 v1 σ (fun y3 σ2 => zK σ2 v0 = 4 ∧ (((zFi σ2 193 v0) ≤ y3 → Q (-1) σ2) ∧ (¬ (zFi σ2 193 v0) ≤ y3 → ∃ a5 : Nat, zFr σ2 192 v0 = some a5 ∧ zK σ2 a5 = 25 ∧ vp_in y3 (zL σ2 a5) ∧ ∃ a9 : Nat, zAr σ2 a5 (ix y3) = some a9 ∧ zK σ2 a9 = 3 ∧ ∃ a12 : Nat, zFr σ2 128 a9 = some a12 ∧ wX3_compare v0 a12 v1 σ2 (fun y15 σ14 => ((¬ y15 = 0 → Q (-1) σ14) ∧ (y15 = 0 → Q y3 σ14))))))
def wX3_spot (v0 : Nat) (v1 : Nat) (σ : St) (Q : Int32 → St → Prop) : Prop := wX3_spot_0 Q v0 v1 σ
set_option maxRecDepth 20000 in
theorem kwX3_spot_0 {Γ : hCT} (C : hC Γ RX3 cX3_spot ((Option.some FieldType.int)) "spot" 2 47) {Q : Int32 → St → Prop} (hΓ : Γ.2.2.2.2.2.2.2.2.2.2.2 = (3, 0, 0, oI Q)) (v0 : Nat) (v1 : Nat) (σ : St) (hb : wX3_spot_0 Q v0 v1 σ) : hW Γ 0 0 0 [(0, .ref v0), (1, .ref v1)] [] σ := by
  unfold wX3_spot_0 at hb
  refine g_aload_n (some v0) C dX3_spot_0 0 rfl ?_
  refine g_aload_n (some v1) C dX3_spot_1 1 rfl ?_
  obtain ⟨q1, hb⟩ := hb
  refine g_invV (ci := 3) [.ref v1] [] zy_X3_notBefore wd_617 wd_619 wd_12 ⟨_, _, rfl⟩ (by decide) C dX3_spot_2 (by first | exact Nat.le_of_ble_eq_true rfl | simp [cat_rf]) (by first | exact Nat.le_of_ble_eq_true rfl | simp [cat_rf]) (by first | exact Nat.le_of_ble_eq_true rfl | simp [cat_rf]) (Nat.zero_le _) (Nat.zero_le _) rfl rfl q1 (okX3_notBefore hb) ?_
  rintro o σ2 ⟨y3, rfl, hb⟩
  refine ⟨_, rfl, ?_⟩
  refine g_istore_n (i := 2) (lv' := [(2, .int y3), (0, .ref v0), (1, .ref v1)]) C dX3_spot_5 rfl (hnl_of hΓ (by decide)) (by first | rfl | simp [cat_rf]) ?_
  refine g_iload_n C dX3_spot_6 0 rfl ?_
  refine g_aload_n (some v0) C dX3_spot_7 1 rfl ?_
  obtain ⟨q4, hb⟩ := hb
  refine g_getIx (zFi σ2 193 v0) C fl_RX3_18 dX3_spot_8 q4 rfl rfl rfl ?_
  refine g_icmp_ge (tgt := 35) C dX3_spot_11 (by decide) (fun c => ?_) (fun c => ?_)
  ·
    replace hb := hb.1 (c)
    refine g_iconst (v := (-1)) C dX3_spot_35 (by decide) ?_
    exact g_ireturn C hΓ (Nat.zero_le _) (Nat.zero_le _) dX3_spot_36 ⟨_, rfl, hb⟩
  ·
    replace hb := hb.2 (c)
    refine g_aload_n (some v0) C dX3_spot_14 1 rfl ?_
    refine g_aload_n (some v0) C dX3_spot_15 1 rfl ?_
    obtain ⟨a5, q6, hb⟩ := hb
    refine g_getR (some a5) C fl_RX3_11 dX3_spot_16 q4 rfl rfl q6 ?_
    refine g_iload_n C dX3_spot_19 0 rfl ?_
    obtain ⟨q7, hb⟩ := hb
    obtain ⟨q8, hb⟩ := hb
    obtain ⟨a9, q10, hb⟩ := hb
    refine g_aald (some a9) el_25 C dX3_spot_20 q7 q8 q10 ?_
    obtain ⟨q11, hb⟩ := hb
    obtain ⟨a12, q13, hb⟩ := hb
    refine g_getR (some a12) C fl_RX3_29 dX3_spot_21 q11 rfl rfl q13 ?_
    refine g_aload_n (some v1) C dX3_spot_24 2 rfl ?_
    refine g_invV (ci := 3) [.ref a12, .ref v1] [] zy_X3_compare wd_621 wd_622 wd_623 ⟨_, _, rfl⟩ (by decide) C dX3_spot_25 (by first | exact Nat.le_of_ble_eq_true rfl | simp [cat_rf]) (by first | exact Nat.le_of_ble_eq_true rfl | simp [cat_rf]) (by first | exact Nat.le_of_ble_eq_true rfl | simp [cat_rf]) (Nat.zero_le _) (Nat.zero_le _) rfl rfl q4 (okX3_compare hb) ?_
    rintro o σ14 ⟨y15, rfl, hb⟩
    refine ⟨_, rfl, ?_⟩
    refine g_if_ne (tgt := 35) C dX3_spot_28 (by decide) (fun c => ?_) (fun c => ?_)
    ·
      replace hb := hb.1 (c)
      refine g_iconst (v := (-1)) C dX3_spot_35 (by decide) ?_
      exact g_ireturn C hΓ (Nat.zero_le _) (Nat.zero_le _) dX3_spot_36 ⟨_, rfl, hb⟩
    ·
      replace hb := hb.2 (c)
      refine g_iload_n C dX3_spot_31 0 rfl ?_
      refine g_goto (tgt := 36) C dX3_spot_32 (by decide) ?_
      exact g_ireturn C hΓ (Nat.zero_le _) (Nat.zero_le _) dX3_spot_36 ⟨_, rfl, hb⟩
theorem okX3_spot {v0 : Nat} {v1 : Nat} {σ : St} {Q : Int32 → St → Prop} (hb : wX3_spot v0 v1 σ Q) : hM yX3_spot cX3_spot 3 ((Option.some FieldType.int)) 2 47 0 0 [.ref v0, .ref v1] σ (oI Q) :=
  hM_of (by decide) (Nat.le_of_ble_eq_true rfl) (fun Γ hΓ C => kwX3_spot_0 C hΓ _ _ _ hb)
def wX7_clear_0 (Q : St → Prop) (v0 : Nat) (σ : St) : Prop :=
  zK σ v0 = 8 ∧ Q (uFj (uFi (uFj (uFi σ 449 v0 0) 450 v0 0) 451 v0 1000000000) 452 v0 0)
def wX7_clear (v0 : Nat) (σ : St) (Q : St → Prop) : Prop := wX7_clear_0 Q v0 σ
set_option maxRecDepth 20000 in
theorem kwX7_clear_0 {Γ : hCT} (C : hC Γ RX7 cX7_clear ((Option.none : Option Jvm.ClassFile.FieldType)) "clear" 0 0) {Q : St → Prop} (hΓ : Γ.2.2.2.2.2.2.2.2.2.2.2 = (1, 0, 0, oV Q)) (v0 : Nat) (σ : St) (hb : wX7_clear_0 Q v0 σ) : hW Γ 0 0 0 [(0, .ref v0)] [] σ := by
  unfold wX7_clear_0 at hb
  refine g_aload_n (some v0) C dX7_clear_0 0 rfl ?_
  refine g_iconst (v := 0) C dX7_clear_1 (by decide) ?_
  obtain ⟨q1, hb⟩ := hb
  refine g_putI C fl_RX7_15 dX7_clear_2 q1 rfl rfl rfl rfl ?_
  refine g_aload_n (some v0) C dX7_clear_5 0 rfl ?_
  refine g_lconst (v := 0) C dX7_clear_6 (by decide) ?_
  refine g_putJ C fl_RX7_19 dX7_clear_7 (by rw [zK_uFi]; exact q1) rfl rfl rfl rfl ?_
  refine g_aload_n (some v0) C dX7_clear_10 0 rfl ?_
  refine g_ldc C wd_639 dX7_clear_11 ?_
  refine g_putI C fl_RX7_24 dX7_clear_13 (by rw [zK_uFj, zK_uFi]; exact q1) rfl rfl rfl rfl ?_
  refine g_aload_n (some v0) C dX7_clear_16 0 rfl ?_
  refine g_lconst (v := 0) C dX7_clear_17 (by decide) ?_
  refine g_putJ C fl_RX7_27 dX7_clear_18 (by rw [zK_uFi, zK_uFj, zK_uFi]; exact q1) rfl rfl rfl rfl ?_
  exact g_vreturn C hΓ (Nat.zero_le _) (Nat.zero_le _) dX7_clear_21 ⟨rfl, hb⟩
theorem okX7_clear {v0 : Nat} {σ : St} {Q : St → Prop} (hb : wX7_clear v0 σ Q) : hM yX7_clear cX7_clear 1 ((Option.none : Option Jvm.ClassFile.FieldType)) 0 0 0 0 [.ref v0] σ (oV Q) :=
  hM_of (by decide) (Nat.le_of_ble_eq_true rfl) (fun Γ hΓ C => kwX7_clear_0 C hΓ _ _ hb)
def wX7_addWay_5 (Q : St → Prop) (r5 : Nat → Int64 → Int32 → Int32 → St → Prop) (v0 : Nat) (v1 : Int64) (v3 : Int32) (v4 : Int32) (σ : St) : Prop :=
  zK σ v0 = 8 ∧ (((zFi σ 449 v0) ≤ v4 → (((8208 : Int32) ≤ (zFi (uFi σ 449 v0 v3) 449 v0) → Q (uFi σ 449 v0 v3)) ∧ (¬ (8208 : Int32) ≤ (zFi (uFi σ 449 v0 v3) 449 v0) → ∃ a2 : Nat, zFr σ 448 v0 = some a2 ∧ zK σ a2 = 21 ∧ vp_in (zFi (uFi σ 449 v0 v3) 449 v0) (zL σ a2) ∧ Q (uFi (uAj (uFi σ 449 v0 v3) a2 (ix (zFi (uFi σ 449 v0 v3) 449 v0)) v1) 449 v0 ((zFi (uFi σ 449 v0 v3) 449 v0) + 1))))) ∧ (¬ (zFi σ 449 v0) ≤ v4 → ∃ a6 : Nat, zFr σ 448 v0 = some a6 ∧ zK σ a6 = 21 ∧ vp_in v4 (zL σ a6) ∧ ((¬ ((zAj σ a6 (ix v4)) &&& (v1 ^^^ (-1))) = 0 → (((v1 &&& ((zAj σ a6 (ix v4)) ^^^ (-1))) = 0 → r5 v0 v1 v3 (v4 + 1) σ) ∧ (¬ (v1 &&& ((zAj σ a6 (ix v4)) ^^^ (-1))) = 0 → vp_in v3 (zL σ a6) ∧ r5 v0 v1 (v3 + 1) (v4 + 1) (uAj σ a6 (ix v3) (zAj σ a6 (ix v4)))))) ∧ (((zAj σ a6 (ix v4)) &&& (v1 ^^^ (-1))) = 0 → Q σ))))
def lX7_addWay_5 (Q : St → Prop) : Nat → Nat → Int64 → Int32 → Int32 → St → Prop
  | 0, _, _, _, _, _ => False
  | f + 1, v0, v1, v3, v4, σ => wX7_addWay_5 Q (lX7_addWay_5 Q f) v0 v1 v3 v4 σ
def wX7_addWay_0 (Q : St → Prop) (v0 : Nat) (v1 : Int64) (σ : St) : Prop :=
  ∃ f, lX7_addWay_5 Q f v0 v1 0 0 σ
def wX7_addWay (v0 : Nat) (v1 : Int64) (σ : St) (Q : St → Prop) : Prop := wX7_addWay_0 Q v0 v1 σ
set_option maxRecDepth 20000 in
theorem kwX7_addWay_5 {Γ : hCT} (C : hC Γ RX7 cX7_addWay ((Option.none : Option Jvm.ClassFile.FieldType)) "addWay" 0 0) {Q : St → Prop} (hΓ : Γ.2.2.2.2.2.2.2.2.2.2.2 = (5, 0, 0, oV Q)) {r5 : Nat → Int64 → Int32 → Int32 → St → Prop} (h5 : ∀ (v0 : Nat) (v1 : Int64) (v3 : Int32) (v4 : Int32) (σ : St), r5 v0 v1 v3 v4 σ → hW Γ 0 0 5 [(0, .ref v0), (1, .long v1), (3, .int v3), (4, .int v4)] [] σ) (v0 : Nat) (v1 : Int64) (v3 : Int32) (v4 : Int32) (σ : St) (hb : wX7_addWay_5 Q r5 v0 v1 v3 v4 σ) : hW Γ 0 0 5 [(0, .ref v0), (1, .long v1), (3, .int v3), (4, .int v4)] [] σ := by
  unfold wX7_addWay_5 at hb
  refine g_iload C dX7_addWay_5 3 rfl ?_
  refine g_aload_n (some v0) C dX7_addWay_7 0 rfl ?_
  obtain ⟨q1, hb⟩ := hb
  refine g_getIx (zFi σ 449 v0) C fl_RX7_15 dX7_addWay_8 q1 rfl rfl rfl ?_
  refine g_icmp_ge (tgt := 73) C dX7_addWay_11 (by decide) (fun c => ?_) (fun c => ?_)
  ·
    replace hb := hb.1 (c)
    refine g_aload_n (some v0) C dX7_addWay_73 0 rfl ?_
    refine g_iload_n C dX7_addWay_74 2 rfl ?_
    refine g_putI C fl_RX7_15 dX7_addWay_75 q1 rfl rfl rfl rfl ?_
    refine g_aload_n (some v0) C dX7_addWay_78 0 rfl ?_
    refine g_getIx (zFi (uFi σ 449 v0 v3) 449 v0) C fl_RX7_15 dX7_addWay_79 (by rw [zK_uFi]; exact q1) rfl rfl rfl ?_
    refine g_sipush (v := 8208) C dX7_addWay_82 (by decide) ?_
    refine g_icmp_ge (tgt := 108) C dX7_addWay_85 (by decide) (fun c => ?_) (fun c => ?_)
    ·
      replace hb := hb.1 (c)
      exact g_vreturn C hΓ (Nat.zero_le _) (Nat.zero_le _) dX7_addWay_108 ⟨rfl, hb⟩
    ·
      replace hb := hb.2 (c)
      refine g_aload_n (some v0) C dX7_addWay_88 0 rfl ?_
      obtain ⟨a2, q3, hb⟩ := hb
      refine g_getR (some a2) C fl_RX7_9 dX7_addWay_89 (by rw [zK_uFi]; exact q1) rfl rfl (by rw [zFr_uFi]; exact q3) ?_
      refine g_aload_n (some v0) C dX7_addWay_92 0 rfl ?_
      refine g_getIx (zFi (uFi σ 449 v0 v3) 449 v0) C fl_RX7_15 dX7_addWay_93 (by rw [zK_uFi]; exact q1) rfl rfl rfl ?_
      refine g_lload_n C dX7_addWay_96 1 rfl ?_
      obtain ⟨q4, hb⟩ := hb
      obtain ⟨q5, hb⟩ := hb
      refine g_last C dX7_addWay_97 (by rw [zK_uFi]; exact q4) (by rw [zL_uFi]; exact q5) ?_
      refine g_aload_n (some v0) C dX7_addWay_98 0 rfl ?_
      refine g_dup C dX7_addWay_99 rfl ?_
      refine g_getIx (zFi (uFi σ 449 v0 v3) 449 v0) C fl_RX7_15 dX7_addWay_100 (by rw [zK_uAj, zK_uFi]; exact q1) rfl rfl (by rw [zFi_uAj]) ?_
      refine g_iconst (v := 1) C dX7_addWay_103 (by decide) ?_
      refine g_iadd C dX7_addWay_104 ?_
      refine g_putI C fl_RX7_15 dX7_addWay_105 (by rw [zK_uAj, zK_uFi]; exact q1) rfl rfl rfl rfl ?_
      exact g_vreturn C hΓ (Nat.zero_le _) (Nat.zero_le _) dX7_addWay_108 ⟨rfl, hb⟩
  ·
    replace hb := hb.2 (c)
    refine g_aload_n (some v0) C dX7_addWay_14 0 rfl ?_
    obtain ⟨a6, q7, hb⟩ := hb
    refine g_getR (some a6) C fl_RX7_9 dX7_addWay_15 q1 rfl rfl q7 ?_
    refine g_iload C dX7_addWay_18 3 rfl ?_
    obtain ⟨q8, hb⟩ := hb
    obtain ⟨q9, hb⟩ := hb
    refine g_laldx (zAj σ a6 (ix v4)) C dX7_addWay_20 q8 q9 rfl ?_
    refine g_lload_n C dX7_addWay_21 1 rfl ?_
    refine g_ldc2 C wd_648 dX7_addWay_22 ?_
    refine g_lxor C dX7_addWay_25 ?_
    refine g_land C dX7_addWay_26 ?_
    refine g_lconst (v := 0) C dX7_addWay_27 (by decide) ?_
    refine g_lcmp C dX7_addWay_28 ?_
    refine g_if_ne (tgt := 33) C dX7_addWay_29 (by decide) (fun c => ?_) (fun c => ?_)
    ·
      replace hb := hb.1 (lc_ne.mp c)
      refine g_lload_n C dX7_addWay_33 1 rfl ?_
      refine g_aload_n (some v0) C dX7_addWay_34 0 rfl ?_
      refine g_getR (some a6) C fl_RX7_9 dX7_addWay_35 q1 rfl rfl q7 ?_
      refine g_iload C dX7_addWay_38 3 rfl ?_
      refine g_laldx (zAj σ a6 (ix v4)) C dX7_addWay_40 q8 q9 rfl ?_
      refine g_ldc2 C wd_648 dX7_addWay_41 ?_
      refine g_lxor C dX7_addWay_44 ?_
      refine g_land C dX7_addWay_45 ?_
      refine g_lconst (v := 0) C dX7_addWay_46 (by decide) ?_
      refine g_lcmp C dX7_addWay_47 ?_
      refine g_if_eq (tgt := 67) C dX7_addWay_48 (by decide) (fun c => ?_) (fun c => ?_)
      ·
        replace hb := hb.1 (lc_eq.mp c)
        refine g_iinc (v := v4 + 1) (lv' := [(4, .int (v4 + 1)), (0, .ref v0), (1, .long v1), (3, .int v3)]) C dX7_addWay_67 3 rfl rfl (hnl_of hΓ (by decide)) (by first | rfl | simp [cat_rf]) ?_
        refine g_goto (tgt := 5) C dX7_addWay_70 (by decide) ?_
        refine g_sub (lv' := [(0, .ref v0), (1, .long v1), (3, .int v3), (4, .int (v4 + 1))]) [1, 2, 3, 0] rfl ?_
        exact h5 _ _ _ _ _ hb
      ·
        replace hb := hb.2 (lcn_eq.mp c)
        refine g_aload_n (some v0) C dX7_addWay_51 0 rfl ?_
        refine g_getR (some a6) C fl_RX7_9 dX7_addWay_52 q1 rfl rfl q7 ?_
        refine g_iload_n C dX7_addWay_55 2 rfl ?_
        refine g_aload_n (some v0) C dX7_addWay_56 0 rfl ?_
        refine g_getR (some a6) C fl_RX7_9 dX7_addWay_57 q1 rfl rfl q7 ?_
        refine g_iload C dX7_addWay_60 3 rfl ?_
        refine g_laldx (zAj σ a6 (ix v4)) C dX7_addWay_62 q8 q9 rfl ?_
        obtain ⟨q10, hb⟩ := hb
        refine g_last C dX7_addWay_63 q8 q10 ?_
        refine g_iinc (v := v3 + 1) (lv' := [(3, .int (v3 + 1)), (0, .ref v0), (1, .long v1), (4, .int v4)]) C dX7_addWay_64 2 rfl rfl (hnl_of hΓ (by decide)) (by first | rfl | simp [cat_rf]) ?_
        refine g_iinc (v := v4 + 1) (lv' := [(4, .int (v4 + 1)), (3, .int (v3 + 1)), (0, .ref v0), (1, .long v1)]) C dX7_addWay_67 3 rfl rfl (hnl_of hΓ (by decide)) (by first | rfl | simp [cat_rf]) ?_
        refine g_goto (tgt := 5) C dX7_addWay_70 (by decide) ?_
        refine g_sub (lv' := [(0, .ref v0), (1, .long v1), (3, .int (v3 + 1)), (4, .int (v4 + 1))]) [2, 3, 1, 0] rfl ?_
        exact h5 _ _ _ _ _ hb
    ·
      replace hb := hb.2 (lcn_ne.mp c)
      exact g_vreturn C hΓ (Nat.zero_le _) (Nat.zero_le _) dX7_addWay_32 ⟨rfl, hb⟩
theorem klX7_addWay_5 {Γ : hCT} (C : hC Γ RX7 cX7_addWay ((Option.none : Option Jvm.ClassFile.FieldType)) "addWay" 0 0) {Q : St → Prop} (hΓ : Γ.2.2.2.2.2.2.2.2.2.2.2 = (5, 0, 0, oV Q)) (f : Nat) (v0 : Nat) (v1 : Int64) (v3 : Int32) (v4 : Int32) (σ : St) (hb : lX7_addWay_5 Q f v0 v1 v3 v4 σ) : hW Γ 0 0 5 [(0, .ref v0), (1, .long v1), (3, .int v3), (4, .int v4)] [] σ := by
  induction f generalizing v0 v1 v3 v4 σ with
  | zero => exact hb.elim
  | succ f ih => exact kwX7_addWay_5 C hΓ  (fun v0 v1 v3 v4 σ h => ih v0 v1 v3 v4 σ h) _ _ _ _ _ hb
set_option maxRecDepth 20000 in
theorem kwX7_addWay_0 {Γ : hCT} (C : hC Γ RX7 cX7_addWay ((Option.none : Option Jvm.ClassFile.FieldType)) "addWay" 0 0) {Q : St → Prop} (hΓ : Γ.2.2.2.2.2.2.2.2.2.2.2 = (5, 0, 0, oV Q)) (v0 : Nat) (v1 : Int64) (σ : St) (hb : wX7_addWay_0 Q v0 v1 σ) : hW Γ 0 0 0 [(0, .ref v0), (1, .long v1)] [] σ := by
  unfold wX7_addWay_0 at hb
  refine g_iconst (v := 0) C dX7_addWay_0 (by decide) ?_
  refine g_istore_n (i := 3) (lv' := [(3, .int 0), (0, .ref v0), (1, .long v1)]) C dX7_addWay_1 rfl (hnl_of hΓ (by decide)) (by first | rfl | simp [cat_rf]) ?_
  refine g_iconst (v := 0) C dX7_addWay_2 (by decide) ?_
  refine g_istore (lv' := [(4, .int 0), (3, .int 0), (0, .ref v0), (1, .long v1)]) C dX7_addWay_3 (hnl_of hΓ (by decide)) (by first | rfl | simp [cat_rf]) ?_
  refine g_sub (lv' := [(0, .ref v0), (1, .long v1), (3, .int 0), (4, .int 0)]) [2, 3, 1, 0] rfl ?_
  obtain ⟨f1, hb⟩ := hb
  exact klX7_addWay_5 C hΓ  f1 _ _ _ _ _ hb
theorem okX7_addWay {v0 : Nat} {v1 : Int64} {σ : St} {Q : St → Prop} (hb : wX7_addWay v0 v1 σ Q) : hM yX7_addWay cX7_addWay 5 ((Option.none : Option Jvm.ClassFile.FieldType)) 0 0 0 0 [.ref v0, .long v1] σ (oV Q) :=
  hM_of (by decide) (Nat.le_of_ble_eq_true rfl) (fun Γ hΓ C => kwX7_addWay_0 C hΓ _ _ _ hb)
def wX7_addWays_2 (Q : St → Prop) (r2 : Nat → Nat → Int32 → St → Prop) (v0 : Nat) (v1 : Nat) (v2 : Int32) (σ : St) : Prop :=
  zK σ v1 = 3 ∧ (((zFi σ 130 v1) ≤ v2 → Q σ) ∧ (¬ (zFi σ 130 v1) ≤ v2 → ∃ a2 : Nat, zFr σ 129 v1 = some a2 ∧ zK σ a2 = 21 ∧ vp_in v2 (zL σ a2) ∧ zK σ v0 = 8 ∧ wX7_addWay v0 (zAj σ a2 (ix v2)) σ (fun σ7 => r2 v0 v1 (v2 + 1) σ7)))
def lX7_addWays_2 (Q : St → Prop) : Nat → Nat → Nat → Int32 → St → Prop
  | 0, _, _, _, _ => False
  | f + 1, v0, v1, v2, σ => wX7_addWays_2 Q (lX7_addWays_2 Q f) v0 v1 v2 σ
def wX7_addWays_0 (Q : St → Prop) (v0 : Nat) (v1 : Nat) (σ : St) : Prop :=
  ∃ f, lX7_addWays_2 Q f v0 v1 0 σ
def wX7_addWays (v0 : Nat) (v1 : Nat) (σ : St) (Q : St → Prop) : Prop := wX7_addWays_0 Q v0 v1 σ
set_option maxRecDepth 20000 in
theorem kwX7_addWays_2 {Γ : hCT} (C : hC Γ RX7 cX7_addWays ((Option.none : Option Jvm.ClassFile.FieldType)) "addWays" 1 24) {Q : St → Prop} (hΓ : Γ.2.2.2.2.2.2.2.2.2.2.2 = (3, 0, 0, oV Q)) {r2 : Nat → Nat → Int32 → St → Prop} (h2 : ∀ (v0 : Nat) (v1 : Nat) (v2 : Int32) (σ : St), r2 v0 v1 v2 σ → hW Γ 0 0 2 [(0, .ref v0), (1, .ref v1), (2, .int v2)] [] σ) (v0 : Nat) (v1 : Nat) (v2 : Int32) (σ : St) (hb : wX7_addWays_2 Q r2 v0 v1 v2 σ) : hW Γ 0 0 2 [(0, .ref v0), (1, .ref v1), (2, .int v2)] [] σ := by
  unfold wX7_addWays_2 at hb
  refine g_iload_n C dX7_addWays_2 2 rfl ?_
  refine g_aload_n (some v1) C dX7_addWays_3 1 rfl ?_
  obtain ⟨q1, hb⟩ := hb
  refine g_getIx (zFi σ 130 v1) C fl_RX7_32 dX7_addWays_4 q1 rfl rfl rfl ?_
  refine g_icmp_ge (tgt := 26) C dX7_addWays_7 (by decide) (fun c => ?_) (fun c => ?_)
  ·
    replace hb := hb.1 (c)
    exact g_vreturn C hΓ (Nat.zero_le _) (Nat.zero_le _) dX7_addWays_26 ⟨rfl, hb⟩
  ·
    replace hb := hb.2 (c)
    refine g_aload_n (some v0) C dX7_addWays_10 0 rfl ?_
    refine g_aload_n (some v1) C dX7_addWays_11 1 rfl ?_
    obtain ⟨a2, q3, hb⟩ := hb
    refine g_getR (some a2) C fl_RX7_37 dX7_addWays_12 q1 rfl rfl q3 ?_
    refine g_iload_n C dX7_addWays_15 2 rfl ?_
    obtain ⟨q4, hb⟩ := hb
    obtain ⟨q5, hb⟩ := hb
    refine g_laldx (zAj σ a2 (ix v2)) C dX7_addWays_16 q4 q5 rfl ?_
    obtain ⟨q6, hb⟩ := hb
    refine g_invV (ci := 7) [.long (zAj σ a2 (ix v2))] [] zy_X7_addWay wd_644 wd_645 wd_646 ⟨_, _, rfl⟩ (by decide) C dX7_addWays_17 (by first | exact Nat.le_of_ble_eq_true rfl | simp [cat_rf]) (by first | exact Nat.le_of_ble_eq_true rfl | simp [cat_rf]) (by first | exact Nat.le_of_ble_eq_true rfl | simp [cat_rf]) (Nat.zero_le _) (Nat.zero_le _) rfl rfl q6 (okX7_addWay hb) ?_
    rintro o σ7 ⟨rfl, hb⟩
    refine ⟨_, rfl, ?_⟩
    refine g_iinc (v := v2 + 1) (lv' := [(2, .int (v2 + 1)), (0, .ref v0), (1, .ref v1)]) C dX7_addWays_20 2 rfl rfl (hnl_of hΓ (by decide)) (by first | rfl | simp [cat_rf]) ?_
    refine g_goto (tgt := 2) C dX7_addWays_23 (by decide) ?_
    refine g_sub (lv' := [(0, .ref v0), (1, .ref v1), (2, .int (v2 + 1))]) [1, 2, 0] rfl ?_
    exact h2 _ _ _ _ hb
theorem klX7_addWays_2 {Γ : hCT} (C : hC Γ RX7 cX7_addWays ((Option.none : Option Jvm.ClassFile.FieldType)) "addWays" 1 24) {Q : St → Prop} (hΓ : Γ.2.2.2.2.2.2.2.2.2.2.2 = (3, 0, 0, oV Q)) (f : Nat) (v0 : Nat) (v1 : Nat) (v2 : Int32) (σ : St) (hb : lX7_addWays_2 Q f v0 v1 v2 σ) : hW Γ 0 0 2 [(0, .ref v0), (1, .ref v1), (2, .int v2)] [] σ := by
  induction f generalizing v0 v1 v2 σ with
  | zero => exact hb.elim
  | succ f ih => exact kwX7_addWays_2 C hΓ  (fun v0 v1 v2 σ h => ih v0 v1 v2 σ h) _ _ _ _ hb
set_option maxRecDepth 20000 in
theorem kwX7_addWays_0 {Γ : hCT} (C : hC Γ RX7 cX7_addWays ((Option.none : Option Jvm.ClassFile.FieldType)) "addWays" 1 24) {Q : St → Prop} (hΓ : Γ.2.2.2.2.2.2.2.2.2.2.2 = (3, 0, 0, oV Q)) (v0 : Nat) (v1 : Nat) (σ : St) (hb : wX7_addWays_0 Q v0 v1 σ) : hW Γ 0 0 0 [(0, .ref v0), (1, .ref v1)] [] σ := by
  unfold wX7_addWays_0 at hb
  refine g_iconst (v := 0) C dX7_addWays_0 (by decide) ?_
  refine g_istore_n (i := 2) (lv' := [(2, .int 0), (0, .ref v0), (1, .ref v1)]) C dX7_addWays_1 rfl (hnl_of hΓ (by decide)) (by first | rfl | simp [cat_rf]) ?_
  refine g_sub (lv' := [(0, .ref v0), (1, .ref v1), (2, .int 0)]) [1, 2, 0] rfl ?_
  obtain ⟨f1, hb⟩ := hb
  exact klX7_addWays_2 C hΓ  f1 _ _ _ _ hb
theorem okX7_addWays {v0 : Nat} {v1 : Nat} {σ : St} {Q : St → Prop} (hb : wX7_addWays v0 v1 σ Q) : hM yX7_addWays cX7_addWays 3 ((Option.none : Option Jvm.ClassFile.FieldType)) 1 24 0 0 [.ref v0, .ref v1] σ (oV Q) :=
  hM_of (by decide) (Nat.le_of_ble_eq_true rfl) (fun Γ hΓ C => kwX7_addWays_0 C hΓ _ _ _ hb)
def wX7_addReadings_0 (Q : St → Prop) (v0 : Nat) (v1 : Nat) (σ : St) : Prop :=
  zK σ v0 = 8 ∧ zK σ v1 = 3 ∧ Q (uFj (uFi (uFj σ 450 v0 ((zFj σ 450 v0) + (zFj σ 131 v1))) 451 v0 (if (zFi σ 132 v1) < (zFi σ 451 v0) then (zFi σ 132 v1) else (zFi σ 451 v0))) 452 v0 (if (zFj (uFj σ 450 v0 ((zFj σ 450 v0) + (zFj σ 131 v1))) 133 v1) < (zFj (uFj σ 450 v0 ((zFj σ 450 v0) + (zFj σ 131 v1))) 452 v0) then (zFj (uFj σ 450 v0 ((zFj σ 450 v0) + (zFj σ 131 v1))) 452 v0) else (zFj (uFj σ 450 v0 ((zFj σ 450 v0) + (zFj σ 131 v1))) 133 v1)))
def wX7_addReadings (v0 : Nat) (v1 : Nat) (σ : St) (Q : St → Prop) : Prop := wX7_addReadings_0 Q v0 v1 σ
set_option maxRecDepth 20000 in
theorem kwX7_addReadings_0 {Γ : hCT} (C : hC Γ RX7 cX7_addReadings ((Option.none : Option Jvm.ClassFile.FieldType)) "addReadings" 1 40) {Q : St → Prop} (hΓ : Γ.2.2.2.2.2.2.2.2.2.2.2 = (2, 0, 0, oV Q)) (v0 : Nat) (v1 : Nat) (σ : St) (hb : wX7_addReadings_0 Q v0 v1 σ) : hW Γ 0 0 0 [(0, .ref v0), (1, .ref v1)] [] σ := by
  unfold wX7_addReadings_0 at hb
  refine g_aload_n (some v0) C dX7_addReadings_0 0 rfl ?_
  refine g_dup C dX7_addReadings_1 rfl ?_
  obtain ⟨q1, hb⟩ := hb
  refine g_getJx (zFj σ 450 v0) C fl_RX7_19 dX7_addReadings_2 q1 rfl rfl rfl ?_
  refine g_aload_n (some v1) C dX7_addReadings_5 1 rfl ?_
  obtain ⟨q2, hb⟩ := hb
  refine g_getJx (zFj σ 131 v1) C fl_RX7_42 dX7_addReadings_6 q2 rfl rfl rfl ?_
  refine g_ladd C dX7_addReadings_9 ?_
  refine g_putJ C fl_RX7_19 dX7_addReadings_10 q1 rfl rfl rfl rfl ?_
  refine g_aload_n (some v0) C dX7_addReadings_13 0 rfl ?_
  refine g_aload_n (some v0) C dX7_addReadings_14 0 rfl ?_
  refine g_getIx (zFi σ 451 v0) C fl_RX7_24 dX7_addReadings_15 (by rw [zK_uFj]; exact q1) rfl rfl (by rw [zFi_uFj]) ?_
  refine g_aload_n (some v1) C dX7_addReadings_18 1 rfl ?_
  refine g_getIx (zFi σ 132 v1) C fl_RX7_43 dX7_addReadings_19 (by rw [zK_uFj]; exact q2) rfl rfl (by rw [zFi_uFj]) ?_
  refine g_mmin wd_653 wd_401 wd_87 wd_402 C (by first | exact Nat.le_of_ble_eq_true rfl | simp [cat_rf]) (by first | exact Nat.le_of_ble_eq_true rfl | simp [cat_rf]) (Nat.zero_le _) (Nat.zero_le _) dX7_addReadings_22 ?_
  refine g_putI C fl_RX7_24 dX7_addReadings_25 (by rw [zK_uFj]; exact q1) rfl rfl rfl rfl ?_
  refine g_aload_n (some v0) C dX7_addReadings_28 0 rfl ?_
  refine g_aload_n (some v0) C dX7_addReadings_29 0 rfl ?_
  refine g_getJx (zFj (uFj σ 450 v0 ((zFj σ 450 v0) + (zFj σ 131 v1))) 452 v0) C fl_RX7_27 dX7_addReadings_30 (by rw [zK_uFi, zK_uFj]; exact q1) rfl rfl (by rw [zFj_uFi]) ?_
  refine g_aload_n (some v1) C dX7_addReadings_33 1 rfl ?_
  refine g_getJx (zFj (uFj σ 450 v0 ((zFj σ 450 v0) + (zFj σ 131 v1))) 133 v1) C fl_RX7_50 dX7_addReadings_34 (by rw [zK_uFi, zK_uFj]; exact q2) rfl rfl (by rw [zFj_uFi]) ?_
  refine g_mmaxL wd_654 wd_655 wd_87 wd_656 C (by first | exact Nat.le_of_ble_eq_true rfl | simp [cat_rf]) (by first | exact Nat.le_of_ble_eq_true rfl | simp [cat_rf]) (Nat.zero_le _) (Nat.zero_le _) dX7_addReadings_37 ?_
  refine g_putJ C fl_RX7_27 dX7_addReadings_40 (by rw [zK_uFi, zK_uFj]; exact q1) rfl rfl rfl rfl ?_
  exact g_vreturn C hΓ (Nat.zero_le _) (Nat.zero_le _) dX7_addReadings_43 ⟨rfl, hb⟩
theorem okX7_addReadings {v0 : Nat} {v1 : Nat} {σ : St} {Q : St → Prop} (hb : wX7_addReadings v0 v1 σ Q) : hM yX7_addReadings cX7_addReadings 2 ((Option.none : Option Jvm.ClassFile.FieldType)) 1 40 0 0 [.ref v0, .ref v1] σ (oV Q) :=
  hM_of (by decide) (Nat.le_of_ble_eq_true rfl) (fun Γ hΓ C => kwX7_addReadings_0 C hΓ _ _ _ hb)
def wX7_giveWays_65 (Q : Int32 → St → Prop) (r13 : Nat → Nat → Int32 → St → Prop) (v0 : Nat) (v1 : Nat) (v2 : Int32) (v3 : Int32) (σ : St) : Prop :=
  zK σ v1 = 3 ∧ ∃ a2 : Nat, zFr σ 129 v1 = some a2 ∧ zK σ v0 = 8 ∧ ∃ a5 : Nat, zFr σ 448 v0 = some a5 ∧ zK σ a5 = 21 ∧ vp_in v2 (zL σ a5) ∧ zK σ a2 = 21 ∧ vp_in v3 (zL σ a2) ∧ r13 v0 v1 (v2 + 1) (uAj σ a2 (ix v3) (zAj σ a5 (ix v2)))
def wX7_giveWays_23 (Q : Int32 → St → Prop) (r13 : Nat → Nat → Int32 → St → Prop) (r23 : Nat → Nat → Int32 → Int32 → St → Prop) (v0 : Nat) (v1 : Nat) (v2 : Int32) (v3 : Int32) (σ : St) : Prop :=
  ((v3 ≤ 0 → wX7_giveWays_65 Q r13 v0 v1 v2 v3 σ) ∧ (¬ v3 ≤ 0 → zK σ v1 = 3 ∧ ∃ a2 : Nat, zFr σ 129 v1 = some a2 ∧ zK σ a2 = 21 ∧ vp_in (v3 - 1) (zL σ a2) ∧ zK σ v0 = 8 ∧ ∃ a7 : Nat, zFr σ 448 v0 = some a7 ∧ zK σ a7 = 21 ∧ vp_in v2 (zL σ a7) ∧ (((zAj σ a2 (ix (v3 - 1))) ≤ (zAj σ a7 (ix v2)) → wX7_giveWays_65 Q r13 v0 v1 v2 v3 σ) ∧ (¬ (zAj σ a2 (ix (v3 - 1))) ≤ (zAj σ a7 (ix v2)) → vp_in v3 (zL σ a2) ∧ r23 v0 v1 v2 (v3 + (-1)) (uAj σ a2 (ix v3) (zAj σ a2 (ix (v3 - 1))))))))
def lX7_giveWays_23 (Q : Int32 → St → Prop) (r13 : Nat → Nat → Int32 → St → Prop) : Nat → Nat → Nat → Int32 → Int32 → St → Prop
  | 0, _, _, _, _, _ => False
  | f + 1, v0, v1, v2, v3, σ => wX7_giveWays_23 Q r13 (lX7_giveWays_23 Q r13 f) v0 v1 v2 v3 σ
def wX7_giveWays_13 (Q : Int32 → St → Prop) (r13 : Nat → Nat → Int32 → St → Prop) (v0 : Nat) (v1 : Nat) (v2 : Int32) (σ : St) : Prop :=
  zK σ v0 = 8 ∧ (((zFi σ 449 v0) ≤ v2 → zK σ v1 = 3 ∧ Q 1 (uFi σ 130 v1 (zFi σ 449 v0))) ∧ (¬ (zFi σ 449 v0) ≤ v2 → ∃ f, lX7_giveWays_23 Q r13 f v0 v1 v2 v2 σ))
def lX7_giveWays_13 (Q : Int32 → St → Prop) : Nat → Nat → Nat → Int32 → St → Prop
  | 0, _, _, _, _ => False
  | f + 1, v0, v1, v2, σ => wX7_giveWays_13 Q (lX7_giveWays_13 Q f) v0 v1 v2 σ
def wX7_giveWays_0 (Q : Int32 → St → Prop) (v0 : Nat) (v1 : Nat) (σ : St) : Prop :=
  zK σ v0 = 8 ∧ (((zFi σ 449 v0) ≤ (16 : Int32) → ∃ f, lX7_giveWays_13 Q f v0 v1 0 σ) ∧ (¬ (zFi σ 449 v0) ≤ (16 : Int32) → Q 0 σ))
def wX7_giveWays (v0 : Nat) (v1 : Nat) (σ : St) (Q : Int32 → St → Prop) : Prop := wX7_giveWays_0 Q v0 v1 σ
set_option maxRecDepth 20000 in
theorem kwX7_giveWays_65 {Γ : hCT} (C : hC Γ RX7 cX7_giveWays ((Option.some FieldType.boolean)) "giveWays" 0 0) {Q : Int32 → St → Prop} (hΓ : Γ.2.2.2.2.2.2.2.2.2.2.2 = (4, 0, 0, oI Q)) {r13 : Nat → Nat → Int32 → St → Prop} (h13 : ∀ (v0 : Nat) (v1 : Nat) (v2 : Int32) (σ : St), r13 v0 v1 v2 σ → hW Γ 0 0 13 [(0, .ref v0), (1, .ref v1), (2, .int v2)] [] σ) (v0 : Nat) (v1 : Nat) (v2 : Int32) (v3 : Int32) (σ : St) (hb : wX7_giveWays_65 Q r13 v0 v1 v2 v3 σ) : hW Γ 0 0 65 [(0, .ref v0), (1, .ref v1), (2, .int v2), (3, .int v3)] [] σ := by
  unfold wX7_giveWays_65 at hb
  refine g_aload_n (some v1) C dX7_giveWays_65 1 rfl ?_
  obtain ⟨q1, hb⟩ := hb
  obtain ⟨a2, q3, hb⟩ := hb
  refine g_getR (some a2) C fl_RX7_37 dX7_giveWays_66 q1 rfl rfl q3 ?_
  refine g_iload_n C dX7_giveWays_69 3 rfl ?_
  refine g_aload_n (some v0) C dX7_giveWays_70 0 rfl ?_
  obtain ⟨q4, hb⟩ := hb
  obtain ⟨a5, q6, hb⟩ := hb
  refine g_getR (some a5) C fl_RX7_9 dX7_giveWays_71 q4 rfl rfl q6 ?_
  refine g_iload_n C dX7_giveWays_74 2 rfl ?_
  obtain ⟨q7, hb⟩ := hb
  obtain ⟨q8, hb⟩ := hb
  refine g_laldx (zAj σ a5 (ix v2)) C dX7_giveWays_75 q7 q8 rfl ?_
  obtain ⟨q9, hb⟩ := hb
  obtain ⟨q10, hb⟩ := hb
  refine g_last C dX7_giveWays_76 q9 q10 ?_
  refine g_iinc (v := v2 + 1) (lv' := [(2, .int (v2 + 1)), (0, .ref v0), (1, .ref v1), (3, .int v3)]) C dX7_giveWays_77 2 rfl rfl (hnl_of hΓ (by decide)) (by first | rfl | simp [cat_rf]) ?_
  refine g_goto (tgt := 13) C dX7_giveWays_80 (by decide) ?_
  refine g_sub (lv' := [(0, .ref v0), (1, .ref v1), (2, .int (v2 + 1))]) [1, 2, 0] rfl ?_
  exact h13 _ _ _ _ hb
set_option maxRecDepth 20000 in
theorem kwX7_giveWays_23 {Γ : hCT} (C : hC Γ RX7 cX7_giveWays ((Option.some FieldType.boolean)) "giveWays" 0 0) {Q : Int32 → St → Prop} (hΓ : Γ.2.2.2.2.2.2.2.2.2.2.2 = (4, 0, 0, oI Q)) {r13 : Nat → Nat → Int32 → St → Prop} (h13 : ∀ (v0 : Nat) (v1 : Nat) (v2 : Int32) (σ : St), r13 v0 v1 v2 σ → hW Γ 0 0 13 [(0, .ref v0), (1, .ref v1), (2, .int v2)] [] σ) {r23 : Nat → Nat → Int32 → Int32 → St → Prop} (h23 : ∀ (v0 : Nat) (v1 : Nat) (v2 : Int32) (v3 : Int32) (σ : St), r23 v0 v1 v2 v3 σ → hW Γ 0 0 23 [(0, .ref v0), (1, .ref v1), (2, .int v2), (3, .int v3)] [] σ) (v0 : Nat) (v1 : Nat) (v2 : Int32) (v3 : Int32) (σ : St) (hb : wX7_giveWays_23 Q r13 r23 v0 v1 v2 v3 σ) : hW Γ 0 0 23 [(0, .ref v0), (1, .ref v1), (2, .int v2), (3, .int v3)] [] σ := by
  unfold wX7_giveWays_23 at hb
  refine g_iload_n C dX7_giveWays_23 3 rfl ?_
  refine g_if_le (tgt := 65) C dX7_giveWays_24 (by decide) (fun c => ?_) (fun c => ?_)
  ·
    replace hb := hb.1 (c)
    refine g_sub (lv' := [(0, .ref v0), (1, .ref v1), (2, .int v2), (3, .int v3)]) [0, 1, 2, 3] rfl ?_
    exact kwX7_giveWays_65 C hΓ h13 _ _ _ _ _ hb
  ·
    replace hb := hb.2 (c)
    refine g_aload_n (some v1) C dX7_giveWays_27 1 rfl ?_
    obtain ⟨q1, hb⟩ := hb
    obtain ⟨a2, q3, hb⟩ := hb
    refine g_getR (some a2) C fl_RX7_37 dX7_giveWays_28 q1 rfl rfl q3 ?_
    refine g_iload_n C dX7_giveWays_31 3 rfl ?_
    refine g_iconst (v := 1) C dX7_giveWays_32 (by decide) ?_
    refine g_isub C dX7_giveWays_33 ?_
    obtain ⟨q4, hb⟩ := hb
    obtain ⟨q5, hb⟩ := hb
    refine g_laldx (zAj σ a2 (ix (v3 - 1))) C dX7_giveWays_34 q4 q5 rfl ?_
    refine g_aload_n (some v0) C dX7_giveWays_35 0 rfl ?_
    obtain ⟨q6, hb⟩ := hb
    obtain ⟨a7, q8, hb⟩ := hb
    refine g_getR (some a7) C fl_RX7_9 dX7_giveWays_36 q6 rfl rfl q8 ?_
    refine g_iload_n C dX7_giveWays_39 2 rfl ?_
    obtain ⟨q9, hb⟩ := hb
    obtain ⟨q10, hb⟩ := hb
    refine g_laldx (zAj σ a7 (ix v2)) C dX7_giveWays_40 q9 q10 rfl ?_
    refine g_lcmp C dX7_giveWays_41 ?_
    refine g_if_le (tgt := 65) C dX7_giveWays_42 (by decide) (fun c => ?_) (fun c => ?_)
    ·
      replace hb := hb.1 (lc_le.mp c)
      refine g_sub (lv' := [(0, .ref v0), (1, .ref v1), (2, .int v2), (3, .int v3)]) [0, 1, 2, 3] rfl ?_
      exact kwX7_giveWays_65 C hΓ h13 _ _ _ _ _ hb
    ·
      replace hb := hb.2 (lcn_le.mp c)
      refine g_aload_n (some v1) C dX7_giveWays_45 1 rfl ?_
      refine g_getR (some a2) C fl_RX7_37 dX7_giveWays_46 q1 rfl rfl q3 ?_
      refine g_iload_n C dX7_giveWays_49 3 rfl ?_
      refine g_aload_n (some v1) C dX7_giveWays_50 1 rfl ?_
      refine g_getR (some a2) C fl_RX7_37 dX7_giveWays_51 q1 rfl rfl q3 ?_
      refine g_iload_n C dX7_giveWays_54 3 rfl ?_
      refine g_iconst (v := 1) C dX7_giveWays_55 (by decide) ?_
      refine g_isub C dX7_giveWays_56 ?_
      refine g_laldx (zAj σ a2 (ix (v3 - 1))) C dX7_giveWays_57 q4 q5 rfl ?_
      obtain ⟨q11, hb⟩ := hb
      refine g_last C dX7_giveWays_58 q4 q11 ?_
      refine g_iinc (v := v3 + (-1)) (lv' := [(3, .int (v3 + (-1))), (0, .ref v0), (1, .ref v1), (2, .int v2)]) C dX7_giveWays_59 3 rfl rfl (hnl_of hΓ (by decide)) (by first | rfl | simp [cat_rf]) ?_
      refine g_goto (tgt := 23) C dX7_giveWays_62 (by decide) ?_
      refine g_sub (lv' := [(0, .ref v0), (1, .ref v1), (2, .int v2), (3, .int (v3 + (-1)))]) [1, 2, 3, 0] rfl ?_
      exact h23 _ _ _ _ _ hb
theorem klX7_giveWays_23 {Γ : hCT} (C : hC Γ RX7 cX7_giveWays ((Option.some FieldType.boolean)) "giveWays" 0 0) {Q : Int32 → St → Prop} (hΓ : Γ.2.2.2.2.2.2.2.2.2.2.2 = (4, 0, 0, oI Q)) {r13 : Nat → Nat → Int32 → St → Prop} (h13 : ∀ (v0 : Nat) (v1 : Nat) (v2 : Int32) (σ : St), r13 v0 v1 v2 σ → hW Γ 0 0 13 [(0, .ref v0), (1, .ref v1), (2, .int v2)] [] σ) (f : Nat) (v0 : Nat) (v1 : Nat) (v2 : Int32) (v3 : Int32) (σ : St) (hb : lX7_giveWays_23 Q r13 f v0 v1 v2 v3 σ) : hW Γ 0 0 23 [(0, .ref v0), (1, .ref v1), (2, .int v2), (3, .int v3)] [] σ := by
  induction f generalizing v0 v1 v2 v3 σ with
  | zero => exact hb.elim
  | succ f ih => exact kwX7_giveWays_23 C hΓ h13 (fun v0 v1 v2 v3 σ h => ih v0 v1 v2 v3 σ h) _ _ _ _ _ hb
set_option maxRecDepth 20000 in
theorem kwX7_giveWays_13 {Γ : hCT} (C : hC Γ RX7 cX7_giveWays ((Option.some FieldType.boolean)) "giveWays" 0 0) {Q : Int32 → St → Prop} (hΓ : Γ.2.2.2.2.2.2.2.2.2.2.2 = (4, 0, 0, oI Q)) {r13 : Nat → Nat → Int32 → St → Prop} (h13 : ∀ (v0 : Nat) (v1 : Nat) (v2 : Int32) (σ : St), r13 v0 v1 v2 σ → hW Γ 0 0 13 [(0, .ref v0), (1, .ref v1), (2, .int v2)] [] σ) (v0 : Nat) (v1 : Nat) (v2 : Int32) (σ : St) (hb : wX7_giveWays_13 Q r13 v0 v1 v2 σ) : hW Γ 0 0 13 [(0, .ref v0), (1, .ref v1), (2, .int v2)] [] σ := by
  unfold wX7_giveWays_13 at hb
  refine g_iload_n C dX7_giveWays_13 2 rfl ?_
  refine g_aload_n (some v0) C dX7_giveWays_14 0 rfl ?_
  obtain ⟨q1, hb⟩ := hb
  refine g_getIx (zFi σ 449 v0) C fl_RX7_15 dX7_giveWays_15 q1 rfl rfl rfl ?_
  refine g_icmp_ge (tgt := 83) C dX7_giveWays_18 (by decide) (fun c => ?_) (fun c => ?_)
  ·
    replace hb := hb.1 (c)
    refine g_aload_n (some v1) C dX7_giveWays_83 1 rfl ?_
    refine g_aload_n (some v0) C dX7_giveWays_84 0 rfl ?_
    refine g_getIx (zFi σ 449 v0) C fl_RX7_15 dX7_giveWays_85 q1 rfl rfl rfl ?_
    obtain ⟨q2, hb⟩ := hb
    refine g_putI C fl_RX7_32 dX7_giveWays_88 q2 rfl rfl rfl rfl ?_
    refine g_iconst (v := 1) C dX7_giveWays_91 (by decide) ?_
    exact g_zreturn C (by decide) hΓ (Nat.zero_le _) (Nat.zero_le _) dX7_giveWays_92 ⟨_, rfl, hb⟩
  ·
    replace hb := hb.2 (c)
    refine g_iload_n C dX7_giveWays_21 2 rfl ?_
    refine g_istore_n (i := 3) (lv' := [(3, .int v2), (0, .ref v0), (1, .ref v1), (2, .int v2)]) C dX7_giveWays_22 rfl (hnl_of hΓ (by decide)) (by first | rfl | simp [cat_rf]) ?_
    refine g_sub (lv' := [(0, .ref v0), (1, .ref v1), (2, .int v2), (3, .int v2)]) [1, 2, 3, 0] rfl ?_
    obtain ⟨f3, hb⟩ := hb
    exact klX7_giveWays_23 C hΓ h13 f3 _ _ _ _ _ hb
theorem klX7_giveWays_13 {Γ : hCT} (C : hC Γ RX7 cX7_giveWays ((Option.some FieldType.boolean)) "giveWays" 0 0) {Q : Int32 → St → Prop} (hΓ : Γ.2.2.2.2.2.2.2.2.2.2.2 = (4, 0, 0, oI Q)) (f : Nat) (v0 : Nat) (v1 : Nat) (v2 : Int32) (σ : St) (hb : lX7_giveWays_13 Q f v0 v1 v2 σ) : hW Γ 0 0 13 [(0, .ref v0), (1, .ref v1), (2, .int v2)] [] σ := by
  induction f generalizing v0 v1 v2 σ with
  | zero => exact hb.elim
  | succ f ih => exact kwX7_giveWays_13 C hΓ  (fun v0 v1 v2 σ h => ih v0 v1 v2 σ h) _ _ _ _ hb
set_option maxRecDepth 20000 in
theorem kwX7_giveWays_0 {Γ : hCT} (C : hC Γ RX7 cX7_giveWays ((Option.some FieldType.boolean)) "giveWays" 0 0) {Q : Int32 → St → Prop} (hΓ : Γ.2.2.2.2.2.2.2.2.2.2.2 = (4, 0, 0, oI Q)) (v0 : Nat) (v1 : Nat) (σ : St) (hb : wX7_giveWays_0 Q v0 v1 σ) : hW Γ 0 0 0 [(0, .ref v0), (1, .ref v1)] [] σ := by
  unfold wX7_giveWays_0 at hb
  refine g_aload_n (some v0) C dX7_giveWays_0 0 rfl ?_
  obtain ⟨q1, hb⟩ := hb
  refine g_getIx (zFi σ 449 v0) C fl_RX7_15 dX7_giveWays_1 q1 rfl rfl rfl ?_
  refine g_bipush (v := 16) C dX7_giveWays_4 (by decide) ?_
  refine g_icmp_le (tgt := 11) C dX7_giveWays_6 (by decide) (fun c => ?_) (fun c => ?_)
  ·
    replace hb := hb.1 (c)
    refine g_iconst (v := 0) C dX7_giveWays_11 (by decide) ?_
    refine g_istore_n (i := 2) (lv' := [(2, .int 0), (0, .ref v0), (1, .ref v1)]) C dX7_giveWays_12 rfl (hnl_of hΓ (by decide)) (by first | rfl | simp [cat_rf]) ?_
    refine g_sub (lv' := [(0, .ref v0), (1, .ref v1), (2, .int 0)]) [1, 2, 0] rfl ?_
    obtain ⟨f2, hb⟩ := hb
    exact klX7_giveWays_13 C hΓ  f2 _ _ _ _ hb
  ·
    replace hb := hb.2 (c)
    refine g_iconst (v := 0) C dX7_giveWays_9 (by decide) ?_
    exact g_zreturn C (by decide) hΓ (Nat.zero_le _) (Nat.zero_le _) dX7_giveWays_10 ⟨_, rfl, hb⟩
theorem okX7_giveWays {v0 : Nat} {v1 : Nat} {σ : St} {Q : Int32 → St → Prop} (hb : wX7_giveWays v0 v1 σ Q) : hM yX7_giveWays cX7_giveWays 4 ((Option.some FieldType.boolean)) 0 0 0 0 [.ref v0, .ref v1] σ (oI Q) :=
  hM_of (by decide) (Nat.le_of_ble_eq_true rfl) (fun Γ hΓ C => kwX7_giveWays_0 C hΓ _ _ _ hb)
def wX7_giveAll_0 (Q : Int32 → St → Prop) (v0 : Nat) (v1 : Nat) (σ : St) : Prop :=
  zK σ v0 = 8 ∧ zK σ v1 = 3 ∧ wX7_giveWays v0 v1 (uFj (uFi (uFj σ 131 v1 (zFj σ 450 v0)) 132 v1 (zFi σ 451 v0)) 133 v1 (zFj (uFj σ 131 v1 (zFj σ 450 v0)) 452 v0)) (fun y4 σ3 => (y4 = 0 ∨ y4 = 1) ∧ Q y4 σ3)
def wX7_giveAll (v0 : Nat) (v1 : Nat) (σ : St) (Q : Int32 → St → Prop) : Prop := wX7_giveAll_0 Q v0 v1 σ
set_option maxRecDepth 20000 in
theorem kwX7_giveAll_0 {Γ : hCT} (C : hC Γ RX7 cX7_giveAll ((Option.some FieldType.boolean)) "giveAll" 1 23) {Q : Int32 → St → Prop} (hΓ : Γ.2.2.2.2.2.2.2.2.2.2.2 = (2, 0, 0, oI Q)) (v0 : Nat) (v1 : Nat) (σ : St) (hb : wX7_giveAll_0 Q v0 v1 σ) : hW Γ 0 0 0 [(0, .ref v0), (1, .ref v1)] [] σ := by
  unfold wX7_giveAll_0 at hb
  refine g_aload_n (some v1) C dX7_giveAll_0 1 rfl ?_
  refine g_aload_n (some v0) C dX7_giveAll_1 0 rfl ?_
  obtain ⟨q1, hb⟩ := hb
  refine g_getJx (zFj σ 450 v0) C fl_RX7_19 dX7_giveAll_2 q1 rfl rfl rfl ?_
  obtain ⟨q2, hb⟩ := hb
  refine g_putJ C fl_RX7_42 dX7_giveAll_5 q2 rfl rfl rfl rfl ?_
  refine g_aload_n (some v1) C dX7_giveAll_8 1 rfl ?_
  refine g_aload_n (some v0) C dX7_giveAll_9 0 rfl ?_
  refine g_getIx (zFi σ 451 v0) C fl_RX7_24 dX7_giveAll_10 (by rw [zK_uFj]; exact q1) rfl rfl (by rw [zFi_uFj]) ?_
  refine g_putI C fl_RX7_43 dX7_giveAll_13 (by rw [zK_uFj]; exact q2) rfl rfl rfl rfl ?_
  refine g_aload_n (some v1) C dX7_giveAll_16 1 rfl ?_
  refine g_aload_n (some v0) C dX7_giveAll_17 0 rfl ?_
  refine g_getJx (zFj (uFj σ 131 v1 (zFj σ 450 v0)) 452 v0) C fl_RX7_27 dX7_giveAll_18 (by rw [zK_uFi, zK_uFj]; exact q1) rfl rfl (by rw [zFj_uFi]) ?_
  refine g_putJ C fl_RX7_50 dX7_giveAll_21 (by rw [zK_uFi, zK_uFj]; exact q2) rfl rfl rfl rfl ?_
  refine g_aload_n (some v0) C dX7_giveAll_24 0 rfl ?_
  refine g_aload_n (some v1) C dX7_giveAll_25 1 rfl ?_
  refine g_invV (ci := 7) [.ref v1] [] zy_X7_giveWays wd_661 wd_662 wd_663 ⟨_, _, rfl⟩ (by decide) C dX7_giveAll_26 (by first | exact Nat.le_of_ble_eq_true rfl | simp [cat_rf]) (by first | exact Nat.le_of_ble_eq_true rfl | simp [cat_rf]) (by first | exact Nat.le_of_ble_eq_true rfl | simp [cat_rf]) (Nat.zero_le _) (Nat.zero_le _) rfl rfl (by rw [zK_uFj, zK_uFi, zK_uFj]; exact q1) (okX7_giveWays hb) ?_
  rintro o σ3 ⟨y4, rfl, hb⟩
  refine ⟨_, rfl, ?_⟩
  obtain ⟨q5, hb⟩ := hb
  exact g_zreturn C (nz_n q5) hΓ (Nat.zero_le _) (Nat.zero_le _) dX7_giveAll_29 ⟨_, rfl, hb⟩
theorem okX7_giveAll {v0 : Nat} {v1 : Nat} {σ : St} {Q : Int32 → St → Prop} (hb : wX7_giveAll v0 v1 σ Q) : hM yX7_giveAll cX7_giveAll 2 ((Option.some FieldType.boolean)) 1 23 0 0 [.ref v0, .ref v1] σ (oI Q) :=
  hM_of (by decide) (Nat.le_of_ble_eq_true rfl) (fun Γ hΓ C => kwX7_giveAll_0 C hΓ _ _ _ hb)
