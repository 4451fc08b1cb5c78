/-! what the printed predicates and their proofs use -/
def oI (Q : Int32 → St → Prop) : Outcome → St → Prop := fun o σ => ∃ r : Int32, o = .returned (some (.int r)) ∧ Q r σ
def oJ (Q : Int64 → St → Prop) : Outcome → St → Prop := fun o σ => ∃ r : Int64, o = .returned (some (.long r)) ∧ Q r σ
def oD (Q : UInt64 → St → Prop) : Outcome → St → Prop := fun o σ => ∃ r : UInt64, o = .returned (some (.double r)) ∧ Q r σ
def oA (Q : Nat → St → Prop) : Outcome → St → Prop := fun o σ => ∃ r : Nat, o = .returned (some (.ref r)) ∧ Q r σ
def oO (Q : Option Nat → St → Prop) : Outcome → St → Prop := fun o σ => ∃ r : Option Nat, o = .returned (some (va_rf r)) ∧ Q r σ
def oV (Q : St → Prop) : Outcome → St → Prop := fun o σ => o = .returned none ∧ Q σ
def oT (P : Outcome → St → Prop) (E : St → Prop) : Outcome → St → Prop := fun o σ => P o σ ∨ ∃ x, o = .threw x ∧ zK σ x = 14 ∧ E σ
theorem hnl_of {Γ : hCT} {nL mc ms i : Nat} {Q : Outcome → St → Prop} (hΓ : Γ.2.2.2.2.2.2.2.2.2.2.2 = (nL, mc, ms, Q)) (h : i < nL) : i < Γ.2.2.2.2.2.2.2.2.2.2.2.1 := by rw [hΓ]; exact h
theorem hmc_of {Γ : hCT} {nL mc ms : Nat} {Q : Outcome → St → Prop} (hΓ : Γ.2.2.2.2.2.2.2.2.2.2.2 = (nL, mc, ms, Q)) : hMc Γ = mc := by show Γ.2.2.2.2.2.2.2.2.2.2.2.2.1 = mc; rw [hΓ]
theorem hms_of {Γ : hCT} {nL mc ms : Nat} {Q : Outcome → St → Prop} (hΓ : Γ.2.2.2.2.2.2.2.2.2.2.2 = (nL, mc, ms, Q)) : hMs Γ = ms := by show Γ.2.2.2.2.2.2.2.2.2.2.2.2.2.1 = ms; rw [hΓ]
theorem lc_eq {x y : Int64} : lg_cmp x y = 0 ↔ x = y := lg_cmp_eq x y
theorem lcn_eq {x y : Int64} : ¬ lg_cmp x y = 0 ↔ ¬ x = y := not_congr (lg_cmp_eq x y)
theorem lc_ne {x y : Int64} : ¬ lg_cmp x y = 0 ↔ ¬ x = y := not_congr (lg_cmp_eq x y)
theorem lcn_ne {x y : Int64} : lg_cmp x y = 0 ↔ x = y := lg_cmp_eq x y
theorem lc_lt {x y : Int64} : lg_cmp x y < 0 ↔ x < y := lg_cmp_lt x y
theorem lcn_lt {x y : Int64} : ¬ lg_cmp x y < 0 ↔ ¬ x < y := not_congr (lg_cmp_lt x y)
theorem lc_ge {x y : Int64} : 0 ≤ lg_cmp x y ↔ y ≤ x := lg_cmp_ge x y
theorem lcn_ge {x y : Int64} : ¬ 0 ≤ lg_cmp x y ↔ ¬ y ≤ x := not_congr (lg_cmp_ge x y)
theorem lc_gt {x y : Int64} : 0 < lg_cmp x y ↔ y < x := lg_cmp_gt x y
theorem lcn_gt {x y : Int64} : ¬ 0 < lg_cmp x y ↔ ¬ y < x := not_congr (lg_cmp_gt x y)
theorem lc_le {x y : Int64} : lg_cmp x y ≤ 0 ↔ x ≤ y := lg_cmp_le x y
theorem lcn_le {x y : Int64} : ¬ lg_cmp x y ≤ 0 ↔ ¬ x ≤ y := not_congr (lg_cmp_le x y)
theorem i32_ne {x y : Int32} (h : ¬ x = y) : x.toInt ≠ y.toInt := fun e => h (Int32.toInt_inj.mp e)
theorem nz_n {x : Int32} (h : x = 0 ∨ x = 1) : narrow .boolean (.int x) = .int x := by rcases h with rfl | rfl <;> decide
theorem nz_f {x : Int32} (h : x = 0 ∨ x = 1) : fits .boolean (.int x) = true := by rcases h with rfl | rfl <;> decide
theorem rf_some {x : Option Nat} (h : ¬ x = none) : ∃ a, x = some a := by cases x with
  | none => exact absurd rfl h
  | some a => exact ⟨a, rfl⟩
theorem cat_rf (x : Option Nat) : (va_rf x).category = 1 := by cases x <;> rfl
def mwL : Nat → Int64 := fun k => match k with
  | 0 => 9
  | 1 => 1000
  | 2 => 4607182418800017408
  | _ => 8
def fwL : Nat → Int64 := fun k => match k with
  | 0 => 1
  | 1 => 1
  | 2 => 4607182418800017408
  | _ => 4
theorem mwL_v (k : Nat) : mwV k = .long (mwL k) := match k with
  | 0 => rfl
  | 1 => rfl
  | 2 => rfl
  | _ + 3 => rfl
theorem fwL_v (k : Nat) : fwV k = .long (fwL k) := match k with
  | 0 => rfl
  | 1 => rfl
  | 2 => rfl
  | _ + 3 => rfl
abbrev hTF (Γ : hCT) : Nat := Γ.2.2.2.2.2.2.2.2.2.2.1.tF
abbrev hTM (Γ : hCT) : Nat := Γ.2.2.2.2.2.2.2.2.2.2.1.tM
section R10
variable {Γ : hCT} {own : String} {cc : ByteArray} {ret : Option FieldType} {nm : String} {fr lo k n pc : Nat} {lv : List (Nat × Value)} {st : List Value} {σ : St}
theorem g_getsFN {idx : Nat} {host : String} (C : hC Γ own cc ret nm fr lo) (w : Cond.fieldLinkNest own idx "WhereFrom" "FIRST_WEIGHT" "[J" host ∈ tbN) (d : decode cc pc = .ok (.getstatic idx, 3)) (kk : hW Γ k n (pc + 3) lv (.ref (hTF Γ) :: st) σ) : hW Γ k n pc lv st σ := by
  obtain ⟨p, l, e, R, s, m, args, below, meth, c, G, nL, mc, ms, Q⟩ := Γ
  intro H locs ls hr hs hl
  have hX := C.2.2.2.2.1
  exact va_getsN C.1 C.2.1 hX.2.2.2.2.1.1 hs C.2.2.2.1 (va_Nw.use rfl (hX.2.1 _ w)) (fun _ h => h) d (kk H locs ls hr hs hl)
theorem g_getsM {idx : Nat} (C : hC Γ own cc ret nm fr lo) (w : Cond.fieldLink own idx "WhereFrom" "MOST_WEIGHT" "[J" ∈ tbG) (d : decode cc pc = .ok (.getstatic idx, 3)) (kk : hW Γ k n (pc + 3) lv (.ref (hTM Γ) :: st) σ) : hW Γ k n pc lv st σ := by
  obtain ⟨p, l, e, R, s, m, args, below, meth, c, G, nL, mc, ms, Q⟩ := Γ
  intro H locs ls hr hs hl
  have hX := C.2.2.2.2.1
  exact va_gets C.1 C.2.1 hX.2.2.2.2.2.1.1 hs C.2.2.2.1 (tb_word hX w args) (fun _ h => h) d (kk H locs ls hr hs hl)
theorem g_getsZ {idx : Nat} (C : hC Γ own cc ret nm fr lo) (w : Cond.fieldLink own idx "java/lang/Math" "negativeZeroDoubleBits" "J" ∈ tbG) (d : decode cc pc = .ok (.getstatic idx, 3)) (kk : hW Γ k n (pc + 3) lv (.long (-9223372036854775808) :: st) σ) : hW Γ k n pc lv st σ := by
  obtain ⟨p, l, e, R, s, m, args, below, meth, c, G, nL, mc, ms, Q⟩ := Γ
  intro H locs ls hr hs hl
  have hX := C.2.2.2.2.1
  exact va_gets C.1 C.2.1 hX.2.2.2.2.2.2.1 hs C.2.2.2.1 (tb_word hX w args) (fun _ h => h) d (kk H locs ls hr hs hl)
theorem g_xld {i : Int32} (C : hC Γ own cc ret nm fr lo) (d : decode cc pc = .ok (.laload, 1)) (hi : vp_in i 4) (kk : hW Γ k n (pc + 1) lv (.long (mwL (ix i)) :: st) σ) : hW Γ k n pc lv (.int i :: .ref (hTM Γ) :: st) σ := by
  obtain ⟨p, l, e, R, s, m, args, below, meth, c, G, nL, mc, ms, Q⟩ := Γ
  intro H locs ls hr hs hl
  have hX := C.2.2.2.2.1
  exact va_tl C.1 C.2.1 hX.2.2.2.2.2.1.2 hs hi (mwL_v _) d (kk H locs ls hr hs hl)
end R10
theorem zc_0 : zC 0 := ⟨by decide, _, _, _, _, rfl, rfl, cw_0, tyX0_ok, nmX0⟩
theorem zd_0 : zDf 0 5 := fun ty h => by cases h; decide
theorem zc_1 : zC 1 := ⟨by decide, _, _, _, _, rfl, rfl, cw_1, tyX1_ok, nmX1⟩
theorem zd_1 : zDf 1 3 := fun ty h => by cases h; decide
theorem zc_2 : zC 2 := ⟨by decide, _, _, _, _, rfl, rfl, cw_2, tyX2_ok, nmX2⟩
theorem zd_2 : zDf 2 6 := fun ty h => by cases h; decide
theorem zc_3 : zC 3 := ⟨by decide, _, _, _, _, rfl, rfl, cw_3, tyX3_ok, nmX3⟩
theorem zd_3 : zDf 3 3 := fun ty h => by cases h; decide
theorem zc_4 : zC 4 := ⟨by decide, _, _, _, _, rfl, rfl, cw_4, tyX4_ok, nmX4⟩
theorem zd_4 : zDf 4 8 := fun ty h => by cases h; decide
theorem zc_5 : zC 5 := ⟨by decide, _, _, _, _, rfl, rfl, cw_5, tyX5_ok, nmX5⟩
theorem zd_5 : zDf 5 4 := fun ty h => by cases h; decide
theorem zc_6 : zC 6 := ⟨by decide, _, _, _, _, rfl, rfl, cw_6, tyX6_ok, nmX6⟩
theorem zd_6 : zDf 6 7 := fun ty h => by cases h; decide
theorem zc_7 : zC 7 := ⟨by decide, _, _, _, _, rfl, rfl, cw_7, tyX7_ok, nmX7⟩
theorem zd_7 : zDf 7 5 := fun ty h => by cases h; decide
theorem zc_8 : zC 8 := ⟨by decide, _, _, _, _, rfl, rfl, cw_8, tyX8_ok, nmX8⟩
theorem zd_8 : zDf 8 3 := fun ty h => by cases h; decide
theorem zc_9 : zC 9 := ⟨by decide, _, _, _, _, rfl, rfl, cw_9, tyX9_ok, nmX9⟩
theorem zd_9 : zDf 9 6 := fun ty h => by cases h; decide
theorem zc_10 : zC 10 := ⟨by decide, _, _, _, _, rfl, rfl, cw_10, tyX10_ok, nmX10⟩
theorem zd_10 : zDf 10 2 := fun ty h => by cases h; decide
theorem zc_11 : zC 11 := ⟨by decide, _, _, _, _, rfl, rfl, cw_11, tyX11_ok, nmX11⟩
theorem zd_11 : zDf 11 11 := fun ty h => by cases h; decide
theorem zc_12 : zC 12 := ⟨by decide, _, _, _, _, rfl, rfl, cw_12, tyX12_ok, nmX12⟩
theorem zd_12 : zDf 12 5 := fun ty h => by cases h; decide
theorem zc_13 : zC 13 := ⟨by decide, _, _, _, _, rfl, rfl, cw_13, tyX13_ok, nmX13⟩
theorem zd_13 : zDf 13 6 := fun ty h => by cases h; decide
theorem zc_14 : zC 14 := ⟨by decide, _, _, _, _, rfl, rfl, cw_14, tyX14_ok, nmX14⟩
theorem zd_14 : zDf 14 8 := fun ty h => by cases h; decide
theorem zc_15 : zC 15 := ⟨by decide, _, _, _, _, rfl, rfl, cw_15, tyX15_ok, nmX15⟩
theorem zd_15 : zDf 15 5 := fun ty h => by cases h; decide
theorem zc_16 : zC 16 := ⟨by decide, _, _, _, _, rfl, rfl, cw_16, tyX16_ok, nmX16⟩
theorem zd_16 : zDf 16 40 := fun ty h => by cases h; decide
