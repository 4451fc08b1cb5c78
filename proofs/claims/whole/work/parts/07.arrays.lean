/-! arrays, makings, calls -/
abbrev ix (i : Int32) : Nat := i.toNatClampNeg
abbrev hMc (Γ : hCT) : Nat := Γ.2.2.2.2.2.2.2.2.2.2.2.2.1
abbrev hMs (Γ : hCT) : Nat := Γ.2.2.2.2.2.2.2.2.2.2.2.2.2.1
theorem zCe_i {cy : Nat → ClassId} {σ : St} {a : Nat} (hk : zK σ a = 20) : zCe cy σ a = .inl (cy 20, zL σ a, .inl (zAi σ a)) := by unfold zCe; rw [hk]; rfl
theorem zCe_z {cy : Nat → ClassId} {σ : St} {a : Nat} (hk : zK σ a = 23) : zCe cy σ a = .inl (cy 23, zL σ a, .inl (zAi σ a)) := by unfold zCe; rw [hk]; rfl
theorem zCe_j {cy : Nat → ClassId} {σ : St} {a : Nat} (hk : zK σ a = 21) : zCe cy σ a = .inl (cy 21, zL σ a, .inr (.inl (zAj σ a))) := by unfold zCe; rw [hk]; rfl
theorem zCe_d {cy : Nat → ClassId} {σ : St} {a : Nat} (hk : zK σ a = 22) : zCe cy σ a = .inl (cy 22, zL σ a, .inr (.inr (.inr (.inl (zAd σ a))))) := by unfold zCe; rw [hk]; rfl
theorem zCe_r {cy : Nat → ClassId} {σ : St} {a κ : Nat} (hk : zK σ a = κ) (h : 24 ≤ κ) : zCe cy σ a = .inl (cy κ, zL σ a, .inr (.inr (.inr (.inr (zAr σ a))))) := by
  unfold zCe
  rw [hk, if_neg (by omega), if_neg (by omega), if_neg (by omega), if_neg (by omega)]
/-- a state that differs in the elements of one array alone -/
theorem cell_arr {cy : Nat → ClassId} {σ σ' : St} {a : Nat} {e : va_E} (h1 : zK σ' = zK σ) (h2 : zL σ' = zL σ) (h3 : ∀ c i b, zFv σ' c i b = zFv σ c i b) (he : zCe cy σ' a = e) (hi : ∀ b, b ≠ a → zAi σ' b = zAi σ b) (hj : ∀ b, b ≠ a → zAj σ' b = zAj σ b) (hd : ∀ b, b ≠ a → zAd σ' b = zAd σ b) (hr : ∀ b, b ≠ a → zAr σ' b = zAr σ b) (b : Nat) : va_up (zCe cy σ) a e b = zCe cy σ' b := by
  unfold va_up
  by_cases q : b = a
  · subst q
    rw [if_pos rfl, he]
  · rw [if_neg q]
    unfold zCe
    rw [h1, h2, hi b q, hj b q, hd b q, hr b q, zFs_cong (fun j => h3 _ j b)]
theorem up2_row {α : Type} {f : Nat → Nat → α} {a i b : Nat} {v : α} (h : b ≠ a) : up2 f a i v b = f b := funext fun y => up2_ne (fun h2 => h h2.1)
theorem up2_self {f : Nat → Nat → Int32} {a i : Nat} {v : Int32} : up2 f a i v a = upd (f a) i v := funext fun y => by unfold up2 upd; by_cases h : y = i <;> simp [h]
theorem up2_selfL {f : Nat → Nat → Int64} {a i : Nat} {v : Int64} : up2 f a i v a = vp_updL (f a) i v := funext fun y => by unfold up2 vp_updL; by_cases h : y = i <;> simp [h]
theorem up2_selfU {α : Type} {f : Nat → Nat → α} {a i : Nat} {v : α} : up2 f a i v a = va_up (f a) i v := funext fun y => by unfold up2 va_up; by_cases h : y = i <;> simp [h]
theorem up2_selfD {α : Type} {f : Nat → Nat → α} {a i : Nat} {v : α} : up2 f a i v a = vf_upd (f a) i v := funext fun y => by unfold up2 vf_upd; by_cases h : y = i <;> simp [h]
def zEl (κ ci : Nat) : Prop := 24 ≤ κ ∧ ci < 17 ∧ ∃ r : vw_C, vwCl[ci]? = some r ∧ ∀ cy : Nat → ClassId, (zTys cy)[κ - 20]? = some (cy κ, .object r.1)
theorem el_24 : zEl 24 0 := ⟨by decide, by decide, _, rfl, fun _ => rfl⟩
theorem el_25 : zEl 25 2 := ⟨by decide, by decide, _, rfl, fun _ => rfl⟩
theorem el_26 : zEl 26 3 := ⟨by decide, by decide, _, rfl, fun _ => rfl⟩
theorem el_27 : zEl 27 9 := ⟨by decide, by decide, _, rfl, fun _ => rfl⟩
theorem el_28 : zEl 28 10 := ⟨by decide, by decide, _, rfl, fun _ => rfl⟩
theorem el_29 : zEl 29 12 := ⟨by decide, by decide, _, rfl, fun _ => rfl⟩
theorem el_30 : zEl 30 14 := ⟨by decide, by decide, _, rfl, fun _ => rfl⟩
theorem el_31 : zEl 31 15 := ⟨by decide, by decide, _, rfl, fun _ => rfl⟩
section R7
variable {Γ : hCT} {own : String} {cc : ByteArray} {ret : Option FieldType} {nm : String} {fr lo k n pc : Nat} {lv : List (Nat × Value)} {st : List Value} {σ : St}
theorem g_iald {a : Nat} {i : Int32} (C : hC Γ own cc ret nm fr lo) (d : decode cc pc = .ok (.iaload, 1)) (hk : zK σ a = 20) (hi : vp_in i (zL σ a)) (kk : hW Γ k n (pc + 1) lv (.int (zAi σ a (ix i)) :: st) σ) : hW Γ k n pc lv (.int i :: .ref a :: st) σ := by
  obtain ⟨p, l, e, R, s, m, args, below, meth, c, G, nL, mc, ms, Q⟩ := Γ
  intro H locs ls hr hs hl
  exact va_iald C.1 C.2.1 C.2.2.2.2.1.2.2.2.1 (hR_rd hr (by rw [hk]; decide) (zCe_i hk)) 0 0 rfl rfl hi d (kk H locs ls hr hs hl)
theorem g_zald {a : Nat} {i : Int32} (C : hC Γ own cc ret nm fr lo) (d : decode cc pc = .ok (.baload, 1)) (hk : zK σ a = 23) (hi : vp_in i (zL σ a)) (kk : hW Γ k n (pc + 1) lv (.int (zAi σ a (ix i)) :: st) σ) : hW Γ k n pc lv (.int i :: .ref a :: st) σ := by
  obtain ⟨p, l, e, R, s, m, args, below, meth, c, G, nL, mc, ms, Q⟩ := Γ
  intro H locs ls hr hs hl
  exact va_zald C.1 C.2.1 C.2.2.2.2.1.2.2.2.1 (hR_rd hr (by rw [hk]; decide) (zCe_z hk)) 0 3 rfl rfl hi d (kk H locs ls hr hs hl)
theorem g_lald {a : Nat} {i : Int32} (C : hC Γ own cc ret nm fr lo) (d : decode cc pc = .ok (.laload, 1)) (hk : zK σ a = 21) (hi : vp_in i (zL σ a)) (kk : hW Γ k n (pc + 1) lv (.long (zAj σ a (ix i)) :: st) σ) : hW Γ k n pc lv (.int i :: .ref a :: st) σ := by
  obtain ⟨p, l, e, R, s, m, args, below, meth, c, G, nL, mc, ms, Q⟩ := Γ
  intro H locs ls hr hs hl
  exact va_lald C.1 C.2.1 C.2.2.2.2.1.2.2.2.1 (hR_rd hr (by rw [hk]; decide) (zCe_j hk)) 0 1 rfl rfl hi d (kk H locs ls hr hs hl)
theorem g_dald {a : Nat} {i : Int32} (C : hC Γ own cc ret nm fr lo) (d : decode cc pc = .ok (.daload, 1)) (hk : zK σ a = 22) (hi : vp_in i (zL σ a)) (kk : hW Γ k n (pc + 1) lv (.double (zAd σ a (ix i)) :: st) σ) : hW Γ k n pc lv (.int i :: .ref a :: st) σ := by
  obtain ⟨p, l, e, R, s, m, args, below, meth, c, G, nL, mc, ms, Q⟩ := Γ
  intro H locs ls hr hs hl
  exact va_dald C.1 C.2.1 C.2.2.2.2.1.2.2.2.1 (hR_rd hr (by rw [hk]; decide) (zCe_d hk)) 0 2 rfl rfl hi d (kk H locs ls hr hs hl)
theorem g_aald {a κ ci : Nat} {i : Int32} (x : Option Nat) (E : zEl κ ci) (C : hC Γ own cc ret nm fr lo) (d : decode cc pc = .ok (.aaload, 1)) (hk : zK σ a = κ) (hi : vp_in i (zL σ a)) (hx : zAr σ a (ix i) = x) (kk : hW Γ k n (pc + 1) lv (va_rf x :: st) σ) : hW Γ k n pc lv (.int i :: .ref a :: st) σ := by
  obtain ⟨p, l, e, R, s, m, args, below, meth, c, G, nL, mc, ms, Q⟩ := Γ
  intro H locs ls hr hs hl
  subst hx
  obtain ⟨e1, -, r, e2, e3⟩ := E
  exact va_aldq C.1 C.2.1 C.2.2.2.2.1.2.2.2.1 (hR_rd hr (by rw [hk]; omega) (zCe_r hk e1)) 0 (κ - 20) rfl (e3 G.cy) hi d (kk H locs ls hr hs hl)
theorem g_alen {a : Nat} {v : Int32} (C : hC Γ own cc ret nm fr lo) (d : decode cc pc = .ok (.arraylength, 1)) (hk : 20 ≤ zK σ a ∧ zK σ a < 32) (hv : Int32.ofNat (zL σ a) = v) (kk : hW Γ k n (pc + 1) lv (.int v :: st) σ) : hW Γ k n pc lv (.ref a :: st) σ := by
  obtain ⟨p, l, e, R, s, m, args, below, meth, c, G, nL, mc, ms, Q⟩ := Γ
  intro H locs ls hr hs hl
  have key : ∃ (t0 : Nat) (ty : FieldType) (x : (Nat → Int32) ⊕ (Nat → Int64) ⊕ (Nat → UInt32) ⊕ (Nat → UInt64) ⊕ (Nat → Option Nat)), zCe G.cy σ a = .inl (G.cy (zK σ a), zL σ a, x) ∧ (zTys G.cy)[t0]? = some (G.cy (zK σ a), ty) := by
    obtain ⟨h1, h2⟩ := hk
    generalize hz : zK σ a = κ at h1 h2
    rcases (show κ = 20 ∨ κ = 21 ∨ κ = 22 ∨ κ = 23 ∨ κ = 24 ∨ κ = 25 ∨ κ = 26 ∨ κ = 27 ∨ κ = 28 ∨ κ = 29 ∨ κ = 30 ∨ κ = 31 by omega) with rfl | rfl | rfl | rfl | rfl | rfl | rfl | rfl | rfl | rfl | rfl | rfl
    · exact ⟨0, _, _, zCe_i hz, rfl⟩
    · exact ⟨1, _, _, zCe_j hz, rfl⟩
    · exact ⟨2, _, _, zCe_d hz, rfl⟩
    · exact ⟨3, _, _, zCe_z hz, rfl⟩
    · exact ⟨4, _, _, zCe_r hz (by decide), rfl⟩
    · exact ⟨5, _, _, zCe_r hz (by decide), rfl⟩
    · exact ⟨6, _, _, zCe_r hz (by decide), rfl⟩
    · exact ⟨7, _, _, zCe_r hz (by decide), rfl⟩
    · exact ⟨8, _, _, zCe_r hz (by decide), rfl⟩
    · exact ⟨9, _, _, zCe_r hz (by decide), rfl⟩
    · exact ⟨10, _, _, zCe_r hz (by decide), rfl⟩
    · exact ⟨11, _, _, zCe_r hz (by decide), rfl⟩
  obtain ⟨t0, ty, x, h1, h2⟩ := key
  exact va_alen C.1 C.2.1 C.2.2.2.2.1.2.2.2.1 (hR_rd hr (by omega) h1) 0 t0 rfl h2 hv d (kk H locs ls hr hs hl)
theorem g_iast {a : Nat} {i x : Int32} (C : hC Γ own cc ret nm fr lo) (d : decode cc pc = .ok (.iastore, 1)) (hk : zK σ a = 20) (hi : vp_in i (zL σ a)) (kk : hW Γ k n (pc + 1) lv st (uAi σ a (ix i) x)) : hW Γ k n pc lv (.int x :: .int i :: .ref a :: st) σ := by
  obtain ⟨p, l, e, R, s, m, args, below, meth, c, G, nL, mc, ms, Q⟩ := Γ
  intro H locs ls hr hs hl
  obtain ⟨L, hL, hP, hD⟩ := hr
  have hk0 : zK σ a ≠ 0 := by rw [hk]; decide
  obtain ⟨q, hq⟩ := va_pl_get (X := []) (f := zCe G.cy σ) ((hL a).mpr hk0)
  have hq : (va_pl L (zCe G.cy σ))[q]? = some (a, zCe G.cy σ a) := hq
  have hq2 := hq
  rw [zCe_i hk] at hq2
  exact va_iast C.1 C.2.1 C.2.2.2.2.1.2.2.2.1 hP hD hs q 0 hq2 rfl hi d (fun H1 locs1 hP1 hD1 hs1 => kk H1 locs1 ls (hR_set hL hD hk0 hq hP1 hD1 (cell_arr (σ' := uAi σ a (ix i) x) rfl rfl (fun _ _ _ => rfl) (by rw [zCe_i (σ := uAi σ a (ix i) x) hk]; exact congrArg (fun f => Sum.inl (G.cy 20, zL σ a, Sum.inl f)) up2_self) (fun b hb => up2_row hb) (fun _ _ => rfl) (fun _ _ => rfl) (fun _ _ => rfl)) (fun _ => rfl)) hs1 hl)
theorem g_zast {a : Nat} {i x : Int32} (C : hC Γ own cc ret nm fr lo) (d : decode cc pc = .ok (.bastore, 1)) (hk : zK σ a = 23) (hi : vp_in i (zL σ a)) (kk : hW Γ k n (pc + 1) lv st (uAi σ a (ix i) (vp_nar .boolean x))) : hW Γ k n pc lv (.int x :: .int i :: .ref a :: st) σ := by
  obtain ⟨p, l, e, R, s, m, args, below, meth, c, G, nL, mc, ms, Q⟩ := Γ
  intro H locs ls hr hs hl
  obtain ⟨L, hL, hP, hD⟩ := hr
  have hk0 : zK σ a ≠ 0 := by rw [hk]; decide
  obtain ⟨q, hq⟩ := va_pl_get (X := []) (f := zCe G.cy σ) ((hL a).mpr hk0)
  have hq : (va_pl L (zCe G.cy σ))[q]? = some (a, zCe G.cy σ a) := hq
  have hq2 := hq
  rw [zCe_z hk] at hq2
  exact va_zast C.1 C.2.1 C.2.2.2.2.1.2.2.2.1 hP hD hs q 3 hq2 rfl hi d (fun H1 locs1 hP1 hD1 hs1 => kk H1 locs1 ls (hR_set hL hD hk0 hq hP1 hD1 (cell_arr (σ' := uAi σ a (ix i) (vp_nar .boolean x)) rfl rfl (fun _ _ _ => rfl) (by rw [zCe_z (σ := uAi σ a (ix i) (vp_nar .boolean x)) hk]; exact congrArg (fun f => Sum.inl (G.cy 23, zL σ a, Sum.inl f)) up2_self) (fun b hb => up2_row hb) (fun _ _ => rfl) (fun _ _ => rfl) (fun _ _ => rfl)) (fun _ => rfl)) hs1 hl)
theorem g_last {a : Nat} {i : Int32} {x : Int64} (C : hC Γ own cc ret nm fr lo) (d : decode cc pc = .ok (.lastore, 1)) (hk : zK σ a = 21) (hi : vp_in i (zL σ a)) (kk : hW Γ k n (pc + 1) lv st (uAj σ a (ix i) x)) : hW Γ k n pc lv (.long x :: .int i :: .ref a :: st) σ := by
  obtain ⟨p, l, e, R, s, m, args, below, meth, c, G, nL, mc, ms, Q⟩ := Γ
  intro H locs ls hr hs hl
  obtain ⟨L, hL, hP, hD⟩ := hr
  have hk0 : zK σ a ≠ 0 := by rw [hk]; decide
  obtain ⟨q, hq⟩ := va_pl_get (X := []) (f := zCe G.cy σ) ((hL a).mpr hk0)
  have hq : (va_pl L (zCe G.cy σ))[q]? = some (a, zCe G.cy σ a) := hq
  have hq2 := hq
  rw [zCe_j hk] at hq2
  exact va_last C.1 C.2.1 C.2.2.2.2.1.2.2.2.1 hP hD hs q 1 hq2 rfl hi d (fun H1 locs1 hP1 hD1 hs1 => kk H1 locs1 ls (hR_set hL hD hk0 hq hP1 hD1 (cell_arr (σ' := uAj σ a (ix i) x) rfl rfl (fun _ _ _ => rfl) (by rw [zCe_j (σ := uAj σ a (ix i) x) hk]; exact congrArg (fun f => Sum.inl (G.cy 21, zL σ a, Sum.inr (Sum.inl f))) up2_selfL) (fun _ _ => rfl) (fun b hb => up2_row hb) (fun _ _ => rfl) (fun _ _ => rfl)) (fun _ => rfl)) hs1 hl)
theorem g_dast {a : Nat} {i : Int32} {x : UInt64} (C : hC Γ own cc ret nm fr lo) (d : decode cc pc = .ok (.dastore, 1)) (hk : zK σ a = 22) (hi : vp_in i (zL σ a)) (kk : hW Γ k n (pc + 1) lv st (uAd σ a (ix i) x)) : hW Γ k n pc lv (.double x :: .int i :: .ref a :: st) σ := by
  obtain ⟨p, l, e, R, s, m, args, below, meth, c, G, nL, mc, ms, Q⟩ := Γ
  intro H locs ls hr hs hl
  obtain ⟨L, hL, hP, hD⟩ := hr
  have hk0 : zK σ a ≠ 0 := by rw [hk]; decide
  obtain ⟨q, hq⟩ := va_pl_get (X := []) (f := zCe G.cy σ) ((hL a).mpr hk0)
  have hq : (va_pl L (zCe G.cy σ))[q]? = some (a, zCe G.cy σ a) := hq
  have hq2 := hq
  rw [zCe_d hk] at hq2
  exact va_dast C.1 C.2.1 C.2.2.2.2.1.2.2.2.1 hP hD hs q 2 hq2 rfl hi d (fun H1 locs1 hP1 hD1 hs1 => kk H1 locs1 ls (hR_set hL hD hk0 hq hP1 hD1 (cell_arr (σ' := uAd σ a (ix i) x) rfl rfl (fun _ _ _ => rfl) (by rw [zCe_d (σ := uAd σ a (ix i) x) hk]; exact congrArg (fun f => Sum.inl (G.cy 22, zL σ a, Sum.inr (Sum.inr (Sum.inr (Sum.inl f))))) up2_selfD) (fun _ _ => rfl) (fun _ _ => rfl) (fun b hb => up2_row hb) (fun _ _ => rfl)) (fun _ => rfl)) hs1 hl)
theorem g_aast {a κ ci : Nat} {i : Int32} (x : Option Nat) (E : zEl κ ci) (C : hC Γ own cc ret nm fr lo) (d : decode cc pc = .ok (.aastore, 1)) (hk : zK σ a = κ) (hi : vp_in i (zL σ a)) (hx : ∀ v, x = some v → zK σ v = ci + 1) (kk : hW Γ k n (pc + 1) lv st (uAr σ a (ix i) x)) : hW Γ k n pc lv (va_rf x :: .int i :: .ref a :: st) σ := by
  obtain ⟨p, l, e, R, s, m, args, below, meth, c, G, nL, mc, ms, Q⟩ := Γ
  intro H locs ls hr hs hl
  obtain ⟨L, hL, hP, hD⟩ := hr
  obtain ⟨e1, e0, r, e2, e3⟩ := E
  have hk0 : zK σ a ≠ 0 := by rw [hk]; omega
  obtain ⟨q, hq⟩ := va_pl_get (X := []) (f := zCe G.cy σ) ((hL a).mpr hk0)
  have hq : (va_pl L (zCe G.cy σ))[q]? = some (a, zCe G.cy σ a) := hq
  have hq2 := hq
  rw [zCe_r hk e1] at hq2
  have hcell : ∀ b, va_up (zCe G.cy σ) a (.inl (G.cy κ, zL σ a, .inr (.inr (.inr (.inr (va_up (zAr σ a) (ix i) x)))))) b = zCe G.cy (uAr σ a (ix i) x) b := cell_arr (σ' := uAr σ a (ix i) x) rfl rfl (fun _ _ _ => rfl) (by rw [zCe_r (σ := uAr σ a (ix i) x) hk e1]; exact congrArg (fun f => Sum.inl (G.cy κ, zL σ a, Sum.inr (Sum.inr (Sum.inr (Sum.inr f))))) up2_selfU) (fun _ _ => rfl) (fun _ _ => rfl) (fun _ _ => rfl) (fun b hb => up2_row hb)
  cases x with
  | none => exact va_astqN C.1 C.2.1 C.2.2.2.2.1.2.2.2.1 hP hD hs q (κ - 20) hq2 (e3 G.cy) hi d (fun H1 locs1 hP1 hD1 hs1 => kk H1 locs1 ls (hR_set hL hD hk0 hq hP1 hD1 hcell (fun _ => rfl)) hs1 hl)
  | some v =>
    have hv := hx v rfl
    obtain ⟨q', hq'⟩ := va_pl_get (X := []) (f := zCe G.cy σ) ((hL v).mpr (by rw [hv]; omega))
    have hq' : (va_pl L (zCe G.cy σ))[q']? = some (v, zCe G.cy σ v) := hq'
    rw [zCe_obj hv e0] at hq'
    exact va_astq C.1 C.2.1 C.2.2.2.2.1.2.2.2.1 hP hD hs q (κ - 20) q' ci hq2 (e3 G.cy) hq' e2 hi d (fun H1 locs1 hP1 hD1 hs1 => kk H1 locs1 ls (hR_set hL hD hk0 hq hP1 hD1 hcell (fun _ => rfl)) hs1 hl)
end R7
