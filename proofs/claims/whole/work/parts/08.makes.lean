/-! makings, copies, natives -/
section R8
variable {Γ : hCT} {own : String} {cc : ByteArray} {ret : Option FieldType} {nm : String} {fr lo k n pc : Nat} {lv : List (Nat × Value)} {st : List Value} {σ : St}
theorem fresh_of {L : List Nat} {f : Nat → va_E} {q : Nat} {e : va_E} {A : Nat → Prop} (hD1 : va_D A (va_pl L f ++ [(q, e)])) : q ∉ L := fun h => by
  obtain ⟨k0, h0⟩ := va_pl_get (X := []) (f := f) h
  have h0 : (va_pl L f)[k0]? = some (q, f q) := h0
  have hlt := (List.getElem?_eq_some_iff.mp h0).1
  have := hD1.1 k0 (va_pl L f).length (q, f q) (q, e) (by rw [List.getElem?_append_left hlt]; exact h0) (by simp) rfl
  omega
theorem cyA {G : GB} {s : State} {cl : List vw_C} {cA cB : ClassId} {ty : FieldType} {tys : List (ClassId × FieldType)} {t0 : Nat} (h1 : va_K G.D cl (tys ++ [(cA, ty)]) s) (h2 : va_K G.D cl tys s) (ht : tys[t0]? = some (cB, ty)) : cA = cB := by
  have a1 := (h1.2 tys.length (cA, ty) (by simp)).2
  have a2 := (h2.2 t0 _ ht).2
  cases ty with
  | object C =>
    obtain ⟨_, _, -, -, -, q1⟩ := a1
    obtain ⟨_, _, -, -, -, q2⟩ := a2
    exact Option.some.inj (q1.symm.trans q2)
  | _ => exact Option.some.inj (a1.symm.trans a2)
theorem cell_new {cy : Nat → ClassId} {σ σ' : St} {q : Nat} {e : va_E} (h1 : ∀ b, b ≠ q → zK σ' b = zK σ b) (h2 : ∀ b, b ≠ q → zL σ' b = zL σ b) (h3 : ∀ b, b ≠ q → ∀ c i, zFv σ' c i b = zFv σ c i b) (he : zCe cy σ' q = e) (hi : ∀ b, b ≠ q → zAi σ' b = zAi σ b) (hj : ∀ b, b ≠ q → zAj σ' b = zAj σ b) (hd : ∀ b, b ≠ q → zAd σ' b = zAd σ b) (hr : ∀ b, b ≠ q → zAr σ' b = zAr σ b) (b : Nat) : va_up (zCe cy σ) q e b = zCe cy σ' b := by
  unfold va_up
  by_cases w : b = q
  · subst w
    rw [if_pos rfl, he]
  · rw [if_neg w]
    unfold zCe
    rw [h1 b w, h2 b w, hi b w, hj b w, hd b w, hr b w, zFs_cong (fun j => h3 b w _ j)]
theorem cell_nA {cy : Nat → ClassId} {σ : St} {q κ N : Nat} {e : va_E} (he : zCe cy (nA σ q κ N) q = e) (b : Nat) : va_up (zCe cy σ) q e b = zCe cy (nA σ q κ N) b := by
  refine cell_new (σ' := nA σ q κ N) (fun b hb => if_neg hb) (fun b hb => if_neg hb) (fun _ _ _ _ => rfl) he (fun b hb => funext fun _ => if_neg hb) (fun b hb => funext fun _ => if_neg hb) (fun b hb => funext fun _ => if_neg hb) (fun b hb => funext fun _ => if_neg hb) b
theorem nA_K {σ : St} {q κ N : Nat} : zK (nA σ q κ N) q = κ := if_pos rfl
theorem nA_L {σ : St} {q κ N : Nat} : zL (nA σ q κ N) q = N := if_pos rfl
theorem nA_i {σ : St} {q κ N : Nat} : zAi (nA σ q κ N) q = fun _ => 0 := funext fun _ => if_pos rfl
theorem nA_j {σ : St} {q κ N : Nat} : zAj (nA σ q κ N) q = fun _ => 0 := funext fun _ => if_pos rfl
theorem nA_d {σ : St} {q κ N : Nat} : zAd (nA σ q κ N) q = fun _ => 0 := funext fun _ => if_pos rfl
theorem nA_r {σ : St} {q κ N : Nat} : zAr (nA σ q κ N) q = fun _ => none := funext fun _ => if_pos rfl
/-- which kind newarray makes -/
def zAt (t : ArrayType) (κ : Nat) : Prop := ∃ ty : FieldType, newarray.typeOf t = ty ∧ κ ≠ 0 ∧ (∀ cy : Nat → ClassId, (zTys cy)[κ - 20]? = some (cy κ, ty)) ∧ Cond.arrayClass ty ∈ tbG ∧ componentBytes ty ≤ 8 ∧ ∀ N : Nat, ∃ a0 : vp_A, (∀ cA : ClassId, vp_cell cA a0 = arrV cA N (fun _ => defaultValue ty)) ∧ ∀ (cy : Nat → ClassId) (σ : St) (q : Nat), zCe cy (nA σ q κ N) q = .inl (cy κ, a0)
theorem g_newa {t : ArrayType} {κ : Nat} {i : Int32} {N : Nat} (T : zAt t κ) (C : hC Γ own cc ret nm fr lo) (d : decode cc pc = .ok (.newarray t, 2)) (hi : ¬ i < 0) (hN : ix i = N) (hb : N ≤ 10000) (hk : k + 1 ≤ hMc Γ) (hn : n + N ≤ hMs Γ) (kk : ∀ q, zK σ q = 0 → hW Γ (k + 1) (n + N) (pc + 2) lv (.ref q :: st) (nA σ q κ N)) : hW Γ k n pc lv (.int i :: st) σ := by
  obtain ⟨p, l, e, R, s, m, args, below, meth, c, G, nL, mc, ms, Q⟩ := Γ
  intro H locs ls hr hs hl
  obtain ⟨c1, c2, c3, c4, c5, c6, c7, c8, c9, rfl⟩ := C
  obtain ⟨ty, t1, t2, t3, t4, t5, t6⟩ := T
  obtain ⟨a0, t7, t8⟩ := t6 N
  obtain ⟨L, hL, hP, hD⟩ := hr
  exact va_newa c1 c2 (by rw [t1]; exact tb_word c5 t4 args) t1 c5.2.2.2.1 hP hD hs c6 t7 hi hN (by have := Nat.mul_le_mul hb t5; omega) hk hn d (fun q cA H1 hK1 hP1 hD1 hs1 => by
    have hc := cyA hK1 c5.2.2.2.1 (t3 G.cy)
    subst hc
    have hq : q ∉ L := fresh_of hD1
    exact kk q (Classical.byContradiction fun h => hq ((hL q).mpr h)) H1 locs ls (hR_new (κ := κ) (H := H) hL hq t2 hP1 hD1 (cell_nA (t8 G.cy σ q)) (fun _ => rfl)) hs1 hl)
theorem at_int : zAt .int 20 := ⟨_, rfl, by decide, fun _ => rfl, by decide +kernel, by decide, fun N => ⟨(N, .inl (fun _ => 0)), fun _ => rfl, fun cy σ q => by rw [zCe_i nA_K, nA_L, nA_i]⟩⟩
theorem at_long : zAt .long 21 := ⟨_, rfl, by decide, fun _ => rfl, by decide +kernel, by decide, fun N => ⟨(N, .inr (.inl (fun _ => 0))), fun _ => rfl, fun cy σ q => by rw [zCe_j nA_K, nA_L, nA_j]⟩⟩
theorem at_double : zAt .double 22 := ⟨_, rfl, by decide, fun _ => rfl, by decide +kernel, by decide, fun N => ⟨(N, .inr (.inr (.inr (.inl (fun _ => 0))))), fun _ => rfl, fun cy σ q => by rw [zCe_d nA_K, nA_L, nA_d]⟩⟩
theorem at_bool : zAt .boolean 23 := ⟨_, rfl, by decide, fun _ => rfl, by decide +kernel, by decide, fun N => ⟨(N, .inl (fun _ => 0)), fun _ => rfl, fun cy σ q => by rw [zCe_z nA_K, nA_L, nA_i]⟩⟩
theorem g_newq {κ ci idx : Nat} {i : Int32} {N : Nat} {RC : String} (E : zEl κ ci) (hRC : ∀ r, vwCl[ci]? = some r → r.1 = RC) (w : Cond.classLink own idx RC ∈ tbG) (ao : RC ∈ zAO) (C : hC Γ own cc ret nm fr lo) (d : decode cc pc = .ok (.anewarray idx, 3)) (hi : ¬ i < 0) (hN : ix i = N) (hb : N ≤ 10000) (hk : k + 1 ≤ hMc Γ) (hn : n + N ≤ hMs Γ) (kk : ∀ q, zK σ q = 0 → hW Γ (k + 1) (n + N) (pc + 3) lv (.ref q :: st) (nA σ q κ N)) : hW Γ k n pc lv (.int i :: st) σ := by
  obtain ⟨p, l, e, R, s, m, args, below, meth, c, G, nL, mc, ms, Q⟩ := Γ
  intro H locs ls hr hs hl
  obtain ⟨c1, c2, c3, c4, c5, c6, c7, c8, c9, rfl⟩ := C
  obtain ⟨e1, e0, r, e2, e3⟩ := E
  have hrc := hRC r e2
  subst hrc
  obtain ⟨L, hL, hP, hD⟩ := hr
  exact va_newq c1 c2 c4 (tb_word c5 w args) (c5.2.2.1 _ ao) c5.2.2.2.1 hP hD hs c6 hi hN (by omega) hk hn d (fun q cA H1 hK1 hP1 hD1 hs1 => by
    have hc := cyA hK1 c5.2.2.2.1 (e3 G.cy)
    subst hc
    have hq : q ∉ L := fresh_of hD1
    exact kk q (Classical.byContradiction fun h => hq ((hL q).mpr h)) H1 locs ls (hR_new (κ := κ) (H := H) hL hq (by omega) hP1 hD1 (cell_nA (by rw [zCe_r nA_K e1, nA_L, nA_r])) (fun _ => rfl)) hs1 hl)
theorem nO_K {σ : St} {q κ : Nat} : zK (nO σ q κ) q = κ := if_pos rfl
theorem nO_v {σ : St} {q ci j : Nat} : zFv (nO σ q (ci + 1)) ci j q = (if zFt ci j = 0 then .int 0 else if zFt ci j = 1 then .long 0 else .null) := by
  unfold zFv
  rw [show zFi (nO σ q (ci + 1)) (64 * ci + j) q = 0 from if_pos rfl, show zFj (nO σ q (ci + 1)) (64 * ci + j) q = 0 from if_pos rfl, show zFr (nO σ q (ci + 1)) (64 * ci + j) q = none from if_pos rfl]
  rfl
theorem cell_nO {cy : Nat → ClassId} {σ : St} {q κ : Nat} {e : va_E} (he : zCe cy (nO σ q κ) q = e) (b : Nat) : va_up (zCe cy σ) q e b = zCe cy (nO σ q κ) b := by
  refine cell_new (σ' := nO σ q κ) (fun b hb => if_neg hb) (fun _ _ => rfl) (fun b hb c i => ?_) he (fun _ _ => rfl) (fun _ _ => rfl) (fun _ _ => rfl) (fun _ _ => rfl) b
  unfold zFv
  rw [show zFi (nO σ q κ) (64 * c + i) b = zFi σ (64 * c + i) b from if_neg hb, show zFj (nO σ q κ) (64 * c + i) b = zFj σ (64 * c + i) b from if_neg hb, show zFr (nO σ q κ) (64 * c + i) b = zFr σ (64 * c + i) b from if_neg hb]
def zDf (ci N : Nat) : Prop := ∀ ty, zTy[ci]? = some ty → ∀ j, j < N → defaultValue (ty j) = (if zFt ci j = 0 then Value.int 0 else if zFt ci j = 1 then Value.long 0 else Value.null)
theorem g_new {ci idx N : Nat} {RC : String} (Z : zC ci) (F : zDf ci N) (hRC : ∃ T, vwCl[ci]? = some (RC, T, N)) (w1 : Cond.classLink own idx RC ∈ tbG) (w2 : Cond.instantiable RC N ∈ tbG) (w3 : Cond.initialized RC ∈ tbG) (C : hC Γ own cc ret nm fr lo) (d : decode cc pc = .ok (.new idx, 3)) (hk : k + 1 ≤ hMc Γ) (hn : n + N ≤ hMs Γ) (kk : ∀ q, zK σ q = 0 → hW Γ (k + 1) (n + N) (pc + 3) lv (.ref q :: st) (nO σ q (ci + 1))) : hW Γ k n pc lv st σ := by
  obtain ⟨p, l, e, R, s, m, args, below, meth, c, G, nL, mc, ms, Q⟩ := Γ
  intro H locs ls hr hs hl
  obtain ⟨c1, c2, c3, c4, c5, c6, c7, c8, c9, rfl⟩ := C
  obtain ⟨hci, C0, T0, N0, ty0, q1, q2, q3, q4, q5⟩ := Z
  obtain ⟨T1, f1⟩ := hRC
  cases q1.symm.trans f1
  obtain ⟨L, hL, hP, hD⟩ := hr
  have hz : zNf ci = N := by unfold zNf; rw [q1]
  exact va_new (fs := (List.range N).map (fun j => if zFt ci j = 0 then Value.int 0 else if zFt ci j = 1 then Value.long 0 else Value.null)) c1 c2 (fun w hw => tb_word c5 hw args) q3 ty0 q4 c4 (tb_word c5 w1 args) (tb_word c5 w2 args) (tb_word c5 w3 args) c5.2.2.2.1 hP hD hs c6 q1 (fun j hj => by
      rw [F ty0 q2 j hj]
      unfold vp_V
      rw [List.getD_eq_getElem?_getD, List.getElem?_map, List.getElem?_range hj]
      rfl) hk hn d (fun q H1 hP1 hD1 hs1 => by
    have hq : q ∉ L := fresh_of hD1
    refine kk q (Classical.byContradiction fun h => hq ((hL q).mpr h)) H1 locs ls (hR_new (κ := ci + 1) (H := H) hL hq (by omega) hP1 hD1 (cell_nO ?_) (fun _ => rfl)) hs1 hl
    rw [zCe_obj nO_K hci]
    unfold zFs
    rw [hz]
    exact congrArg (fun f => Sum.inr (ci, (List.range N).map f)) (funext fun j => nO_v))
theorem g_copyI {a b idx : Nat} {sp dp nn : Int32} (w1 : Cond.methodLink own idx arraycopyName ∈ tbG) (w2 : Cond.native arraycopyName ∈ tbG) (w3 : Cond.static arraycopyName ∈ tbG) (w4 : Cond.initialized "java/lang/System" ∈ tbG) (C : hC Γ own cc ret nm fr lo) (hfr : 1 ≤ fr) (hlo : (st.map fun v => v.category).sum + (nativeFrameWords "java/lang/System" "arraycopy" 5 + 11) ≤ lo) (d : decode cc pc = .ok (.invokestatic idx, 3)) (ha : zK σ a = 20) (hb : zK σ b = 20) (h1 : ¬ sp < 0) (h2 : ¬ dp < 0) (h3 : ¬ nn < 0) (h4 : ix sp + ix nn ≤ zL σ a) (h5 : ix dp + ix nn ≤ zL σ b) (kk : hW Γ k n (pc + 3) lv st (uCi σ a (ix sp) b (ix dp) (ix nn))) : hW Γ k n pc lv (.int nn :: .int dp :: .ref b :: .int sp :: .ref a :: st) σ := by
  obtain ⟨p, l, e, R, s, m, args, below, meth, c, G, nL, mc, ms, Q⟩ := Γ
  intro H locs ls hr hs hl
  obtain ⟨c1, c2, c3, c4, c5, c6, c7, c8, c9, rfl⟩ := C
  obtain ⟨L, hL, hP, hD⟩ := hr
  have hb0 : zK σ b ≠ 0 := by rw [hb]; decide
  obtain ⟨q0, hq0⟩ := va_pl_get (X := []) (f := zCe G.cy σ) ((hL a).mpr (by rw [ha]; decide))
  have hq0 : (va_pl L (zCe G.cy σ))[q0]? = some (a, zCe G.cy σ a) := hq0
  rw [zCe_i ha] at hq0
  obtain ⟨q, hq⟩ := va_pl_get (X := []) (f := zCe G.cy σ) ((hL b).mpr hb0)
  have hq : (va_pl L (zCe G.cy σ))[q]? = some (b, zCe G.cy σ b) := hq
  have hq2 := hq
  rw [zCe_i hb] at hq2
  exact va_copyi c1 c2 (c3.trans hl.1.symm) c4 (tb_word c5 w1 args) (tb_word c5 w2 args) (tb_word c5 w3 args) (tb_word c5 w4 args) c5.2.2.2.1 hP hD hs q0 q 0 0 hq0 hq2 rfl rfl rfl h1 h2 h3 h4 h5 (fun _ _ => rfl) hfr hlo d (fun H1 locs1 hP1 hD1 hs1 => kk H1 locs1 ls (hR_set hL hD hb0 hq hP1 hD1 (cell_arr (σ' := uCi σ a (ix sp) b (ix dp) (ix nn)) rfl rfl (fun _ _ _ => rfl) (by rw [zCe_i (σ := uCi σ a (ix sp) b (ix dp) (ix nn)) hb]; exact congrArg (fun f => Sum.inl (G.cy 20, zL σ b, Sum.inl f)) (if_pos rfl)) (fun x hx => if_neg hx) (fun _ _ => rfl) (fun _ _ => rfl) (fun _ _ => rfl)) (fun _ => rfl)) hs1 hl)
theorem g_copyJ {a b idx : Nat} {sp dp nn : Int32} (w1 : Cond.methodLink own idx arraycopyName ∈ tbG) (w2 : Cond.native arraycopyName ∈ tbG) (w3 : Cond.static arraycopyName ∈ tbG) (w4 : Cond.initialized "java/lang/System" ∈ tbG) (C : hC Γ own cc ret nm fr lo) (hfr : 1 ≤ fr) (hlo : (st.map fun v => v.category).sum + (nativeFrameWords "java/lang/System" "arraycopy" 5 + 11) ≤ lo) (d : decode cc pc = .ok (.invokestatic idx, 3)) (ha : zK σ a = 21) (hb : zK σ b = 21) (h1 : ¬ sp < 0) (h2 : ¬ dp < 0) (h3 : ¬ nn < 0) (h4 : ix sp + ix nn ≤ zL σ a) (h5 : ix dp + ix nn ≤ zL σ b) (kk : hW Γ k n (pc + 3) lv st (uCj σ a (ix sp) b (ix dp) (ix nn))) : hW Γ k n pc lv (.int nn :: .int dp :: .ref b :: .int sp :: .ref a :: st) σ := by
  obtain ⟨p, l, e, R, s, m, args, below, meth, c, G, nL, mc, ms, Q⟩ := Γ
  intro H locs ls hr hs hl
  obtain ⟨c1, c2, c3, c4, c5, c6, c7, c8, c9, rfl⟩ := C
  obtain ⟨L, hL, hP, hD⟩ := hr
  have hb0 : zK σ b ≠ 0 := by rw [hb]; decide
  obtain ⟨q0, hq0⟩ := va_pl_get (X := []) (f := zCe G.cy σ) ((hL a).mpr (by rw [ha]; decide))
  have hq0 : (va_pl L (zCe G.cy σ))[q0]? = some (a, zCe G.cy σ a) := hq0
  rw [zCe_j ha] at hq0
  obtain ⟨q, hq⟩ := va_pl_get (X := []) (f := zCe G.cy σ) ((hL b).mpr hb0)
  have hq : (va_pl L (zCe G.cy σ))[q]? = some (b, zCe G.cy σ b) := hq
  have hq2 := hq
  rw [zCe_j hb] at hq2
  exact va_copyl c1 c2 (c3.trans hl.1.symm) c4 (tb_word c5 w1 args) (tb_word c5 w2 args) (tb_word c5 w3 args) (tb_word c5 w4 args) c5.2.2.2.1 hP hD hs q0 q 1 1 hq0 hq2 rfl rfl rfl h1 h2 h3 h4 h5 (fun _ _ => rfl) hfr hlo d (fun H1 locs1 hP1 hD1 hs1 => kk H1 locs1 ls (hR_set hL hD hb0 hq hP1 hD1 (cell_arr (σ' := uCj σ a (ix sp) b (ix dp) (ix nn)) rfl rfl (fun _ _ _ => rfl) (by rw [zCe_j (σ := uCj σ a (ix sp) b (ix dp) (ix nn)) hb]; exact congrArg (fun f => Sum.inl (G.cy 21, zL σ b, Sum.inr (Sum.inl f))) (if_pos rfl)) (fun _ _ => rfl) (fun x hx => if_neg hx) (fun _ _ => rfl) (fun _ _ => rfl)) (fun _ => rfl)) hs1 hl)
theorem g_d2l {idx : Nat} {b : UInt64} (w1 : Cond.methodLink own idx ⟨"java/lang/Double", "doubleToRawLongBits", "(D)J"⟩ ∈ tbG) (w2 : Cond.native ⟨"java/lang/Double", "doubleToRawLongBits", "(D)J"⟩ ∈ tbG) (w3 : Cond.static ⟨"java/lang/Double", "doubleToRawLongBits", "(D)J"⟩ ∈ tbG) (w4 : Cond.initialized "java/lang/Double" ∈ tbG) (C : hC Γ own cc ret nm fr lo) (hfr : 1 ≤ fr) (hlo : (st.map fun v => v.category).sum + 15 ≤ lo) (d : decode cc pc = .ok (.invokestatic idx, 3)) (kk : hW Γ k n (pc + 3) lv (.long b.toInt64 :: st) σ) : hW Γ k n pc lv (.double b :: st) σ := by
  obtain ⟨p, l, e, R, s, m, args, below, meth, c, G, nL, mc, ms, Q⟩ := Γ
  intro H locs ls hr hs hl
  obtain ⟨c1, c2, c3, c4, c5, c6, c7, c8, c9, rfl⟩ := C
  exact vn_d2l c1 c2 (c3.trans hl.1.symm) c4 (tb_word c5 w1 args) (tb_word c5 w2 args) (tb_word c5 w3 args) (tb_word c5 w4 args) hfr hlo d (kk H locs ls hr hs hl)
theorem g_l2d {idx : Nat} {b : Int64} (w1 : Cond.methodLink own idx ⟨"java/lang/Double", "longBitsToDouble", "(J)D"⟩ ∈ tbG) (w2 : Cond.native ⟨"java/lang/Double", "longBitsToDouble", "(J)D"⟩ ∈ tbG) (w3 : Cond.static ⟨"java/lang/Double", "longBitsToDouble", "(J)D"⟩ ∈ tbG) (w4 : Cond.initialized "java/lang/Double" ∈ tbG) (C : hC Γ own cc ret nm fr lo) (hv : vn_snl2d b = false) (hfr : 1 ≤ fr) (hlo : (st.map fun v => v.category).sum + 15 ≤ lo) (d : decode cc pc = .ok (.invokestatic idx, 3)) (kk : hW Γ k n (pc + 3) lv (.double b.toUInt64 :: st) σ) : hW Γ k n pc lv (.long b :: st) σ := by
  obtain ⟨p, l, e, R, s, m, args, below, meth, c, G, nL, mc, ms, Q⟩ := Γ
  intro H locs ls hr hs hl
  obtain ⟨c1, c2, c3, c4, c5, c6, c7, c8, c9, rfl⟩ := C
  exact vn_l2d c1 c2 (c3.trans hl.1.symm) c4 (tb_word c5 w1 args) (tb_word c5 w2 args) (tb_word c5 w3 args) (tb_word c5 w4 args) hv hfr hlo d (kk H locs ls hr hs hl)
end R8
