/-! the heap's rows, over the state as functions -/
theorem up2_ne {α : Type} {f : Nat → Nat → α} {g a x y : Nat} {v : α} (h : ¬ (x = g ∧ y = a)) : up2 f g a v x y = f x y := if_neg h
theorem up2_eq {α : Type} {f : Nat → Nat → α} {g a : Nat} {v : α} : up2 f g a v g a = v := if_pos ⟨rfl, rfl⟩
theorem zCe_obj {cy : Nat → ClassId} {σ : St} {a ci : Nat} (hk : zK σ a = ci + 1) (hc : ci < 17) : zCe cy σ a = .inr (ci, zFs σ ci a) := by
  unfold zCe
  rw [hk, if_pos (by omega)]
  rfl
theorem hR_rd {G : GB} {H : Heap} {σ : St} {a : Nat} (h : hR G H σ) (hk : zK σ a ≠ 0) {e : va_E} (he : zCe G.cy σ a = e) : va_P G.D vwCl [(a, e)] H := by
  obtain ⟨L, hL, hP, -⟩ := h
  obtain ⟨q, hq⟩ := va_pl_get (X := []) (f := zCe G.cy σ) ((hL a).mpr hk)
  intro k x hx
  have h1 := hP q _ hq
  rw [he] at h1
  match k, hx with
  | 0, hx => cases hx; exact h1
  | k + 1, hx => simp at hx
theorem hR_set {G : GB} {H1 : Heap} {σ σ' : St} {a q : Nat} {L : List Nat} {e : va_E} (hL : ∀ b, b ∈ L ↔ zK σ b ≠ 0) (hD : va_D G.A (va_pl L (zCe G.cy σ))) (hk : zK σ a ≠ 0) (hq : (va_pl L (zCe G.cy σ))[q]? = some (a, zCe G.cy σ a))
    (hP1 : va_P G.D vwCl ((va_pl L (zCe G.cy σ)).set q (a, e)) H1) (hD1 : va_D G.A ((va_pl L (zCe G.cy σ)).set q (a, e))) (he : ∀ b, va_up (zCe G.cy σ) a e b = zCe G.cy σ' b) (hk' : ∀ b, zK σ' b = zK σ b) : hR G H1 σ' := by
  have h1 := va_pl_set (A := G.A) (X := []) (f := zCe G.cy σ) (k := q) (e := e) hD ((hL a).mpr hk) hq
  have h2 : (va_pl L (zCe G.cy σ)).set q (a, e) = va_pl L (zCe G.cy σ') := h1.trans (va_pl_congr he)
  rw [h2] at hP1 hD1
  exact ⟨L, fun b => by rw [hk']; exact hL b, hP1, hD1⟩
theorem hR_new {G : GB} {H H1 : Heap} {σ σ' : St} {q κ : Nat} {L : List Nat} {e : va_E} (hL : ∀ b, b ∈ L ↔ zK σ b ≠ 0) (hq : q ∉ L) (hκ : κ ≠ 0)
    (hP1 : va_P G.D vwCl (va_pl L (zCe G.cy σ) ++ [(q, e)]) H1) (hD1 : va_D G.A (va_pl L (zCe G.cy σ) ++ [(q, e)])) (he : ∀ b, va_up (zCe G.cy σ) q e b = zCe G.cy σ' b) (hk' : ∀ b, zK σ' b = va_up (zK σ) q κ b) : hR G H1 σ' := by
  have h2 : va_pl L (zCe G.cy σ) ++ [(q, e)] = va_pl (L ++ [q]) (zCe G.cy σ') := (va_pl_push hq).trans (va_pl_congr he)
  rw [h2] at hP1 hD1
  refine ⟨L ++ [q], fun b => ?_, hP1, hD1⟩
  rw [hk', List.mem_append, List.mem_singleton]
  unfold va_up
  by_cases hb : b = q
  · rw [if_pos hb]; exact ⟨fun _ => hκ, fun _ => Or.inr hb⟩
  · rw [if_neg hb]; exact ⟨fun h => h.elim (hL b).mp (fun h => absurd h hb), fun h => Or.inl ((hL b).mpr h)⟩
theorem zFs_get {σ : St} {ci j a : Nat} (h : j < zNf ci) : (zFs σ ci a)[j]? = some (zFv σ ci j a) := by
  unfold zFs
  rw [List.getElem?_map, List.getElem?_range h]
  rfl
theorem zFs_len {σ : St} {ci a : Nat} : (zFs σ ci a).length = zNf ci := by simp [zFs]
theorem zFs_set {σ σ' : St} {ci j a : Nat} {v : Value} (hv : zFv σ' ci j a = v) (ho : ∀ i, i ≠ j → zFv σ' ci i a = zFv σ ci i a) : (zFs σ ci a).set j v = zFs σ' ci a := by
  apply List.ext_getElem?
  intro i
  rw [List.getElem?_set]
  by_cases hi : i < zNf ci
  · by_cases hj : j = i
    · subst hj
      rw [if_pos rfl, if_pos (by rw [zFs_len]; exact hi), zFs_get hi, hv]
    · rw [if_neg hj, zFs_get hi, zFs_get hi, ho i (Ne.symm hj)]
  · have h1 : (zFs σ' ci a)[i]? = none := List.getElem?_eq_none (by rw [zFs_len]; omega)
    have h2 : (zFs σ ci a)[i]? = none := List.getElem?_eq_none (by rw [zFs_len]; omega)
    rw [h1, h2]
    by_cases hj : j = i
    · rw [if_pos hj, if_neg (by rw [zFs_len]; omega)]
    · rw [if_neg hj]
theorem zFs_cong {σ σ' : St} {ci a : Nat} (h : ∀ j, zFv σ' ci j a = zFv σ ci j a) : zFs σ' ci a = zFs σ ci a := by
  unfold zFs
  exact congrArg (fun f => (List.range (zNf ci)).map f) (funext h)
/-- a state that differs in the fields of one object alone -/
theorem cell_put {cy : Nat → ClassId} {σ σ' : St} {a ci j : Nat} {v : Value} (hk : zK σ a = ci + 1) (hc : ci < 17) (h1 : zK σ' = zK σ) (h2 : zL σ' = zL σ) (h3 : zAi σ' = zAi σ) (h4 : zAj σ' = zAj σ) (h5 : zAd σ' = zAd σ) (h6 : zAr σ' = zAr σ)
    (hv : zFv σ' ci j a = v) (ho : ∀ i, i ≠ j → zFv σ' ci i a = zFv σ ci i a) (hb : ∀ b, b ≠ a → ∀ c i, zFv σ' c i b = zFv σ c i b) (b : Nat) : va_up (zCe cy σ) a (.inr (ci, (zFs σ ci a).set j v)) b = zCe cy σ' b := by
  unfold va_up
  by_cases e : b = a
  · subst e
    rw [if_pos rfl, zCe_obj (σ := σ') (by rw [h1]; exact hk) hc, zFs_set hv ho]
  · rw [if_neg e]
    unfold zCe
    rw [h1, h2, h3, h4, h5, h6, zFs_cong (hb b e _)]
theorem fv_i {σ : St} {ci j a : Nat} (h : zFt ci j = 0) : zFv σ ci j a = .int (zFi σ (64 * ci + j) a) := by unfold zFv; rw [if_pos h]
theorem fv_j {σ : St} {ci j a : Nat} (h : zFt ci j = 1) : zFv σ ci j a = .long (zFj σ (64 * ci + j) a) := by unfold zFv; rw [if_neg (by rw [h]; decide), if_pos h]
theorem fv_r {σ : St} {ci j a : Nat} (h : zFt ci j = 2) : zFv σ ci j a = va_rf (zFr σ (64 * ci + j) a) := by unfold zFv; rw [if_neg (by rw [h]; decide), if_neg (by rw [h]; decide)]
theorem cell_i {cy : Nat → ClassId} {σ : St} {a ci j : Nat} {v : Int32} (hk : zK σ a = ci + 1) (hc : ci < 17) (ht : zFt ci j = 0) (b : Nat) : va_up (zCe cy σ) a (.inr (ci, (zFs σ ci a).set j (.int v))) b = zCe cy (uFi σ (64 * ci + j) a v) b := by
  refine cell_put (σ' := uFi σ (64 * ci + j) a v) hk hc rfl rfl rfl rfl rfl rfl ?_ (fun i hi => ?_) (fun b hb c i => ?_) b
  · rw [fv_i ht]; exact congrArg Value.int up2_eq
  · unfold zFv; rw [show zFi (uFi σ (64 * ci + j) a v) (64 * ci + i) a = zFi σ (64 * ci + i) a from up2_ne (by omega)]; rfl
  · unfold zFv; rw [show zFi (uFi σ (64 * ci + j) a v) (64 * c + i) b = zFi σ (64 * c + i) b from up2_ne (fun h => hb h.2)]; rfl
theorem cell_j {cy : Nat → ClassId} {σ : St} {a ci j : Nat} {v : Int64} (hk : zK σ a = ci + 1) (hc : ci < 17) (ht : zFt ci j = 1) (b : Nat) : va_up (zCe cy σ) a (.inr (ci, (zFs σ ci a).set j (.long v))) b = zCe cy (uFj σ (64 * ci + j) a v) b := by
  refine cell_put (σ' := uFj σ (64 * ci + j) a v) hk hc rfl rfl rfl rfl rfl rfl ?_ (fun i hi => ?_) (fun b hb c i => ?_) b
  · rw [fv_j ht]; exact congrArg Value.long up2_eq
  · unfold zFv; rw [show zFj (uFj σ (64 * ci + j) a v) (64 * ci + i) a = zFj σ (64 * ci + i) a from up2_ne (by omega)]; rfl
  · unfold zFv; rw [show zFj (uFj σ (64 * ci + j) a v) (64 * c + i) b = zFj σ (64 * c + i) b from up2_ne (fun h => hb h.2)]; rfl
theorem cell_r {cy : Nat → ClassId} {σ : St} {a ci j : Nat} {v : Option Nat} (hk : zK σ a = ci + 1) (hc : ci < 17) (ht : zFt ci j = 2) (b : Nat) : va_up (zCe cy σ) a (.inr (ci, (zFs σ ci a).set j (va_rf v))) b = zCe cy (uFr σ (64 * ci + j) a v) b := by
  refine cell_put (σ' := uFr σ (64 * ci + j) a v) hk hc rfl rfl rfl rfl rfl rfl ?_ (fun i hi => ?_) (fun b hb c i => ?_) b
  · rw [fv_r ht]; exact congrArg va_rf up2_eq
  · unfold zFv; rw [show zFr (uFr σ (64 * ci + j) a v) (64 * ci + i) a = zFr σ (64 * ci + i) a from up2_ne (by omega)]; rfl
  · unfold zFv; rw [show zFr (uFr σ (64 * ci + j) a v) (64 * c + i) b = zFr σ (64 * c + i) b from up2_ne (fun h => hb h.2)]; rfl
/-- a class, and a link to one of its fields -/
def zC (ci : Nat) : Prop := ci < 17 ∧ ∃ (C : String) (T : u_T) (N : Nat) (ty : Nat → FieldType), vwCl[ci]? = some (C, T, N) ∧ zTy[ci]? = some ty ∧ (∀ w ∈ u_ws C T N, w ∈ tbG) ∧ (∀ k, k < N → parseFieldDescriptor (T k).2.2.1 = some (ty k)) ∧ (∀ a, a < N → ∀ b, b < N → a ≠ b → (T a).2.1 ≠ (T b).2.1)
def zF (own : String) (idx ci j : Nat) (ty : FieldType) (fin : Bool) : Prop := zC ci ∧ ∃ (C : String) (T : u_T) (N : Nat), vwCl[ci]? = some (C, T, N) ∧ j < N ∧ parseFieldDescriptor (T j).2.2.1 = some ty ∧ (T j).2.2.2 = fin ∧ (Cond.fieldLink own idx (T j).1 (T j).2.1 (T j).2.2.1 ∈ tbG ∨ ∃ host, Cond.fieldLinkNest own idx (T j).1 (T j).2.1 (T j).2.2.1 host ∈ tbN)
def zFo (own : String) (idx ci j : Nat) (ty : FieldType) : Prop := zC ci ∧ ∃ (C : String) (T : u_T) (N : Nat), vwCl[ci]? = some (C, T, N) ∧ j < N ∧ parseFieldDescriptor (T j).2.2.1 = some ty ∧ (T j).2.2.2 = true ∧ (T j).1 = own ∧ Cond.fieldLink own idx (T j).1 (T j).2.1 (T j).2.2.1 ∈ tbG
section R6
variable {Γ : hCT} {own : String} {cc : ByteArray} {ret : Option FieldType} {nm : String} {fr lo k n pc : Nat} {lv : List (Nat × Value)} {st : List Value} {σ : St}
theorem g_get {a ci j idx : Nat} {ty : FieldType} {fin : Bool} {v : Value} (C : hC Γ own cc ret nm fr lo) (F : zF own idx ci j ty fin) (d : decode cc pc = .ok (.getfield idx, 3)) (hk : zK σ a = ci + 1) (hv : zFv σ ci j a = v) (kk : hW Γ k n (pc + 3) lv (v :: st) σ) : hW Γ k n pc lv (.ref a :: st) σ := by
  obtain ⟨p, l, e, R, s, m, args, below, meth, c, G, nL, mc, ms, Q⟩ := Γ
  intro H locs ls hr hs hl
  obtain ⟨⟨hci, C0, T0, N0, ty0, q1, q2, q3, q4, q5⟩, C1, T1, N1, f1, f2, f3, f4, f6⟩ := F
  cases q1.symm.trans f1
  have hX := C.2.2.2.2.1
  have hts : ∀ w ∈ tbG, w.before args s = true := fun w hw => tb_word hX hw args
  have hP := hR_rd hr (by rw [hk]; omega) (zCe_obj hk hci)
  have hN : j < zNf ci := by unfold zNf; rw [f1]; exact f2
  rcases f6 with f6 | ⟨host, f6⟩
  · exact va_get C.1 C.2.1 hts q3 C.2.2.2.1 hX.2.2.2.1 hP 0 rfl f1 j f2 (hts _ f6) (fun _ h => h) (by rw [zFs_get hN, hv]) d (kk H locs ls hr hs hl)
  · exact va_getN C.1 C.2.1 hts q3 C.2.2.2.1 hX.2.2.2.1 hP 0 rfl f1 j f2 (va_Nw.use rfl (hX.2.1 _ f6)) (fun _ h => h) (by rw [zFs_get hN, hv]) d (kk H locs ls hr hs hl)
theorem g_put {σ' : St} {a ci j idx : Nat} {ty : FieldType} {v : Value} (C : hC Γ own cc ret nm fr lo) (F : zF own idx ci j ty false) (d : decode cc pc = .ok (.putfield idx, 3)) (hk : zK σ a = ci + 1) (hn : narrow ty v = v) (hf : fits ty v = true) (hz : zK σ' = zK σ) (he : ∀ (cy : Nat → ClassId) (b : Nat), va_up (zCe cy σ) a (.inr (ci, (zFs σ ci a).set j v)) b = zCe cy σ' b) (kk : hW Γ k n (pc + 3) lv st σ') : hW Γ k n pc lv (v :: .ref a :: st) σ := by
  obtain ⟨p, l, e, R, s, m, args, below, meth, c, G, nL, mc, ms, Q⟩ := Γ
  intro H locs ls hr hs hl
  obtain ⟨⟨hci, C0, T0, N0, ty0, q1, q2, q3, q4, q5⟩, C1, T1, N1, f1, f2, f3, f4, f6⟩ := F
  cases q1.symm.trans f1
  have hX := C.2.2.2.2.1
  have hts : ∀ w ∈ tbG, w.before args s = true := fun w hw => tb_word hX hw args
  obtain ⟨L, hL, hP, hD⟩ := hr
  have hk0 : zK σ a ≠ 0 := by rw [hk]; omega
  have hN : j < zNf ci := by unfold zNf; rw [f1]; exact f2
  obtain ⟨q, hq⟩ := va_pl_get (X := []) (f := zCe G.cy σ) ((hL a).mpr hk0)
  have hq : (va_pl L (zCe G.cy σ))[q]? = some (a, zCe G.cy σ a) := hq
  have hq2 := hq
  rw [zCe_obj hk hci] at hq2
  rcases f6 with f6 | ⟨host, f6⟩
  · exact va_put C.1 C.2.1 hts q3 ty0 q4 q5 C.2.2.2.1 hX.2.2.2.1 hP hD hs q hq2 f1 j f2 (hts _ f6) (fun _ h => h) f4 f3 hn hf (by rw [zFs_len]; exact hN) d (fun H1 locs1 hP1 hD1 hs1 => kk H1 locs1 ls (hR_set hL hD hk0 hq hP1 hD1 (he G.cy) (fun b => by rw [hz])) hs1 hl)
  · exact va_putN C.1 C.2.1 hts q3 ty0 q4 q5 C.2.2.2.1 hX.2.2.2.1 hP hD hs q hq2 f1 j f2 (va_Nw.use rfl (hX.2.1 _ f6)) (fun _ h => h) f4 f3 hn hf (by rw [zFs_len]; exact hN) d (fun H1 locs1 hP1 hD1 hs1 => kk H1 locs1 ls (hR_set hL hD hk0 hq hP1 hD1 (he G.cy) (fun b => by rw [hz])) hs1 hl)
theorem g_putF {σ' : St} {a ci j idx : Nat} {ty : FieldType} {v : Value} (C : hC Γ own cc ret "<init>" fr lo) (F : zFo own idx ci j ty) (d : decode cc pc = .ok (.putfield idx, 3)) (hk : zK σ a = ci + 1) (hn : narrow ty v = v) (hf : fits ty v = true) (hz : zK σ' = zK σ) (he : ∀ (cy : Nat → ClassId) (b : Nat), va_up (zCe cy σ) a (.inr (ci, (zFs σ ci a).set j v)) b = zCe cy σ' b) (kk : hW Γ k n (pc + 3) lv st σ') : hW Γ k n pc lv (v :: .ref a :: st) σ := by
  obtain ⟨p, l, e, R, s, m, args, below, meth, c, G, nL, mc, ms, Q⟩ := Γ
  intro H locs ls hr hs hl
  obtain ⟨⟨hci, C0, T0, N0, ty0, q1, q2, q3, q4, q5⟩, C1, T1, N1, f1, f2, f3, f4, f5, f6⟩ := F
  cases q1.symm.trans f1
  have hX := C.2.2.2.2.1
  have hts : ∀ w ∈ tbG, w.before args s = true := fun w hw => tb_word hX hw args
  obtain ⟨L, hL, hP, hD⟩ := hr
  have hk0 : zK σ a ≠ 0 := by rw [hk]; omega
  have hN : j < zNf ci := by unfold zNf; rw [f1]; exact f2
  obtain ⟨q, hq⟩ := va_pl_get (X := []) (f := zCe G.cy σ) ((hL a).mpr hk0)
  have hq : (va_pl L (zCe G.cy σ))[q]? = some (a, zCe G.cy σ a) := hq
  have hq2 := hq
  rw [zCe_obj hk hci] at hq2
  exact va_putF C.1 C.2.1 hts q3 ty0 q4 q5 C.2.2.2.1 hX.2.2.2.1 hP hD hs q hq2 f1 j f2 (hts _ f6) (fun _ h => h) f4 C.2.2.2.2.2.2.2.2.1 f5 f3 hn hf (by rw [zFs_len]; exact hN) d (fun H1 locs1 hP1 hD1 hs1 => kk H1 locs1 ls (hR_set hL hD hk0 hq hP1 hD1 (he G.cy) (fun b => by rw [hz])) hs1 hl)
theorem g_getI {a ci j idx g : Nat} {ty : FieldType} {fin : Bool} (C : hC Γ own cc ret nm fr lo) (F : zF own idx ci j ty fin) (d : decode cc pc = .ok (.getfield idx, 3)) (hk : zK σ a = ci + 1) (ht : zFt ci j = 0) (hg : 64 * ci + j = g) (kk : hW Γ k n (pc + 3) lv (.int (zFi σ g a) :: st) σ) : hW Γ k n pc lv (.ref a :: st) σ := g_get C F d hk (by rw [fv_i ht, hg]) kk
theorem g_getJ {a ci j idx g : Nat} {ty : FieldType} {fin : Bool} (C : hC Γ own cc ret nm fr lo) (F : zF own idx ci j ty fin) (d : decode cc pc = .ok (.getfield idx, 3)) (hk : zK σ a = ci + 1) (ht : zFt ci j = 1) (hg : 64 * ci + j = g) (kk : hW Γ k n (pc + 3) lv (.long (zFj σ g a) :: st) σ) : hW Γ k n pc lv (.ref a :: st) σ := g_get C F d hk (by rw [fv_j ht, hg]) kk
theorem g_getR {a ci j idx g : Nat} {ty : FieldType} {fin : Bool} (x : Option Nat) (C : hC Γ own cc ret nm fr lo) (F : zF own idx ci j ty fin) (d : decode cc pc = .ok (.getfield idx, 3)) (hk : zK σ a = ci + 1) (ht : zFt ci j = 2) (hg : 64 * ci + j = g) (hx : zFr σ g a = x) (kk : hW Γ k n (pc + 3) lv (va_rf x :: st) σ) : hW Γ k n pc lv (.ref a :: st) σ := g_get C F d hk (by rw [fv_r ht, hg, hx]) kk
theorem g_putI {a ci j idx g : Nat} {x : Int32} {ty : FieldType} (C : hC Γ own cc ret nm fr lo) (F : zF own idx ci j ty false) (d : decode cc pc = .ok (.putfield idx, 3)) (hk : zK σ a = ci + 1) (ht : zFt ci j = 0) (hg : 64 * ci + j = g) (hn : narrow ty (.int x) = .int x) (hf : fits ty (.int x) = true) (kk : hW Γ k n (pc + 3) lv st (uFi σ g a x)) : hW Γ k n pc lv (.int x :: .ref a :: st) σ := by
  subst hg
  exact g_put (σ' := uFi σ (64 * ci + j) a x) C F d hk hn hf rfl (fun cy b => cell_i hk F.1.1 ht b) kk
theorem g_putJ {a ci j idx g : Nat} {x : Int64} {ty : FieldType} (C : hC Γ own cc ret nm fr lo) (F : zF own idx ci j ty false) (d : decode cc pc = .ok (.putfield idx, 3)) (hk : zK σ a = ci + 1) (ht : zFt ci j = 1) (hg : 64 * ci + j = g) (hn : narrow ty (.long x) = .long x) (hf : fits ty (.long x) = true) (kk : hW Γ k n (pc + 3) lv st (uFj σ g a x)) : hW Γ k n pc lv (.long x :: .ref a :: st) σ := by
  subst hg
  exact g_put (σ' := uFj σ (64 * ci + j) a x) C F d hk hn hf rfl (fun cy b => cell_j hk F.1.1 ht b) kk
theorem g_putR {a ci j idx g : Nat} (x : Option Nat) {ty : FieldType} (C : hC Γ own cc ret nm fr lo) (F : zF own idx ci j ty false) (d : decode cc pc = .ok (.putfield idx, 3)) (hk : zK σ a = ci + 1) (ht : zFt ci j = 2) (hg : 64 * ci + j = g) (hn : narrow ty (va_rf x) = va_rf x) (hf : fits ty (va_rf x) = true) (kk : hW Γ k n (pc + 3) lv st (uFr σ g a x)) : hW Γ k n pc lv (va_rf x :: .ref a :: st) σ := by
  subst hg
  exact g_put (σ' := uFr σ (64 * ci + j) a x) C F d hk hn hf rfl (fun cy b => cell_r hk F.1.1 ht b) kk
theorem g_putFI {a ci j idx g : Nat} {x : Int32} {ty : FieldType} (C : hC Γ own cc ret "<init>" fr lo) (F : zFo own idx ci j ty) (d : decode cc pc = .ok (.putfield idx, 3)) (hk : zK σ a = ci + 1) (ht : zFt ci j = 0) (hg : 64 * ci + j = g) (hn : narrow ty (.int x) = .int x) (hf : fits ty (.int x) = true) (kk : hW Γ k n (pc + 3) lv st (uFi σ g a x)) : hW Γ k n pc lv (.int x :: .ref a :: st) σ := by
  subst hg
  exact g_putF (σ' := uFi σ (64 * ci + j) a x) C F d hk hn hf rfl (fun cy b => cell_i hk F.1.1 ht b) kk
theorem g_putFJ {a ci j idx g : Nat} {x : Int64} {ty : FieldType} (C : hC Γ own cc ret "<init>" fr lo) (F : zFo own idx ci j ty) (d : decode cc pc = .ok (.putfield idx, 3)) (hk : zK σ a = ci + 1) (ht : zFt ci j = 1) (hg : 64 * ci + j = g) (hn : narrow ty (.long x) = .long x) (hf : fits ty (.long x) = true) (kk : hW Γ k n (pc + 3) lv st (uFj σ g a x)) : hW Γ k n pc lv (.long x :: .ref a :: st) σ := by
  subst hg
  exact g_putF (σ' := uFj σ (64 * ci + j) a x) C F d hk hn hf rfl (fun cy b => cell_j hk F.1.1 ht b) kk
theorem g_putFR {a ci j idx g : Nat} (x : Option Nat) {ty : FieldType} (C : hC Γ own cc ret "<init>" fr lo) (F : zFo own idx ci j ty) (d : decode cc pc = .ok (.putfield idx, 3)) (hk : zK σ a = ci + 1) (ht : zFt ci j = 2) (hg : 64 * ci + j = g) (hn : narrow ty (va_rf x) = va_rf x) (hf : fits ty (va_rf x) = true) (kk : hW Γ k n (pc + 3) lv st (uFr σ g a x)) : hW Γ k n pc lv (va_rf x :: .ref a :: st) σ := by
  subst hg
  exact g_putF (σ' := uFr σ (64 * ci + j) a x) C F d hk hn hf rfl (fun cy b => cell_r hk F.1.1 ht b) kk
end R6
