/-! what a change leaves as it was -/
theorem zK_uFi (σ : St) (g a : Nat) (v : Int32) : zK (uFi σ g a v) = zK σ := rfl
theorem zL_uFi (σ : St) (g a : Nat) (v : Int32) : zL (uFi σ g a v) = zL σ := rfl
theorem zFj_uFi (σ : St) (g a : Nat) (v : Int32) : zFj (uFi σ g a v) = zFj σ := rfl
theorem zFr_uFi (σ : St) (g a : Nat) (v : Int32) : zFr (uFi σ g a v) = zFr σ := rfl
theorem zAi_uFi (σ : St) (g a : Nat) (v : Int32) : zAi (uFi σ g a v) = zAi σ := rfl
theorem zAj_uFi (σ : St) (g a : Nat) (v : Int32) : zAj (uFi σ g a v) = zAj σ := rfl
theorem zAd_uFi (σ : St) (g a : Nat) (v : Int32) : zAd (uFi σ g a v) = zAd σ := rfl
theorem zAr_uFi (σ : St) (g a : Nat) (v : Int32) : zAr (uFi σ g a v) = zAr σ := rfl
theorem zFi_uFi (σ : St) (g a : Nat) (v : Int32) : zFi (uFi σ g a v) = up2 (zFi σ) g a v := rfl
theorem zK_uFj (σ : St) (g a : Nat) (v : Int64) : zK (uFj σ g a v) = zK σ := rfl
theorem zL_uFj (σ : St) (g a : Nat) (v : Int64) : zL (uFj σ g a v) = zL σ := rfl
theorem zFi_uFj (σ : St) (g a : Nat) (v : Int64) : zFi (uFj σ g a v) = zFi σ := rfl
theorem zFr_uFj (σ : St) (g a : Nat) (v : Int64) : zFr (uFj σ g a v) = zFr σ := rfl
theorem zAi_uFj (σ : St) (g a : Nat) (v : Int64) : zAi (uFj σ g a v) = zAi σ := rfl
theorem zAj_uFj (σ : St) (g a : Nat) (v : Int64) : zAj (uFj σ g a v) = zAj σ := rfl
theorem zAd_uFj (σ : St) (g a : Nat) (v : Int64) : zAd (uFj σ g a v) = zAd σ := rfl
theorem zAr_uFj (σ : St) (g a : Nat) (v : Int64) : zAr (uFj σ g a v) = zAr σ := rfl
theorem zFj_uFj (σ : St) (g a : Nat) (v : Int64) : zFj (uFj σ g a v) = up2 (zFj σ) g a v := rfl
theorem zK_uFr (σ : St) (g a : Nat) (v : Option Nat) : zK (uFr σ g a v) = zK σ := rfl
theorem zL_uFr (σ : St) (g a : Nat) (v : Option Nat) : zL (uFr σ g a v) = zL σ := rfl
theorem zFi_uFr (σ : St) (g a : Nat) (v : Option Nat) : zFi (uFr σ g a v) = zFi σ := rfl
theorem zFj_uFr (σ : St) (g a : Nat) (v : Option Nat) : zFj (uFr σ g a v) = zFj σ := rfl
theorem zAi_uFr (σ : St) (g a : Nat) (v : Option Nat) : zAi (uFr σ g a v) = zAi σ := rfl
theorem zAj_uFr (σ : St) (g a : Nat) (v : Option Nat) : zAj (uFr σ g a v) = zAj σ := rfl
theorem zAd_uFr (σ : St) (g a : Nat) (v : Option Nat) : zAd (uFr σ g a v) = zAd σ := rfl
theorem zAr_uFr (σ : St) (g a : Nat) (v : Option Nat) : zAr (uFr σ g a v) = zAr σ := rfl
theorem zFr_uFr (σ : St) (g a : Nat) (v : Option Nat) : zFr (uFr σ g a v) = up2 (zFr σ) g a v := rfl
theorem zK_uAi (σ : St) (g a : Nat) (v : Int32) : zK (uAi σ g a v) = zK σ := rfl
theorem zL_uAi (σ : St) (g a : Nat) (v : Int32) : zL (uAi σ g a v) = zL σ := rfl
theorem zFi_uAi (σ : St) (g a : Nat) (v : Int32) : zFi (uAi σ g a v) = zFi σ := rfl
theorem zFj_uAi (σ : St) (g a : Nat) (v : Int32) : zFj (uAi σ g a v) = zFj σ := rfl
theorem zFr_uAi (σ : St) (g a : Nat) (v : Int32) : zFr (uAi σ g a v) = zFr σ := rfl
theorem zAj_uAi (σ : St) (g a : Nat) (v : Int32) : zAj (uAi σ g a v) = zAj σ := rfl
theorem zAd_uAi (σ : St) (g a : Nat) (v : Int32) : zAd (uAi σ g a v) = zAd σ := rfl
theorem zAr_uAi (σ : St) (g a : Nat) (v : Int32) : zAr (uAi σ g a v) = zAr σ := rfl
theorem zAi_uAi (σ : St) (g a : Nat) (v : Int32) : zAi (uAi σ g a v) = up2 (zAi σ) g a v := rfl
theorem zK_uAj (σ : St) (g a : Nat) (v : Int64) : zK (uAj σ g a v) = zK σ := rfl
theorem zL_uAj (σ : St) (g a : Nat) (v : Int64) : zL (uAj σ g a v) = zL σ := rfl
theorem zFi_uAj (σ : St) (g a : Nat) (v : Int64) : zFi (uAj σ g a v) = zFi σ := rfl
theorem zFj_uAj (σ : St) (g a : Nat) (v : Int64) : zFj (uAj σ g a v) = zFj σ := rfl
theorem zFr_uAj (σ : St) (g a : Nat) (v : Int64) : zFr (uAj σ g a v) = zFr σ := rfl
theorem zAi_uAj (σ : St) (g a : Nat) (v : Int64) : zAi (uAj σ g a v) = zAi σ := rfl
theorem zAd_uAj (σ : St) (g a : Nat) (v : Int64) : zAd (uAj σ g a v) = zAd σ := rfl
theorem zAr_uAj (σ : St) (g a : Nat) (v : Int64) : zAr (uAj σ g a v) = zAr σ := rfl
theorem zAj_uAj (σ : St) (g a : Nat) (v : Int64) : zAj (uAj σ g a v) = up2 (zAj σ) g a v := rfl
theorem zK_uAd (σ : St) (g a : Nat) (v : UInt64) : zK (uAd σ g a v) = zK σ := rfl
theorem zL_uAd (σ : St) (g a : Nat) (v : UInt64) : zL (uAd σ g a v) = zL σ := rfl
theorem zFi_uAd (σ : St) (g a : Nat) (v : UInt64) : zFi (uAd σ g a v) = zFi σ := rfl
theorem zFj_uAd (σ : St) (g a : Nat) (v : UInt64) : zFj (uAd σ g a v) = zFj σ := rfl
theorem zFr_uAd (σ : St) (g a : Nat) (v : UInt64) : zFr (uAd σ g a v) = zFr σ := rfl
theorem zAi_uAd (σ : St) (g a : Nat) (v : UInt64) : zAi (uAd σ g a v) = zAi σ := rfl
theorem zAj_uAd (σ : St) (g a : Nat) (v : UInt64) : zAj (uAd σ g a v) = zAj σ := rfl
theorem zAr_uAd (σ : St) (g a : Nat) (v : UInt64) : zAr (uAd σ g a v) = zAr σ := rfl
theorem zAd_uAd (σ : St) (g a : Nat) (v : UInt64) : zAd (uAd σ g a v) = up2 (zAd σ) g a v := rfl
theorem zK_uAr (σ : St) (g a : Nat) (v : Option Nat) : zK (uAr σ g a v) = zK σ := rfl
theorem zL_uAr (σ : St) (g a : Nat) (v : Option Nat) : zL (uAr σ g a v) = zL σ := rfl
theorem zFi_uAr (σ : St) (g a : Nat) (v : Option Nat) : zFi (uAr σ g a v) = zFi σ := rfl
theorem zFj_uAr (σ : St) (g a : Nat) (v : Option Nat) : zFj (uAr σ g a v) = zFj σ := rfl
theorem zFr_uAr (σ : St) (g a : Nat) (v : Option Nat) : zFr (uAr σ g a v) = zFr σ := rfl
theorem zAi_uAr (σ : St) (g a : Nat) (v : Option Nat) : zAi (uAr σ g a v) = zAi σ := rfl
theorem zAj_uAr (σ : St) (g a : Nat) (v : Option Nat) : zAj (uAr σ g a v) = zAj σ := rfl
theorem zAd_uAr (σ : St) (g a : Nat) (v : Option Nat) : zAd (uAr σ g a v) = zAd σ := rfl
theorem zAr_uAr (σ : St) (g a : Nat) (v : Option Nat) : zAr (uAr σ g a v) = up2 (zAr σ) g a v := rfl
theorem zK_uCi (σ : St) (a sp b dp n : Nat) : zK (uCi σ a sp b dp n) = zK σ := rfl
theorem zL_uCi (σ : St) (a sp b dp n : Nat) : zL (uCi σ a sp b dp n) = zL σ := rfl
theorem zFi_uCi (σ : St) (a sp b dp n : Nat) : zFi (uCi σ a sp b dp n) = zFi σ := rfl
theorem zFj_uCi (σ : St) (a sp b dp n : Nat) : zFj (uCi σ a sp b dp n) = zFj σ := rfl
theorem zFr_uCi (σ : St) (a sp b dp n : Nat) : zFr (uCi σ a sp b dp n) = zFr σ := rfl
theorem zAj_uCi (σ : St) (a sp b dp n : Nat) : zAj (uCi σ a sp b dp n) = zAj σ := rfl
theorem zAd_uCi (σ : St) (a sp b dp n : Nat) : zAd (uCi σ a sp b dp n) = zAd σ := rfl
theorem zAr_uCi (σ : St) (a sp b dp n : Nat) : zAr (uCi σ a sp b dp n) = zAr σ := rfl
theorem zK_uCj (σ : St) (a sp b dp n : Nat) : zK (uCj σ a sp b dp n) = zK σ := rfl
theorem zL_uCj (σ : St) (a sp b dp n : Nat) : zL (uCj σ a sp b dp n) = zL σ := rfl
theorem zFi_uCj (σ : St) (a sp b dp n : Nat) : zFi (uCj σ a sp b dp n) = zFi σ := rfl
theorem zFj_uCj (σ : St) (a sp b dp n : Nat) : zFj (uCj σ a sp b dp n) = zFj σ := rfl
theorem zFr_uCj (σ : St) (a sp b dp n : Nat) : zFr (uCj σ a sp b dp n) = zFr σ := rfl
theorem zAi_uCj (σ : St) (a sp b dp n : Nat) : zAi (uCj σ a sp b dp n) = zAi σ := rfl
theorem zAd_uCj (σ : St) (a sp b dp n : Nat) : zAd (uCj σ a sp b dp n) = zAd σ := rfl
theorem zAr_uCj (σ : St) (a sp b dp n : Nat) : zAr (uCj σ a sp b dp n) = zAr σ := rfl
theorem zK_uCx (σ : St) (f : Nat → Int64) (sp b dp n : Nat) : zK (uCx σ f sp b dp n) = zK σ := rfl
theorem zL_uCx (σ : St) (f : Nat → Int64) (sp b dp n : Nat) : zL (uCx σ f sp b dp n) = zL σ := rfl
theorem zFi_uCx (σ : St) (f : Nat → Int64) (sp b dp n : Nat) : zFi (uCx σ f sp b dp n) = zFi σ := rfl
theorem zFj_uCx (σ : St) (f : Nat → Int64) (sp b dp n : Nat) : zFj (uCx σ f sp b dp n) = zFj σ := rfl
theorem zFr_uCx (σ : St) (f : Nat → Int64) (sp b dp n : Nat) : zFr (uCx σ f sp b dp n) = zFr σ := rfl
theorem zAi_uCx (σ : St) (f : Nat → Int64) (sp b dp n : Nat) : zAi (uCx σ f sp b dp n) = zAi σ := rfl
theorem zAd_uCx (σ : St) (f : Nat → Int64) (sp b dp n : Nat) : zAd (uCx σ f sp b dp n) = zAd σ := rfl
theorem zAr_uCx (σ : St) (f : Nat → Int64) (sp b dp n : Nat) : zAr (uCx σ f sp b dp n) = zAr σ := rfl
section R15
variable {Γ : hCT} {own : String} {cc : ByteArray} {ret : Option FieldType} {nm : String} {fr lo k n pc : Nat} {lv : List (Nat × Value)} {st : List Value} {σ : St}
theorem g_getIx {a ci j idx g : Nat} {ty : FieldType} {fin : Bool} (x : Int32) (C : hC Γ own cc ret nm fr lo) (F : zF own idx ci j ty fin) (d : decode cc pc = .ok (.getfield idx, 3)) (hk : zK σ a = ci + 1) (ht : zFt ci j = 0) (hg : 64 * ci + j = g) (hx : zFi σ g a = x) (kk : hW Γ k n (pc + 3) lv (.int x :: st) σ) : hW Γ k n pc lv (.ref a :: st) σ := by subst hx; exact g_getI C F d hk ht hg kk
theorem g_getJx {a ci j idx g : Nat} {ty : FieldType} {fin : Bool} (x : Int64) (C : hC Γ own cc ret nm fr lo) (F : zF own idx ci j ty fin) (d : decode cc pc = .ok (.getfield idx, 3)) (hk : zK σ a = ci + 1) (ht : zFt ci j = 1) (hg : 64 * ci + j = g) (hx : zFj σ g a = x) (kk : hW Γ k n (pc + 3) lv (.long x :: st) σ) : hW Γ k n pc lv (.ref a :: st) σ := by subst hx; exact g_getJ C F d hk ht hg kk
theorem g_ialdx {a : Nat} {i : Int32} (x : Int32) (C : hC Γ own cc ret nm fr lo) (d : decode cc pc = .ok (.iaload, 1)) (hk : zK σ a = 20) (hi : vp_in i (zL σ a)) (hx : zAi σ a (ix i) = x) (kk : hW Γ k n (pc + 1) lv (.int x :: st) σ) : hW Γ k n pc lv (.int i :: .ref a :: st) σ := by subst hx; exact g_iald C d hk hi kk
theorem g_zaldx {a : Nat} {i : Int32} (x : Int32) (C : hC Γ own cc ret nm fr lo) (d : decode cc pc = .ok (.baload, 1)) (hk : zK σ a = 23) (hi : vp_in i (zL σ a)) (hx : zAi σ a (ix i) = x) (kk : hW Γ k n (pc + 1) lv (.int x :: st) σ) : hW Γ k n pc lv (.int i :: .ref a :: st) σ := by subst hx; exact g_zald C d hk hi kk
theorem g_laldx {a : Nat} {i : Int32} (x : Int64) (C : hC Γ own cc ret nm fr lo) (d : decode cc pc = .ok (.laload, 1)) (hk : zK σ a = 21) (hi : vp_in i (zL σ a)) (hx : zAj σ a (ix i) = x) (kk : hW Γ k n (pc + 1) lv (.long x :: st) σ) : hW Γ k n pc lv (.int i :: .ref a :: st) σ := by subst hx; exact g_lald C d hk hi kk
theorem g_daldx {a : Nat} {i : Int32} (x : UInt64) (C : hC Γ own cc ret nm fr lo) (d : decode cc pc = .ok (.daload, 1)) (hk : zK σ a = 22) (hi : vp_in i (zL σ a)) (hx : zAd σ a (ix i) = x) (kk : hW Γ k n (pc + 1) lv (.double x :: st) σ) : hW Γ k n pc lv (.int i :: .ref a :: st) σ := by subst hx; exact g_dald C d hk hi kk
end R15
