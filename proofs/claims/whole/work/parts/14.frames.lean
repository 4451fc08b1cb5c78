/-! LEVEL 2. Frames: what a change may touch; addresses go by names: ct x is the kind of place that x is -/
abbrev Ad : Type := Nat → Nat → Nat → Nat
abbrev Ct : Type := Nat → Nat × Nat
def eqS (σ σ' : St) (x : Nat) : Prop := zK σ' x = zK σ x ∧ zL σ' x = zL σ x ∧ ∀ g, zFr σ' g x = zFr σ g x
def eqD (σ σ' : St) (x : Nat) : Prop := (∀ g, zFi σ' g x = zFi σ g x) ∧ (∀ g, zFj σ' g x = zFj σ g x) ∧ (∀ i, zAi σ' x i = zAi σ x i) ∧ (∀ i, zAj σ' x i = zAj σ x i) ∧ (∀ i, zAd σ' x i = zAd σ x i) ∧ ∀ i, zAr σ' x i = zAr σ x i
/-- what was there keeps its kind, its length and its links; and, outside of S, all that it holds -/
def Fr (ct : Ct) (S : Nat × Nat → Prop) (σ σ' : St) : Prop := ∀ x, zK σ x ≠ 0 → eqS σ σ' x ∧ (¬ S (ct x) → eqD σ σ' x)
theorem Fr.rf {ct : Ct} {S : Nat × Nat → Prop} {σ : St} : Fr ct S σ σ := fun x _ => ⟨⟨rfl, rfl, fun _ => rfl⟩, fun _ => ⟨fun _ => rfl, fun _ => rfl, fun _ => rfl, fun _ => rfl, fun _ => rfl, fun _ => rfl⟩⟩
theorem eqD.tr {a b c : St} {x : Nat} (h : eqD a b x) (k : eqD b c x) : eqD a c x := ⟨fun g => (k.1 g).trans (h.1 g), fun g => (k.2.1 g).trans (h.2.1 g), fun g => (k.2.2.1 g).trans (h.2.2.1 g), fun g => (k.2.2.2.1 g).trans (h.2.2.2.1 g), fun g => (k.2.2.2.2.1 g).trans (h.2.2.2.2.1 g), fun g => (k.2.2.2.2.2 g).trans (h.2.2.2.2.2 g)⟩
theorem Fr.tr {ct : Ct} {S S' : Nat × Nat → Prop} {a b c : St} (h : Fr ct S a b) (k : Fr ct S' b c) : Fr ct (fun p => S p ∨ S' p) a c := by
  intro x hx
  obtain ⟨⟨h1, h2, h3⟩, h4⟩ := h x hx
  obtain ⟨⟨k1, k2, k3⟩, k4⟩ := k x (by rw [h1]; exact hx)
  exact ⟨⟨k1.trans h1, k2.trans h2, fun g => (k3 g).trans (h3 g)⟩, fun hS => (h4 (fun q => hS (Or.inl q))).tr (k4 (fun q => hS (Or.inr q)))⟩
theorem Fr.mono {ct : Ct} {S S' : Nat × Nat → Prop} {a b : St} (h : Fr ct S a b) (hs : ∀ p, S p → S' p) : Fr ct S' a b := fun x hx => ⟨(h x hx).1, fun q => (h x hx).2 (fun z => q (hs _ z))⟩
theorem Fr.tr1 {ct : Ct} {S : Nat × Nat → Prop} {a b c : St} (h : Fr ct S a b) (k : Fr ct S b c) : Fr ct S a c := (h.tr k).mono (fun _ h => h.elim id id)
theorem Fr.tr2 {ct : Ct} {S S' T : Nat × Nat → Prop} {a b c : St} (h : Fr ct S a b) (k : Fr ct S' b c) (h1 : ∀ p, S p → T p) (h2 : ∀ p, S' p → T p) : Fr ct T a c := (h.mono h1).tr1 (k.mono h2)
theorem Fr.k {ct : Ct} {S : Nat × Nat → Prop} {a b : St} (h : Fr ct S a b) {x : Nat} (hx : zK a x ≠ 0) : zK b x = zK a x := (h x hx).1.1
theorem Fr.fresh {ct : Ct} {S : Nat × Nat → Prop} {a b : St} (h : Fr ct S a b) {x : Nat} (hx : zK b x = 0) : zK a x = 0 := by
  by_cases h0 : zK a x = 0
  · exact h0
  · exact ((h.k h0).symm.trans hx)
theorem eqD_uFi {σ0 σ : St} {x : Nat} (g a : Nat) (v : Int32) (h : x ≠ a) (q : eqD σ0 σ x) : eqD σ0 (uFi σ g a v) x := ⟨fun g2 => (if_neg (fun c => h c.2)).trans (q.1 g2), q.2.1, q.2.2.1, q.2.2.2.1, q.2.2.2.2.1, q.2.2.2.2.2⟩
theorem Fr.uFi {ct : Ct} {S : Nat × Nat → Prop} {σ0 σ : St} (g a : Nat) (v : Int32) (hf : Fr ct S σ0 σ) (hs : S (ct a) ∨ zK σ0 a = 0) : Fr ct S σ0 (uFi σ g a v) := by
  intro x hx
  obtain ⟨h1, h4⟩ := hf x hx
  refine ⟨h1, fun hS => eqD_uFi g a v (fun e => ?_) (h4 hS)⟩
  subst e
  rcases hs with hs | hs
  · exact hS hs
  · exact hx hs
theorem eqD_uFj {σ0 σ : St} {x : Nat} (g a : Nat) (v : Int64) (h : x ≠ a) (q : eqD σ0 σ x) : eqD σ0 (uFj σ g a v) x := ⟨q.1, fun g2 => (if_neg (fun c => h c.2)).trans (q.2.1 g2), q.2.2.1, q.2.2.2.1, q.2.2.2.2.1, q.2.2.2.2.2⟩
theorem Fr.uFj {ct : Ct} {S : Nat × Nat → Prop} {σ0 σ : St} (g a : Nat) (v : Int64) (hf : Fr ct S σ0 σ) (hs : S (ct a) ∨ zK σ0 a = 0) : Fr ct S σ0 (uFj σ g a v) := by
  intro x hx
  obtain ⟨h1, h4⟩ := hf x hx
  refine ⟨h1, fun hS => eqD_uFj g a v (fun e => ?_) (h4 hS)⟩
  subst e
  rcases hs with hs | hs
  · exact hS hs
  · exact hx hs
theorem eqD_uFr {σ0 σ : St} {x : Nat} (g a : Nat) (v : Option Nat) (h : x ≠ a) (q : eqD σ0 σ x) : eqD σ0 (uFr σ g a v) x := ⟨q.1, q.2.1, q.2.2.1, q.2.2.2.1, q.2.2.2.2.1, q.2.2.2.2.2⟩
theorem Fr.uFr {ct : Ct} {S : Nat × Nat → Prop} {σ0 σ : St} (g a : Nat) (v : Option Nat) (hf : Fr ct S σ0 σ) (hs : zK σ0 a = 0) : Fr ct S σ0 (uFr σ g a v) := by
  intro x hx
  obtain ⟨⟨k1, k2, k3⟩, h4⟩ := hf x hx
  have ha : x ≠ a := fun e => hx (e ▸ hs)
  exact ⟨⟨k1, k2, fun g2 => (if_neg (fun c => ha c.2)).trans (k3 g2)⟩, fun hS => eqD_uFr g a v ha (h4 hS)⟩
theorem eqD_uAi {σ0 σ : St} {x : Nat} (a i : Nat) (v : Int32) (h : x ≠ a) (q : eqD σ0 σ x) : eqD σ0 (uAi σ a i v) x := ⟨q.1, q.2.1, fun i2 => (if_neg (fun c => h c.1)).trans (q.2.2.1 i2), q.2.2.2.1, q.2.2.2.2.1, q.2.2.2.2.2⟩
theorem Fr.uAi {ct : Ct} {S : Nat × Nat → Prop} {σ0 σ : St} (a i : Nat) (v : Int32) (hf : Fr ct S σ0 σ) (hs : S (ct a) ∨ zK σ0 a = 0) : Fr ct S σ0 (uAi σ a i v) := by
  intro x hx
  obtain ⟨h1, h4⟩ := hf x hx
  refine ⟨h1, fun hS => eqD_uAi a i v (fun e => ?_) (h4 hS)⟩
  subst e
  rcases hs with hs | hs
  · exact hS hs
  · exact hx hs
theorem eqD_uAj {σ0 σ : St} {x : Nat} (a i : Nat) (v : Int64) (h : x ≠ a) (q : eqD σ0 σ x) : eqD σ0 (uAj σ a i v) x := ⟨q.1, q.2.1, q.2.2.1, fun i2 => (if_neg (fun c => h c.1)).trans (q.2.2.2.1 i2), q.2.2.2.2.1, q.2.2.2.2.2⟩
theorem Fr.uAj {ct : Ct} {S : Nat × Nat → Prop} {σ0 σ : St} (a i : Nat) (v : Int64) (hf : Fr ct S σ0 σ) (hs : S (ct a) ∨ zK σ0 a = 0) : Fr ct S σ0 (uAj σ a i v) := by
  intro x hx
  obtain ⟨h1, h4⟩ := hf x hx
  refine ⟨h1, fun hS => eqD_uAj a i v (fun e => ?_) (h4 hS)⟩
  subst e
  rcases hs with hs | hs
  · exact hS hs
  · exact hx hs
theorem eqD_uAd {σ0 σ : St} {x : Nat} (a i : Nat) (v : UInt64) (h : x ≠ a) (q : eqD σ0 σ x) : eqD σ0 (uAd σ a i v) x := ⟨q.1, q.2.1, q.2.2.1, q.2.2.2.1, fun i2 => (if_neg (fun c => h c.1)).trans (q.2.2.2.2.1 i2), q.2.2.2.2.2⟩
theorem Fr.uAd {ct : Ct} {S : Nat × Nat → Prop} {σ0 σ : St} (a i : Nat) (v : UInt64) (hf : Fr ct S σ0 σ) (hs : S (ct a) ∨ zK σ0 a = 0) : Fr ct S σ0 (uAd σ a i v) := by
  intro x hx
  obtain ⟨h1, h4⟩ := hf x hx
  refine ⟨h1, fun hS => eqD_uAd a i v (fun e => ?_) (h4 hS)⟩
  subst e
  rcases hs with hs | hs
  · exact hS hs
  · exact hx hs
theorem eqD_uAr {σ0 σ : St} {x : Nat} (a i : Nat) (v : Option Nat) (h : x ≠ a) (q : eqD σ0 σ x) : eqD σ0 (uAr σ a i v) x := ⟨q.1, q.2.1, q.2.2.1, q.2.2.2.1, q.2.2.2.2.1, fun i2 => (if_neg (fun c => h c.1)).trans (q.2.2.2.2.2 i2)⟩
theorem Fr.uAr {ct : Ct} {S : Nat × Nat → Prop} {σ0 σ : St} (a i : Nat) (v : Option Nat) (hf : Fr ct S σ0 σ) (hs : S (ct a) ∨ zK σ0 a = 0) : Fr ct S σ0 (uAr σ a i v) := by
  intro x hx
  obtain ⟨h1, h4⟩ := hf x hx
  refine ⟨h1, fun hS => eqD_uAr a i v (fun e => ?_) (h4 hS)⟩
  subst e
  rcases hs with hs | hs
  · exact hS hs
  · exact hx hs
theorem eqD_uCi {σ0 σ : St} {x : Nat} (b sp a dp n : Nat) (h : x ≠ a) (q : eqD σ0 σ x) : eqD σ0 (uCi σ b sp a dp n) x := ⟨q.1, q.2.1, fun i => (congrFun (if_neg h) i).trans (q.2.2.1 i), q.2.2.2.1, q.2.2.2.2.1, q.2.2.2.2.2⟩
theorem Fr.uCi {ct : Ct} {S : Nat × Nat → Prop} {σ0 σ : St} (b sp a dp n : Nat) (hf : Fr ct S σ0 σ) (hs : S (ct a) ∨ zK σ0 a = 0) : Fr ct S σ0 (uCi σ b sp a dp n) := by
  intro x hx
  obtain ⟨h1, h4⟩ := hf x hx
  refine ⟨h1, fun hS => eqD_uCi b sp a dp n (fun e => ?_) (h4 hS)⟩
  subst e
  rcases hs with hs | hs
  · exact hS hs
  · exact hx hs
theorem eqD_uCj {σ0 σ : St} {x : Nat} (b sp a dp n : Nat) (h : x ≠ a) (q : eqD σ0 σ x) : eqD σ0 (uCj σ b sp a dp n) x := ⟨q.1, q.2.1, q.2.2.1, fun i => (congrFun (if_neg h) i).trans (q.2.2.2.1 i), q.2.2.2.2.1, q.2.2.2.2.2⟩
theorem Fr.uCj {ct : Ct} {S : Nat × Nat → Prop} {σ0 σ : St} (b sp a dp n : Nat) (hf : Fr ct S σ0 σ) (hs : S (ct a) ∨ zK σ0 a = 0) : Fr ct S σ0 (uCj σ b sp a dp n) := by
  intro x hx
  obtain ⟨h1, h4⟩ := hf x hx
  refine ⟨h1, fun hS => eqD_uCj b sp a dp n (fun e => ?_) (h4 hS)⟩
  subst e
  rcases hs with hs | hs
  · exact hS hs
  · exact hx hs
theorem eqD_uCx {σ0 σ : St} {x : Nat} (f : Nat → Int64) (sp a dp n : Nat) (h : x ≠ a) (q : eqD σ0 σ x) : eqD σ0 (uCx σ f sp a dp n) x := ⟨q.1, q.2.1, q.2.2.1, fun i => (congrFun (if_neg h) i).trans (q.2.2.2.1 i), q.2.2.2.2.1, q.2.2.2.2.2⟩
theorem Fr.uCx {ct : Ct} {S : Nat × Nat → Prop} {σ0 σ : St} (f : Nat → Int64) (sp a dp n : Nat) (hf : Fr ct S σ0 σ) (hs : S (ct a) ∨ zK σ0 a = 0) : Fr ct S σ0 (uCx σ f sp a dp n) := by
  intro x hx
  obtain ⟨h1, h4⟩ := hf x hx
  refine ⟨h1, fun hS => eqD_uCx f sp a dp n (fun e => ?_) (h4 hS)⟩
  subst e
  rcases hs with hs | hs
  · exact hS hs
  · exact hx hs
theorem Fr.nO {ct : Ct} {S : Nat × Nat → Prop} {σ0 σ : St} (q κ : Nat) (hf : Fr ct S σ0 σ) (hs : zK σ q = 0) : Fr ct S σ0 (nO σ q κ) := by
  intro x hx
  have hq : zK σ0 q = 0 := hf.fresh hs
  have ha : x ≠ q := fun e => hx (e ▸ hq)
  obtain ⟨⟨k1, k2, k3⟩, h4⟩ := hf x hx
  exact ⟨⟨(if_neg ha).trans k1, k2, fun g => (if_neg ha).trans (k3 g)⟩, fun hS => ⟨fun g => (if_neg ha).trans ((h4 hS).1 g), fun g => (if_neg ha).trans ((h4 hS).2.1 g), (h4 hS).2.2⟩⟩
theorem Fr.nA {ct : Ct} {S : Nat × Nat → Prop} {σ0 σ : St} (q κ n : Nat) (hf : Fr ct S σ0 σ) (hs : zK σ q = 0) : Fr ct S σ0 (nA σ q κ n) := by
  intro x hx
  have hq : zK σ0 q = 0 := hf.fresh hs
  have ha : x ≠ q := fun e => hx (e ▸ hq)
  obtain ⟨⟨k1, k2, k3⟩, h4⟩ := hf x hx
  exact ⟨⟨(if_neg ha).trans k1, (if_neg ha).trans k2, k3⟩, fun hS => ⟨(h4 hS).1, (h4 hS).2.1, fun g => (if_neg ha).trans ((h4 hS).2.2.1 g), fun g => (if_neg ha).trans ((h4 hS).2.2.2.1 g), fun g => (if_neg ha).trans ((h4 hS).2.2.2.2.1 g), fun g => (if_neg ha).trans ((h4 hS).2.2.2.2.2 g)⟩⟩
theorem zK_nO (σ : St) (q κ x : Nat) : zK (nO σ q κ) x = if x = q then κ else zK σ x := rfl
theorem zL_nO (σ : St) (q κ : Nat) : zL (nO σ q κ) = zL σ := rfl
theorem zFi_nO (σ : St) (q κ g x : Nat) : zFi (nO σ q κ) g x = if x = q then 0 else zFi σ g x := rfl
theorem zFj_nO (σ : St) (q κ g x : Nat) : zFj (nO σ q κ) g x = if x = q then 0 else zFj σ g x := rfl
theorem zFr_nO (σ : St) (q κ g x : Nat) : zFr (nO σ q κ) g x = if x = q then none else zFr σ g x := rfl
theorem zAi_nO (σ : St) (q κ : Nat) : zAi (nO σ q κ) = zAi σ := rfl
theorem zAj_nO (σ : St) (q κ : Nat) : zAj (nO σ q κ) = zAj σ := rfl
theorem zAd_nO (σ : St) (q κ : Nat) : zAd (nO σ q κ) = zAd σ := rfl
theorem zAr_nO (σ : St) (q κ : Nat) : zAr (nO σ q κ) = zAr σ := rfl
theorem zK_nA (σ : St) (q κ n x : Nat) : zK (nA σ q κ n) x = if x = q then κ else zK σ x := rfl
theorem zL_nA (σ : St) (q κ n x : Nat) : zL (nA σ q κ n) x = if x = q then n else zL σ x := rfl
theorem zFi_nA (σ : St) (q κ n : Nat) : zFi (nA σ q κ n) = zFi σ := rfl
theorem zFj_nA (σ : St) (q κ n : Nat) : zFj (nA σ q κ n) = zFj σ := rfl
theorem zFr_nA (σ : St) (q κ n : Nat) : zFr (nA σ q κ n) = zFr σ := rfl
theorem zAi_nA (σ : St) (q κ n x i : Nat) : zAi (nA σ q κ n) x i = if x = q then 0 else zAi σ x i := rfl
theorem zAj_nA (σ : St) (q κ n x i : Nat) : zAj (nA σ q κ n) x i = if x = q then 0 else zAj σ x i := rfl
theorem zAd_nA (σ : St) (q κ n x i : Nat) : zAd (nA σ q κ n) x i = if x = q then 0 else zAd σ x i := rfl
theorem zAr_nA (σ : St) (q κ n x i : Nat) : zAr (nA σ q κ n) x i = if x = q then none else zAr σ x i := rfl
theorem zK_nC (σ : St) (q a x : Nat) : zK (nC σ q a) x = if x = q then 21 else zK σ x := rfl
theorem zL_nC (σ : St) (q a x : Nat) : zL (nC σ q a) x = if x = q then zL σ a else zL σ x := rfl
theorem zFi_nC (σ : St) (q a : Nat) : zFi (nC σ q a) = zFi σ := rfl
theorem zFj_nC (σ : St) (q a : Nat) : zFj (nC σ q a) = zFj σ := rfl
theorem zFr_nC (σ : St) (q a : Nat) : zFr (nC σ q a) = zFr σ := rfl
theorem zAi_nC (σ : St) (q a : Nat) : zAi (nC σ q a) = zAi σ := rfl
theorem zAj_nC (σ : St) (q a x i : Nat) : zAj (nC σ q a) x i = if x = q then zAj σ a i else zAj σ x i := rfl
theorem zAd_nC (σ : St) (q a : Nat) : zAd (nC σ q a) = zAd σ := rfl
theorem zAr_nC (σ : St) (q a : Nat) : zAr (nC σ q a) = zAr σ := rfl
theorem Fr.nC {ct : Ct} {S : Nat × Nat → Prop} {σ0 σ : St} (q a : Nat) (hf : Fr ct S σ0 σ) (hs : zK σ q = 0) : Fr ct S σ0 (nC σ q a) := by
  intro x hx
  have hq : zK σ0 q = 0 := hf.fresh hs
  have ha : x ≠ q := fun e => hx (e ▸ hq)
  obtain ⟨⟨k1, k2, k3⟩, h4⟩ := hf x hx
  exact ⟨⟨(if_neg ha).trans k1, (if_neg ha).trans k2, k3⟩, fun hS => ⟨(h4 hS).1, (h4 hS).2.1, (h4 hS).2.2.1, fun g => (if_neg ha).trans ((h4 hS).2.2.2.1 g), (h4 hS).2.2.2.2.1, (h4 hS).2.2.2.2.2⟩⟩
theorem u2 {α : Type} (f : Nat → Nat → α) (g a : Nat) (v : α) (x y : Nat) : up2 f g a v x y = if x = g ∧ y = a then v else f x y := rfl
theorem zAi_uCi' (σ : St) (a sp b dp n x : Nat) : zAi (uCi σ a sp b dp n) x = if x = b then va_cpy (zAi σ a) (zAi σ b) sp dp n else zAi σ x := rfl
theorem zAj_uCj' (σ : St) (a sp b dp n x : Nat) : zAj (uCj σ a sp b dp n) x = if x = b then va_cpy (zAj σ a) (zAj σ b) sp dp n else zAj σ x := rfl
theorem zAj_uCx' (σ : St) (f : Nat → Int64) (sp b dp n x : Nat) : zAj (uCx σ f sp b dp n) x = if x = b then va_cpy f (zAj σ b) sp dp n else zAj σ x := rfl
theorem exs {α : Type} {o : Option α} {y : α} {P : α → Prop} (h : o = some y) (k : P y) : ∃ a, o = some a ∧ P a := ⟨y, h, k⟩
theorem yK_uFi (σ : St) (g a : Nat) (v : Int32) : zK (uFi σ g a v) = zK σ := of_eq_true (eq_self _)
theorem yL_uFi (σ : St) (g a : Nat) (v : Int32) : zL (uFi σ g a v) = zL σ := of_eq_true (eq_self _)
theorem yFj_uFi (σ : St) (g a : Nat) (v : Int32) : zFj (uFi σ g a v) = zFj σ := of_eq_true (eq_self _)
theorem yFr_uFi (σ : St) (g a : Nat) (v : Int32) : zFr (uFi σ g a v) = zFr σ := of_eq_true (eq_self _)
theorem yAi_uFi (σ : St) (g a : Nat) (v : Int32) : zAi (uFi σ g a v) = zAi σ := of_eq_true (eq_self _)
theorem yAj_uFi (σ : St) (g a : Nat) (v : Int32) : zAj (uFi σ g a v) = zAj σ := of_eq_true (eq_self _)
theorem yAd_uFi (σ : St) (g a : Nat) (v : Int32) : zAd (uFi σ g a v) = zAd σ := of_eq_true (eq_self _)
theorem yAr_uFi (σ : St) (g a : Nat) (v : Int32) : zAr (uFi σ g a v) = zAr σ := of_eq_true (eq_self _)
theorem yFi_uFi (σ : St) (g a : Nat) (v : Int32) : zFi (uFi σ g a v) = up2 (zFi σ) g a v := of_eq_true (eq_self _)
theorem yK_uFj (σ : St) (g a : Nat) (v : Int64) : zK (uFj σ g a v) = zK σ := of_eq_true (eq_self _)
theorem yL_uFj (σ : St) (g a : Nat) (v : Int64) : zL (uFj σ g a v) = zL σ := of_eq_true (eq_self _)
theorem yFi_uFj (σ : St) (g a : Nat) (v : Int64) : zFi (uFj σ g a v) = zFi σ := of_eq_true (eq_self _)
theorem yFr_uFj (σ : St) (g a : Nat) (v : Int64) : zFr (uFj σ g a v) = zFr σ := of_eq_true (eq_self _)
theorem yAi_uFj (σ : St) (g a : Nat) (v : Int64) : zAi (uFj σ g a v) = zAi σ := of_eq_true (eq_self _)
theorem yAj_uFj (σ : St) (g a : Nat) (v : Int64) : zAj (uFj σ g a v) = zAj σ := of_eq_true (eq_self _)
theorem yAd_uFj (σ : St) (g a : Nat) (v : Int64) : zAd (uFj σ g a v) = zAd σ := of_eq_true (eq_self _)
theorem yAr_uFj (σ : St) (g a : Nat) (v : Int64) : zAr (uFj σ g a v) = zAr σ := of_eq_true (eq_self _)
theorem yFj_uFj (σ : St) (g a : Nat) (v : Int64) : zFj (uFj σ g a v) = up2 (zFj σ) g a v := of_eq_true (eq_self _)
theorem yK_uFr (σ : St) (g a : Nat) (v : Option Nat) : zK (uFr σ g a v) = zK σ := of_eq_true (eq_self _)
theorem yL_uFr (σ : St) (g a : Nat) (v : Option Nat) : zL (uFr σ g a v) = zL σ := of_eq_true (eq_self _)
theorem yFi_uFr (σ : St) (g a : Nat) (v : Option Nat) : zFi (uFr σ g a v) = zFi σ := of_eq_true (eq_self _)
theorem yFj_uFr (σ : St) (g a : Nat) (v : Option Nat) : zFj (uFr σ g a v) = zFj σ := of_eq_true (eq_self _)
theorem yAi_uFr (σ : St) (g a : Nat) (v : Option Nat) : zAi (uFr σ g a v) = zAi σ := of_eq_true (eq_self _)
theorem yAj_uFr (σ : St) (g a : Nat) (v : Option Nat) : zAj (uFr σ g a v) = zAj σ := of_eq_true (eq_self _)
theorem yAd_uFr (σ : St) (g a : Nat) (v : Option Nat) : zAd (uFr σ g a v) = zAd σ := of_eq_true (eq_self _)
theorem yAr_uFr (σ : St) (g a : Nat) (v : Option Nat) : zAr (uFr σ g a v) = zAr σ := of_eq_true (eq_self _)
theorem yFr_uFr (σ : St) (g a : Nat) (v : Option Nat) : zFr (uFr σ g a v) = up2 (zFr σ) g a v := of_eq_true (eq_self _)
theorem yK_uAi (σ : St) (g a : Nat) (v : Int32) : zK (uAi σ g a v) = zK σ := of_eq_true (eq_self _)
theorem yL_uAi (σ : St) (g a : Nat) (v : Int32) : zL (uAi σ g a v) = zL σ := of_eq_true (eq_self _)
theorem yFi_uAi (σ : St) (g a : Nat) (v : Int32) : zFi (uAi σ g a v) = zFi σ := of_eq_true (eq_self _)
theorem yFj_uAi (σ : St) (g a : Nat) (v : Int32) : zFj (uAi σ g a v) = zFj σ := of_eq_true (eq_self _)
theorem yFr_uAi (σ : St) (g a : Nat) (v : Int32) : zFr (uAi σ g a v) = zFr σ := of_eq_true (eq_self _)
theorem yAj_uAi (σ : St) (g a : Nat) (v : Int32) : zAj (uAi σ g a v) = zAj σ := of_eq_true (eq_self _)
theorem yAd_uAi (σ : St) (g a : Nat) (v : Int32) : zAd (uAi σ g a v) = zAd σ := of_eq_true (eq_self _)
theorem yAr_uAi (σ : St) (g a : Nat) (v : Int32) : zAr (uAi σ g a v) = zAr σ := of_eq_true (eq_self _)
theorem yAi_uAi (σ : St) (g a : Nat) (v : Int32) : zAi (uAi σ g a v) = up2 (zAi σ) g a v := of_eq_true (eq_self _)
theorem yK_uAj (σ : St) (g a : Nat) (v : Int64) : zK (uAj σ g a v) = zK σ := of_eq_true (eq_self _)
theorem yL_uAj (σ : St) (g a : Nat) (v : Int64) : zL (uAj σ g a v) = zL σ := of_eq_true (eq_self _)
theorem yFi_uAj (σ : St) (g a : Nat) (v : Int64) : zFi (uAj σ g a v) = zFi σ := of_eq_true (eq_self _)
theorem yFj_uAj (σ : St) (g a : Nat) (v : Int64) : zFj (uAj σ g a v) = zFj σ := of_eq_true (eq_self _)
theorem yFr_uAj (σ : St) (g a : Nat) (v : Int64) : zFr (uAj σ g a v) = zFr σ := of_eq_true (eq_self _)
theorem yAi_uAj (σ : St) (g a : Nat) (v : Int64) : zAi (uAj σ g a v) = zAi σ := of_eq_true (eq_self _)
theorem yAd_uAj (σ : St) (g a : Nat) (v : Int64) : zAd (uAj σ g a v) = zAd σ := of_eq_true (eq_self _)
theorem yAr_uAj (σ : St) (g a : Nat) (v : Int64) : zAr (uAj σ g a v) = zAr σ := of_eq_true (eq_self _)
theorem yAj_uAj (σ : St) (g a : Nat) (v : Int64) : zAj (uAj σ g a v) = up2 (zAj σ) g a v := of_eq_true (eq_self _)
theorem yK_uAd (σ : St) (g a : Nat) (v : UInt64) : zK (uAd σ g a v) = zK σ := of_eq_true (eq_self _)
theorem yL_uAd (σ : St) (g a : Nat) (v : UInt64) : zL (uAd σ g a v) = zL σ := of_eq_true (eq_self _)
theorem yFi_uAd (σ : St) (g a : Nat) (v : UInt64) : zFi (uAd σ g a v) = zFi σ := of_eq_true (eq_self _)
theorem yFj_uAd (σ : St) (g a : Nat) (v : UInt64) : zFj (uAd σ g a v) = zFj σ := of_eq_true (eq_self _)
theorem yFr_uAd (σ : St) (g a : Nat) (v : UInt64) : zFr (uAd σ g a v) = zFr σ := of_eq_true (eq_self _)
theorem yAi_uAd (σ : St) (g a : Nat) (v : UInt64) : zAi (uAd σ g a v) = zAi σ := of_eq_true (eq_self _)
theorem yAj_uAd (σ : St) (g a : Nat) (v : UInt64) : zAj (uAd σ g a v) = zAj σ := of_eq_true (eq_self _)
theorem yAr_uAd (σ : St) (g a : Nat) (v : UInt64) : zAr (uAd σ g a v) = zAr σ := of_eq_true (eq_self _)
theorem yAd_uAd (σ : St) (g a : Nat) (v : UInt64) : zAd (uAd σ g a v) = up2 (zAd σ) g a v := of_eq_true (eq_self _)
theorem yK_uAr (σ : St) (g a : Nat) (v : Option Nat) : zK (uAr σ g a v) = zK σ := of_eq_true (eq_self _)
theorem yL_uAr (σ : St) (g a : Nat) (v : Option Nat) : zL (uAr σ g a v) = zL σ := of_eq_true (eq_self _)
theorem yFi_uAr (σ : St) (g a : Nat) (v : Option Nat) : zFi (uAr σ g a v) = zFi σ := of_eq_true (eq_self _)
theorem yFj_uAr (σ : St) (g a : Nat) (v : Option Nat) : zFj (uAr σ g a v) = zFj σ := of_eq_true (eq_self _)
theorem yFr_uAr (σ : St) (g a : Nat) (v : Option Nat) : zFr (uAr σ g a v) = zFr σ := of_eq_true (eq_self _)
theorem yAi_uAr (σ : St) (g a : Nat) (v : Option Nat) : zAi (uAr σ g a v) = zAi σ := of_eq_true (eq_self _)
theorem yAj_uAr (σ : St) (g a : Nat) (v : Option Nat) : zAj (uAr σ g a v) = zAj σ := of_eq_true (eq_self _)
theorem yAd_uAr (σ : St) (g a : Nat) (v : Option Nat) : zAd (uAr σ g a v) = zAd σ := of_eq_true (eq_self _)
theorem yAr_uAr (σ : St) (g a : Nat) (v : Option Nat) : zAr (uAr σ g a v) = up2 (zAr σ) g a v := of_eq_true (eq_self _)
theorem yK_uCi (σ : St) (a sp b dp n : Nat) : zK (uCi σ a sp b dp n) = zK σ := of_eq_true (eq_self _)
theorem yL_uCi (σ : St) (a sp b dp n : Nat) : zL (uCi σ a sp b dp n) = zL σ := of_eq_true (eq_self _)
theorem yFi_uCi (σ : St) (a sp b dp n : Nat) : zFi (uCi σ a sp b dp n) = zFi σ := of_eq_true (eq_self _)
theorem yFj_uCi (σ : St) (a sp b dp n : Nat) : zFj (uCi σ a sp b dp n) = zFj σ := of_eq_true (eq_self _)
theorem yFr_uCi (σ : St) (a sp b dp n : Nat) : zFr (uCi σ a sp b dp n) = zFr σ := of_eq_true (eq_self _)
theorem yAj_uCi (σ : St) (a sp b dp n : Nat) : zAj (uCi σ a sp b dp n) = zAj σ := of_eq_true (eq_self _)
theorem yAd_uCi (σ : St) (a sp b dp n : Nat) : zAd (uCi σ a sp b dp n) = zAd σ := of_eq_true (eq_self _)
theorem yAr_uCi (σ : St) (a sp b dp n : Nat) : zAr (uCi σ a sp b dp n) = zAr σ := of_eq_true (eq_self _)
theorem yK_uCj (σ : St) (a sp b dp n : Nat) : zK (uCj σ a sp b dp n) = zK σ := of_eq_true (eq_self _)
theorem yL_uCj (σ : St) (a sp b dp n : Nat) : zL (uCj σ a sp b dp n) = zL σ := of_eq_true (eq_self _)
theorem yFi_uCj (σ : St) (a sp b dp n : Nat) : zFi (uCj σ a sp b dp n) = zFi σ := of_eq_true (eq_self _)
theorem yFj_uCj (σ : St) (a sp b dp n : Nat) : zFj (uCj σ a sp b dp n) = zFj σ := of_eq_true (eq_self _)
theorem yFr_uCj (σ : St) (a sp b dp n : Nat) : zFr (uCj σ a sp b dp n) = zFr σ := of_eq_true (eq_self _)
theorem yAi_uCj (σ : St) (a sp b dp n : Nat) : zAi (uCj σ a sp b dp n) = zAi σ := of_eq_true (eq_self _)
theorem yAd_uCj (σ : St) (a sp b dp n : Nat) : zAd (uCj σ a sp b dp n) = zAd σ := of_eq_true (eq_self _)
theorem yAr_uCj (σ : St) (a sp b dp n : Nat) : zAr (uCj σ a sp b dp n) = zAr σ := of_eq_true (eq_self _)
theorem yK_uCx (σ : St) (f : Nat → Int64) (sp b dp n : Nat) : zK (uCx σ f sp b dp n) = zK σ := of_eq_true (eq_self _)
theorem yL_uCx (σ : St) (f : Nat → Int64) (sp b dp n : Nat) : zL (uCx σ f sp b dp n) = zL σ := of_eq_true (eq_self _)
theorem yFi_uCx (σ : St) (f : Nat → Int64) (sp b dp n : Nat) : zFi (uCx σ f sp b dp n) = zFi σ := of_eq_true (eq_self _)
theorem yFj_uCx (σ : St) (f : Nat → Int64) (sp b dp n : Nat) : zFj (uCx σ f sp b dp n) = zFj σ := of_eq_true (eq_self _)
theorem yFr_uCx (σ : St) (f : Nat → Int64) (sp b dp n : Nat) : zFr (uCx σ f sp b dp n) = zFr σ := of_eq_true (eq_self _)
theorem yAi_uCx (σ : St) (f : Nat → Int64) (sp b dp n : Nat) : zAi (uCx σ f sp b dp n) = zAi σ := of_eq_true (eq_self _)
theorem yAd_uCx (σ : St) (f : Nat → Int64) (sp b dp n : Nat) : zAd (uCx σ f sp b dp n) = zAd σ := of_eq_true (eq_self _)
theorem yAr_uCx (σ : St) (f : Nat → Int64) (sp b dp n : Nat) : zAr (uCx σ f sp b dp n) = zAr σ := of_eq_true (eq_self _)
theorem yK_nO (σ : St) (q κ x : Nat) : zK (nO σ q κ) x = if x = q then κ else zK σ x := of_eq_true (eq_self _)
theorem yL_nO (σ : St) (q κ : Nat) : zL (nO σ q κ) = zL σ := of_eq_true (eq_self _)
theorem yFi_nO (σ : St) (q κ g x : Nat) : zFi (nO σ q κ) g x = if x = q then 0 else zFi σ g x := of_eq_true (eq_self _)
theorem yFj_nO (σ : St) (q κ g x : Nat) : zFj (nO σ q κ) g x = if x = q then 0 else zFj σ g x := of_eq_true (eq_self _)
theorem yFr_nO (σ : St) (q κ g x : Nat) : zFr (nO σ q κ) g x = if x = q then none else zFr σ g x := of_eq_true (eq_self _)
theorem yAi_nO (σ : St) (q κ : Nat) : zAi (nO σ q κ) = zAi σ := of_eq_true (eq_self _)
theorem yAj_nO (σ : St) (q κ : Nat) : zAj (nO σ q κ) = zAj σ := of_eq_true (eq_self _)
theorem yAd_nO (σ : St) (q κ : Nat) : zAd (nO σ q κ) = zAd σ := of_eq_true (eq_self _)
theorem yAr_nO (σ : St) (q κ : Nat) : zAr (nO σ q κ) = zAr σ := of_eq_true (eq_self _)
theorem yK_nA (σ : St) (q κ n x : Nat) : zK (nA σ q κ n) x = if x = q then κ else zK σ x := of_eq_true (eq_self _)
theorem yL_nA (σ : St) (q κ n x : Nat) : zL (nA σ q κ n) x = if x = q then n else zL σ x := of_eq_true (eq_self _)
theorem yFi_nA (σ : St) (q κ n : Nat) : zFi (nA σ q κ n) = zFi σ := of_eq_true (eq_self _)
theorem yFj_nA (σ : St) (q κ n : Nat) : zFj (nA σ q κ n) = zFj σ := of_eq_true (eq_self _)
theorem yFr_nA (σ : St) (q κ n : Nat) : zFr (nA σ q κ n) = zFr σ := of_eq_true (eq_self _)
theorem yAi_nA (σ : St) (q κ n x i : Nat) : zAi (nA σ q κ n) x i = if x = q then 0 else zAi σ x i := of_eq_true (eq_self _)
theorem yAj_nA (σ : St) (q κ n x i : Nat) : zAj (nA σ q κ n) x i = if x = q then 0 else zAj σ x i := of_eq_true (eq_self _)
theorem yAd_nA (σ : St) (q κ n x i : Nat) : zAd (nA σ q κ n) x i = if x = q then 0 else zAd σ x i := of_eq_true (eq_self _)
theorem yAr_nA (σ : St) (q κ n x i : Nat) : zAr (nA σ q κ n) x i = if x = q then none else zAr σ x i := of_eq_true (eq_self _)
theorem yK_nC (σ : St) (q a x : Nat) : zK (nC σ q a) x = if x = q then 21 else zK σ x := of_eq_true (eq_self _)
theorem yL_nC (σ : St) (q a x : Nat) : zL (nC σ q a) x = if x = q then zL σ a else zL σ x := of_eq_true (eq_self _)
theorem yFi_nC (σ : St) (q a : Nat) : zFi (nC σ q a) = zFi σ := of_eq_true (eq_self _)
theorem yFj_nC (σ : St) (q a : Nat) : zFj (nC σ q a) = zFj σ := of_eq_true (eq_self _)
theorem yFr_nC (σ : St) (q a : Nat) : zFr (nC σ q a) = zFr σ := of_eq_true (eq_self _)
theorem yAi_nC (σ : St) (q a : Nat) : zAi (nC σ q a) = zAi σ := of_eq_true (eq_self _)
theorem yAj_nC (σ : St) (q a x i : Nat) : zAj (nC σ q a) x i = if x = q then zAj σ a i else zAj σ x i := of_eq_true (eq_self _)
theorem yAd_nC (σ : St) (q a : Nat) : zAd (nC σ q a) = zAd σ := of_eq_true (eq_self _)
theorem yAr_nC (σ : St) (q a : Nat) : zAr (nC σ q a) = zAr σ := of_eq_true (eq_self _)
theorem yu2 {α : Type} (f : Nat → Nat → α) (g a : Nat) (v : α) (x y : Nat) : up2 f g a v x y = if x = g ∧ y = a then v else f x y := of_eq_true (eq_self _)
theorem yAi_uCi' (σ : St) (a sp b dp n x : Nat) : zAi (uCi σ a sp b dp n) x = if x = b then va_cpy (zAi σ a) (zAi σ b) sp dp n else zAi σ x := of_eq_true (eq_self _)
theorem yAj_uCj' (σ : St) (a sp b dp n x : Nat) : zAj (uCj σ a sp b dp n) x = if x = b then va_cpy (zAj σ a) (zAj σ b) sp dp n else zAj σ x := of_eq_true (eq_self _)
theorem yAj_uCx' (σ : St) (f : Nat → Int64) (sp b dp n x : Nat) : zAj (uCx σ f sp b dp n) x = if x = b then va_cpy f (zAj σ b) sp dp n else zAj σ x := of_eq_true (eq_self _)
