/-! what the constructors make. own: the name of each address (kind of place, number, number) -/
abbrev Ow : Type := Nat → Option (Nat × Nat × Nat)
def sameX (σ τ : St) (x : Nat) : Prop := zK τ x = zK σ x ∧ zL τ x = zL σ x ∧ (∀ g, zFr τ g x = zFr σ g x) ∧ eqD σ τ x
theorem sameX.rf {σ : St} {x : Nat} : sameX σ σ x := ⟨rfl, rfl, fun _ => rfl, fun _ => rfl, fun _ => rfl, fun _ => rfl, fun _ => rfl, fun _ => rfl, fun _ => rfl⟩
theorem sameX.tr {a b c : St} {x : Nat} (h : sameX a b x) (k : sameX b c x) : sameX a c x := ⟨k.1.trans h.1, k.2.1.trans h.2.1, fun g => (k.2.2.1 g).trans (h.2.2.1 g), h.2.2.2.tr k.2.2.2⟩
theorem sX_uFr (σ : St) (g a : Nat) (v : Option Nat) {x : Nat} (h : x ≠ a) : sameX σ (uFr σ g a v) x := ⟨rfl, rfl, fun g2 => if_neg (fun c => h c.2), eqD_uFr g a v h ⟨fun _ => rfl, fun _ => rfl, fun _ => rfl, fun _ => rfl, fun _ => rfl, fun _ => rfl⟩⟩
theorem sX_uAr (σ : St) (a i : Nat) (v : Option Nat) {x : Nat} (h : x ≠ a) : sameX σ (uAr σ a i v) x := ⟨rfl, rfl, fun _ => rfl, eqD_uAr a i v h ⟨fun _ => rfl, fun _ => rfl, fun _ => rfl, fun _ => rfl, fun _ => rfl, fun _ => rfl⟩⟩
theorem sX_nO (σ : St) (q κ : Nat) {x : Nat} (h : x ≠ q) : sameX σ (nO σ q κ) x := ⟨if_neg h, rfl, fun g => if_neg h, fun g => if_neg h, fun g => if_neg h, fun _ => rfl, fun _ => rfl, fun _ => rfl, fun _ => rfl⟩
theorem sX_nA (σ : St) (q κ n : Nat) {x : Nat} (h : x ≠ q) : sameX σ (nA σ q κ n) x := ⟨if_neg h, if_neg h, fun _ => rfl, fun _ => rfl, fun _ => rfl, fun _ => if_neg h, fun _ => if_neg h, fun _ => if_neg h, fun _ => if_neg h⟩
/-- what was there stays, but for the object v -/
def Ol (v : Nat) (σ τ : St) : Prop := ∀ x, x ≠ v → zK σ x ≠ 0 → sameX σ τ x
theorem Ol.rf {v : Nat} {σ : St} : Ol v σ σ := fun _ _ _ => sameX.rf
theorem Ol.tr {v : Nat} {a b c : St} (h : Ol v a b) (k : Ol v b c) : Ol v a c := fun x hv hx => (h x hv hx).tr (k x hv (by rw [(h x hv hx).1]; exact hx))
def okO (own : Ow) (σ : St) : Prop := ∀ x, own x ≠ none → zK σ x ≠ 0
def exO (σ : St) (own own' : Ow) : Prop := ∀ x, zK σ x ≠ 0 → own' x = own x
/-- a row that the object v holds in its field g -/
def AF (own : Ow) (τ : St) (v i j g κ len : Nat) : Prop := ∃ b, zFr τ g v = some b ∧ own b = some (g, i, j) ∧ zK τ b = κ ∧ zL τ b = len ∧ (∀ k, zAr τ b k = none)
def AFs (own : Ow) (τ : St) (v i j : Nat) (l : List (Nat × Nat × Nat)) : Prop := ∀ q ∈ l, AF own τ v i j q.1 q.2.1 q.2.2
def Bld (κ0 i j v : Nat) (σ0 : St) (own0 own : Ow) (τ : St) (l : List (Nat × Nat × Nat)) : Prop := zK τ v = κ0 ∧ κ0 ≠ 0 ∧ Ol v σ0 τ ∧ okO own τ ∧ exO σ0 own0 own ∧ AFs own τ v i j l ∧ (∀ g, zFi τ g v = zFi σ0 g v)
theorem Bld.start {κ0 i j v : Nat} {σ : St} {own : Ow} (h1 : zK σ v = κ0) (h2 : κ0 ≠ 0) (h3 : okO own σ) : Bld κ0 i j v σ own own σ [] := ⟨h1, h2, Ol.rf, h3, fun _ _ => rfl, fun q hq => absurd hq List.not_mem_nil, fun _ => rfl⟩
theorem AF.keep {own own' : Ow} {τ τ' : St} {v i j g κ len : Nat} (hκ : κ ≠ 0) (h : AF own τ v i j g κ len) (e1 : zFr τ' g v = zFr τ g v) (e2 : ∀ x, x ≠ v → zK τ x ≠ 0 → sameX τ τ' x) (hv : ∀ x, zFr τ g v = some x → own x = some (g, i, j) → x ≠ v) (e3 : ∀ x, zK τ x ≠ 0 → own' x = own x) : AF own' τ' v i j g κ len := by
  obtain ⟨b, b1, b2, b3, b4, b5⟩ := h
  have hb : zK τ b ≠ 0 := by rw [b3]; exact hκ
  have s := e2 b (hv b b1 b2) hb
  exact ⟨b, e1.trans b1, (e3 b hb).trans b2, s.1.trans b3, s.2.1.trans b4, fun k => (s.2.2.2.2.2.2.2.2 k).trans (b5 k)⟩
/-- one more row -/
theorem Bld.row {κ0 i j v : Nat} {σ0 : St} {own0 own : Ow} {τ : St} {l : List (Nat × Nat × Nat)} (B : Bld κ0 i j v σ0 own0 own τ l) (hv : ∃ nm, own v = some nm ∧ ∀ q ∈ l, q.1 ≠ nm.1) (hl : ∀ q ∈ l, q.2.1 ≠ 0) {b g κ len : Nat} (hb : zK τ b = 0) (hκ : κ ≠ 0) (hg : ∀ q ∈ l, q.1 ≠ g) {τ' : St} (e : uFr (nA τ b κ len) g v (some b) = τ') : ∃ own', Bld κ0 i j v σ0 own0 own' τ' ((g, κ, len) :: l) ∧ own' v = own v ∧ (∀ x, zK τ' x = zK (nA τ b κ len) x) := by
  obtain ⟨h1, h2, h3, h4, h5, h6, h7⟩ := B
  have hvb : v ≠ b := fun z => by rw [← z, h1] at hb; exact h2 hb
  have hS : ∀ x, x ≠ v → zK τ x ≠ 0 → sameX τ τ' x := fun x hxv hx => by
    rw [← e]
    exact (sX_nA τ b κ len (fun z : x = b => hx (by rw [z]; exact hb))).tr (sX_uFr _ _ _ _ hxv)
  have hk : ∀ x, zK τ' x = zK (nA τ b κ len) x := fun x => by rw [← e, yK_uFr]
  refine ⟨fun x => if x = b then some (g, i, j) else own x, ⟨?_, h2, fun x hxv hx => ?_, fun x hx => ?_, fun x hx => ?_, fun q hq => ?_, fun g2 => ?_⟩, if_neg hvb, hk⟩
  · rw [hk, yK_nA, if_neg hvb]; exact h1
  · have s := h3 x hxv hx
    exact s.tr (hS x hxv (by rw [s.1]; exact hx))
  · rw [hk, yK_nA]
    by_cases c : x = b
    · rw [if_pos c]; exact hκ
    · rw [if_neg c]
      have hx : (if x = b then some (g, i, j) else own x) ≠ none := hx
      rw [if_neg c] at hx
      exact h4 x hx
  · have hxb : x ≠ b := fun z => by
      by_cases c : x = v
      · exact hvb (c ▸ z)
      · have s := h3 x c hx
        rw [z] at s hx
        rw [← s.1] at hx
        exact hx hb
    show (if x = b then _ else own x) = own0 x
    rw [if_neg hxb]; exact h5 x hx
  · rcases List.mem_cons.mp hq with rfl | hq
    · refine ⟨b, ?_, if_pos rfl, ?_, ?_, fun k => ?_⟩
      · rw [← e]; simp only [yK_uFi, yL_uFi, yFj_uFi, yFr_uFi, yAi_uFi, yAj_uFi, yAd_uFi, yAr_uFi, yFi_uFi, yK_uFj, yL_uFj, yFi_uFj, yFr_uFj, yAi_uFj, yAj_uFj, yAd_uFj, yAr_uFj, yFj_uFj, yK_uFr, yL_uFr, yFi_uFr, yFj_uFr, yAi_uFr, yAj_uFr, yAd_uFr, yAr_uFr, yFr_uFr, yK_uAi, yL_uAi, yFi_uAi, yFj_uAi, yFr_uAi, yAj_uAi, yAd_uAi, yAr_uAi, yAi_uAi, yK_uAj, yL_uAj, yFi_uAj, yFj_uAj, yFr_uAj, yAi_uAj, yAd_uAj, yAr_uAj, yAj_uAj, yK_uAd, yL_uAd, yFi_uAd, yFj_uAd, yFr_uAd, yAi_uAd, yAj_uAd, yAr_uAd, yAd_uAd, yK_uAr, yL_uAr, yFi_uAr, yFj_uAr, yFr_uAr, yAi_uAr, yAj_uAr, yAd_uAr, yAr_uAr, yK_uCi, yL_uCi, yFi_uCi, yFj_uCi, yFr_uCi, yAj_uCi, yAd_uCi, yAr_uCi, yK_uCj, yL_uCj, yFi_uCj, yFj_uCj, yFr_uCj, yAi_uCj, yAd_uCj, yAr_uCj, yK_uCx, yL_uCx, yFi_uCx, yFj_uCx, yFr_uCx, yAi_uCx, yAd_uCx, yAr_uCx, yK_nO, yL_nO, yFi_nO, yFj_nO, yFr_nO, yAi_nO, yAj_nO, yAd_nO, yAr_nO, yK_nA, yL_nA, yFi_nA, yFj_nA, yFr_nA, yAi_nA, yAj_nA, yAd_nA, yAr_nA, yK_nC, yL_nC, yFi_nC, yFj_nC, yFr_nC, yAi_nC, yAj_nC, yAd_nC, yAr_nC, yu2, yAi_uCi', yAj_uCj', yAj_uCx', Option.some.injEq, exists_eq_left', true_and, and_true, not_false_eq_true, forall_const, false_and, and_false, reduceIte, Nat.reduceEqDiff, ne_eq]
      · rw [hk, yK_nA, if_pos rfl]
      · rw [← e]; simp only [yK_uFi, yL_uFi, yFj_uFi, yFr_uFi, yAi_uFi, yAj_uFi, yAd_uFi, yAr_uFi, yFi_uFi, yK_uFj, yL_uFj, yFi_uFj, yFr_uFj, yAi_uFj, yAj_uFj, yAd_uFj, yAr_uFj, yFj_uFj, yK_uFr, yL_uFr, yFi_uFr, yFj_uFr, yAi_uFr, yAj_uFr, yAd_uFr, yAr_uFr, yFr_uFr, yK_uAi, yL_uAi, yFi_uAi, yFj_uAi, yFr_uAi, yAj_uAi, yAd_uAi, yAr_uAi, yAi_uAi, yK_uAj, yL_uAj, yFi_uAj, yFj_uAj, yFr_uAj, yAi_uAj, yAd_uAj, yAr_uAj, yAj_uAj, yK_uAd, yL_uAd, yFi_uAd, yFj_uAd, yFr_uAd, yAi_uAd, yAj_uAd, yAr_uAd, yAd_uAd, yK_uAr, yL_uAr, yFi_uAr, yFj_uAr, yFr_uAr, yAi_uAr, yAj_uAr, yAd_uAr, yAr_uAr, yK_uCi, yL_uCi, yFi_uCi, yFj_uCi, yFr_uCi, yAj_uCi, yAd_uCi, yAr_uCi, yK_uCj, yL_uCj, yFi_uCj, yFj_uCj, yFr_uCj, yAi_uCj, yAd_uCj, yAr_uCj, yK_uCx, yL_uCx, yFi_uCx, yFj_uCx, yFr_uCx, yAi_uCx, yAd_uCx, yAr_uCx, yK_nO, yL_nO, yFi_nO, yFj_nO, yFr_nO, yAi_nO, yAj_nO, yAd_nO, yAr_nO, yK_nA, yL_nA, yFi_nA, yFj_nA, yFr_nA, yAi_nA, yAj_nA, yAd_nA, yAr_nA, yK_nC, yL_nC, yFi_nC, yFj_nC, yFr_nC, yAi_nC, yAj_nC, yAd_nC, yAr_nC, yu2, yAi_uCi', yAj_uCj', yAj_uCx', Option.some.injEq, exists_eq_left', true_and, and_true, not_false_eq_true, forall_const, false_and, and_false, reduceIte, Nat.reduceEqDiff, ne_eq]
      · rw [← e]; simp only [yK_uFi, yL_uFi, yFj_uFi, yFr_uFi, yAi_uFi, yAj_uFi, yAd_uFi, yAr_uFi, yFi_uFi, yK_uFj, yL_uFj, yFi_uFj, yFr_uFj, yAi_uFj, yAj_uFj, yAd_uFj, yAr_uFj, yFj_uFj, yK_uFr, yL_uFr, yFi_uFr, yFj_uFr, yAi_uFr, yAj_uFr, yAd_uFr, yAr_uFr, yFr_uFr, yK_uAi, yL_uAi, yFi_uAi, yFj_uAi, yFr_uAi, yAj_uAi, yAd_uAi, yAr_uAi, yAi_uAi, yK_uAj, yL_uAj, yFi_uAj, yFj_uAj, yFr_uAj, yAi_uAj, yAd_uAj, yAr_uAj, yAj_uAj, yK_uAd, yL_uAd, yFi_uAd, yFj_uAd, yFr_uAd, yAi_uAd, yAj_uAd, yAr_uAd, yAd_uAd, yK_uAr, yL_uAr, yFi_uAr, yFj_uAr, yFr_uAr, yAi_uAr, yAj_uAr, yAd_uAr, yAr_uAr, yK_uCi, yL_uCi, yFi_uCi, yFj_uCi, yFr_uCi, yAj_uCi, yAd_uCi, yAr_uCi, yK_uCj, yL_uCj, yFi_uCj, yFj_uCj, yFr_uCj, yAi_uCj, yAd_uCj, yAr_uCj, yK_uCx, yL_uCx, yFi_uCx, yFj_uCx, yFr_uCx, yAi_uCx, yAd_uCx, yAr_uCx, yK_nO, yL_nO, yFi_nO, yFj_nO, yFr_nO, yAi_nO, yAj_nO, yAd_nO, yAr_nO, yK_nA, yL_nA, yFi_nA, yFj_nA, yFr_nA, yAi_nA, yAj_nA, yAd_nA, yAr_nA, yK_nC, yL_nC, yFi_nC, yFj_nC, yFr_nC, yAi_nC, yAj_nC, yAd_nC, yAr_nC, yu2, yAi_uCi', yAj_uCj', yAj_uCx', Option.some.injEq, exists_eq_left', true_and, and_true, not_false_eq_true, forall_const, false_and, and_false, reduceIte, Nat.reduceEqDiff, ne_eq]
    · refine (h6 q hq).keep (hl q hq) ?_ hS (fun x hx1 hx2 z => ?_) (fun x hx => if_neg (fun z : x = b => hx (by rw [z]; exact hb)))
      · rw [← e]; simp only [yK_uFi, yL_uFi, yFj_uFi, yFr_uFi, yAi_uFi, yAj_uFi, yAd_uFi, yAr_uFi, yFi_uFi, yK_uFj, yL_uFj, yFi_uFj, yFr_uFj, yAi_uFj, yAj_uFj, yAd_uFj, yAr_uFj, yFj_uFj, yK_uFr, yL_uFr, yFi_uFr, yFj_uFr, yAi_uFr, yAj_uFr, yAd_uFr, yAr_uFr, yFr_uFr, yK_uAi, yL_uAi, yFi_uAi, yFj_uAi, yFr_uAi, yAj_uAi, yAd_uAi, yAr_uAi, yAi_uAi, yK_uAj, yL_uAj, yFi_uAj, yFj_uAj, yFr_uAj, yAi_uAj, yAd_uAj, yAr_uAj, yAj_uAj, yK_uAd, yL_uAd, yFi_uAd, yFj_uAd, yFr_uAd, yAi_uAd, yAj_uAd, yAr_uAd, yAd_uAd, yK_uAr, yL_uAr, yFi_uAr, yFj_uAr, yFr_uAr, yAi_uAr, yAj_uAr, yAd_uAr, yAr_uAr, yK_uCi, yL_uCi, yFi_uCi, yFj_uCi, yFr_uCi, yAj_uCi, yAd_uCi, yAr_uCi, yK_uCj, yL_uCj, yFi_uCj, yFj_uCj, yFr_uCj, yAi_uCj, yAd_uCj, yAr_uCj, yK_uCx, yL_uCx, yFi_uCx, yFj_uCx, yFr_uCx, yAi_uCx, yAd_uCx, yAr_uCx, yK_nO, yL_nO, yFi_nO, yFj_nO, yFr_nO, yAi_nO, yAj_nO, yAd_nO, yAr_nO, yK_nA, yL_nA, yFi_nA, yFj_nA, yFr_nA, yAi_nA, yAj_nA, yAd_nA, yAr_nA, yK_nC, yL_nC, yFi_nC, yFj_nC, yFr_nC, yAi_nC, yAj_nC, yAd_nC, yAr_nC, yu2, yAi_uCi', yAj_uCj', yAj_uCx', Option.some.injEq, exists_eq_left', true_and, and_true, not_false_eq_true, forall_const, false_and, and_false, reduceIte, Nat.reduceEqDiff, ne_eq, hg q hq]
      · obtain ⟨nm, n1, n2⟩ := hv
        rw [z, n1] at hx2
        have := Option.some.inj hx2
        exact n2 q hq (by rw [this])
  · rw [← e]; simp only [yK_uFi, yL_uFi, yFj_uFi, yFr_uFi, yAi_uFi, yAj_uFi, yAd_uFi, yAr_uFi, yFi_uFi, yK_uFj, yL_uFj, yFi_uFj, yFr_uFj, yAi_uFj, yAj_uFj, yAd_uFj, yAr_uFj, yFj_uFj, yK_uFr, yL_uFr, yFi_uFr, yFj_uFr, yAi_uFr, yAj_uFr, yAd_uFr, yAr_uFr, yFr_uFr, yK_uAi, yL_uAi, yFi_uAi, yFj_uAi, yFr_uAi, yAj_uAi, yAd_uAi, yAr_uAi, yAi_uAi, yK_uAj, yL_uAj, yFi_uAj, yFj_uAj, yFr_uAj, yAi_uAj, yAd_uAj, yAr_uAj, yAj_uAj, yK_uAd, yL_uAd, yFi_uAd, yFj_uAd, yFr_uAd, yAi_uAd, yAj_uAd, yAr_uAd, yAd_uAd, yK_uAr, yL_uAr, yFi_uAr, yFj_uAr, yFr_uAr, yAi_uAr, yAj_uAr, yAd_uAr, yAr_uAr, yK_uCi, yL_uCi, yFi_uCi, yFj_uCi, yFr_uCi, yAj_uCi, yAd_uCi, yAr_uCi, yK_uCj, yL_uCj, yFi_uCj, yFj_uCj, yFr_uCj, yAi_uCj, yAd_uCj, yAr_uCj, yK_uCx, yL_uCx, yFi_uCx, yFj_uCx, yFr_uCx, yAi_uCx, yAd_uCx, yAr_uCx, yK_nO, yL_nO, yFi_nO, yFj_nO, yFr_nO, yAi_nO, yAj_nO, yAd_nO, yAr_nO, yK_nA, yL_nA, yFi_nA, yFj_nA, yFr_nA, yAi_nA, yAj_nA, yAd_nA, yAr_nA, yK_nC, yL_nC, yFi_nC, yFj_nC, yFr_nC, yAi_nC, yAj_nC, yAd_nC, yAr_nC, yu2, yAi_uCi', yAj_uCj', yAj_uCx']; exact h7 g2
/-- a step of the constructor of v -/
def Sp (v : Nat) (o : Ow) (τ : St) (o' : Ow) (τ' : St) : Prop := Ol v τ τ' ∧ exO τ o o' ∧ okO o' τ' ∧ zK τ' v = zK τ v
theorem Sp.rf {v : Nat} {o : Ow} {τ : St} (h : okO o τ) : Sp v o τ o τ := ⟨Ol.rf, fun _ _ => rfl, h, rfl⟩
theorem Sp.tr {v : Nat} {o o1 o2 : Ow} {τ τ1 τ2 : St} (h : Sp v o τ o1 τ1) (k : Sp v o1 τ1 o2 τ2) : Sp v o τ o2 τ2 := by
  refine ⟨h.1.tr k.1, fun x hx => ?_, k.2.2.1, k.2.2.2.trans h.2.2.2⟩
  have : zK τ1 x ≠ 0 := by
    by_cases c : x = v
    · rw [c, h.2.2.2, ← c]; exact hx
    · rw [(h.1 x c hx).1]; exact hx
  exact (k.2.1 x this).trans (h.2.1 x hx)
theorem Sp.nz {v : Nat} {o o1 : Ow} {τ τ1 : St} (h : Sp v o τ o1 τ1) {x : Nat} (hx : zK τ x ≠ 0) : zK τ1 x = zK τ x := by
  by_cases c : x = v
  · rw [c]; exact h.2.2.2
  · exact (h.1 x c hx).1
theorem Sp.fresh {v : Nat} {o o1 : Ow} {τ τ1 : St} (h : Sp v o τ o1 τ1) {x : Nat} (hx : zK τ1 x = 0) : zK τ x = 0 := by
  by_cases c : zK τ x = 0
  · exact c
  · exact ((h.nz c).symm.trans hx)
/-- an object with its name, kind, rows, and numbers that are all 0 -/
def Obj (o : Ow) (τ : St) (nm : Nat × Nat × Nat) (κ : Nat) (l : List (Nat × Nat × Nat)) (x : Nat) : Prop := o x = some nm ∧ zK τ x = κ ∧ κ ≠ 0 ∧ AFs o τ x nm.2.1 nm.2.2 l ∧ (∀ q ∈ l, q.2.1 ≠ 0) ∧ ∀ g, zFi τ g x = 0
theorem Obj.keep {o o' : Ow} {τ τ' : St} {nm : Nat × Nat × Nat} {κ : Nat} {l : List (Nat × Nat × Nat)} {x v : Nat} (h : Obj o τ nm κ l x) (s : Sp v o τ o' τ') {nv : Nat × Nat × Nat} (hv : o v = some nv) (hn : nv ≠ nm) (hl : ∀ q ∈ l, q.1 ≠ nv.1) : Obj o' τ' nm κ l x := by
  obtain ⟨h1, h2, h3, h4, h5, h6⟩ := h
  have hx : zK τ x ≠ 0 := by rw [h2]; exact h3
  have hxv : x ≠ v := fun z => by rw [z, hv] at h1; exact hn (Option.some.inj h1)
  have sx := s.1 x hxv hx
  refine ⟨(s.2.1 x hx).trans h1, sx.1.trans h2, h3, fun q hq => ?_, h5, fun g => (sx.2.2.2.1 g).trans (h6 g)⟩
  obtain ⟨b, b1, b2, b3, b4, b5⟩ := h4 q hq
  have hb : zK τ b ≠ 0 := by rw [b3]; exact h5 q hq
  have hbv : b ≠ v := fun z => by rw [z, hv] at b2; exact hl q hq (by rw [Option.some.inj b2])
  have sb := s.1 b hbv hb
  exact ⟨b, (sx.2.2.1 _).trans b1, (s.2.1 b hb).trans b2, sb.1.trans b3, sb.2.1.trans b4, fun k => (sb.2.2.2.2.2.2.2.2 k).trans (b5 k)⟩
theorem Bld.stp {κ0 i j v : Nat} {σ0 : St} {own0 own : Ow} {τ : St} {l : List (Nat × Nat × Nat)} (B : Bld κ0 i j v σ0 own0 own τ l) (hv : zK σ0 v = κ0) : Sp v own0 σ0 own τ := ⟨B.2.2.1, B.2.2.2.2.1, B.2.2.2.1, B.1.trans hv.symm⟩
/-- a new object b made for v, named nm: the state with it, before its own constructor -/
theorem Sp.new {v : Nat} {o : Ow} {τ : St} (h : okO o τ) (hv : zK τ v ≠ 0) {b κ : Nat} (hb : zK τ b = 0) (hκ : κ ≠ 0) (nm : Nat × Nat × Nat) : Sp v o τ (fun x => if x = b then some nm else o x) (nO τ b κ) := by
  have hvb : v ≠ b := fun z => hv (by rw [z]; exact hb)
  refine ⟨fun x hxv hx => sX_nO τ b κ (fun z : x = b => hx (by rw [z]; exact hb)), fun x hx => if_neg (fun z : x = b => hx (by rw [z]; exact hb)), fun x hx => ?_, by rw [yK_nO, if_neg hvb]⟩
  rw [yK_nO]
  by_cases c : x = b
  · rw [if_pos c]; exact hκ
  · rw [if_neg c]
    have hx : (if x = b then some nm else o x) ≠ none := hx
    rw [if_neg c] at hx
    exact h x hx
/-- the constructor of b, seen from v: b is new -/
theorem Sp.sub {v b : Nat} {o o1 o2 : Ow} {τ τ1 τ2 : St} (h : Sp v o τ o1 τ1) (hb : zK τ b = 0) (hvb : v ≠ b) (hv : zK τ v ≠ 0) (k : Sp b o1 τ1 o2 τ2) : Sp v o τ o2 τ2 := by
  refine ⟨fun x hxv hx => ?_, fun x hx => ?_, k.2.2.1, ?_⟩
  · have s := h.1 x hxv hx
    exact s.tr (k.1 x (fun z => hx (by rw [z]; exact hb)) (by rw [s.1]; exact hx))
  · exact (k.2.1 x (by rw [h.nz hx]; exact hx)).trans (h.2.1 x hx)
  · rw [k.nz (by rw [h.2.2.2]; exact hv)]; exact h.2.2.2
theorem Sp.set {v : Nat} {o o1 : Ow} {τ τ1 : St} (h : Sp v o τ o1 τ1) (g : Nat) (w : Option Nat) : Sp v o τ o1 (uFr τ1 g v w) :=
  ⟨fun x hxv hx => (h.1 x hxv hx).tr (sX_uFr _ _ _ _ hxv), h.2.1, h.2.2.1, h.2.2.2⟩
