/-! ask: what is due, and the class -/
section NS
variable {ad : Ad} {ct : Ct} {σ : St}
def opsT (q : Qst) : List Nat := if q.1 = 0 then [] else ix q.2.2.1 :: (if q.2.2.2.1 = -1 then [] else [ix q.2.2.2.1])
def duS (qs : List Qst) (D : Nat → Bool) (i : Nat) : Nat → Bool := fun j => D j || (D i && (match qs[i]? with
  | some q => decide (j ∈ opsT q)
  | none => false))
def due (qs : List Qst) : Nat → (Nat → Bool) → Nat → Bool
  | 0, D => D
  | n + 1, D => due qs n (duS qs D n)
theorem due_mono (qs : List Qst) : ∀ (n : Nat) (D : Nat → Bool) (j : Nat), D j = true → due qs n D j = true
  | 0, _, _, h => h
  | n + 1, D, j, h => due_mono qs n _ j (by unfold duS; rw [h]; rfl)
theorem ops_lt {c : Co} (W : WF c) {i : Nat} {q : Qst} (hi : c.2.2.1[i]? = some q) : ∀ j ∈ opsT q, j < i ∧ ∃ p, c.2.2.1[j]? = some p := fun j hj => by
  have hl := W.2.2.2.2.1
  have hi40 : i < 40 := by have := (List.getElem?_eq_some_iff.mp hi).1; omega
  obtain ⟨g8, gw1, gw6, g0, g1⟩ := W.2.2.2.2.2.1 i q hi
  unfold opsT at hj
  by_cases z : q.1 = 0
  · rw [if_pos z] at hj; cases hj
  · rw [if_neg z] at hj
    obtain ⟨p, ⟨s1, hs1, eo, hp⟩, r1, r2, r3, r6, r123, r66, r457⟩ := g1 z
    rcases List.mem_cons.mp hj with y | y
    · rw [y, eo, show ix (nI s1) = s1 from nI_clamp (by omega)]
      exact ⟨hs1, p, hp⟩
    · by_cases m : q.2.2.2.1 = -1
      · rw [if_pos m] at y; cases y
      · rw [if_neg m] at y
        have k457 : q.1 = 4 ∨ q.1 = 5 ∨ q.1 = 7 := by
          by_cases z4 : q.1 = 1 ∨ q.1 = 2 ∨ q.1 = 3
          · exact absurd (r123 z4).1 m
          · by_cases z6 : q.1 = 6
            · exact absurd (r66 z6).1 m
            · exact kd_a g8 z z4 z6
        obtain ⟨p2, ⟨s2, hs2, eo2, hp2⟩, _⟩ := r457 k457
        rw [List.mem_singleton.mp y, eo2, show ix (nI s2) = s2 from nI_clamp (by omega)]
        exact ⟨hs2, p2, hp2⟩
theorem ops_mem {c : Co} (W : WF c) {i : Nat} {q : Qst} (hi : c.2.2.1[i]? = some q) {j : Nat} (h : q.1 ≠ 0 ∧ q.2.2.1 = nI j ∨ q.2.2.2.1 = nI j) (hj : j < i) : j ∈ opsT q := by
  have hl := W.2.2.2.2.1
  have hi40 : i < 40 := by have := (List.getElem?_eq_some_iff.mp hi).1; omega
  obtain ⟨g8, gw1, gw6, g0, g1⟩ := W.2.2.2.2.2.1 i q hi
  unfold opsT
  rcases h with ⟨z, e⟩ | e
  · rw [if_neg z, e, show ix (nI j) = j from nI_clamp (by omega)]
    exact List.mem_cons_self
  · by_cases z : q.1 = 0
    · have := (g0 z).1
      rw [e] at this
      exact absurd this (nI_m1 (by omega))
    · rw [if_neg z, if_neg (by rw [e]; exact nI_m1 (by omega)), e, show ix (nI j) = j from nI_clamp (by omega)]
      exact List.mem_cons_of_mem _ List.mem_cons_self
theorem due_ge {c : Co} (W : WF c) : ∀ (n : Nat) (D : Nat → Bool) (j : Nat), n ≤ j → due c.2.2.1 n D j = D j
  | 0, _, _, _ => rfl
  | n + 1, D, j, h => by
    show due c.2.2.1 n (duS c.2.2.1 D n) j = D j
    rw [due_ge W n _ j (by omega)]
    unfold duS
    cases hq : c.2.2.1[n]? with
    | none => simp
    | some q =>
      have : ¬ j ∈ opsT q := fun z => by have := (ops_lt W hq j z).1; omega
      simp [this]
theorem due_cl {c : Co} (W : WF c) : ∀ (n : Nat) (D : Nat → Bool) (i : Nat) (q : Qst), i < n → c.2.2.1[i]? = some q → due c.2.2.1 n D i = true → ∀ j ∈ opsT q, due c.2.2.1 n D j = true
  | 0, _, _, _, h, _, _ => absurd h (Nat.not_lt_zero _)
  | n + 1, D, i, q, h, hq, hd => fun j hj => by
    by_cases e : i = n
    · subst e
      have hd : due c.2.2.1 i (duS c.2.2.1 D i) i = true := hd
      rw [due_ge W i _ i (Nat.le_refl _)] at hd
      show due c.2.2.1 i (duS c.2.2.1 D i) j = true
      refine due_mono _ _ _ _ ?_
      have n : ¬ i ∈ opsT q := fun z => by have := (ops_lt W hq i z).1; omega
      unfold duS at hd ⊢
      rw [hq] at hd ⊢
      have hd2 : D i = true := by simpa [n] using hd
      simp [hd2, hj]
    · exact due_cl W n (duS c.2.2.1 D n) i q (by omega) hq hd j hj
def Good (c : Co) (D : Nat → Bool) (T : Nat → List Ans) (n : Nat) : Prop := ∀ (i : Nat) q, i < n → D i = true → c.2.2.1[i]? = some q → Wkr c.2.1 q (T (ix q.2.2.1)) (T (ix q.2.2.2.1)) (T i)
def Bad (c : Co) (D : Nat → Bool) (r : Nat) : Prop := ∃ T m q, m ≤ r ∧ D m = true ∧ c.2.2.1[m]? = some q ∧ Good c D T m ∧ Wfr c.2.1 q (T (ix q.2.2.1)) (T (ix q.2.2.2.1))
def upT (T : Nat → List Ans) (i : Nat) (R : List Ans) : Nat → List Ans := fun j => if j = i then R else T j
/-- what a question's result reads of T -/
theorem Wkr.ex {c : Co} (W : WF c) {i : Nat} {q : Qst} (hi : c.2.2.1[i]? = some q) {T T2 : Nat → List Ans} (e : ∀ j ∈ opsT q, (T j).Perm (T2 j)) {R : List Ans} (h : Wkr c.2.1 q (T (ix q.2.2.1)) (T (ix q.2.2.2.1)) R) : Wkr c.2.1 q (T2 (ix q.2.2.1)) (T2 (ix q.2.2.2.1)) R := by
  by_cases z : q.1 = 0
  · exact Wkr.k0 z (h.1 z)
  · have e1 : (T (ix q.2.2.1)).Perm (T2 (ix q.2.2.1)) := e _ (by unfold opsT; rw [if_neg z]; exact List.mem_cons_self)
    by_cases m : q.2.2.2.1 = -1
    · obtain ⟨g8, gw1, gw6, g0, g1⟩ := W.2.2.2.2.2.1 i q hi
      obtain ⟨p, _, _, _, _, _, _, _, r457⟩ := g1 z
      have hl := W.2.2.2.2.1
      have hi40 : i < 40 := by have := (List.getElem?_eq_some_iff.mp hi).1; omega
      have k : q.1 = 1 ∨ q.1 = 2 ∨ q.1 = 3 ∨ q.1 = 6 := by
        by_cases k457 : q.1 = 4 ∨ q.1 = 5 ∨ q.1 = 7
        · obtain ⟨p2, ⟨s2, hs2, eo2, _⟩, _⟩ := r457 k457
          rw [eo2] at m
          exact absurd m (nI_m1 (by omega))
        · exact kd_b g8 z k457
      have h2 := h.pm e1 (List.Perm.refl _)
      clear r457 g1 g0
      refine ⟨h2.1, fun y => ?_, h2.2.2.1, fun y => by omega, fun y => by omega, h2.2.2.2.2.2⟩
      have es : styP c.2.1 q (T (ix q.2.2.2.1)) = styP c.2.1 q (T2 (ix q.2.2.2.1)) := by
        funext e
        unfold styP
        by_cases k1 : q.1 = 1
        · rw [if_pos k1, if_pos k1]
        · rw [if_neg k1, if_neg k1]
          have k2 : q.1 = 2 := by omega
          rw [if_pos k2, if_pos k2]
      rw [← es]
      exact h2.2.1 y
    · exact h.pm e1 (e _ (by unfold opsT; rw [if_neg z, if_neg m]; exact List.mem_cons_of_mem _ List.mem_cons_self))
theorem Wfr.ex {c : Co} (W : WF c) {i : Nat} {q : Qst} (hi : c.2.2.1[i]? = some q) {T T2 : Nat → List Ans} (e : ∀ j ∈ opsT q, (T j).Perm (T2 j)) (h : Wfr c.2.1 q (T (ix q.2.2.1)) (T (ix q.2.2.2.1))) : Wfr c.2.1 q (T2 (ix q.2.2.1)) (T2 (ix q.2.2.2.1)) := by
  by_cases z : q.1 = 0
  · rcases h with h | ⟨y, _⟩ | ⟨y, _⟩ | ⟨y, _⟩ | ⟨y, _⟩
    · exact Or.inl h
    all_goals omega
  · have e1 : (T (ix q.2.2.1)).Perm (T2 (ix q.2.2.1)) := e _ (by unfold opsT; rw [if_neg z]; exact List.mem_cons_self)
    by_cases m : q.2.2.2.1 = -1
    · obtain ⟨g8, gw1, gw6, g0, g1⟩ := W.2.2.2.2.2.1 i q hi
      obtain ⟨p, _, _, _, _, _, _, _, r457⟩ := g1 z
      have hl := W.2.2.2.2.1
      have hi40 : i < 40 := by have := (List.getElem?_eq_some_iff.mp hi).1; omega
      have k : ¬ (q.1 = 4 ∨ q.1 = 5 ∨ q.1 = 7) := fun k457 => by
        obtain ⟨p2, ⟨s2, hs2, eo2, _⟩, _⟩ := r457 k457
        rw [eo2] at m
        exact absurd m (nI_m1 (by omega))
      have h2 := h.pm e1 (List.Perm.refl _)
      rcases h2 with ⟨y, _⟩ | y | ⟨y, _⟩ | ⟨y, _⟩ | y
      · exact absurd y z
      · exact Or.inr (Or.inl y)
      · exact absurd (Or.inl y) k
      · exact absurd (Or.inr (Or.inl y)) k
      · exact Or.inr (Or.inr (Or.inr (Or.inr y)))
    · exact h.pm e1 (e _ (by unfold opsT; rw [if_neg z, if_neg m]; exact List.mem_cons_of_mem _ List.mem_cons_self))
theorem upT_s (T : Nat → List Ans) (i : Nat) (R : List Ans) : upT T i R i = R := if_pos rfl
theorem upT_o {T : Nat → List Ans} {i j : Nat} (h : j ≠ i) (R : List Ans) : upT T i R j = T j := if_neg h
theorem Good.up {c : Co} (W : WF c) {D : Nat → Bool} {T : Nat → List Ans} {n : Nat} (h : Good c D T n) {q : Qst} (hq : c.2.2.1[n]? = some q) {R : List Ans} (w : Wkr c.2.1 q (T (ix q.2.2.1)) (T (ix q.2.2.2.1)) R) : Good c D (upT T n R) (n + 1) := fun i p hi hd hp => by
  by_cases e : i = n
  · subst e
    rw [hq] at hp
    cases hp
    rw [upT_s]
    exact w.ex W hq (fun j hj => by rw [upT_o (by have := (ops_lt W hq j hj).1; omega)])
  · rw [upT_o e]
    exact (h i p (by omega) hd hp).ex W hp (fun j hj => by rw [upT_o (by have := (ops_lt W hp j hj).1; omega)])
theorem Good.skip {c : Co} {D : Nat → Bool} {T : Nat → List Ans} {n : Nat} (h : Good c D T n) (hd : D n = false) : Good c D T (n + 1) := fun i p hi hdi hp => by
  by_cases e : i = n
  · rw [e, hd] at hdi; cases hdi
  · exact h i p (by omega) hdi hp
theorem can_step {c : Co} (W : WF c) {i : Nat} {q : Qst} (hi : c.2.2.1[i]? = some q) {T : Nat → List Ans} (hT : ∀ j ∈ opsT q, ∀ p, c.2.2.1[j]? = some p → ∀ e ∈ T j, CanA c.2.1.length p.2.1 e) {R : List Ans} (w : Wkr c.2.1 q (T (ix q.2.2.1)) (T (ix q.2.2.2.1)) R) : ∀ e ∈ R, CanA c.2.1.length q.2.1 e := by
  have hl := W.2.2.2.2.1
  have hi40 : i < 40 := by have := (List.getElem?_eq_some_iff.mp hi).1; omega
  obtain ⟨g8, gw1, gw6, g0, g1⟩ := W.2.2.2.2.2.1 i q hi
  by_cases z : q.1 = 0
  · exact w.can W g8 (w1 := 0) (w2 := 0) (fun y => absurd z y) (fun y => by omega) (fun y => by omega) (fun y => by omega) (fun y => by omega) (fun y => by omega)
  · obtain ⟨p, ⟨s1, hs1, eo, hp⟩, r1, r2, r3, r6, r123, r66, r457⟩ := g1 z
    have x1 : ix q.2.2.1 = s1 := by rw [eo]; exact nI_clamp (by omega)
    have cA : ∀ a ∈ T (ix q.2.2.1), CanA c.2.1.length p.2.1 a := by
      rw [x1]
      exact hT s1 (ops_mem W hi (Or.inl ⟨z, eo⟩) hs1) p hp
    by_cases k457 : q.1 = 4 ∨ q.1 = 5 ∨ q.1 = 7
    · obtain ⟨p2, ⟨s2, hs2, eo2, hp2⟩, ecl, e4, e57⟩ := r457 k457
      have x2 : ix q.2.2.2.1 = s2 := by rw [eo2]; exact nI_clamp (by omega)
      have cB : ∀ a ∈ T (ix q.2.2.2.1), CanA c.2.1.length p2.2.1 a := by
        rw [x2]
        exact hT s2 (ops_mem W hi (Or.inr eo2) hs2) p2 hp2
      refine w.can W g8 (fun _ => cA) (fun _ => cB) (fun y => ?_) (fun y => (e57 (by rw [y]; decide)).2) (fun y => (e4 y).1) r6
      by_cases k4 : q.1 = 4
      · clear r457 g1 g0; omega
      · exact (e57 k4).1
    · refine w.can W g8 (w2 := 0) (fun _ => cA) (fun y => absurd (y.imp id Or.inl) k457) (fun y => ?_) (fun y => absurd (Or.inr (Or.inl y)) k457) (fun y => absurd (Or.inl y) k457) r6
      rcases y with y | y | y | y
      · exact (r1 y).1
      · exact (r2 y).1
      · exact absurd (Or.inr (Or.inr y)) k457
      · exact absurd (Or.inr (Or.inl y)) k457
theorem Good.can {c : Co} (W : WF c) {D : Nat → Bool} (cl : ∀ (i : Nat) q, c.2.2.1[i]? = some q → D i = true → ∀ j ∈ opsT q, D j = true) {T : Nat → List Ans} {n : Nat} (h : Good c D T n) : ∀ (i : Nat) q, i < n → D i = true → c.2.2.1[i]? = some q → ∀ e ∈ T i, CanA c.2.1.length q.2.1 e := by
  intro i
  induction i using Nat.strongRecOn with
  | _ i ih =>
    intro q hi hd hq
    exact can_step W hq (fun j hj p hp => ih j (ops_lt W hq j hj).1 p (by have := (ops_lt W hq j hj).1; omega) (cl i q hq hd j hj) hp) (h i q hi hd hq)
theorem Good.same {c : Co} (W : WF c) {D : Nat → Bool} (cl : ∀ (i : Nat) q, c.2.2.1[i]? = some q → D i = true → ∀ j ∈ opsT q, D j = true) {T T2 : Nat → List Ans} {n : Nat} (h : Good c D T n) (k : Good c D T2 n) : ∀ (i : Nat) q, i < n → D i = true → c.2.2.1[i]? = some q → (T i).Perm (T2 i) := by
  intro i
  induction i using Nat.strongRecOn with
  | _ i ih =>
    intro q hi hd hq
    have pj : ∀ j ∈ opsT q, (T j).Perm (T2 j) := fun j hj => by
      obtain ⟨a, p, hp⟩ := ops_lt W hq j hj
      exact ih j a p (by omega) (cl i q hq hd j hj) hp
    have w1 := (h i q hi hd hq).ex W hq pj
    have w2 := k i q hi hd hq
    obtain ⟨g8, _⟩ := W.2.2.2.2.2.1 i q hq
    by_cases z : q.1 = 6
    · have mem : ix q.2.2.1 ∈ opsT q := by unfold opsT; rw [if_neg (by omega)]; exact List.mem_cons_self
      obtain ⟨a, p, hp⟩ := ops_lt W hq _ mem
      have cc := k.can W cl _ p (by omega) (cl i q hq hd _ mem) hp
      exact w1.same g8 (fun a ha => (cc a ha).raw.2.2.2.1) (fun a ha => (cc a ha).raw.2.2.2.2) w2
    · have cs : q.1 = 0 ∨ (q.1 = 1 ∨ q.1 = 2 ∨ q.1 = 7) ∨ q.1 = 3 ∨ q.1 = 4 ∨ q.1 = 5 := by omega
      rcases cs with z | z | z | z | z
      · exact (w1.1 z).same (w2.1 z)
      · exact (w1.2.1 z).trans (w2.2.1 z).symm
      · exact (w1.2.2.1 z).same (w2.2.2.1 z)
      · exact (w1.2.2.2.1 z).same (w2.2.2.2.1 z)
      · exact (w1.2.2.2.2.1 z).same (w2.2.2.2.2.1 z)
theorem Good.bad {c : Co} (W : WF c) {D : Nat → Bool} (cl : ∀ (i : Nat) q, c.2.2.1[i]? = some q → D i = true → ∀ j ∈ opsT q, D j = true) {T : Nat → List Ans} {r : Nat} (h : Good c D T (r + 1)) (k : Bad c D r) : False := by
  obtain ⟨T2, m, q, hm, hd, hq, g, f⟩ := k
  have g1 : Good c D T m := fun i p hi => h i p (by omega)
  have w := h m q (by omega) hd hq
  refine w.no (f.ex W hq (fun j hj => ?_))
  obtain ⟨a, p, hp⟩ := ops_lt W hq j hj
  exact g.same W cl g1 j p a (cl m q hq hd j hj) hp
end NS
