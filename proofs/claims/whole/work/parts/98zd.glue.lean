/-! ask: the results of the questions, in any order of the rows -/
section NO
theorem Seqn.v {A : List Ans} : ∀ {n : Nat} {K : List Ans}, Seqn A n K → Seqv A n K
  | 0, _, h => h
  | _ + 1, _, ⟨K0, h, o⟩ => ⟨K0, h.v, o.v⟩
theorem Clo.v {A K : List Ans} (h : Clo A K) : Clov A K := by
  obtain ⟨n, a, b⟩ := h
  exact ⟨n, a.v, b.v⟩
theorem CloX.v {A : List Ans} (h : CloX A) : ClXv A := by
  obtain ⟨n, K, a, b⟩ := h
  exact ⟨n, K, a.v, b⟩
theorem Seqv.two {A B : List Ans} (p : A.Perm B) : ∀ {n : Nat} {K L : List Ans}, Seqv A n K → Seqv B n L → K.Perm L
  | 0, _, _, h, k => by
    rw [show _ = A.map bare from h, show _ = B.map bare from k]
    exact p.map _
  | n + 1, _, _, ⟨K0, h1, h2⟩, ⟨L0, k1, k2⟩ => (h2.perm (rndR_perm p (Seqv.two p h1 k1))).same k2
theorem Clov.same {A B : List Ans} (p : A.Perm B) {K L : List Ans} (h : Clov A K) (k : Clov B L) : K.Perm L := by
  obtain ⟨n, h1, h2⟩ := h
  obtain ⟨m, k1, k2⟩ := k
  have a := h1.stay h2 m
  have b := k1.stay k2 n
  rw [Nat.add_comm] at b
  exact Seqv.two p a b
theorem Clov.nov {A B : List Ans} (p : A.Perm B) {K : List Ans} (h : Clov A K) (k : ClXv B) : False := by
  obtain ⟨n, h1, h2⟩ := h
  obtain ⟨m, L, k1, k2⟩ := k
  by_cases c : m < n
  · obtain ⟨d, rfl⟩ : ∃ d, n = m + d + 1 := ⟨n - m - 1, by omega⟩
    obtain ⟨K0, K1, q1, q2⟩ := Seqv.pre d h1
    exact (q2.perm (rndR_perm p (Seqv.two p q1 k1))).no k2
  · obtain ⟨d, rfl⟩ : ∃ d, m = n + d := ⟨m - n, by omega⟩
    exact (h2.perm (rndR_perm p (Seqv.two p (h1.stay h2 d) k1))).no k2
theorem OKv.pr {raw R S : List Ans} (p : R.Perm S) (h : OKv raw R) : OKv raw S := ⟨by rw [← p.length_eq]; exact h.1, ((p.map (fun e => e.1)).nodup_iff).mp h.2.1, fun r => by
  rw [← h.2.2.1 r]
  exact ⟨fun ⟨e, he, x⟩ => ⟨e, p.mem_iff.mpr he, x⟩, fun ⟨e, he, x⟩ => ⟨e, p.mem_iff.mp he, x⟩⟩, fun e he => h.2.2.2 e (p.mem_iff.mpr he)⟩
theorem OKr.pr {raw R S : List Ans} (p : R.Perm S) (h : OKr raw R) : OKr raw S := ⟨by rw [← p.length_eq]; exact h.1, ((p.map (fun e => e.1)).nodup_iff).mp h.2.1, fun r => by
  rw [← h.2.2.1 r]
  exact ⟨fun ⟨e, he, x⟩ => ⟨e, p.mem_iff.mpr he, x⟩, fun ⟨e, he, x⟩ => ⟨e, p.mem_iff.mp he, x⟩⟩, fun e he => h.2.2.2 e (p.mem_iff.mpr he)⟩
theorem Clov.pr {A K L : List Ans} (p : K.Perm L) (h : Clov A K) : Clov A L := by
  obtain ⟨n, h1, h2⟩ := h
  exact ⟨n + 1, ⟨K, h1, h2.pr p⟩, (h2.perm (rndR_perm (List.Perm.refl _) p)).pr p⟩
theorem Wgh.pm {A B R : List Ans} (p : A.Perm B) (h : Wgh A R) : Wgh B R := fun e he => ⟨(h e he).1, (h e he).2.1.perm p, (h e he).2.2.perm p⟩
theorem Wgh.same {A R S : List Ans} (hC : okA rdC A) (hT : okA rdT A) (p : (R.map bare).Perm (S.map bare)) (nR : (R.map (fun e => e.1)).Nodup) (nS : (S.map (fun e => e.1)).Nodup) (h : Wgh A R) (k : Wgh A S) : R.Perm S := by
  have nd : ∀ {R : List Ans}, (R.map (fun e => e.1)).Nodup → R.Nodup := fun {R} h => by
    unfold List.Nodup at h
    rw [List.pairwise_map] at h
    exact h.imp (fun {a b} z e => z (by rw [e]))
  have sub : ∀ {R S : List Ans}, (R.map bare).Perm (S.map bare) → Wgh A R → Wgh A S → ∀ e ∈ R, e ∈ S := fun {R S} p h k e he => by
    obtain ⟨f, hf, ef⟩ := List.mem_map.mp (p.mem_iff.mp (List.mem_map.mpr ⟨e, he, rfl⟩))
    have e1 := bare_1 ef
    have e2 := bare_2 ef
    have x0 : at0 f = at0 e := by unfold at0; rw [e1]
    have x1 : at1 f = at1 e := by unfold at1; rw [e1]
    obtain ⟨a1, a2, a3⟩ := h e he
    obtain ⟨b1, b2, b3⟩ := k f hf
    rw [x0, x1] at b2 b3
    have c2 : f.2.2.2.1 = e.2.2.2.1 := b2.one hC a2
    have c3 : f.2.2.2.2 = e.2.2.2.2 := b3.one hT a3
    obtain ⟨r, ws, c, co, t⟩ := e
    obtain ⟨r2, ws2, c2', co2, t2⟩ := f
    have e1 : r2 = r := e1
    have e2 : ws2 = ws := e2
    have a1 : c = 0 := a1
    have b1 : c2' = 0 := b1
    have c2 : co2 = co := c2
    have c3 : t2 = t := c3
    subst e1 e2 a1 b1 c2 c3
    exact hf
  rw [List.perm_ext_iff_of_nodup (nd nR) (nd nS)]
  exact fun e => ⟨sub p h k e, sub p.symm k h e⟩
/-- R is the result of the question q from the results A and B -/
def Wkr (fs : List Fct) (q : Qst) (A B R : List Ans) : Prop := (q.1 = 0 → OKr (basR fs q.2.2.1 q.2.1 fs.length) R) ∧ (q.1 = 1 ∨ q.1 = 2 ∨ q.1 = 7 → R.Perm (A.filter (styP fs q B))) ∧ (q.1 = 3 → OKr (A.map (cutA q.2.1 q.2.2.2.2.2)) R) ∧ (q.1 = 4 → OKr (paiR q.2.2.2.2.2 A B) R) ∧ (q.1 = 5 → OKr (A ++ B) R) ∧ (q.1 = 6 → Clov A (R.map bare) ∧ (R.map (fun e => e.1)).Nodup ∧ Wgh A R)
def Wfr (fs : List Fct) (q : Qst) (A B : List Ans) : Prop := q.1 = 0 ∧ NOm (basR fs q.2.2.1 q.2.1 fs.length) ∨ q.1 = 3 ∧ NOm (A.map (cutA q.2.1 q.2.2.2.2.2)) ∨ q.1 = 4 ∧ NOm (paiR q.2.2.2.2.2 A B) ∨ q.1 = 5 ∧ NOm (A ++ B) ∨ q.1 = 6 ∧ ClXv A
theorem Wkr.pr {fs : List Fct} {q : Qst} {A B R S : List Ans} (p : R.Perm S) (h : Wkr fs q A B R) : Wkr fs q A B S := ⟨fun z => (h.1 z).pr p, fun z => p.symm.trans (h.2.1 z), fun z => (h.2.2.1 z).pr p, fun z => (h.2.2.2.1 z).pr p, fun z => (h.2.2.2.2.1 z).pr p, fun z => ⟨(h.2.2.2.2.2 z).1.pr (p.map _), ((p.map (fun e => e.1)).nodup_iff).mp (h.2.2.2.2.2 z).2.1, fun e he => (h.2.2.2.2.2 z).2.2 e (p.mem_iff.mpr he)⟩⟩
theorem paiR_perm {td : Nat → Int32} {A A2 B B2 : List Ans} (p : A.Perm A2) (r : B.Perm B2) : (paiR td A B).Perm (paiR td A2 B2) := by
  unfold paiR
  refine (p.flatMap_right _).trans ?_
  clear p
  induction A2 with
  | nil => exact List.Perm.refl _
  | cons a L ih =>
    rw [List.flatMap_cons, List.flatMap_cons]
    exact ((r.filter _).map _).append ih
theorem any_perm {A B : List Ans} (p : A.Perm B) (f : Ans → Bool) : A.any f = B.any f := by
  rw [Bool.eq_iff_iff, List.any_eq_true, List.any_eq_true]
  exact ⟨fun ⟨x, hx, h⟩ => ⟨x, p.mem_iff.mp hx, h⟩, fun ⟨x, hx, h⟩ => ⟨x, p.mem_iff.mpr hx, h⟩⟩
theorem sty_perm {fs : List Fct} {q : Qst} {B B2 : List Ans} (r : B.Perm B2) : styP fs q B = styP fs q B2 := by
  funext e
  unfold styP tkn
  rw [any_perm r]
theorem Wkr.pm {fs : List Fct} {q : Qst} {A A2 B B2 R : List Ans} (p : A.Perm A2) (r : B.Perm B2) (h : Wkr fs q A B R) : Wkr fs q A2 B2 R := by
  refine ⟨h.1, fun z => ?_, fun z => (h.2.2.1 z).pm (p.map _), fun z => (h.2.2.2.1 z).pm (paiR_perm p r), fun z => (h.2.2.2.2.1 z).pm (p.append r), fun z => ⟨?_, (h.2.2.2.2.2 z).2.1, (h.2.2.2.2.2 z).2.2.pm p⟩⟩
  · have := (h.2.1 z).trans (p.filter _)
    rw [sty_perm r] at this
    exact this
  · obtain ⟨n, h1, h2⟩ := (h.2.2.2.2.2 z).1
    have key : ∀ {n : Nat} {K : List Ans}, Seqv A n K → ∃ L, Seqv A2 n L ∧ K.Perm L := by
      intro n
      induction n with
      | zero => exact fun {K} h => ⟨A2.map bare, rfl, by rw [show K = A.map bare from h]; exact p.map _⟩
      | succ n ih =>
        rintro K ⟨K0, a, b⟩
        obtain ⟨L, c, d⟩ := ih a
        exact ⟨K, ⟨L, c, b.perm (rndR_perm p d)⟩, List.Perm.refl _⟩
    obtain ⟨L, c, d⟩ := key h1
    have o := (h2.perm (rndR_perm p d)).pr d
    exact (show Clov A2 L from ⟨n, c, o⟩).pr d.symm
theorem Wfr.pm {fs : List Fct} {q : Qst} {A A2 B B2 : List Ans} (p : A.Perm A2) (r : B.Perm B2) (h : Wfr fs q A B) : Wfr fs q A2 B2 := by
  rcases h with h | ⟨z, h⟩ | ⟨z, h⟩ | ⟨z, h⟩ | ⟨z, n, K, h1, h2⟩
  · exact Or.inl h
  · exact Or.inr (Or.inl ⟨z, h.perm (p.map _)⟩)
  · exact Or.inr (Or.inr (Or.inl ⟨z, h.perm (paiR_perm p r)⟩))
  · exact Or.inr (Or.inr (Or.inr (Or.inl ⟨z, h.perm (p.append r)⟩)))
  · have key : ∀ {n : Nat} {K : List Ans}, Seqv A n K → ∃ L, Seqv A2 n L ∧ K.Perm L := by
      intro n
      induction n with
      | zero => exact fun {K} h => ⟨A2.map bare, rfl, by rw [show K = A.map bare from h]; exact p.map _⟩
      | succ n ih =>
        rintro K ⟨K0, a, b⟩
        obtain ⟨L, c, d⟩ := ih a
        exact ⟨K, ⟨L, c, b.perm (rndR_perm p d)⟩, List.Perm.refl _⟩
    obtain ⟨L, c, d⟩ := key h1
    exact Or.inr (Or.inr (Or.inr (Or.inr ⟨z, n, L, c, h2.perm (rndR_perm p d)⟩)))
theorem Wkr.no {fs : List Fct} {q : Qst} {A B R : List Ans} (h : Wkr fs q A B R) (k : Wfr fs q A B) : False := by
  rcases k with ⟨z, k⟩ | ⟨z, k⟩ | ⟨z, k⟩ | ⟨z, k⟩ | ⟨z, k⟩
  · exact (h.1 z).no k
  · exact (h.2.2.1 z).no k
  · exact (h.2.2.2.1 z).no k
  · exact (h.2.2.2.2.1 z).no k
  · exact (h.2.2.2.2.2 z).1.nov (List.Perm.refl _) k
theorem Wkr.same {fs : List Fct} {q : Qst} (h8 : q.1 < 8) {A B R S : List Ans} (hC : okA rdC A) (hT : okA rdT A) (h : Wkr fs q A B R) (k : Wkr fs q A B S) : R.Perm S := by
  have c : q.1 = 0 ∨ (q.1 = 1 ∨ q.1 = 2 ∨ q.1 = 7) ∨ q.1 = 3 ∨ q.1 = 4 ∨ q.1 = 5 ∨ q.1 = 6 := by omega
  rcases c with z | z | z | z | z | z
  · exact (h.1 z).same (k.1 z)
  · exact (h.2.1 z).trans (k.2.1 z).symm
  · exact (h.2.2.1 z).same (k.2.2.1 z)
  · exact (h.2.2.2.1 z).same (k.2.2.2.1 z)
  · exact (h.2.2.2.2.1 z).same (k.2.2.2.2.1 z)
  · obtain ⟨a1, a2, a3⟩ := h.2.2.2.2.2 z
    obtain ⟨b1, b2, b3⟩ := k.2.2.2.2.2 z
    exact a3.same hC hT (a1.same (List.Perm.refl _) b1) a2 b2 b3
end NO
