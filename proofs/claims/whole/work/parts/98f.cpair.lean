/-! answers each of one raw one; the class: two answers joined -/
section MO
variable {ad : Ad} {ct : Ct} {σ : St}
theorem sel_one : ∀ {raw : List Ans}, (raw.map (fun e => e.1)).Nodup → ∀ {x : Ans}, x ∈ raw → sel raw x.1 = [x]
  | [], _, _, h => absurd h List.not_mem_nil
  | a :: t, hn, x, h => by
    rw [List.map_cons, List.nodup_cons] at hn
    unfold sel
    rcases List.mem_cons.mp h with z | z
    · subst z
      rw [List.filter_cons_of_pos (p := fun y : Ans => decide (y.1 = x.1)) (a := x) (decide_eq_true rfl)]
      congr 1
      rw [List.filter_eq_nil_iff]
      intro y hy e
      exact hn.1 (List.mem_map.mpr ⟨y, hy, of_decide_eq_true e⟩)
    · have ne : ¬ a.1 = x.1 := fun e => hn.1 (List.mem_map.mpr ⟨x, z, e.symm⟩)
      rw [List.filter_cons_of_neg (p := fun y : Ans => decide (y.1 = x.1)) (a := a) (by rw [decide_eq_false ne]; decide)]
      exact sel_one hn.2 z
theorem gath_one {raw : List Ans} (hn : (raw.map (fun e => e.1)).Nodup) {x : Ans} (hx : x ∈ raw) : gath raw x.1 = x.2.1 := by
  unfold gath
  rw [sel_one hn hx]
  simp
/-- an answer that one raw one alone comes to -/
def Mel1 (x e : Ans) : Prop := e.1 = x.1 ∧ e.2.1.length ≤ 16 ∧ CW e.2.1 x.2.1 ∧ e.2.2 = x.2.2
theorem Mel_E {raw : List Ans} (hn : (raw.map (fun e => e.1)).Nodup) {x e : Ans} (hx : x ∈ raw) (m : Mel1 x e) (hc : x.2.2.2.1 ≤ 1000000000) (ht : ¬ x.2.2.2.2 < 0) : MeE raw e := by
  obtain ⟨m1, m2, m3, m4⟩ := m
  have s := sel_one hn hx
  refine ⟨m2, by rw [m1, gath_one hn hx]; exact m3, ?_, ?_, ?_⟩
  · unfold cntS
    rw [m1, s, m4]
    show _ = 0 + x.2.2.1
    rw [Int64.zero_add]
  · unfold cstS
    rw [m1, s, m4]
    show _ = if x.2.2.2.1 < 1000000000 then x.2.2.2.1 else 1000000000
    by_cases c : x.2.2.2.1 < 1000000000
    · rw [if_pos c]
    · rw [if_neg c]
      exact Int32.le_antisymm hc (Int32.not_lt.mp c)
  · unfold truS
    rw [m1, s, m4]
    show _ = if x.2.2.2.2 < 0 then 0 else x.2.2.2.2
    rw [if_neg ht]
theorem rows_nd {raw : List Ans} (hp : raw.Pairwise (fun a b => rlt a.1 b.1)) : (raw.map (fun e => e.1)).Nodup := by
  unfold List.Nodup
  rw [List.pairwise_map]
  exact hp.imp (fun {a b} z (e : a.1 = b.1) => rlt_ir b.1 (by rw [e] at z; exact z))
theorem Mel_OKm {raw R : List Ans} (hp : raw.Pairwise (fun a b => rlt a.1 b.1)) (h32 : raw.length ≤ 32) (hl : R.length = raw.length) (hm : ∀ (i : Nat) x e, raw[i]? = some x → R[i]? = some e → Mel1 x e) (hg : ∀ x ∈ raw, x.2.2.2.1 ≤ 1000000000 ∧ ¬ x.2.2.2.2 < 0) : OKm raw R := by
  have at' : ∀ i (h : i < R.length), Mel1 (raw[i]'(by omega)) R[i] := fun i h => hm i _ _ (List.getElem?_eq_getElem (by omega)) (List.getElem?_eq_getElem h)
  refine ⟨by omega, ?_, fun r => ?_, fun e he => ?_⟩
  · rw [List.pairwise_iff_getElem]
    intro i j hi hj hij
    rw [(at' i hi).1, (at' j hj).1]
    exact List.pairwise_iff_getElem.mp hp i j (by omega) (by omega) hij
  · constructor
    · rintro ⟨e, he, rfl⟩
      obtain ⟨i, hi, rfl⟩ := List.mem_iff_getElem.mp he
      exact ⟨_, List.getElem_mem (by omega), (at' i hi).1.symm⟩
    · rintro ⟨x, hx, rfl⟩
      obtain ⟨i, hi, rfl⟩ := List.mem_iff_getElem.mp hx
      exact ⟨_, List.getElem_mem (show i < R.length by omega), (at' i (by omega)).1⟩
  · obtain ⟨i, hi, rfl⟩ := List.mem_iff_getElem.mp he
    have hx : raw[i]'(by omega) ∈ raw := List.getElem_mem (by omega)
    exact Mel_E (rows_nd hp) hx (at' i hi) (hg _ hx).1 (hg _ hx).2
def csB (x y : Int32) : Int32 := if 1000000000 < x + y then 1000000000 else x + y
def mnT (x y : Int64) : Int64 := if y < x then y else x
def joiA (a b : Ans) : Ans := (a.1 ++ b.1, uni a.2.1 b.2.1, a.2.2.1 * b.2.2.1, csB a.2.2.2.1 b.2.2.2.1, mnT a.2.2.2.2 b.2.2.2.2)
theorem Slf.of (h : Sh ad ct σ) {S : Nat × Nat → Prop} {σ' : St} (f : Fr ct S σ σ') {s j : Nat} (hs : s < 43) (n1 : ¬ S (3, s)) (n2 : ¬ S (128, s)) (n3 : ¬ S (129, s)) : Slf ad σ σ' s j := fun j' h1 _ => by
  have d3 := (f (ad 3 s j') (by rw [k3 h hs h1]; decide)).2 (by rw [c3 h hs h1]; exact n1)
  have d128 := (f (ad 128 s j') (by rw [k128 h hs h1]; decide)).2 (by rw [c128 h hs h1]; exact n2)
  have d129 := (f (ad 129 s j') (by rw [k129 h hs h1]; decide)).2 (by rw [c129 h hs h1]; exact n3)
  exact ⟨d3.1, d3.2.1, d128.2.2.1, d129.2.2.2.1⟩
abbrev SJ (k : Nat) : Nat × Nat → Prop := fun p => p = (3, k) ∨ p = (128, k) ∨ p = (129, k) ∨ p = (8, 0) ∨ p = (448, 0)
theorem SJ_SC (k : Nat) : ∀ p, SJ k p → SC p := fun p q => by rcases q with rfl | rfl | rfl | rfl | rfl <;> simp [SC]
theorem SG_J (k : Nat) : ∀ p, SG p → SJ k p := fun p q => by rcases q with q | q <;> simp [SJ, q]
theorem SJ_o (k : Nat) : ∀ p, SJ k p → SWo k p := fun p q => by rcases q with q | q | q | q | q <;> simp [SWo, SNr, q]
theorem C_join (h : Sh ad ct σ) {k j s1 j1 w1 s2 j2 w2 : Nat} {cl1 cl2 cl : Bool} {a b : Ans} (hk : k < 40) (hj : j < room k) (hs1 : s1 < 40) (hj1 : j1 < room s1) (hs2 : s2 < 40) (hj2 : j2 < room s2) (n1 : s1 ≠ k) (n2 : s2 ≠ k) (q1 : AnsAt ad σ s1 j1 w1 cl1 a) (q2 : AnsAt ad σ s2 j2 w2 cl2 b) (hw : w1 + w2 ≤ 6) (hc1 : cl1 = true → cl = true) (hc2 : cl2 = true → cl = true) {Q : Int32 → St → Prop} (h0 : ∀ σ', 16 < (addA [] (uni a.2.1 b.2.1)).length → Fr ct (SJ k) σ σ' → Q 0 σ') (h1 : ∀ σ' e, Mel1 (joiA a b) e → Fr ct (SJ k) σ σ' → Slf ad σ σ' k j → AnsAt ad σ' k j (w1 + w2) cl e → Q 1 σ') : wX4_join (ad 5 0 0) (ad 3 s1 j1) (nI w1) (ad 3 s2 j2) (nI w2) (ad 3 k j) σ Q := by
  have x1 : ix (nI w1) = w1 := nI_clamp (by omega)
  have x2 : ix (nI w2) = w2 := nI_clamp (by omega)
  have m1 : ad 3 s1 j1 ≠ ad 3 k j := fun z => by
    have a := c3 h (by omega) hj1
    rw [z, c3 h (by omega) hj] at a
    cases a; exact n1 rfl
  have m2 : ad 3 s2 j2 ≠ ad 3 k j := fun z => by
    have a := c3 h (by omega) hj2
    rw [z, c3 h (by omega) hj] at a
    cases a; exact n2 rfl
  have r1 : ad 128 s1 j1 ≠ ad 128 k j := fun z => by
    have a := c128 h (by omega) hj1
    rw [z, c128 h (by omega) hj] at a
    cases a; exact n1 rfl
  have r2 : ad 128 s2 j2 ≠ ad 128 k j := fun z => by
    have a := c128 h (by omega) hj2
    rw [z, c128 h (by omega) hj] at a
    cases a; exact n2 rfl
  refine ⟨k3 h (by omega) hj1, _, p128 h (by omega) hj1, k3 h (by omega) hj, _, p128 h (by omega) hj, k128 h (by omega) hj1, k128 h (by omega) hj, by decide, by decide, nI_pos (by omega), by rw [x1, l128 h (by omega) hj1, show ix 0 = 0 from rfl]; omega, by rw [x1, l128 h (by omega) hj, show ix 0 = 0 from rfl]; omega, k3 h (by omega) hj2, _, p128 h (by omega) hj2, k128 h (by omega) hj2, by decide, nI_pos (by omega), nI_pos (by omega), by rw [x2, l128 h (by omega) hj2, show ix 0 = 0 from rfl]; omega, by rw [x1, x2, l128 h (by omega) hj]; omega, ?_⟩
  rw [x1, x2, show ix 0 = 0 from rfl, q1.2.2.2.2.2.2.1, q2.2.2.2.2.2.2.1]
  show _ ∧ _
  have z3 : SJ k (ct (ad 3 k j)) ∨ zK σ (ad 3 k j) = 0 := Or.inl (by rw [c3 h (by omega) hj]; exact Or.inl rfl)
  have z8 : SJ k (ct (ad 128 k j)) ∨ zK σ (ad 128 k j) = 0 := Or.inl (by rw [c128 h (by omega) hj]; exact Or.inr (Or.inl rfl))
  have Fa : Fr ct (SJ k) σ (uFj (uCi (uCi σ (ad 128 s1 j1) 0 (ad 128 k j) 0 w1) (ad 128 s2 j2) 0 (ad 128 k j) w1 w2) 131 (ad 3 k j) (zFj σ 131 (ad 3 s1 j1) * zFj σ 131 (ad 3 s2 j2))) := ((Fr.rf.uCi _ _ _ _ _ z8).uCi _ _ _ _ _ z8).uFj _ _ _ z3
  have ha := h.frC (Fa.mono (SJ_SC k))
  have t1 : zFj (uFj (uCi (uCi σ (ad 128 s1 j1) 0 (ad 128 k j) 0 w1) (ad 128 s2 j2) 0 (ad 128 k j) w1 w2) 131 (ad 3 k j) (zFj σ 131 (ad 3 s1 j1) * zFj σ 131 (ad 3 s2 j2))) 133 (ad 3 s1 j1) = a.2.2.2.2 := by simp only [yK_uFi, yL_uFi, yFj_uFi, yFr_uFi, yAi_uFi, yAj_uFi, yAd_uFi, yAr_uFi, yFi_uFi, yK_uFj, yL_uFj, yFi_uFj, yFr_uFj, yAi_uFj, yAj_uFj, yAd_uFj, yAr_uFj, yFj_uFj, yK_uFr, yL_uFr, yFi_uFr, yFj_uFr, yAi_uFr, yAj_uFr, yAd_uFr, yAr_uFr, yFr_uFr, yK_uAi, yL_uAi, yFi_uAi, yFj_uAi, yFr_uAi, yAj_uAi, yAd_uAi, yAr_uAi, yAi_uAi, yK_uAj, yL_uAj, yFi_uAj, yFj_uAj, yFr_uAj, yAi_uAj, yAd_uAj, yAr_uAj, yAj_uAj, yK_uAd, yL_uAd, yFi_uAd, yFj_uAd, yFr_uAd, yAi_uAd, yAj_uAd, yAr_uAd, yAd_uAd, yK_uAr, yL_uAr, yFi_uAr, yFj_uAr, yFr_uAr, yAi_uAr, yAj_uAr, yAd_uAr, yAr_uAr, yK_uCi, yL_uCi, yFi_uCi, yFj_uCi, yFr_uCi, yAj_uCi, yAd_uCi, yAr_uCi, yK_uCj, yL_uCj, yFi_uCj, yFj_uCj, yFr_uCj, yAi_uCj, yAd_uCj, yAr_uCj, yK_uCx, yL_uCx, yFi_uCx, yFj_uCx, yFr_uCx, yAi_uCx, yAd_uCx, yAr_uCx, yK_nO, yL_nO, yFi_nO, yFj_nO, yFr_nO, yAi_nO, yAj_nO, yAd_nO, yAr_nO, yK_nA, yL_nA, yFi_nA, yFj_nA, yFr_nA, yAi_nA, yAj_nA, yAd_nA, yAr_nA, yK_nC, yL_nC, yFi_nC, yFj_nC, yFr_nC, yAi_nC, yAj_nC, yAd_nC, yAr_nC, yu2, yAi_uCi', yAj_uCj', yAj_uCx', Option.some.injEq, exists_eq_left', true_and, and_true, not_false_eq_true, forall_const, false_and, and_false, reduceIte, Nat.reduceEqDiff, ne_eq]; exact q1.2.2.2.2.2.2.2
  have t2 : zFj (uFj (uCi (uCi σ (ad 128 s1 j1) 0 (ad 128 k j) 0 w1) (ad 128 s2 j2) 0 (ad 128 k j) w1 w2) 131 (ad 3 k j) (zFj σ 131 (ad 3 s1 j1) * zFj σ 131 (ad 3 s2 j2))) 133 (ad 3 s2 j2) = b.2.2.2.2 := by simp only [yK_uFi, yL_uFi, yFj_uFi, yFr_uFi, yAi_uFi, yAj_uFi, yAd_uFi, yAr_uFi, yFi_uFi, yK_uFj, yL_uFj, yFi_uFj, yFr_uFj, yAi_uFj, yAj_uFj, yAd_uFj, yAr_uFj, yFj_uFj, yK_uFr, yL_uFr, yFi_uFr, yFj_uFr, yAi_uFr, yAj_uFr, yAd_uFr, yAr_uFr, yFr_uFr, yK_uAi, yL_uAi, yFi_uAi, yFj_uAi, yFr_uAi, yAj_uAi, yAd_uAi, yAr_uAi, yAi_uAi, yK_uAj, yL_uAj, yFi_uAj, yFj_uAj, yFr_uAj, yAi_uAj, yAd_uAj, yAr_uAj, yAj_uAj, yK_uAd, yL_uAd, yFi_uAd, yFj_uAd, yFr_uAd, yAi_uAd, yAj_uAd, yAr_uAd, yAd_uAd, yK_uAr, yL_uAr, yFi_uAr, yFj_uAr, yFr_uAr, yAi_uAr, yAj_uAr, yAd_uAr, yAr_uAr, yK_uCi, yL_uCi, yFi_uCi, yFj_uCi, yFr_uCi, yAj_uCi, yAd_uCi, yAr_uCi, yK_uCj, yL_uCj, yFi_uCj, yFj_uCj, yFr_uCj, yAi_uCj, yAd_uCj, yAr_uCj, yK_uCx, yL_uCx, yFi_uCx, yFj_uCx, yFr_uCx, yAi_uCx, yAd_uCx, yAr_uCx, yK_nO, yL_nO, yFi_nO, yFj_nO, yFr_nO, yAi_nO, yAj_nO, yAd_nO, yAr_nO, yK_nA, yL_nA, yFi_nA, yFj_nA, yFr_nA, yAi_nA, yAj_nA, yAd_nA, yAr_nA, yK_nC, yL_nC, yFi_nC, yFj_nC, yFr_nC, yAi_nC, yAj_nC, yAd_nC, yAr_nC, yu2, yAi_uCi', yAj_uCj', yAj_uCx', Option.some.injEq, exists_eq_left', true_and, and_true, not_false_eq_true, forall_const, false_and, and_false, reduceIte, Nat.reduceEqDiff, ne_eq]; exact q2.2.2.2.2.2.2.2
  refine ⟨k3 ha (by omega) hj, k3 ha (by omega) hj1, k3 ha (by omega) hj2, k5 ha, _, p259 ha, k8 ha, ?_⟩
  rw [t1, t2]
  have Fb := (Fa.uFi 132 (ad 3 k j) (csB a.2.2.2.1 b.2.2.2.1) z3).uFj 133 (ad 3 k j) (mnT a.2.2.2.2 b.2.2.2.2) z3
  have sl : Slf ad σ (uFj (uFi (uFj (uCi (uCi σ (ad 128 s1 j1) 0 (ad 128 k j) 0 w1) (ad 128 s2 j2) 0 (ad 128 k j) w1 w2) 131 (ad 3 k j) (zFj σ 131 (ad 3 s1 j1) * zFj σ 131 (ad 3 s2 j2))) 132 (ad 3 k j) (csB a.2.2.2.1 b.2.2.2.1)) 133 (ad 3 k j) (mnT a.2.2.2.2 b.2.2.2.2)) k j := fun j' h1 h2 => by
    have m3 : ad 3 k j' ≠ ad 3 k j := fun z => h2 (j3 h (by omega) h1 hj z)
    have m128 : ad 128 k j' ≠ ad 128 k j := fun z => h2 (j128 h (by omega) h1 hj z)
    refine ⟨fun g => ?_, fun g => ?_, fun i => ?_, fun i => ?_⟩
    · simp only [yK_uFi, yL_uFi, yFj_uFi, yFr_uFi, yAi_uFi, yAj_uFi, yAd_uFi, yAr_uFi, yFi_uFi, yK_uFj, yL_uFj, yFi_uFj, yFr_uFj, yAi_uFj, yAj_uFj, yAd_uFj, yAr_uFj, yFj_uFj, yK_uFr, yL_uFr, yFi_uFr, yFj_uFr, yAi_uFr, yAj_uFr, yAd_uFr, yAr_uFr, yFr_uFr, yK_uAi, yL_uAi, yFi_uAi, yFj_uAi, yFr_uAi, yAj_uAi, yAd_uAi, yAr_uAi, yAi_uAi, yK_uAj, yL_uAj, yFi_uAj, yFj_uAj, yFr_uAj, yAi_uAj, yAd_uAj, yAr_uAj, yAj_uAj, yK_uAd, yL_uAd, yFi_uAd, yFj_uAd, yFr_uAd, yAi_uAd, yAj_uAd, yAr_uAd, yAd_uAd, yK_uAr, yL_uAr, yFi_uAr, yFj_uAr, yFr_uAr, yAi_uAr, yAj_uAr, yAd_uAr, yAr_uAr, yK_uCi, yL_uCi, yFi_uCi, yFj_uCi, yFr_uCi, yAj_uCi, yAd_uCi, yAr_uCi, yK_uCj, yL_uCj, yFi_uCj, yFj_uCj, yFr_uCj, yAi_uCj, yAd_uCj, yAr_uCj, yK_uCx, yL_uCx, yFi_uCx, yFj_uCx, yFr_uCx, yAi_uCx, yAd_uCx, yAr_uCx, yK_nO, yL_nO, yFi_nO, yFj_nO, yFr_nO, yAi_nO, yAj_nO, yAd_nO, yAr_nO, yK_nA, yL_nA, yFi_nA, yFj_nA, yFr_nA, yAi_nA, yAj_nA, yAd_nA, yAr_nA, yK_nC, yL_nC, yFi_nC, yFj_nC, yFr_nC, yAi_nC, yAj_nC, yAd_nC, yAr_nC, yu2, yAi_uCi', yAj_uCj', yAj_uCx', Option.some.injEq, exists_eq_left', true_and, and_true, not_false_eq_true, forall_const, false_and, and_false, reduceIte, Nat.reduceEqDiff, ne_eq, m3]
    · simp only [yK_uFi, yL_uFi, yFj_uFi, yFr_uFi, yAi_uFi, yAj_uFi, yAd_uFi, yAr_uFi, yFi_uFi, yK_uFj, yL_uFj, yFi_uFj, yFr_uFj, yAi_uFj, yAj_uFj, yAd_uFj, yAr_uFj, yFj_uFj, yK_uFr, yL_uFr, yFi_uFr, yFj_uFr, yAi_uFr, yAj_uFr, yAd_uFr, yAr_uFr, yFr_uFr, yK_uAi, yL_uAi, yFi_uAi, yFj_uAi, yFr_uAi, yAj_uAi, yAd_uAi, yAr_uAi, yAi_uAi, yK_uAj, yL_uAj, yFi_uAj, yFj_uAj, yFr_uAj, yAi_uAj, yAd_uAj, yAr_uAj, yAj_uAj, yK_uAd, yL_uAd, yFi_uAd, yFj_uAd, yFr_uAd, yAi_uAd, yAj_uAd, yAr_uAd, yAd_uAd, yK_uAr, yL_uAr, yFi_uAr, yFj_uAr, yFr_uAr, yAi_uAr, yAj_uAr, yAd_uAr, yAr_uAr, yK_uCi, yL_uCi, yFi_uCi, yFj_uCi, yFr_uCi, yAj_uCi, yAd_uCi, yAr_uCi, yK_uCj, yL_uCj, yFi_uCj, yFj_uCj, yFr_uCj, yAi_uCj, yAd_uCj, yAr_uCj, yK_uCx, yL_uCx, yFi_uCx, yFj_uCx, yFr_uCx, yAi_uCx, yAd_uCx, yAr_uCx, yK_nO, yL_nO, yFi_nO, yFj_nO, yFr_nO, yAi_nO, yAj_nO, yAd_nO, yAr_nO, yK_nA, yL_nA, yFi_nA, yFj_nA, yFr_nA, yAi_nA, yAj_nA, yAd_nA, yAr_nA, yK_nC, yL_nC, yFi_nC, yFj_nC, yFr_nC, yAi_nC, yAj_nC, yAd_nC, yAr_nC, yu2, yAi_uCi', yAj_uCj', yAj_uCx', Option.some.injEq, exists_eq_left', true_and, and_true, not_false_eq_true, forall_const, false_and, and_false, reduceIte, Nat.reduceEqDiff, ne_eq, m3]
    · simp only [yK_uFi, yL_uFi, yFj_uFi, yFr_uFi, yAi_uFi, yAj_uFi, yAd_uFi, yAr_uFi, yFi_uFi, yK_uFj, yL_uFj, yFi_uFj, yFr_uFj, yAi_uFj, yAj_uFj, yAd_uFj, yAr_uFj, yFj_uFj, yK_uFr, yL_uFr, yFi_uFr, yFj_uFr, yAi_uFr, yAj_uFr, yAd_uFr, yAr_uFr, yFr_uFr, yK_uAi, yL_uAi, yFi_uAi, yFj_uAi, yFr_uAi, yAj_uAi, yAd_uAi, yAr_uAi, yAi_uAi, yK_uAj, yL_uAj, yFi_uAj, yFj_uAj, yFr_uAj, yAi_uAj, yAd_uAj, yAr_uAj, yAj_uAj, yK_uAd, yL_uAd, yFi_uAd, yFj_uAd, yFr_uAd, yAi_uAd, yAj_uAd, yAr_uAd, yAd_uAd, yK_uAr, yL_uAr, yFi_uAr, yFj_uAr, yFr_uAr, yAi_uAr, yAj_uAr, yAd_uAr, yAr_uAr, yK_uCi, yL_uCi, yFi_uCi, yFj_uCi, yFr_uCi, yAj_uCi, yAd_uCi, yAr_uCi, yK_uCj, yL_uCj, yFi_uCj, yFj_uCj, yFr_uCj, yAi_uCj, yAd_uCj, yAr_uCj, yK_uCx, yL_uCx, yFi_uCx, yFj_uCx, yFr_uCx, yAi_uCx, yAd_uCx, yAr_uCx, yK_nO, yL_nO, yFi_nO, yFj_nO, yFr_nO, yAi_nO, yAj_nO, yAd_nO, yAr_nO, yK_nA, yL_nA, yFi_nA, yFj_nA, yFr_nA, yAi_nA, yAj_nA, yAd_nA, yAr_nA, yK_nC, yL_nC, yFi_nC, yFj_nC, yFr_nC, yAi_nC, yAj_nC, yAd_nC, yAr_nC, yu2, yAi_uCi', yAj_uCj', yAj_uCx', Option.some.injEq, exists_eq_left', true_and, and_true, not_false_eq_true, forall_const, false_and, and_false, reduceIte, Nat.reduceEqDiff, ne_eq, m128]
    · simp only [yK_uFi, yL_uFi, yFj_uFi, yFr_uFi, yAi_uFi, yAj_uFi, yAd_uFi, yAr_uFi, yFi_uFi, yK_uFj, yL_uFj, yFi_uFj, yFr_uFj, yAi_uFj, yAj_uFj, yAd_uFj, yAr_uFj, yFj_uFj, yK_uFr, yL_uFr, yFi_uFr, yFj_uFr, yAi_uFr, yAj_uFr, yAd_uFr, yAr_uFr, yFr_uFr, yK_uAi, yL_uAi, yFi_uAi, yFj_uAi, yFr_uAi, yAj_uAi, yAd_uAi, yAr_uAi, yAi_uAi, yK_uAj, yL_uAj, yFi_uAj, yFj_uAj, yFr_uAj, yAi_uAj, yAd_uAj, yAr_uAj, yAj_uAj, yK_uAd, yL_uAd, yFi_uAd, yFj_uAd, yFr_uAd, yAi_uAd, yAj_uAd, yAr_uAd, yAd_uAd, yK_uAr, yL_uAr, yFi_uAr, yFj_uAr, yFr_uAr, yAi_uAr, yAj_uAr, yAd_uAr, yAr_uAr, yK_uCi, yL_uCi, yFi_uCi, yFj_uCi, yFr_uCi, yAj_uCi, yAd_uCi, yAr_uCi, yK_uCj, yL_uCj, yFi_uCj, yFj_uCj, yFr_uCj, yAi_uCj, yAd_uCj, yAr_uCj, yK_uCx, yL_uCx, yFi_uCx, yFj_uCx, yFr_uCx, yAi_uCx, yAd_uCx, yAr_uCx, yK_nO, yL_nO, yFi_nO, yFj_nO, yFr_nO, yAi_nO, yAj_nO, yAd_nO, yAr_nO, yK_nA, yL_nA, yFi_nA, yFj_nA, yFr_nA, yAi_nA, yAj_nA, yAd_nA, yAr_nA, yK_nC, yL_nC, yFi_nC, yFj_nC, yFr_nC, yAi_nC, yAj_nC, yAd_nC, yAr_nC, yu2, yAi_uCi', yAj_uCj', yAj_uCx', Option.some.injEq, exists_eq_left', true_and, and_true, not_false_eq_true, forall_const, false_and, and_false, reduceIte, Nat.reduceEqDiff, ne_eq]
  have rowE : ∀ m v, (a.1 ++ b.1)[m]? = some v → zAi (uFj (uFi (uFj (uCi (uCi σ (ad 128 s1 j1) 0 (ad 128 k j) 0 w1) (ad 128 s2 j2) 0 (ad 128 k j) w1 w2) 131 (ad 3 k j) (zFj σ 131 (ad 3 s1 j1) * zFj σ 131 (ad 3 s2 j2))) 132 (ad 3 k j) (csB a.2.2.2.1 b.2.2.2.1)) 133 (ad 3 k j) (mnT a.2.2.2.2 b.2.2.2.2)) (ad 128 k j) m = v := fun m v hv => by
    have hm := (List.getElem?_eq_some_iff.mp hv).1
    have la := q1.1
    have lb := q2.1
    rw [List.length_append] at hm
    simp only [yK_uFi, yL_uFi, yFj_uFi, yFr_uFi, yAi_uFi, yAj_uFi, yAd_uFi, yAr_uFi, yFi_uFi, yK_uFj, yL_uFj, yFi_uFj, yFr_uFj, yAi_uFj, yAj_uFj, yAd_uFj, yAr_uFj, yFj_uFj, yK_uFr, yL_uFr, yFi_uFr, yFj_uFr, yAi_uFr, yAj_uFr, yAd_uFr, yAr_uFr, yFr_uFr, yK_uAi, yL_uAi, yFi_uAi, yFj_uAi, yFr_uAi, yAj_uAi, yAd_uAi, yAr_uAi, yAi_uAi, yK_uAj, yL_uAj, yFi_uAj, yFj_uAj, yFr_uAj, yAi_uAj, yAd_uAj, yAr_uAj, yAj_uAj, yK_uAd, yL_uAd, yFi_uAd, yFj_uAd, yFr_uAd, yAi_uAd, yAj_uAd, yAr_uAd, yAd_uAd, yK_uAr, yL_uAr, yFi_uAr, yFj_uAr, yFr_uAr, yAi_uAr, yAj_uAr, yAd_uAr, yAr_uAr, yK_uCi, yL_uCi, yFi_uCi, yFj_uCi, yFr_uCi, yAj_uCi, yAd_uCi, yAr_uCi, yK_uCj, yL_uCj, yFi_uCj, yFj_uCj, yFr_uCj, yAi_uCj, yAd_uCj, yAr_uCj, yK_uCx, yL_uCx, yFi_uCx, yFj_uCx, yFr_uCx, yAi_uCx, yAd_uCx, yAr_uCx, yK_nO, yL_nO, yFi_nO, yFj_nO, yFr_nO, yAi_nO, yAj_nO, yAd_nO, yAr_nO, yK_nA, yL_nA, yFi_nA, yFj_nA, yFr_nA, yAi_nA, yAj_nA, yAd_nA, yAr_nA, yK_nC, yL_nC, yFi_nC, yFj_nC, yFr_nC, yAi_nC, yAj_nC, yAd_nC, yAr_nC, yu2, yAi_uCi', yAj_uCj', yAj_uCx', Option.some.injEq, exists_eq_left', true_and, and_true, not_false_eq_true, forall_const, false_and, and_false, reduceIte, Nat.reduceEqDiff, ne_eq, va_cpy, r1, r2]
    by_cases c : m < w1
    · rw [if_neg (by omega), if_pos ⟨Nat.zero_le _, by omega⟩, Nat.zero_add, Nat.sub_zero]
      rw [List.getElem?_append_left (by omega)] at hv
      exact q1.2.1 m v hv
    · rw [if_pos ⟨by omega, by omega⟩, Nat.zero_add]
      rw [List.getElem?_append_right (by omega), la] at hv
      exact q2.2.1 (m - w1) v hv
  have e131 : cl = false → zFj (uFj (uFi (uFj (uCi (uCi σ (ad 128 s1 j1) 0 (ad 128 k j) 0 w1) (ad 128 s2 j2) 0 (ad 128 k j) w1 w2) 131 (ad 3 k j) (zFj σ 131 (ad 3 s1 j1) * zFj σ 131 (ad 3 s2 j2))) 132 (ad 3 k j) (csB a.2.2.2.1 b.2.2.2.1)) 133 (ad 3 k j) (mnT a.2.2.2.2 b.2.2.2.2)) 131 (ad 3 k j) = a.2.2.1 * b.2.2.1 := fun z => by
    simp only [yK_uFi, yL_uFi, yFj_uFi, yFr_uFi, yAi_uFi, yAj_uFi, yAd_uFi, yAr_uFi, yFi_uFi, yK_uFj, yL_uFj, yFi_uFj, yFr_uFj, yAi_uFj, yAj_uFj, yAd_uFj, yAr_uFj, yFj_uFj, yK_uFr, yL_uFr, yFi_uFr, yFj_uFr, yAi_uFr, yAj_uFr, yAd_uFr, yAr_uFr, yFr_uFr, yK_uAi, yL_uAi, yFi_uAi, yFj_uAi, yFr_uAi, yAj_uAi, yAd_uAi, yAr_uAi, yAi_uAi, yK_uAj, yL_uAj, yFi_uAj, yFj_uAj, yFr_uAj, yAi_uAj, yAd_uAj, yAr_uAj, yAj_uAj, yK_uAd, yL_uAd, yFi_uAd, yFj_uAd, yFr_uAd, yAi_uAd, yAj_uAd, yAr_uAd, yAd_uAd, yK_uAr, yL_uAr, yFi_uAr, yFj_uAr, yFr_uAr, yAi_uAr, yAj_uAr, yAd_uAr, yAr_uAr, yK_uCi, yL_uCi, yFi_uCi, yFj_uCi, yFr_uCi, yAj_uCi, yAd_uCi, yAr_uCi, yK_uCj, yL_uCj, yFi_uCj, yFj_uCj, yFr_uCj, yAi_uCj, yAd_uCj, yAr_uCj, yK_uCx, yL_uCx, yFi_uCx, yFj_uCx, yFr_uCx, yAi_uCx, yAd_uCx, yAr_uCx, yK_nO, yL_nO, yFi_nO, yFj_nO, yFr_nO, yAi_nO, yAj_nO, yAd_nO, yAr_nO, yK_nA, yL_nA, yFi_nA, yFj_nA, yFr_nA, yAi_nA, yAj_nA, yAd_nA, yAr_nA, yK_nC, yL_nC, yFi_nC, yFj_nC, yFr_nC, yAi_nC, yAj_nC, yAd_nC, yAr_nC, yu2, yAi_uCi', yAj_uCj', yAj_uCx', Option.some.injEq, exists_eq_left', true_and, and_true, not_false_eq_true, forall_const, false_and, and_false, reduceIte, Nat.reduceEqDiff, ne_eq]
    rw [q1.2.2.2.2.2.1 (by cases cl1 with | false => rfl | true => rw [hc1 rfl] at z; cases z), q2.2.2.2.2.2.1 (by cases cl2 with | false => rfl | true => rw [hc2 rfl] at z; cases z)]
  have e132 : zFi (uFj (uFi (uFj (uCi (uCi σ (ad 128 s1 j1) 0 (ad 128 k j) 0 w1) (ad 128 s2 j2) 0 (ad 128 k j) w1 w2) 131 (ad 3 k j) (zFj σ 131 (ad 3 s1 j1) * zFj σ 131 (ad 3 s2 j2))) 132 (ad 3 k j) (csB a.2.2.2.1 b.2.2.2.1)) 133 (ad 3 k j) (mnT a.2.2.2.2 b.2.2.2.2)) 132 (ad 3 k j) = csB a.2.2.2.1 b.2.2.2.1 := by simp only [yK_uFi, yL_uFi, yFj_uFi, yFr_uFi, yAi_uFi, yAj_uFi, yAd_uFi, yAr_uFi, yFi_uFi, yK_uFj, yL_uFj, yFi_uFj, yFr_uFj, yAi_uFj, yAj_uFj, yAd_uFj, yAr_uFj, yFj_uFj, yK_uFr, yL_uFr, yFi_uFr, yFj_uFr, yAi_uFr, yAj_uFr, yAd_uFr, yAr_uFr, yFr_uFr, yK_uAi, yL_uAi, yFi_uAi, yFj_uAi, yFr_uAi, yAj_uAi, yAd_uAi, yAr_uAi, yAi_uAi, yK_uAj, yL_uAj, yFi_uAj, yFj_uAj, yFr_uAj, yAi_uAj, yAd_uAj, yAr_uAj, yAj_uAj, yK_uAd, yL_uAd, yFi_uAd, yFj_uAd, yFr_uAd, yAi_uAd, yAj_uAd, yAr_uAd, yAd_uAd, yK_uAr, yL_uAr, yFi_uAr, yFj_uAr, yFr_uAr, yAi_uAr, yAj_uAr, yAd_uAr, yAr_uAr, yK_uCi, yL_uCi, yFi_uCi, yFj_uCi, yFr_uCi, yAj_uCi, yAd_uCi, yAr_uCi, yK_uCj, yL_uCj, yFi_uCj, yFj_uCj, yFr_uCj, yAi_uCj, yAd_uCj, yAr_uCj, yK_uCx, yL_uCx, yFi_uCx, yFj_uCx, yFr_uCx, yAi_uCx, yAd_uCx, yAr_uCx, yK_nO, yL_nO, yFi_nO, yFj_nO, yFr_nO, yAi_nO, yAj_nO, yAd_nO, yAr_nO, yK_nA, yL_nA, yFi_nA, yFj_nA, yFr_nA, yAi_nA, yAj_nA, yAd_nA, yAr_nA, yK_nC, yL_nC, yFi_nC, yFj_nC, yFr_nC, yAi_nC, yAj_nC, yAd_nC, yAr_nC, yu2, yAi_uCi', yAj_uCj', yAj_uCx', Option.some.injEq, exists_eq_left', true_and, and_true, not_false_eq_true, forall_const, false_and, and_false, reduceIte, Nat.reduceEqDiff, ne_eq]
  have e133 : zFj (uFj (uFi (uFj (uCi (uCi σ (ad 128 s1 j1) 0 (ad 128 k j) 0 w1) (ad 128 s2 j2) 0 (ad 128 k j) w1 w2) 131 (ad 3 k j) (zFj σ 131 (ad 3 s1 j1) * zFj σ 131 (ad 3 s2 j2))) 132 (ad 3 k j) (csB a.2.2.2.1 b.2.2.2.1)) 133 (ad 3 k j) (mnT a.2.2.2.2 b.2.2.2.2)) 133 (ad 3 k j) = mnT a.2.2.2.2 b.2.2.2.2 := by simp only [yK_uFi, yL_uFi, yFj_uFi, yFr_uFi, yAi_uFi, yAj_uFi, yAd_uFi, yAr_uFi, yFi_uFi, yK_uFj, yL_uFj, yFi_uFj, yFr_uFj, yAi_uFj, yAj_uFj, yAd_uFj, yAr_uFj, yFj_uFj, yK_uFr, yL_uFr, yFi_uFr, yFj_uFr, yAi_uFr, yAj_uFr, yAd_uFr, yAr_uFr, yFr_uFr, yK_uAi, yL_uAi, yFi_uAi, yFj_uAi, yFr_uAi, yAj_uAi, yAd_uAi, yAr_uAi, yAi_uAi, yK_uAj, yL_uAj, yFi_uAj, yFj_uAj, yFr_uAj, yAi_uAj, yAd_uAj, yAr_uAj, yAj_uAj, yK_uAd, yL_uAd, yFi_uAd, yFj_uAd, yFr_uAd, yAi_uAd, yAj_uAd, yAr_uAd, yAd_uAd, yK_uAr, yL_uAr, yFi_uAr, yFj_uAr, yFr_uAr, yAi_uAr, yAj_uAr, yAd_uAr, yAr_uAr, yK_uCi, yL_uCi, yFi_uCi, yFj_uCi, yFr_uCi, yAj_uCi, yAd_uCi, yAr_uCi, yK_uCj, yL_uCj, yFi_uCj, yFj_uCj, yFr_uCj, yAi_uCj, yAd_uCj, yAr_uCj, yK_uCx, yL_uCx, yFi_uCx, yFj_uCx, yFr_uCx, yAi_uCx, yAd_uCx, yAr_uCx, yK_nO, yL_nO, yFi_nO, yFj_nO, yFr_nO, yAi_nO, yAj_nO, yAd_nO, yAr_nO, yK_nA, yL_nA, yFi_nA, yFj_nA, yFr_nA, yAi_nA, yAj_nA, yAd_nA, yAr_nA, yK_nC, yL_nC, yFi_nC, yFj_nC, yFr_nC, yAi_nC, yAj_nC, yAd_nC, yAr_nC, yu2, yAi_uCi', yAj_uCj', yAj_uCx', Option.some.injEq, exists_eq_left', true_and, and_true, not_false_eq_true, forall_const, false_and, and_false, reduceIte, Nat.reduceEqDiff, ne_eq]
  show wX7_clear (ad 8 0 0) (uFj (uFi (uFj (uCi (uCi σ (ad 128 s1 j1) 0 (ad 128 k j) 0 w1) (ad 128 s2 j2) 0 (ad 128 k j) w1 w2) 131 (ad 3 k j) (zFj σ 131 (ad 3 s1 j1) * zFj σ 131 (ad 3 s2 j2))) 132 (ad 3 k j) (csB a.2.2.2.1 b.2.2.2.1)) 133 (ad 3 k j) (mnT a.2.2.2.2 b.2.2.2.2)) _
  generalize uFj (uFi (uFj (uCi (uCi σ (ad 128 s1 j1) 0 (ad 128 k j) 0 w1) (ad 128 s2 j2) 0 (ad 128 k j) w1 w2) 131 (ad 3 k j) (zFj σ 131 (ad 3 s1 j1) * zFj σ 131 (ad 3 s2 j2))) 132 (ad 3 k j) (csB a.2.2.2.1 b.2.2.2.1)) 133 (ad 3 k j) (mnT a.2.2.2.2 b.2.2.2.2) = ρ at Fb sl rowE e131 e132 e133 ⊢
  have hb := h.frC (Fb.mono (SJ_SC k))
  have q1b : AnsAt ad ρ s1 j1 w1 cl1 a := q1.cg h Fb (by omega) hj1 (by simp; omega) (by simp; omega) (by simp; omega)
  have q2b : AnsAt ad ρ s2 j2 w2 cl2 b := q2.cg h Fb (by omega) hj2 (by simp; omega) (by simp; omega) (by simp; omega)
  refine C_gclear hb (fun σ3 J3 => ?_)
  have h3 := hb.frC (J3.1.mono SG_SC)
  have b16 : a.2.1.length * b.2.1.length ≤ 256 := Nat.mul_le_mul q1.2.2.1 q2.2.2.1
  refine ⟨k5 h3, _, p259 h3, k8 h3, C_addUnions hb (by omega) hj1 q1b (by omega) hj2 q2b List.Pairwise.nil (by rw [List.length_nil]; omega) J3 (fun σ4 J4 => ?_)⟩
  have h4 := hb.frC (J4.1.mono SG_SC)
  have ln := addA_len (uni a.2.1 b.2.1) []
  rw [List.length_nil, uni_len] at ln
  have F4 : Fr ct (SJ k) σ σ4 := Fb.tr1 (J4.1.mono (SG_J k))
  refine ⟨k5 h4, _, p259 h4, k8 h4, C_give h4 (by omega) hj J4.2.1 J4.2.2.1 (by omega) (fun z => ⟨Or.inl rfl, h0 σ4 z F4⟩) (fun l16 kk σ5 kp ks G ka => ⟨Or.inr rfl, ?_⟩)⟩
  have an : Anti (addA [] (uni a.2.1 b.2.1)) := addA_anti _ List.Pairwise.nil
  have up : ∀ X, Upw (addA [] (uni a.2.1 b.2.1)) X ↔ Upw (uni a.2.1 b.2.1) X := fun X => by
    rw [addA_up]
    exact ⟨fun z => z.elim (fun ⟨w, hw, _⟩ => absurd hw List.not_mem_nil) id, Or.inr⟩
  have F5 : Fr ct (SJ k) σ4 σ5 := G.1.mono (fun p q => Or.inr (Or.inr (Or.inl q)))
  have d3 : ∀ j', j' < room k → eqD σ4 σ5 (ad 3 k j') := fun j' h1 => (G.1 (ad 3 k j') (by rw [k3 h4 (by omega) h1]; decide)).2 (by rw [c3 h4 (by omega) h1]; intro z; cases z)
  have d128 : ∀ j', j' < room k → eqD σ4 σ5 (ad 128 k j') := fun j' h1 => (G.1 (ad 128 k j') (by rw [k128 h4 (by omega) h1]; decide)).2 (by rw [c128 h4 (by omega) h1]; intro z; cases z)
  have g3 : eqD ρ σ4 (ad 3 k j) := (J4.1 (ad 3 k j) (by rw [k3 hb (by omega) hj]; decide)).2 (by rw [c3 hb (by omega) hj]; simp)
  have g128 : eqD ρ σ4 (ad 128 k j) := (J4.1 (ad 128 k j) (by rw [k128 hb (by omega) hj]; decide)).2 (by rw [c128 hb (by omega) hj]; simp)
  refine h1 _ (a.1 ++ b.1, kk, a.2.2.1 * b.2.2.1, csB a.2.2.2.1 b.2.2.2.1, mnT a.2.2.2.2 b.2.2.2.2) ⟨rfl, ?_, CW.of an up kp ks, rfl⟩ ((F4.tr1 F5).uFi _ _ _ z3) ((sl.tr (Slf.of hb J4.1 (by omega) (by simp) (by simp) (by simp))).tr (fun j' h1 h2 => ?_)) ⟨?_, fun m v hv => ?_, ?_, ?_, fun m v hv => ?_, fun z => ?_, ?_, ?_⟩
  · rw [show (a.1 ++ b.1, kk, a.2.2.1 * b.2.2.1, csB a.2.2.2.1 b.2.2.2.1, mnT a.2.2.2.2 b.2.2.2.2).2.1 = kk from rfl, kp.length_eq]; exact l16
  · have m3 : ad 3 k j' ≠ ad 3 k j := fun z => h2 (j3 h (by omega) h1 hj z)
    exact ⟨fun g => by rw [yFi_uFi, yu2, if_neg (fun z => m3 z.2)]; exact (d3 j' h1).1 g, fun g => by rw [yFj_uFi]; exact (d3 j' h1).2.1 g, fun i => by rw [yAi_uFi]; exact (d128 j' h1).2.2.1 i, fun i => by rw [yAj_uFi]; exact G.2 j' h1 h2 i⟩
  · show (a.1 ++ b.1).length = w1 + w2
    rw [List.length_append, q1.1, q2.1]
  · rw [yAi_uFi, (d128 j hj).2.2.1, g128.2.2.1]; exact rowE m v hv
  · rw [show (a.1 ++ b.1, kk, a.2.2.1 * b.2.2.1, csB a.2.2.2.1 b.2.2.2.1, mnT a.2.2.2.2 b.2.2.2.2).2.1 = kk from rfl, kp.length_eq]; exact l16
  · rw [yFi_uFi, yu2, if_pos ⟨rfl, rfl⟩, show (a.1 ++ b.1, kk, a.2.2.1 * b.2.2.1, csB a.2.2.2.1 b.2.2.2.1, mnT a.2.2.2.2 b.2.2.2.2).2.1 = kk from rfl, kp.length_eq]
  · rw [yAj_uFi]; exact ka m v hv
  · rw [yFj_uFi, (d3 j hj).2.1, g3.2.1]; exact e131 z
  · rw [yFi_uFi, yu2, if_neg (fun z => absurd z.1 (by decide)), (d3 j hj).1, g3.1]; exact e132
  · rw [yFj_uFi, (d3 j hj).2.1, g3.2.1]; exact e133
end MO
