/-! the class: a question is worked out -/
section NQ
variable {ad : Ad} {ct : Ct} {σ : St}
theorem Wkr.k0 {fs : List Fct} {q : Qst} {A B R : List Ans} (z : q.1 = 0) (o : OKr (basR fs q.2.2.1 q.2.1 fs.length) R) : Wkr fs q A B R := ⟨fun _ => o, fun y => by omega, fun y => by omega, fun y => by omega, fun y => by omega, fun y => by omega⟩
theorem Wkr.k1 {fs : List Fct} {q : Qst} {A B R : List Ans} (z : q.1 = 1 ∨ q.1 = 2 ∨ q.1 = 7) (o : R.Perm (A.filter (styP fs q B))) : Wkr fs q A B R := ⟨fun y => by omega, fun _ => o, fun y => by omega, fun y => by omega, fun y => by omega, fun y => by omega⟩
theorem Wkr.k3 {fs : List Fct} {q : Qst} {A B R : List Ans} (z : q.1 = 3) (o : OKr (A.map (cutA q.2.1 q.2.2.2.2.2)) R) : Wkr fs q A B R := ⟨fun y => by omega, fun y => by omega, fun _ => o, fun y => by omega, fun y => by omega, fun y => by omega⟩
theorem Wkr.k4 {fs : List Fct} {q : Qst} {A B R : List Ans} (z : q.1 = 4) (o : OKr (paiR q.2.2.2.2.2 A B) R) : Wkr fs q A B R := ⟨fun y => by omega, fun y => by omega, fun y => by omega, fun _ => o, fun y => by omega, fun y => by omega⟩
theorem Wkr.k5 {fs : List Fct} {q : Qst} {A B R : List Ans} (z : q.1 = 5) (o : OKr (A ++ B) R) : Wkr fs q A B R := ⟨fun y => by omega, fun y => by omega, fun y => by omega, fun y => by omega, fun _ => o, fun y => by omega⟩
theorem Wkr.k6 {fs : List Fct} {q : Qst} {A B R : List Ans} (z : q.1 = 6) (o : Clov A (R.map bare) ∧ (R.map (fun e => e.1)).Nodup ∧ Wgh A R) : Wkr fs q A B R := ⟨fun y => by omega, fun y => by omega, fun y => by omega, fun y => by omega, fun y => by omega, fun _ => o⟩
theorem kd_a {n : Nat} (h8 : n < 8) (h0 : n ≠ 0) (h1 : ¬ (n = 1 ∨ n = 2 ∨ n = 3)) (h6 : ¬ n = 6) : n = 4 ∨ n = 5 ∨ n = 7 := by omega
theorem kd_b {n : Nat} (h8 : n < 8) (h0 : n ≠ 0) (h1 : ¬ (n = 4 ∨ n = 5 ∨ n = 7)) : n = 1 ∨ n = 2 ∨ n = 3 ∨ n = 6 := by omega
/-- the result T j of an earlier question -/
def TOk (ad : Ad) (σ : St) (c : Co) (T : Nat → List Ans) (j : Nat) (p : Qst) : Prop := AR ad σ j (T j) p.2.1 p.2.2.2.2.1 ∧ (T j).Pairwise (fun a b => rlt a.1 b.1) ∧ ∀ e ∈ T j, CanA c.2.1.length p.2.1 e
theorem or_l {a b : Bool} (h : a = true) : (a || b) = true := by rw [h]; rfl
theorem or_r {a b : Bool} (h : b = true) : (a || b) = true := by rw [h, Bool.or_true]
theorem C_workOut {c : Co} (W : WF c) (h : Sh ad ct σ) (hw : Crw ad σ) (hq : Cqs ad ct σ c.2.2.1) (hf : Cfs ad σ c.2.1) {i : Nat} {q : Qst} (hi : c.2.2.1[i]? = some q) {T : Nat → List Ans} (hT : ∀ j p, (q.1 ≠ 0 ∧ q.2.2.1 = nI j ∨ q.2.2.2.1 = nI j) → j < i → c.2.2.1[j]? = some p → TOk ad σ c T j p) {Q : Int32 → St → Prop} (h0 : ∀ σ', Fr ct (SWo i) σ σ' → Crw ad σ' → Wfr c.2.1 q (T (ix q.2.2.1)) (T (ix q.2.2.2.1)) → Q 0 σ') (h1 : ∀ σ' R, Fr ct (SWo i) σ σ' → Crw ad σ' → AR ad σ' i R q.2.1 q.2.2.2.2.1 → R.Pairwise (fun a b => rlt a.1 b.1) → Wkr c.2.1 q (T (ix q.2.2.1)) (T (ix q.2.2.2.1)) R → Q 1 σ') : wX4_workOut (ad 5 0 0) (nI i) σ Q := by
  have hl := W.2.2.2.2.1
  have hi40 : i < 40 := by have := (List.getElem?_eq_some_iff.mp hi).1; omega
  obtain ⟨g8, gw1, gw6, g0, g1⟩ := W.2.2.2.2.2.1 i q hi
  obtain ⟨x, hx, iq⟩ := hq.2 i q hi
  have xi : ix (nI i) = i := nI_clamp (by omega)
  have l60 := W.2.2.1
  refine ⟨k5 h, _, p257 h, k705 h, by rw [l705 h]; exact vp_in_nI hi40 (by decide), x, by rw [xi]; exact hx, _, p258 h, k258 h, by rw [l258 h]; exact vp_in_nI hi40 (by decide), _, by rw [xi]; exact w258 h hi40, iq.1, k4 h (by omega), ?_⟩
  rw [iq.2.2.2.1]
  refine C_aclear h q.2.2.2.2.1 (by omega) gw6 (fun σ1 f1 a1 qo1 => ?_)
  have hw1 : Crw ad σ1 := fun s' hs' => by
    obtain ⟨π, p1, p2⟩ := hw s' hs'
    exact ⟨π, fun j hj => ⟨(p1 j hj).1, (a1 _ _).trans (p1 j hj).2⟩, p2⟩
  have m1 : ∀ p, SN i p → SWo i p := fun p q => Or.inl (SN_r i p q)
  have F1 := f1.mono m1
  have h1' := h.frC (F1.mono (SWo_SC i))
  have iq1 := iq.o h F1 (fun p q => q)
  refine ⟨k5 h1', _, p260 h1', iq1.1, k4 h1' (by decide), ?_⟩
  rw [iq1.2.2.2.1]
  refine C_aclear h1' q.2.2.2.2.1 (by decide) gw6 (fun σ2 f2 a2 qr2 => ?_)
  have hw2 : Crw ad σ2 := fun s' hs' => by
    obtain ⟨π, p1, p2⟩ := hw1 s' hs'
    exact ⟨π, fun j hj => ⟨(p1 j hj).1, (a2 _ _).trans (p1 j hj).2⟩, p2⟩
  have F2 : Fr ct (SWo i) σ σ2 := F1.tr1 (f2.mono (SN40_o i))
  have h2 := h.frC (F2.mono (SWo_SC i))
  have iq2 := iq.o h F2 (fun p q => q)
  have qo2 : AR ad σ2 i [] q.2.1 q.2.2.2.2.1 := qo1.sn h1' (by omega) (by omega) (f2.mono (SN_r 40))
  have hf2 : Cfs ad σ2 c.2.1 := Cfs.o h F2 (fun p q => ⟨i, q⟩) hf
  have opr : ∀ {j : Nat} {L : List Ans} {w : Nat} {cl : Bool}, j < i → AR ad σ j L w cl → AR ad σ2 j L w cl := fun {j L w cl} hj qj => (qj.sn h (by omega) (by omega) (f1.mono (SN_r i))).sn h1' (by omega) (by omega) (f2.mono (SN_r 40))
  have d0 : ∀ σ', Fr ct (SWo i) σ2 σ' → Crw ad σ' → Wfr c.2.1 q (T (ix q.2.2.1)) (T (ix q.2.2.2.1)) → ((0 : Int32) = 0 ∨ (0 : Int32) = 1) ∧ Q 0 σ' := fun σ' f cw w => ⟨Or.inl rfl, h0 σ' (F2.tr1 f) cw w⟩
  have d1 : ∀ σ' R, Fr ct (SWo i) σ2 σ' → Crw ad σ' → AR ad σ' i R q.2.1 q.2.2.2.2.1 → R.Pairwise (fun a b => rlt a.1 b.1) → Wkr c.2.1 q (T (ix q.2.2.1)) (T (ix q.2.2.2.1)) R → ((1 : Int32) = 0 ∨ (1 : Int32) = 1) ∧ Q 1 σ' := fun σ' R f cw a s w => ⟨Or.inr rfl, h1 σ' R (F2.tr1 f) cw a s w⟩
  have k576 : ∀ n : Nat, n < 8 → ((zFi σ2 576 x = nI n) ↔ q.1 = n) := fun n hn => by
    rw [iq2.2.2.1]
    constructor
    · intro z
      have z := congrArg Int32.toInt z
      rw [nI_toInt (by omega), nI_toInt (by omega)] at z
      omega
    · intro z; rw [z]
  refine ⟨iq2.1, fun nz => ?_, fun z => ?_⟩
  · have nz0 : q.1 ≠ 0 := fun z => nz ((k576 0 (by decide)).mpr z)
    obtain ⟨p, ⟨s1, hs1, eo, hp⟩, r1, r2, r3, r6, r123, r66, r457⟩ := g1 nz0
    have x1 : ix q.2.2.1 = s1 := by rw [eo]; exact nI_clamp (by omega)
    obtain ⟨t1, t2, t3⟩ := hT s1 p (Or.inl ⟨nz0, eo⟩) hs1 hp
    have t1' := opr hs1 t1
    rw [x1] at d0 d1
    refine ⟨k5 h2, _, p258 h2, k258 h2, by rw [iq2.2.2.2.2.1, eo, l258 h2]; exact vp_in_nI (by omega) (by decide), ad 4 s1 0, by rw [iq2.2.2.2.2.1, eo, show ix (nI s1) = s1 from nI_clamp (by omega)]; exact w258 h2 (by omega), ?_⟩
    have two : q.1 = 4 ∨ q.1 = 5 ∨ q.1 = 7 → wX4_workOut_83 Q (ad 5 0 0) x (ad 4 i 0) (ad 4 s1 0) (ad 4 (ix q.2.2.2.1) 0) σ2 := fun k457 => by
      obtain ⟨p2, ⟨s2, hs2, eo2, hp2⟩, ecl, e4, e57⟩ := r457 k457
      have x2 : ix q.2.2.2.1 = s2 := by rw [eo2]; exact nI_clamp (by omega)
      obtain ⟨u1, u2, u3⟩ := hT s2 p2 (Or.inr eo2) hs2 hp2
      have u1' := opr hs2 u1
      rw [x2] at d0 d1 ⊢
      have hc1 : p.2.2.2.2.1 = true → q.2.2.2.2.1 = true := fun z => by rw [ecl]; exact or_l z
      have hc2 : p2.2.2.2.2.1 = true → q.2.2.2.2.1 = true := fun z => by rw [ecl]; exact or_r z
      refine ⟨iq2.1, fun z => ?_, fun z => ?_, fun z => ?_, fun z => ?_, fun z => ?_, fun _ z4 z5 _ z7 => ?_⟩
      · have := (k576 3 (by decide)).mp z; omega
      · have k4' := (k576 4 (by decide)).mp z
        obtain ⟨w4, pl0, pl1⟩ := e4 k4'
        refine ⟨k5 h2, C_workPair h2 hw2 (cl := q.2.2.2.2.1) hi40 (by omega) (by omega) (by omega) (by omega) iq2 pl0 pl1 (by omega) t1' u1' hc1 hc2 t2 u2 (fun a ha => (t3 a ha).2.2.2.2.2.2.2.2.1) (fun a ha => (u3 a ha).2.2.2.2.2.2.2.2.1) (by rw [← w4]; exact qo2) (fun σ' f cw no => d0 σ' f cw (Or.inr (Or.inr (Or.inl ⟨k4', no⟩)))) (fun σ' R f cw a o => d1 σ' R f cw (by rw [w4]; exact a) o.2.1 (Wkr.k4 k4' o.r))⟩
      · have k5' := (k576 5 (by decide)).mp z
        obtain ⟨w5, w52⟩ := e57 (by omega)
        refine ⟨k5 h2, C_workEither h2 hw2 (w := q.2.1) (cl := q.2.2.2.2.1) hi40 (by omega) (by omega) (by omega) (by omega) (by rw [w5]; exact t1') (by rw [w5, ← w52]; exact u1') hc1 hc2 qr2 qo2 (fun σ' f cw no => d0 σ' f cw (Or.inr (Or.inr (Or.inr (Or.inl ⟨k5', no⟩))))) (fun σ' R f cw a o => d1 σ' R f cw a o.2.1 (Wkr.k5 k5' o.r))⟩
      · have := (k576 6 (by decide)).mp z; omega
      · have k7 := (k576 7 (by decide)).mp z
        obtain ⟨w5, w52⟩ := e57 (by omega)
        refine ⟨k5 h2, C_workMost h2 hw2 (w := q.2.1) (cl := q.2.2.2.2.1) (fs := c.2.1) hi40 (by omega) (by omega) (by omega) (by omega) (by rw [w5]; exact t1') (by rw [w5, ← w52]; exact u1') hc1 u2 hf2 l60 (fun b hb => (u3 b hb).2.2.2.2.2.1) qo2 (fun σ' f cw a => ?_)⟩
        have es : (fun e => !tkn c.2.1 (T s2) e) = styP c.2.1 q (T s2) := by
          funext e
          unfold styP
          rw [if_neg (by omega), if_neg (by omega)]
        rw [es] at a
        exact d1 σ' _ f cw a (t2.sublist List.filter_sublist) (Wkr.k1 (Or.inr (Or.inr k7)) (List.Perm.refl _))
      · rcases k457 with z | z | z
        · exact absurd ((k576 4 (by decide)).mpr z) z4
        · exact absurd ((k576 5 (by decide)).mpr z) z5
        · exact absurd ((k576 7 (by decide)).mpr z) z7
    have one : q.1 = 1 ∨ q.1 = 2 ∨ q.1 = 3 ∨ q.1 = 6 → wX4_workOut_83 Q (ad 5 0 0) x (ad 4 i 0) (ad 4 s1 0) (ad 4 s1 0) σ2 := fun kk => by
      refine ⟨iq2.1, fun z => ?_, fun z => ?_, fun z => ?_, fun z => ?_, fun z => ?_, fun z3 _ _ z6 _ => ?_⟩
      · have k3' := (k576 3 (by decide)).mp z
        obtain ⟨w4, pl⟩ := r3 k3'
        have ecl := (r123 (by omega)).2
        refine ⟨k5 h2, C_workCut h2 hw2 (cl := q.2.2.2.2.1) hi40 (by omega) (by omega) iq2 rfl w4 pl (by rw [ecl]; exact t1') qr2 qo2 (fun σ' f cw no => d0 σ' f cw (Or.inr (Or.inl ⟨k3', no⟩))) (fun σ' R f cw a o => d1 σ' R f cw a o.2.1 (Wkr.k3 k3' o.r))⟩
      · have := (k576 4 (by decide)).mp z; omega
      · have := (k576 5 (by decide)).mp z; omega
      · have k6 := (k576 6 (by decide)).mp z
        obtain ⟨w2, pw2⟩ := r6 k6
        have ecl := (r66 k6).2
        rw [pw2] at t1' t3
        refine ⟨k5 h2, C_workClose h2 hw2 hi40 (by omega) (by omega) t1' t2 (fun a ha => ⟨(t3 a ha).1, (t3 a ha).2.2.1⟩) (fun a ha => (t3 a ha).raw.2.2.2.1) (fun a ha => (t3 a ha).raw.2.2.2.2) (fun σ' f cw no => d0 σ' f cw (Or.inr (Or.inr (Or.inr (Or.inr ⟨k6, no.v⟩))))) (fun σ' R f cw a o w => ?_)⟩
        have pw : R.Pairwise (fun a b => rlt a.1 b.1) := by
          obtain ⟨n, S, _⟩ := o
          have := S.pw t2
          rw [List.pairwise_map] at this
          exact this
        exact d1 σ' R f cw (by rw [w2, ecl]; exact a) pw (Wkr.k6 k6 ⟨o.v, rows_nd pw, w⟩)
      · have := (k576 7 (by decide)).mp z; omega
      · have k12 : q.1 = 1 ∨ q.1 = 2 := by
          rcases kk with z | z | z | z
          · exact Or.inl z
          · exact Or.inr z
          · exact absurd ((k576 3 (by decide)).mpr z) z3
          · exact absurd ((k576 6 (by decide)).mpr z) z6
        have ew : q.2.1 = p.2.1 := by
          rcases k12 with z | z
          · exact (r1 z).1
          · exact (r2 z).1
        have pl0 : plc (q.2.2.2.2.2 0) q.2.1 := by
          rcases k12 with z | z
          · rw [ew]; exact (r1 z).2
          · rw [ew]; exact (r2 z).2.1
        have ecl := (r123 (by omega)).2
        refine ⟨k5 h2, C_workFilter h2 hw2 (w := q.2.1) (cl := q.2.2.2.2.1) hi40 (by omega) (by omega) iq2 k12 pl0 (fun z => by rw [ew]; exact (r2 z).2.2) (by rw [ew, ecl]; exact t1') qo2 (fun σ' f cw a => ?_)⟩
        have es : (if q.1 = 1 then pikP q.2.2.2.2.2 else likP q.2.2.2.2.2) = styP c.2.1 q (T (ix q.2.2.2.1)) := by
          funext e
          unfold styP
          rcases k12 with z | z
          · rw [if_pos z, if_pos z]
          · rw [if_neg (by omega), if_neg (by omega), if_pos z]
        rw [es] at a
        exact d1 σ' _ f cw a (t2.sublist List.filter_sublist) (Wkr.k1 (by omega) (List.Perm.refl _))
    have c579 : zFi σ2 579 x = q.2.2.2.1 := iq2.2.2.2.2.2.1
    rw [c579]
    refine ⟨fun z => ?_, fun z => ?_⟩
    · have k457 : q.1 = 4 ∨ q.1 = 5 ∨ q.1 = 7 := by
        by_cases z4 : q.1 = 1 ∨ q.1 = 2 ∨ q.1 = 3
        · exact absurd (r123 z4).1 z
        · by_cases z6 : q.1 = 6
          · exact absurd (r66 z6).1 z
          · exact kd_a g8 nz0 z4 z6
      obtain ⟨p2, ⟨s2, hs2, eo2, hp2⟩, _⟩ := r457 k457
      have t := two k457
      rw [show ix q.2.2.2.1 = s2 by rw [eo2]; exact nI_clamp (by omega)] at t ⊢
      exact ⟨by rw [eo2, l258 h2]; exact vp_in_nI (by omega) (by decide), _, w258 h2 (by omega), t⟩
    · refine one ?_
      by_cases k457 : q.1 = 4 ∨ q.1 = 5 ∨ q.1 = 7
      · obtain ⟨p2, ⟨s2, hs2, eo2, hp2⟩, _⟩ := r457 k457
        rw [eo2] at z
        exact absurd z (nI_m1 (by omega))
      · exact kd_b g8 nz0 k457
  · have z0 := (k576 0 (by decide)).mp z
    obtain ⟨_, ecl, t, ht, eo, hp⟩ := g0 z0
    obtain ⟨kk, k1, k4', ek⟩ := W.2.1 t _ hp
    have w4 : q.2.1 ≤ 4 := by
      have := congrArg Int32.toInt ek
      rw [nI_toInt (by omega), nI_toInt (by omega)] at this
      omega
    rw [iq2.2.2.2.2.1]
    exact ⟨k5 h2, C_workBase h2 hw2 (cl := q.2.2.2.2.1) hi40 w4 hf2 l60 q.2.2.1 qr2 qo2 (fun σ' f cw no => d0 σ' f cw (Or.inl ⟨z0, no⟩)) (fun σ' R f cw a o => d1 σ' R f cw a o.2.1 (Wkr.k0 z0 o.r))⟩
end NQ
