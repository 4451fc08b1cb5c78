/-! the reference: a question is worked out -/
section NR
variable {ad : Ad} {ct : Ct} {σ : St}
theorem pai_nd {td : Nat → Int32} {B : List Ans} {w1 : Nat} (nB : (B.map (fun e => e.1)).Nodup) : ∀ {A : List Ans}, (∀ a ∈ A, a.1.length = w1) → (A.map (fun e => e.1)).Nodup → ((paiR td A B).map (fun e => e.1)).Nodup
  | [], _, _ => List.Pairwise.nil
  | a :: A, lA, nA => by
    rw [List.map_cons, List.nodup_cons] at nA
    have ih := pai_nd (td := td) nB (A := A) (fun x hx => lA x (List.mem_cons_of_mem _ hx)) nA.2
    have e : paiR td (a :: A) B = (B.filter (mtc td a)).map (joiA a) ++ paiR td A B := by unfold paiR; rw [List.flatMap_cons]
    rw [e, List.map_append]
    unfold List.Nodup
    rw [List.pairwise_append]
    refine ⟨?_, ih, fun r hr s hs z => ?_⟩
    · rw [List.pairwise_map, List.pairwise_map]
      unfold List.Nodup at nB
      rw [List.pairwise_map] at nB
      refine (nB.sublist List.filter_sublist).imp (fun {x y} n z => n ?_)
      have z : a.1 ++ x.1 = a.1 ++ y.1 := z
      exact List.append_cancel_left z
    · obtain ⟨u, hu, rfl⟩ := List.mem_map.mp hr
      obtain ⟨b, _, rfl⟩ := List.mem_map.mp hu
      obtain ⟨v, hv, rfl⟩ := List.mem_map.mp hs
      unfold paiR at hv
      obtain ⟨a2, ha2, hv⟩ := List.mem_flatMap.mp hv
      obtain ⟨b2, _, rfl⟩ := List.mem_map.mp hv
      have z : a.1 ++ b.1 = a2.1 ++ b2.1 := z
      have := (List.append_inj z (by rw [lA a List.mem_cons_self, lA a2 (List.mem_cons_of_mem _ ha2)])).1
      exact nA.1 (List.mem_map.mpr ⟨a2, ha2, this.symm⟩)
/-- the result T j of an earlier question -/
def TOm (ad : Ad) (σ : St) (c : Co) (T : Nat → List Ans) (j : Nat) (p : Qst) : Prop := MR ad σ j (T j) p.2.1 p.2.2.2.2.1 ∧ ((T j).map (fun e => e.1)).Nodup ∧ ∀ e ∈ T j, CanA c.2.1.length p.2.1 e
theorem filt_nd {A : List Ans} (n : (A.map (fun e => e.1)).Nodup) (p : Ans → Bool) : ((A.filter p).map (fun e => e.1)).Nodup := n.sublist (List.filter_sublist.map _)
theorem M_works {V : Vt} (W : WF V.1) (h : Sh ad ct σ) (hq : Mqs ad σ V.1.2.2.1) (hf : Mfs ad σ V.1.2.1) {i : Nat} {q : Qst} (hi : V.1.2.2.1[i]? = some q) {T : Nat → List Ans} (hT : ∀ j p, (q.1 ≠ 0 ∧ q.2.2.1 = nI j ∨ q.2.2.2.1 = nI j) → j < i → V.1.2.2.1[j]? = some p → TOm ad σ V.1 T j p) {Q : St → Prop} {E : St → Prop} (h0 : ∀ σ', WkH ad ct σ σ' i → Wfr V.1.2.1 q (T (ix q.2.2.1)) (T (ix q.2.2.2.1)) → E σ') (h1 : ∀ σ' R, WkH ad ct σ σ' i → MR ad σ' i R q.2.1 q.2.2.2.2.1 → (R.map (fun e => e.1)).Nodup → Wkr V.1.2.1 q (T (ix q.2.2.1)) (T (ix q.2.2.2.1)) R → Q σ') : wX16_works (ad 17 0 0) (nI i) σ Q E := by
  have hl := W.2.2.2.2.1
  have hi40 : i < 40 := by have := (List.getElem?_eq_some_iff.mp hi).1; omega
  obtain ⟨g8, gw1, gw6, g0, g1⟩ := W.2.2.2.2.2.1 i q hi
  obtain ⟨b1, b2, b3, b4, b5, b6, b7, b8, b9⟩ := hq.2 i q hi
  have qa : QA ad σ i q := ⟨b1, b2, b3, b4, b6, b7, b8, b9⟩
  have xi : ix (nI i) = i := nI_clamp (by omega)
  have l60 := W.2.2.1
  have z15 : (fun p : Nat × Nat => p = (15, i)) (ct (ad 15 i 0)) ∨ zK σ (ad 15 i 0) = 0 := Or.inl (c15 h (by omega))
  have F : Fr ct (fun p => p = (15, i)) σ (uFi (uFi σ 896 (ad 15 i 0) 0) 897 (ad 15 i 0) (nI q.2.1)) := (Fr.rf.uFi _ _ _ z15).uFi _ _ _ z15
  have H : WkH ad ct σ (uFi (uFi σ 896 (ad 15 i 0) 0) 897 (ad 15 i 0) (nI q.2.1)) i := WkH.of h F (fun p z => Or.inl (Or.inl z)) (by simp)
  have qo : MR ad (uFi (uFi σ 896 (ad 15 i 0) 0) 897 (ad 15 i 0) (nI q.2.1)) i [] q.2.1 q.2.2.2.2.1 := by
    refine ⟨?_, ?_, gw6, Nat.zero_le _, fun r e he => by rw [List.getElem?_nil] at he; cases he⟩
    · rw [yFi_uFi, yu2, if_neg (fun z => absurd z.1 (by decide)), yFi_uFi, yu2, if_pos ⟨rfl, rfl⟩]; rfl
    · rw [yFi_uFi, yu2, if_pos ⟨rfl, rfl⟩]
  refine ⟨k17 h, _, p1049 h, k1049 h, by rw [l1049 h]; exact vp_in_nI hi40 (by decide), _, by rw [xi]; exact w1049 h hi40, k15 h (by omega), _, p1042 h, k1042 h, by rw [l1042 h]; exact vp_in_nI hi40 (by decide), _, p1039 h, k1039 h, by rw [l1039 h]; exact vp_in_nI hi40 (by decide), ?_⟩
  rw [xi, b1, b2]
  generalize uFi (uFi σ 896 (ad 15 i 0) 0) 897 (ad 15 i 0) (nI q.2.1) = ρ at F H qo ⊢
  have hρ := h.wx H
  have qaρ := qa.x h H
  have hfρ := hf.x h H
  have e0 : ∀ σ', WkH ad ct ρ σ' i → Wfr V.1.2.1 q (T (ix q.2.2.1)) (T (ix q.2.2.2.1)) → E σ' := fun σ' f w => h0 σ' (H.tr f) w
  have e1 : ∀ σ' R, WkH ad ct ρ σ' i → MR ad σ' i R q.2.1 q.2.2.2.2.1 → (R.map (fun e => e.1)).Nodup → Wkr V.1.2.1 q (T (ix q.2.2.1)) (T (ix q.2.2.2.1)) R → Q σ' := fun σ' R f a n w => h1 σ' R (H.tr f) a n w
  have kq : ∀ n : Nat, n < 8 → (nI q.1 = nI n ↔ q.1 = n) := fun n hn => by
    constructor
    · intro z
      have z := congrArg Int32.toInt z
      rw [nI_toInt (by omega), nI_toInt (by omega)] at z
      omega
    · intro z; rw [z]
  have opr : ∀ {j : Nat} {L : List Ans} {w : Nat} {cl : Bool}, j < i → MR ad σ j L w cl → MR ad ρ j L w cl := fun {j L w cl} hj qj => H.mr h (by omega) (by omega) qj
  have nz1 : q.1 ≠ 0 → ∃ p s1, s1 < i ∧ q.2.2.1 = nI s1 ∧ ix q.2.2.1 = s1 ∧ TOm ad σ V.1 T s1 p ∧ ((q.1 = 1 → q.2.1 = p.2.1 ∧ plc (q.2.2.2.2.2 0) p.2.1) ∧ (q.1 = 2 → q.2.1 = p.2.1 ∧ plc (q.2.2.2.2.2 0) p.2.1 ∧ plc (q.2.2.2.2.2 1) p.2.1) ∧ (q.1 = 3 → q.2.1 ≤ 4 ∧ ∀ k, k < q.2.1 → plc (q.2.2.2.2.2 k) p.2.1) ∧ (q.1 = 6 → q.2.1 = 2 ∧ p.2.1 = 2) ∧ (q.1 = 1 ∨ q.1 = 2 ∨ q.1 = 3 → q.2.2.2.2.1 = p.2.2.2.2.1) ∧ (q.1 = 6 → q.2.2.2.2.1 = true) ∧ (q.1 = 4 ∨ q.1 = 5 ∨ q.1 = 7 → ∃ p2 s2, s2 < i ∧ q.2.2.2.1 = nI s2 ∧ ix q.2.2.2.1 = s2 ∧ TOm ad σ V.1 T s2 p2 ∧ q.2.2.2.2.1 = (p.2.2.2.2.1 || p2.2.2.2.2.1) ∧ (q.1 = 4 → q.2.1 = p.2.1 + p2.2.1 ∧ plc (q.2.2.2.2.2 0) p.2.1 ∧ plc (q.2.2.2.2.2 1) p2.2.1) ∧ (q.1 ≠ 4 → q.2.1 = p.2.1 ∧ p2.2.1 = p.2.1))) := fun nz => by
    obtain ⟨p, ⟨s1, hs1, eo, hp⟩, r1, r2, r3, r6, r123, r66, r457⟩ := g1 nz
    refine ⟨p, s1, hs1, eo, by rw [eo]; exact nI_clamp (by omega), hT s1 p (Or.inl ⟨nz, eo⟩) hs1 hp, r1, r2, r3, r6, fun z => (r123 z).2, fun z => (r66 z).2, fun z => ?_⟩
    obtain ⟨p2, ⟨s2, hs2, eo2, hp2⟩, ecl, e4, e57⟩ := r457 z
    exact ⟨p2, s2, hs2, eo2, by rw [eo2]; exact nI_clamp (by omega), hT s2 p2 (Or.inr eo2) hs2 hp2, ecl, e4, e57⟩
  have v1040 : ∀ {s1 : Nat}, s1 < i → q.2.2.1 = nI s1 → vp_in (zAi σ (ad 1040 0 0) i) (zL σ (ad 1049 0 0)) ∧ zAr σ (ad 1049 0 0) (ix (zAi σ (ad 1040 0 0) i)) = some (ad 15 s1 0) := fun {s1} hs1 eo => by
    rw [b3, eo, l1049 h, show ix (nI s1) = s1 from nI_clamp (by omega)]
    exact ⟨vp_in_nI (by omega) (by decide), w1049 h (by omega)⟩
  have v1041 : ∀ {s1 : Nat}, s1 < i → q.2.2.2.1 = nI s1 → vp_in (zAi σ (ad 1041 0 0) i) (zL σ (ad 1049 0 0)) ∧ zAr σ (ad 1049 0 0) (ix (zAi σ (ad 1041 0 0) i)) = some (ad 15 s1 0) := fun {s1} hs1 eo => by
    rw [b4, eo, l1049 h, show ix (nI s1) = s1 from nI_clamp (by omega)]
    exact ⟨vp_in_nI (by omega) (by decide), w1049 h (by omega)⟩
  have vi : vp_in (nI i) (zL σ (ad 1040 0 0)) := by rw [l1040 h]; exact vp_in_nI hi40 (by decide)
  have vj : vp_in (nI i) (zL σ (ad 1041 0 0)) := by rw [l1041 h]; exact vp_in_nI hi40 (by decide)
  have pick : q.1 = 1 ∨ q.1 = 2 ∨ q.1 = 7 → vp_in (zAi σ (ad 1040 0 0) i) (zL σ (ad 1049 0 0)) ∧ ∃ a28 : Nat, zAr σ (ad 1049 0 0) (ix (zAi σ (ad 1040 0 0) i)) = some a28 ∧ wX16_picks (ad 17 0 0) (nI i) (ad 15 i 0) a28 ρ (fun σ30 => Q σ30) E := fun kk => by
    obtain ⟨p, s1, hs1, eo, x1, ⟨t1, t2, t3⟩, r1, r2, r3, r6, r123, r66, r457⟩ := nz1 (by omega)
    obtain ⟨y1, y2⟩ := v1040 hs1 eo
    have ew : q.2.1 = p.2.1 := by
      rcases kk with z | z | z
      · exact (r1 z).1
      · exact (r2 z).1
      · obtain ⟨p2, s2, _, _, _, _, _, _, e57⟩ := r457 (Or.inr (Or.inr z))
        exact (e57 (by omega)).1
    have hc1 : p.2.2.2.2.1 = true → q.2.2.2.2.1 = true := fun y => by
      rcases kk with z | z | z
      · rw [r123 (Or.inl z)]; exact y
      · rw [r123 (Or.inr (Or.inl z))]; exact y
      · obtain ⟨p2, s2, _, _, _, _, ecl, _⟩ := r457 (Or.inr (Or.inr z))
        rw [ecl]; exact or_l y
    refine ⟨y1, _, y2, ?_⟩
    rw [x1] at e1
    by_cases k7 : q.1 = 7
    · obtain ⟨p2, s2, hs2, eo2, x2, ⟨u1, u2, u3⟩, ecl, e4, e57⟩ := r457 (Or.inr (Or.inr k7))
      obtain ⟨w5, w52⟩ := e57 (by omega)
      rw [x2] at e1
      exact M_picks (V := V) hρ hfρ l60 (w := q.2.1) (cl := q.2.2.2.2.1) (cl2 := p2.2.2.2.2.1) (B := T s2) (s2 := s2) hi40 hi40 (by omega) (by omega) qaρ (fun z => absurd k7 (by omega)) (fun z => absurd k7 (by omega)) (fun _ _ => ⟨by omega, by omega, eo2, by rw [w5, ← w52]; exact opr hs2 u1, u2⟩) g8 (by rw [ew]; exact opr hs1 t1) hc1 (fun e he => (t3 e he).cn) qo (fun σ' f a => e1 σ' _ f a (filt_nd t2 _) (Wkr.k1 (by omega) (List.Perm.refl _)))
    · exact M_picks (V := V) hρ hfρ l60 (w := q.2.1) (cl := q.2.2.2.2.1) (cl2 := false) (B := T (ix q.2.2.2.1)) (s2 := 0) hi40 hi40 (by omega) (by omega) qaρ (fun z => by
        rcases z with z | z
        · rw [ew]; exact (r1 z).2
        · rw [ew]; exact (r2 z).2.1) (fun z => by rw [ew]; exact (r2 z).2.2) (fun z1 z2 => by
        rcases kk with z | z | z
        · exact absurd z z1
        · exact absurd z z2
        · exact absurd z k7) g8 (by rw [ew]; exact opr hs1 t1) hc1 (fun e he => (t3 e he).cn) qo (fun σ' f a => e1 σ' _ f a (filt_nd t2 _) (Wkr.k1 kk (List.Perm.refl _)))
  refine ⟨fun z => ?_, fun z => ?_, fun z => ?_, fun z => ?_, fun z => ?_, fun z => ?_, fun z => ?_, fun z0 z1 z2 z3 z4 z5 z6 => ?_⟩
  · have z0 := (kq 0 (by decide)).mp z
    obtain ⟨_, ecl, t, ht, eo, hp⟩ := g0 z0
    obtain ⟨kk, k1, k4', ek⟩ := W.2.1 t _ hp
    have w4 : q.2.1 ≤ 4 := by
      have := congrArg Int32.toInt ek
      rw [nI_toInt (by omega), nI_toInt (by omega)] at this
      omega
    refine ⟨_, p1040 h, k1040 h, vi, ?_⟩
    rw [b3]
    exact M_bases (V := V) W hρ hfρ (cl := q.2.2.2.2.1) hi40 w4 q.2.2.1 qo (fun σ' f no => e0 σ' f (Or.inl ⟨z0, no⟩)) (fun σ' R f a o => e1 σ' R f a o.2.1 (Wkr.k0 z0 o))
  · exact ⟨_, p1040 h, k1040 h, vi, pick (Or.inl ((kq 1 (by decide)).mp z))⟩
  · exact ⟨_, p1040 h, k1040 h, vi, pick (Or.inr (Or.inl ((kq 2 (by decide)).mp z)))⟩
  · have k3' := (kq 3 (by decide)).mp z
    obtain ⟨p, s1, hs1, eo, x1, ⟨t1, t2, t3⟩, r1, r2, r3, r6, r123, r66, r457⟩ := nz1 (by omega)
    obtain ⟨y1, y2⟩ := v1040 hs1 eo
    obtain ⟨w4, pl⟩ := r3 k3'
    rw [x1] at e0 e1
    exact ⟨_, p1040 h, k1040 h, vi, y1, _, y2, M_cuts hρ (cl := q.2.2.2.2.1) hi40 hi40 (by omega) (by omega) qaρ w4 pl (opr hs1 t1) (fun y => by rw [r123 (Or.inr (Or.inr k3'))]; exact y) (fun e he => (t3 e he).cn) qo (fun σ' f no => e0 σ' f (Or.inr (Or.inl ⟨k3', no⟩))) (fun σ' R f a o => e1 σ' R f a o.2.1 (Wkr.k3 k3' o))⟩
  · have k4' := (kq 4 (by decide)).mp z
    obtain ⟨p, s1, hs1, eo, x1, ⟨t1, t2, t3⟩, r1, r2, r3, r6, r123, r66, r457⟩ := nz1 (by omega)
    obtain ⟨y1, y2⟩ := v1040 hs1 eo
    obtain ⟨p2, s2, hs2, eo2, x2, ⟨u1, u2, u3⟩, ecl, e4, e57⟩ := r457 (Or.inl k4')
    obtain ⟨y3, y4⟩ := v1041 hs2 eo2
    obtain ⟨w4, pl0, pl1⟩ := e4 k4'
    rw [x1, x2] at e0 e1
    exact ⟨_, p1040 h, k1040 h, vi, y1, _, y2, _, p1041 h, k1041 h, vj, y3, _, y4, M_pairs hρ (cl := q.2.2.2.2.1) hi40 hi40 (by omega) (by omega) (by omega) (by omega) qaρ pl0 pl1 (by omega) (opr hs1 t1) (opr hs2 u1) (fun y => by rw [ecl]; exact or_l y) (fun y => by rw [ecl]; exact or_r y) (pai_nd u2 (fun a ha => (t3 a ha).1) t2) (fun e he => (t3 e he).cn) (fun e he => (u3 e he).cn) (by rw [← w4]; exact qo) (fun σ' f no => e0 σ' f (Or.inr (Or.inr (Or.inl ⟨k4', no⟩)))) (fun σ' R f a o => e1 σ' R f (by rw [w4]; exact a) o.2.1 (Wkr.k4 k4' o))⟩
  · have k5' := (kq 5 (by decide)).mp z
    obtain ⟨p, s1, hs1, eo, x1, ⟨t1, t2, t3⟩, r1, r2, r3, r6, r123, r66, r457⟩ := nz1 (by omega)
    obtain ⟨y1, y2⟩ := v1040 hs1 eo
    obtain ⟨p2, s2, hs2, eo2, x2, ⟨u1, u2, u3⟩, ecl, e4, e57⟩ := r457 (Or.inr (Or.inl k5'))
    obtain ⟨y3, y4⟩ := v1041 hs2 eo2
    obtain ⟨w5, w52⟩ := e57 (by omega)
    rw [x1, x2] at e0 e1
    exact ⟨_, p1040 h, k1040 h, vi, y1, _, y2, _, p1041 h, k1041 h, vj, y3, _, y4, M_eithers hρ (w := q.2.1) (cl := q.2.2.2.2.1) hi40 (by omega) (by omega) (by omega) (by omega) (by rw [w5]; exact opr hs1 t1) (by rw [w5, ← w52]; exact opr hs2 u1) (fun y => by rw [ecl]; exact or_l y) (fun y => by rw [ecl]; exact or_r y) t2 u2 (fun e he => (t3 e he).cn) (fun e he => (u3 e he).cn) qo (fun σ' f no => e0 σ' f (Or.inr (Or.inr (Or.inr (Or.inl ⟨k5', no⟩))))) (fun σ' R f a o => e1 σ' R f a o.2.1 (Wkr.k5 k5' o))⟩
  · have k6 := (kq 6 (by decide)).mp z
    obtain ⟨p, s1, hs1, eo, x1, ⟨t1, t2, t3⟩, r1, r2, r3, r6, r123, r66, r457⟩ := nz1 (by omega)
    obtain ⟨y1, y2⟩ := v1040 hs1 eo
    obtain ⟨w2, pw2⟩ := r6 k6
    rw [pw2] at t1 t3
    rw [x1] at e0 e1
    refine ⟨_, p1040 h, k1040 h, vi, y1, _, y2, M_rounds hρ hi40 (by omega) (by omega) (opr hs1 t1) t2 (fun a ha => ⟨(t3 a ha).1, (t3 a ha).2.2.1⟩) (fun a ha => (t3 a ha).raw.2.2.2.1) (fun a ha => (t3 a ha).raw.2.2.2.2) (fun σ' f no => e0 σ' f (Or.inr (Or.inr (Or.inr (Or.inr ⟨k6, no⟩))))) (fun σ' R f a o n w => e1 σ' R f (by rw [w2, r66 k6]; exact a) n (Wkr.k6 k6 ⟨o, n, w⟩))⟩
  · have k7 : q.1 = 7 := by
      have a0 : q.1 ≠ 0 := fun y => z0 ((kq 0 (by decide)).mpr y)
      have a1 : q.1 ≠ 1 := fun y => z1 ((kq 1 (by decide)).mpr y)
      have a2 : q.1 ≠ 2 := fun y => z2 ((kq 2 (by decide)).mpr y)
      have a3 : q.1 ≠ 3 := fun y => z3 ((kq 3 (by decide)).mpr y)
      have a4 : q.1 ≠ 4 := fun y => z4 ((kq 4 (by decide)).mpr y)
      have a5 : q.1 ≠ 5 := fun y => z5 ((kq 5 (by decide)).mpr y)
      have a6 : q.1 ≠ 6 := fun y => z6 ((kq 6 (by decide)).mpr y)
      clear nz1 g1 g0
      omega
    exact ⟨_, p1040 h, k1040 h, vi, pick (Or.inr (Or.inr k7))⟩
end NR
