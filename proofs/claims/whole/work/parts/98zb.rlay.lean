/-! the reference: CLOSE: the ways of a round -/
section NM
variable {ad : Ad} {ct : Ct} {σ : St}
/-- what the steps of B, after the chain c, bring to the row r -/
def gcs (B : List Ans) (r : List Int32) (c : Ans) : List Int64 := (B.filter (fun s => decide (s.1 = [at1 c, r.getD 1 0]))).flatMap (fun s => uni c.2.1 s.2.1)
def gc2 (B : List Ans) (r : List Int32) (c : Ans) : List Int64 := if at0 c = r.getD 0 0 then gcs B r c else []
theorem gcs_len {B : List Ans} (hd : (B.map (fun e => e.1)).Nodup) (w16 : ∀ s ∈ B, s.2.1.length ≤ 16) {r : List Int32} {c : Ans} (c16 : c.2.1.length ≤ 16) : (gcs B r c).length ≤ 256 := by
  unfold gcs
  by_cases z : ∃ s ∈ B, s.1 = [at1 c, r.getD 1 0]
  · obtain ⟨s, hs, e⟩ := z
    rw [filt_1 hd hs e, List.flatMap_singleton, uni_len]
    exact Nat.mul_le_mul c16 (w16 s hs)
  · rw [filt_0 (fun s hs e => z ⟨s, hs, e⟩)]; exact Nat.zero_le _
theorem gc2_len {B : List Ans} (hd : (B.map (fun e => e.1)).Nodup) (w16 : ∀ s ∈ B, s.2.1.length ≤ 16) {r : List Int32} : ∀ {L : List Ans}, (∀ c ∈ L, c.2.1.length ≤ 16) → (L.flatMap (gc2 B r)).length ≤ 256 * L.length
  | [], _ => Nat.zero_le _
  | c :: L, h => by
    rw [List.flatMap_cons, List.length_append, List.length_cons]
    have := gc2_len hd w16 (r := r) (L := L) (fun x hx => h x (List.mem_cons_of_mem _ hx))
    have l1 : (gc2 B r c).length ≤ 256 := by
      unfold gc2
      split
      · exact gcs_len hd w16 (h c List.mem_cons_self)
      · exact Nat.zero_le _
    omega
theorem gc12 {B : List Ans} {r : List Int32} {c : Ans} : gc1 B r c = (if c.1 = r then c.2.1 else []) ++ gc2 B r c := rfl
/-- own: the ways that the row r has in L, if it is there -/
theorem own_mem {A L : List Ans} (nL : (L.map (fun e => e.1)).Nodup) (g2 : ∀ s ∈ A, s.1.length = 2) {r : List Int32} (hr : r.length = 2) {o : List Int64} (ho : (∃ c ∈ L, c.1 = r ∧ o = c.2.1) ∨ (∀ c ∈ L, c.1 ≠ r) ∧ o = []) {w : Int64} : w ∈ o ++ L.flatMap (gc2 A r) ↔ w ∈ gath (rndR A (L.map bare)) r := by
  rw [← gc_mem g2 hr, List.mem_append, List.mem_flatMap, List.mem_flatMap]
  constructor
  · rintro (h | ⟨c, hc, h⟩)
    · rcases ho with ⟨c, hc, er, rfl⟩ | ⟨_, rfl⟩
      · refine ⟨c, hc, ?_⟩
        rw [gc12, if_pos er]
        exact List.mem_append_left _ h
      · cases h
    · refine ⟨c, hc, ?_⟩
      rw [gc12]
      exact List.mem_append_right _ h
  · rintro ⟨c, hc, h⟩
    rw [gc12] at h
    rcases List.mem_append.mp h with z | z
    · by_cases e : c.1 = r
      · rw [if_pos e] at z
        rcases ho with ⟨c2, hc2, er, rfl⟩ | ⟨no, _⟩
        · rw [row_u nL hc hc2 (e.trans er.symm)] at z
          exact Or.inl z
        · exact absurd e (no c hc)
      · rw [if_neg e] at z; cases z
    · exact Or.inr ⟨c, hc, z⟩
theorem MR.w16 {s w : Nat} {cl : Bool} {L : List Ans} (q : MR ad σ s L w cl) : ∀ e ∈ L, e.2.1.length ≤ 16 := fun e he => by
  obtain ⟨i, hi, rfl⟩ := List.mem_iff_getElem.mp he
  exact (q.2.2.2.2 i _ (List.getElem?_eq_getElem hi)).2.2.1
theorem MR.l2 {s w : Nat} {cl : Bool} {L : List Ans} (q : MR ad σ s L w cl) : ∀ e ∈ L, e.1.length = w := fun e he => by
  obtain ⟨i, hi, rfl⟩ := List.mem_iff_getElem.mp he
  exact (q.2.2.2.2 i _ (List.getElem?_eq_getElem hi)).1
theorem flt_s {A : List Ans} {m : Nat} {s : Ans} (hs : A[m]? = some s) {r : List Int32} {c : Ans} : gcs (A.take (m + 1)) r c = gcs (A.take m) r c ++ (if s.1 = [at1 c, r.getD 1 0] then uni c.2.1 s.2.1 else []) := by
  have es : A.take (m + 1) = A.take m ++ [s] := by rw [List.take_add_one, hs]; rfl
  unfold gcs
  rw [es, List.filter_append, List.flatMap_append]
  congr 1
  by_cases z : s.1 = [at1 c, r.getD 1 0]
  · rw [if_pos z, List.filter_cons_of_pos (p := fun s : Ans => decide (s.1 = [at1 c, r.getD 1 0])) (decide_eq_true z), List.filter_nil, List.flatMap_singleton]
  · rw [if_neg z, List.filter_cons_of_neg (p := fun s : Ans => decide (s.1 = [at1 c, r.getD 1 0])) (fun y => z (of_decide_eq_true y)), List.filter_nil]
    rfl
theorem M_rpile (h : Sh ad ct σ) {k s1 t : Nat} {cl1 : Bool} {A L M : List Ans} {e : Ans} (hk : k < 40) (hs1 : s1 < 40) (q1 : MR ad σ s1 A 2 cl1) (q41 : MR ad σ 41 L 2 true) (qk : MR ad σ k M 2 true) (nA : (A.map (fun e => e.1)).Nodup) (he : M[t]? = some e) {fl : Int32} {Q : St → Prop} {E : St → Prop} {r7 : Nat → Nat → Nat → Int32 → St → Prop} {r161 : Nat → Nat → Nat → Int32 → Int32 → St → Prop} (hQ : ∀ σ', PiI ad ct σ σ' (addA [] (e.2.1 ++ L.flatMap (gc2 A e.1))) → wX16_lays (ad 17 0 0) (ad 15 k 0) (nI t) σ' (fun y6 σ5 => ((¬ y6 = 0 → r161 (ad 17 0 0) (ad 15 k 0) (ad 15 s1 0) 1 (nI t + 1) σ5) ∧ (y6 = 0 → ((fl = 0 → r161 (ad 17 0 0) (ad 15 k 0) (ad 15 s1 0) 0 (nI t + 1) σ5) ∧ (¬ fl = 0 → r161 (ad 17 0 0) (ad 15 k 0) (ad 15 s1 0) 1 (nI t + 1) σ5))))) E) : wX16_pilesAll (ad 17 0 0) (ad 15 k 0) (nI t) (uFi σ 1054 (ad 17 0 0) 0) (fun σ3 => ∃ f, lX16_rounds_185 Q E r7 r161 f (ad 17 0 0) (ad 15 k 0) (ad 15 s1 0) fl (nI t) 0 σ3) := by
  have lA := q1.2.2.2.1
  have lL := q41.2.2.2.1
  have ht := (List.getElem?_eq_some_iff.mp he).1
  have lM := qk.2.2.2.1
  have e6 : ∀ i : Nat, (6 : Int32) * nI i = nI (6 * i) := fun i => by rw [show (6 : Int32) = nI 6 from rfl, pk_mul]
  have rowe := qk.2.2.2.2 t e he
  have e16 := rowe.2.2.1
  have ere := row_of rowe.1
  refine M_pilesAll h (by omega) (by omega) rowe (by rw [List.length_nil]; omega) (pi_0 h) (fun σ2 I2 => ⟨L.length + 1, ?_⟩)
  have out : ∀ (d j : Nat) (σ3 : St), j + d = L.length → PiI ad ct σ σ3 (addA [] (e.2.1 ++ (L.take j).flatMap (gc2 A e.1))) → lX16_rounds_185 Q E r7 r161 (d + 1) (ad 17 0 0) (ad 15 k 0) (ad 15 s1 0) fl (nI t) (nI j) σ3 := by
    intro d
    induction d with
    | zero =>
      intro j σ3 hj I
      have hj : j = L.length := by omega
      have h3 := h.frM (I.1.mono SP_SM)
      have p3 := I.mr h (by decide) q41
      rw [hj, List.take_length] at I
      refine ⟨k17 h3, _, p1051 h3, k15 h3 (by decide), fun _ => hQ σ3 I, fun z => absurd ?_ z⟩
      rw [p3.1, hj]; exact nI_le (Nat.le_refl _) (by omega)
    | succ d ih =>
      intro j σ3 hj I
      have h3 := h.frM (I.1.mono SP_SM)
      have p3 := I.mr h (by decide) q41
      have k3' := I.mr h (by omega) qk
      obtain ⟨c, hc⟩ : ∃ c, L[j]? = some c := ⟨_, List.getElem?_eq_getElem (by omega)⟩
      have c16 := q41.w16 c (List.mem_of_getElem? hc)
      have et : L.take (j + 1) = L.take j ++ [c] := by rw [List.take_add_one, hc]; rfl
      obtain ⟨x0, x1, xe⟩ := (p3.2.2.2.2 j c hc).r01
      obtain ⟨z0, z1, ze⟩ := (k3'.2.2.2.2 t e he).r01
      have lj := gc2_len nA q1.w16 (r := e.1) (L := L.take j) (fun x hx => q41.w16 x (List.mem_of_mem_take hx))
      rw [List.length_take] at lj
      have nxt : ∀ (g : List Int64) (σ4 : St), gc2 A e.1 c = g → PiI ad ct σ σ4 (addA (addA [] (e.2.1 ++ (L.take j).flatMap (gc2 A e.1))) g) → lX16_rounds_185 Q E r7 r161 (d + 1) (ad 17 0 0) (ad 15 k 0) (ad 15 s1 0) fl (nI t) (nI j + 1) σ4 := fun g σ4 eg J => by
        rw [nI_1]
        refine ih (j + 1) σ4 (by omega) ?_
        rw [et, List.flatMap_append, List.flatMap_singleton, eg, ← List.append_assoc, addA_app]
        exact J
      refine ⟨k17 h3, _, p1051 h3, k15 h3 (by decide), fun z => absurd z (by rw [p3.1]; exact nI_ge (by omega) (by omega)), fun _ => ⟨_, p898 h3 (by decide), k898 h3 (by decide), by rw [e6, l898 h3 (by decide)]; exact vp_in_nI (by omega) (by decide), k15 h3 (by omega), _, p898 h3 (by omega), k898 h3 (by omega), by rw [e6, l898 h3 (by omega)]; exact vp_in_nI (by omega) (by decide), ?_⟩⟩
      rw [e6, e6, show ix (nI (6 * j)) = 6 * j from nI_clamp (by omega), show ix (nI (6 * t)) = 6 * t from nI_clamp (by omega), x0, z0]
      refine ⟨fun ec => ⟨A.length + 1, ?_⟩, fun ec => nxt [] σ3 ?_ I⟩
      · have inn : ∀ (d2 m : Nat) (σ4 : St), m + d2 = A.length → PiI ad ct σ σ4 (addA (addA [] (e.2.1 ++ (L.take j).flatMap (gc2 A e.1))) (gcs (A.take m) e.1 c)) → lX16_rounds_229 Q E r7 r161 (lX16_rounds_185 Q E r7 r161 (d + 1)) (d2 + 1) (ad 17 0 0) (ad 15 k 0) (ad 15 s1 0) fl (nI t) (nI j) (nI m) σ4 := by
          intro d2
          induction d2 with
          | zero =>
            intro m σ4 hm J
            have hm : m = A.length := by omega
            have h4 := h.frM (J.1.mono SP_SM)
            have q14 := J.mr h (by omega) q1
            rw [hm, List.take_length] at J
            refine ⟨k15 h4 (by omega), fun _ => nxt _ σ4 ?_ J, fun z => absurd ?_ z⟩
            · unfold gc2
              rw [if_pos]
              rw [ec]; rfl
            · rw [q14.1, hm]; exact nI_le (Nat.le_refl _) (by omega)
          | succ d2 ih2 =>
            intro m σ4 hm J
            have h4 := h.frM (J.1.mono SP_SM)
            have q14 := J.mr h (by omega) q1
            have p4 := J.mr h (by decide) q41
            have k4' := J.mr h (by omega) qk
            obtain ⟨s, hs⟩ : ∃ s, A[m]? = some s := ⟨_, List.getElem?_eq_getElem (by omega)⟩
            obtain ⟨a0, a1, ae⟩ := (p4.2.2.2.2 j c hc).r01
            obtain ⟨b0, b1, be⟩ := (q14.2.2.2.2 m s hs).r01
            obtain ⟨g0, g1, ge⟩ := (k4'.2.2.2.2 t e he).r01
            have fs := flt_s hs (r := e.1) (c := c)
            have stay : s.1 ≠ [at1 c, e.1.getD 1 0] → lX16_rounds_229 Q E r7 r161 (lX16_rounds_185 Q E r7 r161 (d + 1)) (d2 + 1) (ad 17 0 0) (ad 15 k 0) (ad 15 s1 0) fl (nI t) (nI j) (nI m + 1) σ4 := fun ne => by
              rw [nI_1]
              refine ih2 (m + 1) σ4 (by omega) ?_
              rw [fs, if_neg ne, List.append_nil]
              exact J
            refine ⟨k15 h4 (by omega), fun z => absurd z (by rw [q14.1]; exact nI_ge (by omega) (by omega)), fun _ => ⟨k17 h4, _, p1051 h4, k15 h4 (by decide), _, p898 h4 (by decide), k898 h4 (by decide), by rw [e6, nI_1, l898 h4 (by decide)]; exact vp_in_nI (by omega) (by decide), _, p898 h4 (by omega), k898 h4 (by omega), by rw [e6, l898 h4 (by omega)]; exact vp_in_nI (by omega) (by decide), ?_⟩⟩
            rw [e6, e6, e6, nI_1 (6 * j), nI_1 (6 * m), nI_1 (6 * t), show ix (nI (6 * j + 1)) = 6 * j + 1 from nI_clamp (by omega), show ix (nI (6 * m)) = 6 * m from nI_clamp (by omega), show ix (nI (6 * m + 1)) = 6 * m + 1 from nI_clamp (by omega), show ix (nI (6 * t + 1)) = 6 * t + 1 from nI_clamp (by omega), a1, b0, b1]
            refine ⟨fun z => stay (fun y => z (by rw [(at0_of y).1])), fun z => ⟨by rw [l898 h4 (by omega)]; exact vp_in_nI (by omega) (by decide), k15 h4 (by omega), _, p898 h4 (by omega), k898 h4 (by omega), by rw [l898 h4 (by omega)]; exact vp_in_nI (by omega) (by decide), fun y => stay (fun u => y ?_), fun y => ?_⟩⟩
            · rw [g1, (at0_of u).2]; rfl
            · rw [g1] at y
              have em : s.1 = [at1 c, e.1.getD 1 0] := by rw [be, ← z, y]; rfl
              rw [if_pos em] at fs
              have bb := gcs_len (B := A.take (m + 1)) (r := e.1) (c := c) (by rw [List.map_take]; exact nA.sublist (List.take_sublist _ _)) (fun x hx => q1.w16 x (List.mem_of_mem_take hx)) c16
              rw [fs, List.length_append, uni_len] at bb
              have l1 := addA_len (e.2.1 ++ (L.take j).flatMap (gc2 A e.1)) []
              have l2 := addA_len (gcs (A.take m) e.1 c) (addA [] (e.2.1 ++ (L.take j).flatMap (gc2 A e.1)))
              rw [List.length_nil, List.length_append] at l1
              refine M_pilesBoth h (by decide) (by omega) (q41.2.2.2.2 j c hc) (by omega) (by omega) (q1.2.2.2.2 m s hs) (by omega) J (fun σ5 J5 => ?_)
              rw [nI_1]
              refine ih2 (m + 1) σ5 (by omega) ?_
              rw [fs, addA_app]
              exact J5
        exact inn A.length 0 σ3 (by omega) I
      · unfold gc2
        rw [if_neg]
        exact fun z => ec z
  exact out L.length 0 σ2 (by omega) (by rw [List.take_zero, List.flatMap_nil, List.append_nil]; exact I2)
end NM
