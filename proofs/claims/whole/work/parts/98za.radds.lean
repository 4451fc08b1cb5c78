/-! the reference: CLOSE: the rows of a round -/
section NL
variable {ad : Ad} {ct : Ct} {σ : St}
def newA (r : List Int32) : Ans := (r, [], 0, 1000000000, 0)
/-- L with the new rows N, all rows of a round so far -/
def RdI (A L : List Ans) (N : List (List Int32)) : Prop := ((L ++ N.map newA).map (fun e => e.1)).Nodup ∧ ∀ r ∈ N, ∃ x ∈ rndR A (L.map bare), x.1 = r
theorem new_rows (L : List Ans) (N : List (List Int32)) : (L ++ N.map newA).map (fun e => e.1) = L.map (fun e => e.1) ++ N := by
  rw [List.map_append, List.map_map]
  congr 1
  exact List.map_id N
theorem MR.o41 (h : Sh ad ct σ) {k w : Nat} {cl : Bool} {L : List Ans} (hk : k < 40) (q : MR ad σ 41 L w cl) {σ' : St} (F : Fr ct (SS k) σ σ') : MR ad σ' 41 L w cl := q.ss h F (by decide) (fun g hg z => by
  simp only [SS, Prod.mk.injEq] at z
  omega)
theorem M_radd (h : Sh ad ct σ) {k s1 : Nat} {cl1 : Bool} {A L : List Ans} (hk : k < 40) (hs1 : s1 < 40) (n1 : s1 ≠ k) (q1 : MR ad σ s1 A 2 cl1) (qk : MR ad σ k L 2 true) (q41 : MR ad σ 41 L 2 true) (nL : (L.map (fun e => e.1)).Nodup) {Q : St → Prop} {E : St → Prop} {r7 : Nat → Nat → Nat → Int32 → St → Prop} (h0 : ∀ σ', WkH ad ct σ σ' k → NOm (rndR A (L.map bare)) → E σ') (h1 : ∀ (σ' : St) (N : List (List Int32)) (fl : Int32), WkH ad ct σ σ' k → MR ad σ' 41 L 2 true → MR ad σ' k (L ++ N.map newA) 2 true → RdI A L N → (∀ r, (∃ x ∈ rndR A (L.map bare), x.1 = r) → r ∈ L.map (fun e => e.1) ++ N) → (fl = 0 ∧ N = [] ∨ fl = 1 ∧ N ≠ []) → ∃ f, lX16_rounds_161 Q E r7 f (ad 17 0 0) (ad 15 k 0) (ad 15 s1 0) fl 0 σ') : ∃ f, lX16_rounds_24 Q E r7 f (ad 17 0 0) (ad 15 k 0) (ad 15 s1 0) 0 0 σ := by
  have lA := q1.2.2.2.1
  have lL := qk.2.2.2.1
  have e6 : ∀ i : Nat, (6 : Int32) * nI i = nI (6 * i) := fun i => by rw [show (6 : Int32) = nI 6 from rfl, pk_mul]
  have out : ∀ (d n : Nat) (N : List (List Int32)) (fl : Int32) (σ3 : St), n + d = L.length → WkH ad ct σ σ3 k → MR ad σ3 41 L 2 true → MR ad σ3 k (L ++ N.map newA) 2 true → RdI A L N → (∀ c ∈ L.take n, ∀ s ∈ A, at1 c = at0 s → [at0 c, at1 s] ∈ L.map (fun e => e.1) ++ N) → (fl = 0 ∧ N = [] ∨ fl = 1 ∧ N ≠ []) → lX16_rounds_24 Q E r7 (d + 1) (ad 17 0 0) (ad 15 k 0) (ad 15 s1 0) fl (nI n) σ3 := by
    intro d
    induction d with
    | zero =>
      intro n N fl σ3 hn F p41 q I cv hfl
      have hn : n = L.length := by omega
      have h3 := h.wx F
      rw [hn, List.take_length] at cv
      refine ⟨k17 h3, _, p1051 h3, k15 h3 (by decide), fun _ => h1 σ3 N fl F p41 q I (fun r ⟨x, hx, er⟩ => ?_) hfl, fun z => absurd ?_ z⟩
      · rcases rndR_mem.mp hx with z | ⟨b, hb, s, hs, es, rfl⟩
        · obtain ⟨c, hc, rfl⟩ := List.mem_map.mp z
          exact List.mem_append_left _ (List.mem_map.mpr ⟨c, hc, er⟩)
        · obtain ⟨c, hc, rfl⟩ := List.mem_map.mp hb
          rw [← er]
          exact cv c hc s hs es
      · rw [p41.1, hn]; exact nI_le (Nat.le_refl _) (by omega)
    | succ d ih =>
      intro n N fl σ3 hn F p41 q I cv hfl
      have h3 := h.wx F
      obtain ⟨c, hc⟩ : ∃ c, L[n]? = some c := ⟨_, List.getElem?_eq_getElem (by omega)⟩
      have cm := List.mem_of_getElem? hc
      have et : L.take (n + 1) = L.take n ++ [c] := by rw [List.take_add_one, hc]; rfl
      have inn : ∀ (d2 m : Nat) (N : List (List Int32)) (fl : Int32) (σ4 : St), m + d2 = A.length → WkH ad ct σ σ4 k → MR ad σ4 41 L 2 true → MR ad σ4 k (L ++ N.map newA) 2 true → RdI A L N → (∀ c ∈ L.take n, ∀ s ∈ A, at1 c = at0 s → [at0 c, at1 s] ∈ L.map (fun e => e.1) ++ N) → (∀ s ∈ A.take m, at1 c = at0 s → [at0 c, at1 s] ∈ L.map (fun e => e.1) ++ N) → (fl = 0 ∧ N = [] ∨ fl = 1 ∧ N ≠ []) → lX16_rounds_39 Q E r7 (lX16_rounds_24 Q E r7 (d + 1)) (d2 + 1) (ad 17 0 0) (ad 15 k 0) (ad 15 s1 0) fl (nI n) (nI m) σ4 := by
        intro d2
        induction d2 with
        | zero =>
          intro m N fl σ4 hm F p41 q I cv cv2 hfl
          have hm : m = A.length := by omega
          have h4 := h.wx F
          have q14 := F.mr h (by omega) n1 q1
          rw [hm, List.take_length] at cv2
          refine ⟨k15 h4 (by omega), fun _ => ?_, fun z => absurd ?_ z⟩
          · rw [nI_1]
            refine ih (n + 1) N fl σ4 (by omega) F p41 q I (fun c2 hc2 => ?_) hfl
            rw [et] at hc2
            rcases List.mem_append.mp hc2 with z | z
            · exact cv c2 z
            · rw [List.mem_singleton.mp z]; exact cv2
          · rw [q14.1, hm]; exact nI_le (Nat.le_refl _) (by omega)
        | succ d2 ih2 =>
          intro m N fl σ4 hm F p41 q I cv cv2 hfl
          have h4 := h.wx F
          have q14 := F.mr h (by omega) n1 q1
          obtain ⟨s, hs⟩ : ∃ s, A[m]? = some s := ⟨_, List.getElem?_eq_getElem (by omega)⟩
          have sm := List.mem_of_getElem? hs
          have es : A.take (m + 1) = A.take m ++ [s] := by rw [List.take_add_one, hs]; rfl
          obtain ⟨x0, x1, xe⟩ := (p41.2.2.2.2 n c hc).r01
          obtain ⟨y0, y1, ye⟩ := (q14.2.2.2.2 m s hs).r01
          have cvs : ∀ (N2 : List (List Int32)), (∀ r ∈ L.map (fun e => e.1) ++ N, r ∈ L.map (fun e => e.1) ++ N2) → (at1 c = at0 s → [at0 c, at1 s] ∈ L.map (fun e => e.1) ++ N2) → ∀ s2 ∈ A.take (m + 1), at1 c = at0 s2 → [at0 c, at1 s2] ∈ L.map (fun e => e.1) ++ N2 := fun N2 sub hh s2 hs2 e2 => by
            rw [es] at hs2
            rcases List.mem_append.mp hs2 with z | z
            · exact sub _ (cv2 s2 z e2)
            · rw [List.mem_singleton.mp z] at e2 ⊢; exact hh e2
          refine ⟨k15 h4 (by omega), fun z => absurd z (by rw [q14.1]; exact nI_ge (by omega) (by omega)), fun _ => ⟨k17 h4, _, p1051 h4, k15 h4 (by decide), _, p898 h4 (by decide), k898 h4 (by decide), by rw [e6, nI_1, l898 h4 (by decide)]; exact vp_in_nI (by omega) (by decide), _, p898 h4 (by omega), k898 h4 (by omega), by rw [e6, l898 h4 (by omega)]; exact vp_in_nI (by omega) (by decide), ?_⟩⟩
          rw [e6, e6, nI_1 (6 * n), nI_1 (6 * m), show ix (nI (6 * m)) = 6 * m from nI_clamp (by omega), show ix (nI (6 * n + 1)) = 6 * n + 1 from nI_clamp (by omega), show ix (nI (6 * m + 1)) = 6 * m + 1 from nI_clamp (by omega), show ix (nI (6 * n)) = 6 * n from nI_clamp (by omega), show ix 0 = 0 from rfl, show ix 1 = 1 from rfl, x1, x0, y0, nI_1]
          refine ⟨fun z => ⟨_, p1055 h4, by rw [l898 h4 (by decide)]; exact vp_in_nI (by omega) (by decide), k1055 h4, by rw [l1055 h4]; exact vp_in_nI (n := 0) (by decide) (by decide), by rw [l898 h4 (by omega)]; exact vp_in_nI (by omega) (by decide), by rw [l1055 h4]; exact vp_in_nI (n := 1) (by decide) (by decide), k15 h4 (by omega), ?_⟩, fun z => ih2 (m + 1) N fl σ4 (by omega) F p41 q I cv (cvs N (fun r hr => hr) (fun e => absurd e z)) hfl⟩
          have n55 : ad 898 s1 0 ≠ ad 1055 0 0 := fun z => by
            have b := c898 h4 (show s1 < 42 by omega)
            rw [z, c1055 h4] at b
            cases b
          have w1 : zAi (uAi σ4 (ad 1055 0 0) 0 (at0 c)) (ad 898 s1 0) (6 * m + 1) = at1 s := by rw [yAi_uAi, yu2, if_neg (fun z => n55 z.1)]; exact y1
          rw [w1]
          have W5a : WkH ad ct σ4 (uAi σ4 (ad 1055 0 0) 0 (at0 c)) k := row55 h4
          have h5a := h4.wx W5a
          have F5 : WkH ad ct σ (uAi (uAi σ4 (ad 1055 0 0) 0 (at0 c)) (ad 1055 0 0) 1 (at1 s)) k := (F.tr W5a).tr (row55 h5a)
          have p5 := (p41.r55 h4 (by decide) 0 (at0 c)).r55 h5a (by decide) 1 (at1 s)
          have q5 := (q.r55 h4 (by omega) 0 (at0 c)).r55 h5a (by omega) 1 (at1 s)
          have g0 : zAi (uAi (uAi σ4 (ad 1055 0 0) 0 (at0 c)) (ad 1055 0 0) 1 (at1 s)) (ad 1055 0 0) 0 = at0 c := by rw [yAi_uAi, yu2, if_neg (fun z => absurd z.2 (by decide)), yAi_uAi, yu2, if_pos ⟨rfl, rfl⟩]
          have g1 : zAi (uAi (uAi σ4 (ad 1055 0 0) 0 (at0 c)) (ad 1055 0 0) 1 (at1 s)) (ad 1055 0 0) 1 = at1 s := by rw [yAi_uAi, yu2, if_pos ⟨rfl, rfl⟩]
          generalize uAi (uAi σ4 (ad 1055 0 0) 0 (at0 c)) (ad 1055 0 0) 1 (at1 s) = ρ at F5 p5 q5 g0 g1 ⊢
          have h5 := h.wx F5
          have hx : ∀ u v, [at0 c, at1 s][u]? = some v → zAi ρ (ad 1055 0 0) (0 + u) = v := fun u v hv => by
            rw [Nat.zero_add]
            cases u with
            | zero => have hv : some (at0 c) = some v := hv; cases hv; exact g0
            | succ u => cases u with
              | zero => have hv : some (at1 s) = some v := hv; cases hv; exact g1
              | succ u => cases hv
          have raw : ∃ x ∈ rndR A (L.map bare), x.1 = [at0 c, at1 s] := ⟨stpJ (bare c) s, rndR_mem.mpr (Or.inr ⟨bare c, List.mem_map.mpr ⟨c, cm, rfl⟩, s, sm, z, rfl⟩), rfl⟩
          refine S_find (at_ := 0) h5 (by omega) q5.rows (r := [at0 c, at1 s]) rfl (k1055 h5) (by rw [l1055 h5]; decide) (by rw [l1055 h5]; decide) hx (fun hno => ⟨fun _ => ⟨k17 h5, _, p1055 h5, ?_⟩, fun y => absurd rfl y⟩) (fun u hu eu _ => ⟨fun y => absurd y (nI_m1 (by rw [List.length_map] at hu; have := q5.2.2.2.1; omega)), fun _ => ?_⟩)
          · have nx : ad 1055 0 0 ≠ ad 898 k 0 := fun z => by
              have b := c1055 h5
              rw [z, c898 h5 (show k < 42 by omega)] at b
              cases b
            have nin : [at0 c, at1 s] ∉ L.map (fun e => e.1) ++ N := fun hin => by
              rw [← new_rows] at hin
              obtain ⟨u, hu, eu⟩ := List.mem_iff_getElem.mp hin
              exact hno u (by rw [List.getElem?_eq_getElem hu, eu])
            have I2 : RdI A L (N ++ [[at0 c, at1 s]]) := by
              refine ⟨?_, fun r hr => ?_⟩
              · rw [new_rows, ← List.append_assoc]
                have := I.1
                rw [new_rows] at this
                unfold List.Nodup
                rw [List.pairwise_append]
                refine ⟨this, List.pairwise_singleton _ _, fun a ha b hb e => ?_⟩
                rw [List.mem_singleton.mp hb] at e
                rw [e] at ha
                exact nin ha
              · rcases List.mem_append.mp hr with u | u
                · exact I.2 r u
                · rw [List.mem_singleton.mp u]; exact raw
            refine M_adds (a := 0) (r := [at0 c, at1 s]) h5 (by omega) q5 (k1055 h5) (by rw [l1055 h5]; decide) (by rw [l1055 h5]; decide) nx rfl hx (fun full => h0 ρ F5 (Or.inl ⟨L.map (fun e => e.1) ++ (N ++ [[at0 c, at1 s]]), by have := I2.1; rw [new_rows] at this; exact this, ?_, fun r hr => ?_⟩)) (fun σ6 hl6 F6 q6 => ?_)
            · rw [← List.append_assoc, List.length_append, ← new_rows, List.length_map, full, List.length_singleton]; decide
            · rcases List.mem_append.mp hr with u | u
              · obtain ⟨x, hx2, ex⟩ := List.mem_map.mp u
                exact ⟨bare x, rndR_mem.mpr (Or.inl (List.mem_map.mpr ⟨x, hx2, rfl⟩)), ex⟩
              · exact I2.2 r u
            · refine ih2 (m + 1) (N ++ [[at0 c, at1 s]]) 1 σ6 (by omega) (F5.tr (WkF.ss h5 F6).x) (p5.o41 h5 hk F6) ?_ I2 (fun c2 hc2 s2 hs2 e2 => ?_) (cvs _ (fun r hr => by rw [← List.append_assoc]; exact List.mem_append_left _ hr) (fun _ => by rw [← List.append_assoc]; exact List.mem_append_right _ List.mem_cons_self)) (Or.inr ⟨rfl, by simp⟩)
              · rw [List.map_append, ← List.append_assoc]; exact q6
              · rw [← List.append_assoc]; exact List.mem_append_left _ (cv c2 hc2 s2 hs2 e2)
          · refine ih2 (m + 1) N fl ρ (by omega) F5 p5 q5 I cv (cvs N (fun r hr => hr) (fun _ => ?_)) hfl
            rw [← new_rows]
            exact List.mem_of_getElem? eu
      refine ⟨k17 h3, _, p1051 h3, k15 h3 (by decide), fun z => absurd z (by rw [p41.1]; exact nI_ge (by omega) (by omega)), fun _ => ⟨A.length + 1, inn A.length 0 N fl σ3 (by omega) F p41 q I cv (fun s hs => absurd hs List.not_mem_nil) hfl⟩⟩
  exact ⟨_, out L.length 0 [] 0 σ (by omega) WkH.rf q41 (by rw [List.map_nil, List.append_nil]; exact qk) ⟨by rw [List.map_nil, List.append_nil]; exact nL, fun r hr => absurd hr List.not_mem_nil⟩ (fun c hc => absurd hc List.not_mem_nil) (Or.inl ⟨rfl, rfl⟩)⟩
end NL
