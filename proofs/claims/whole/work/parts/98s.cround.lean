/-! the class: CLOSE: the ways of a round -/
section ND
variable {ad : Ad} {ct : Ct} {σ : St}
/-- what a chain c brings to the row r -/
def gc1 (A : List Ans) (r : List Int32) (c : Ans) : List Int64 := (if c.1 = r then c.2.1 else []) ++ (if at0 c = r.getD 0 0 then (A.filter (fun s => decide (s.1 = [at1 c, r.getD 1 0]))).flatMap (fun s => uni c.2.1 s.2.1) else [])
theorem filt_1 {A : List Ans} (hd : (A.map (fun e => e.1)).Nodup) {q : List Int32} : ∀ {s : Ans}, s ∈ A → s.1 = q → A.filter (fun s => decide (s.1 = q)) = [s] := by
  induction A with
  | nil => intro s hs; cases hs
  | cons a A ih =>
    intro s hs e
    rw [List.map_cons, List.nodup_cons] at hd
    rcases List.mem_cons.mp hs with z | z
    · subst z
      rw [List.filter_cons_of_pos (p := fun s : Ans => decide (s.1 = q)) (decide_eq_true e)]
      congr 1
      rw [List.filter_eq_nil_iff]
      intro b hb z
      have z : b.1 = q := of_decide_eq_true z
      exact hd.1 (List.mem_map.mpr ⟨b, hb, z.trans e.symm⟩)
    · rw [List.filter_cons_of_neg (p := fun s : Ans => decide (s.1 = q)) (fun y => hd.1 (List.mem_map.mpr ⟨s, z, e.trans (of_decide_eq_true y).symm⟩))]
      exact ih hd.2 z e
theorem filt_0 {A : List Ans} {q : List Int32} (h : ∀ s ∈ A, s.1 ≠ q) : A.filter (fun s => decide (s.1 = q)) = [] := by
  rw [List.filter_eq_nil_iff]
  exact fun b hb z => h b hb (of_decide_eq_true z)
theorem gc_mem {A L : List Ans} (g2 : ∀ s ∈ A, s.1.length = 2) {r : List Int32} (hr : r.length = 2) {w : Int64} : w ∈ L.flatMap (gc1 A r) ↔ w ∈ gath (rndR A (L.map bare)) r := by
  rw [List.mem_flatMap, gath_mem]
  have r2 := row2 hr
  constructor
  · rintro ⟨c, hc, h⟩
    have bc : bare c ∈ L.map bare := List.mem_map.mpr ⟨c, hc, rfl⟩
    unfold gc1 at h
    rcases List.mem_append.mp h with z | z
    · by_cases e : c.1 = r
      · rw [if_pos e] at z
        exact ⟨bare c, rndR_mem.mpr (Or.inl bc), e, z⟩
      · rw [if_neg e] at z; cases z
    · by_cases e : at0 c = r.getD 0 0
      · rw [if_pos e] at z
        obtain ⟨s, hs, z⟩ := List.mem_flatMap.mp z
        rw [List.mem_filter] at hs
        obtain ⟨s0, s1⟩ := at0_of (of_decide_eq_true hs.2)
        refine ⟨stpJ (bare c) s, rndR_mem.mpr (Or.inr ⟨bare c, bc, s, hs.1, s0.symm, rfl⟩), ?_, z⟩
        show [at0 c, at1 s] = r
        rw [s1, e]; exact r2.symm
      · rw [if_neg e] at z; cases z
  · rintro ⟨x, hx, er, hw⟩
    rcases rndR_mem.mp hx with z | ⟨b, hb, s, hs, es, rfl⟩
    · obtain ⟨c, hc, rfl⟩ := List.mem_map.mp z
      refine ⟨c, hc, List.mem_append.mpr (Or.inl ?_)⟩
      have er : c.1 = r := er
      rw [if_pos er]; exact hw
    · obtain ⟨c, hc, rfl⟩ := List.mem_map.mp hb
      have er : [at0 c, at1 s] = r := er
      refine ⟨c, hc, List.mem_append.mpr (Or.inr ?_)⟩
      have e0 : at0 c = r.getD 0 0 := by rw [← er]; rfl
      have e1 : at1 s = r.getD 1 0 := by rw [← er]; rfl
      rw [if_pos e0]
      have es : at1 c = at0 s := es
      refine List.mem_flatMap.mpr ⟨s, List.mem_filter.mpr ⟨hs, decide_eq_true ?_⟩, hw⟩
      rw [row_of (g2 s hs), es, e1]
theorem gc_len1 {A : List Ans} (hd : (A.map (fun e => e.1)).Nodup) (w16 : ∀ s ∈ A, s.2.1.length ≤ 16) {r : List Int32} {c : Ans} (c16 : c.2.1.length ≤ 16) : (gc1 A r c).length ≤ 256 + (if c.1 = r then 16 else 0) := by
  unfold gc1
  rw [List.length_append]
  have h2 : (if at0 c = r.getD 0 0 then (A.filter (fun s => decide (s.1 = [at1 c, r.getD 1 0]))).flatMap (fun s => uni c.2.1 s.2.1) else []).length ≤ 256 := by
    split
    · by_cases z : ∃ s ∈ A, s.1 = [at1 c, r.getD 1 0]
      · obtain ⟨s, hs, e⟩ := z
        rw [filt_1 hd hs e, List.flatMap_singleton, uni_len]
        have := w16 s hs
        exact Nat.mul_le_mul c16 this
      · rw [filt_0 (fun s hs e => z ⟨s, hs, e⟩)]; exact Nat.zero_le _
    · exact Nat.zero_le _
  split
  · omega
  · rw [List.length_nil]; omega
theorem gc_len {A L : List Ans} (hd : (A.map (fun e => e.1)).Nodup) (w16 : ∀ s ∈ A, s.2.1.length ≤ 16) (hL : (L.map (fun e => e.1)).Nodup) (L16 : ∀ s ∈ L, s.2.1.length ≤ 16) {r : List Int32} : (L.flatMap (gc1 A r)).length ≤ 256 * L.length + 16 ∧ ((∀ c ∈ L, c.1 ≠ r) → (L.flatMap (gc1 A r)).length ≤ 256 * L.length) := by
  induction L with
  | nil => exact ⟨Nat.zero_le _, fun _ => Nat.zero_le _⟩
  | cons c L ih =>
    rw [List.map_cons, List.nodup_cons] at hL
    obtain ⟨i1, i2⟩ := ih hL.2 (fun s hs => L16 s (List.mem_cons_of_mem _ hs))
    have l1 := gc_len1 hd w16 (r := r) (L16 c List.mem_cons_self)
    rw [List.flatMap_cons, List.length_append, List.length_cons]
    constructor
    · by_cases e : c.1 = r
      · rw [if_pos e] at l1
        have := i2 (fun x hx z => hL.1 (List.mem_map.mpr ⟨x, hx, z.trans e.symm⟩))
        omega
      · rw [if_neg e] at l1; omega
    · intro h
      rw [if_neg (h c List.mem_cons_self)] at l1
      have := i2 (fun x hx => h x (List.mem_cons_of_mem _ hx))
      omega
theorem C_gatherChains (h : Sh ad ct σ) {k s1 jr : Nat} {cl1 cl : Bool} {A L : List Ans} (hk : k < 40) (hs1 : s1 < 40) (q1 : AR ad σ s1 A 2 cl1) (qk : AR ad σ k L 2 cl) (hd : (A.map (fun e => e.1)).Nodup) (hL : (L.map (fun e => e.1)).Nodup) {r0 r1 : Int32} (hjr : jr < room 41) (e0 : zAi σ (ad 128 41 jr) 0 = r0) (e1 : zAi σ (ad 128 41 jr) 1 = r1) {Q : St → Prop} (hQ : ∀ σ', GaI ad ct σ σ' (addA [] (L.flatMap (gc1 A [r0, r1]))) 0 1000000000 0 → Q σ') : wX4_gatherChains (ad 5 0 0) (ad 4 s1 0) (ad 4 k 0) (ad 128 41 jr) σ Q := by
  have rm : ∀ s, s < 40 → room s = 32 := fun s hs => by unfold room; rw [if_neg (by omega)]
  have lA : A.length ≤ 32 := by have := q1.2.2.2.1; rw [rm s1 hs1] at this; exact this
  have lL : L.length ≤ 32 := by have := qk.2.2.2.1; rw [rm k hk] at this; exact this
  have wof : ∀ {s : Nat} {cl : Bool} {L : List Ans}, AR ad σ s L 2 cl → ∀ e ∈ L, e.2.1.length ≤ 16 := fun {s cl L} q e he => by
    obtain ⟨i, hi, rfl⟩ := List.mem_iff_getElem.mp he
    obtain ⟨j, _, _, q⟩ := q.2.2.2.2 i _ (List.getElem?_eq_getElem hi)
    exact q.2.2.1
  have A16 := wof q1
  have L16 := wof qk
  have bnd : ∀ i, ((L.take i).flatMap (gc1 A [r0, r1])).length ≤ 256 * (L.take i).length + 16 := fun i => (gc_len hd A16 (by rw [List.map_take]; exact hL.sublist (List.take_sublist _ _)) (fun s hs => L16 s (List.mem_of_mem_take hs))).1
  refine ⟨k5 h, _, p259 h, k8 h, C_gclear h (fun σ2 J2 => ⟨L.length + 1, ?_⟩)⟩
  have out : ∀ (d i : Nat) (σ3 : St), i + d = L.length → GaI ad ct σ σ3 (addA [] ((L.take i).flatMap (gc1 A [r0, r1]))) 0 1000000000 0 → lX4_gatherChains_10 Q (d + 1) (ad 5 0 0) (ad 4 s1 0) (ad 4 k 0) (ad 128 41 jr) (nI i) σ3 := by
    intro d
    induction d with
    | zero =>
      intro i σ3 hi J
      have hi : i = L.length := by omega
      have h3 := h.frC (J.1.mono SG_SC)
      have qk3 := qk.cg h J.1 (by omega) (by simp) (by simp) (by simp) (by simp) (by simp)
      rw [hi, List.take_length] at J
      refine ⟨k4 h3 (by omega), fun _ => hQ σ3 J, fun z => absurd ?_ z⟩
      rw [qk3.1, hi]; exact nI_le (Nat.le_refl _) (by omega)
    | succ d ih =>
      intro i σ3 hi J
      have h3 := h.frC (J.1.mono SG_SC)
      have qk3 := qk.cg h J.1 (by omega) (by simp) (by simp) (by simp) (by simp) (by simp)
      obtain ⟨c, hc⟩ : ∃ c, L[i]? = some c := ⟨_, List.getElem?_eq_getElem (by omega)⟩
      have cm := List.mem_of_getElem? hc
      obtain ⟨j, b1, b2, b3⟩ := qk3.2.2.2.2 i c hc
      obtain ⟨x0, x1, xe⟩ := b3.r01
      obtain ⟨jo, o1, o2, o3⟩ := qk.2.2.2.2 i c hc
      have jj : jo = j := by
        have x2 := (J.1.ar (k192 h (by omega)) (by decide) (c192 h (by omega)) (by simp) i).symm.trans b2
        exact j3 h (by omega) o1 b1 (Option.some.inj (o2.symm.trans x2))
      subst jj
      have et : L.take (i + 1) = L.take i ++ [c] := by rw [List.take_add_one, hc]; rfl
      have fr0 : zAi σ3 (ad 128 41 jr) 0 = r0 := (J.1.ai (k128 h (by decide) hjr) (by decide) (c128 h (by decide) hjr) (by simp) 0).trans e0
      have fr1 : zAi σ3 (ad 128 41 jr) 1 = r1 := (J.1.ai (k128 h (by decide) hjr) (by decide) (c128 h (by decide) hjr) (by simp) 1).trans e1
      have bi := bnd i
      rw [List.length_take] at bi
      have lni := addA_len ((L.take i).flatMap (gc1 A [r0, r1])) []
      rw [List.length_nil] at lni
      have c16 := L16 c cm
      have ge : ∀ g, gc1 A [r0, r1] c = g → GaI ad ct σ σ3 (addA [] ((L.take i).flatMap (gc1 A [r0, r1]))) 0 1000000000 0 → ∀ σ4, GaI ad ct σ σ4 (addA (addA [] ((L.take i).flatMap (gc1 A [r0, r1]))) g) 0 1000000000 0 → lX4_gatherChains_10 Q (d + 1) (ad 5 0 0) (ad 4 s1 0) (ad 4 k 0) (ad 128 41 jr) (nI i + 1) σ4 := fun g eg _ σ4 J4 => by
        rw [nI_1]
        refine ih (i + 1) σ4 (by omega) ?_
        rw [et, List.flatMap_append, List.flatMap_singleton, eg, addA_app]
        exact J4
      refine ⟨k4 h3 (by omega), fun z => absurd z (by rw [qk3.1]; exact nI_ge (by omega) (by omega)), fun _ => ⟨_, p192 h3 (by omega), k192 h3 (by omega), by rw [l192 h3 (by omega), rm k hk]; exact vp_in_nI (by omega) (by decide), _, by rw [show ix (nI i) = i from nI_clamp (by omega)]; exact b2, k3 h3 (by omega) b1, _, p128 h3 (by omega) b1, k128 h3 (by omega) b1, by rw [l128 h3 (by omega) b1]; exact vp_in_nI (n := 0) (by decide) (by decide), k128 h3 (by decide) hjr, by rw [l128 h3 (by decide) hjr]; exact vp_in_nI (n := 0) (by decide) (by decide), ?_⟩⟩
      rw [show ix 0 = 0 from rfl, show ix 1 = 1 from rfl, x0, x1, fr0, fr1]
      have tail : at0 c = r0 → ∀ (σ4 : St) (W : List Int64), W = (if c.1 = [r0, r1] then c.2.1 else []) → GaI ad ct σ σ4 (addA (addA [] ((L.take i).flatMap (gc1 A [r0, r1]))) W) 0 1000000000 0 → wX4_gatherChains_66 Q (lX4_gatherChains_10 Q (d + 1)) (ad 5 0 0) (ad 4 s1 0) (ad 4 k 0) (ad 128 41 jr) (nI i) (ad 3 k jo) σ4 := by
        intro ec σ4 W eW J4
        have h4 := h.frC (J4.1.mono SG_SC)
        have q14 := q1.cg h J4.1 (by omega) (by simp) (by simp) (by simp) (by simp) (by simp)
        obtain ⟨y0, y1, ye⟩ := (o3.g h (by omega) o1 J4.1).r01
        have gr1 : zAi σ4 (ad 128 41 jr) 1 = r1 := (J4.1.ai (k128 h (by decide) hjr) (by decide) (c128 h (by decide) hjr) (by simp) 1).trans e1
        have gcE : gc1 A [r0, r1] c = W ++ (A.filter (fun s => decide (s.1 = [at1 c, r1]))).flatMap (fun s => uni c.2.1 s.2.1) := by
          unfold gc1
          rw [eW]
          show _ ++ (if at0 c = r0 then _ else _) = _
          rw [if_pos ec]
          rfl
        refine ⟨k3 h4 (by omega) b1, _, p128 h4 (by omega) b1, k128 h4 (by omega) b1, by rw [l128 h4 (by omega) b1]; exact vp_in_nI (n := 1) (by decide) (by decide), k128 h4 (by decide) hjr, by rw [l128 h4 (by decide) hjr]; exact vp_in_nI (n := 1) (by decide) (by decide), ?_⟩
        rw [show ix 1 = 1 from rfl, y1, gr1]
        refine C_stepOf h4 hs1 q14 _ _ (fun no => ⟨fun _ => ?_, fun a z => (by cases z)⟩) (fun m s js hm es hjs qs => ⟨fun z => (by cases z), fun a z => ?_⟩)
        · refine ge W ?_ J σ4 J4
          rw [gcE, filt_0 no]
          simp
        · cases z
          obtain ⟨jso, p1, p2, p3⟩ := q1.2.2.2.2 m s hm
          obtain ⟨jso2, pp1, pp2, pp3⟩ := q14.2.2.2.2 m s hm
          have sm := List.mem_of_getElem? hm
          refine ⟨k5 h4, _, p259 h4, k8 h4, ?_⟩
          have gcE2 : gc1 A [r0, r1] c = W ++ uni c.2.1 s.2.1 := by rw [gcE, filt_1 hd sm es, List.flatMap_singleton]
          have bW : W.length + (gc1 A [r0, r1] c).length ≤ W.length + (gc1 A [r0, r1] c).length := Nat.le_refl _
          have bi1 := bnd (i + 1)
          rw [et, List.flatMap_append, List.flatMap_singleton, List.length_append, List.length_append, gcE2, List.length_append, uni_len, List.length_take, List.length_singleton] at bi1
          have lnW := addA_len W (addA [] ((L.take i).flatMap (gc1 A [r0, r1])))
          have dn : ∀ σ5, GaI ad ct σ σ5 (addA (addA (addA [] ((L.take i).flatMap (gc1 A [r0, r1]))) W) (uni c.2.1 s.2.1)) 0 1000000000 0 → lX4_gatherChains_10 Q (d + 1) (ad 5 0 0) (ad 4 s1 0) (ad 4 k 0) (ad 128 41 jr) (nI i + 1) σ5 := fun σ5 J5 => ge (W ++ uni c.2.1 s.2.1) gcE2 J σ5 (by rw [addA_app]; exact J5)
          have fr4 : Fr ct SG σ4 σ4 := Fr.rf
          have J44 : GaI ad ct σ4 σ4 (addA (addA [] ((L.take i).flatMap (gc1 A [r0, r1]))) W) 0 1000000000 0 := ⟨fr4, J4.2⟩
          exact C_addUnions h4 (by omega) o1 (o3.g h (by omega) o1 J4.1) (by omega) hjs qs (addA_anti _ (addA_anti _ List.Pairwise.nil)) (by omega) J44 (fun σ5 J5 => dn σ5 ⟨J4.1.tr1 J5.1, J5.2⟩)
      refine ⟨fun ec => ⟨by rw [l128 h3 (by omega) b1]; exact vp_in_nI (n := 1) (by decide) (by decide), by rw [l128 h3 (by decide) hjr]; exact vp_in_nI (n := 1) (by decide) (by decide), fun nc => ?_, fun ec1 => ⟨k5 h3, _, p259 h3, k8 h3, ?_⟩⟩, fun nc => ?_⟩
      · refine tail ec σ3 [] ?_ J
        rw [if_neg (fun z => nc (by rw [xe] at z; exact (List.cons.inj (List.cons.inj z).2).1))]
      · have cr : c.1 = [r0, r1] := by rw [xe, ec, ec1]
        refine C_addWays h (by omega) o1 o3 (addA_anti _ List.Pairwise.nil) (by omega) J (fun σ4 J4 => tail ec σ4 c.2.1 (by rw [if_pos cr]) J4)
      · refine ge [] ?_ J σ3 J
        unfold gc1
        rw [if_neg (fun z => nc (by rw [xe] at z; exact (List.cons.inj z).1)), if_neg (show ¬ at0 c = [r0, r1].getD 0 0 from nc)]
        rfl
  exact out L.length 0 σ2 (by omega) J2
end ND
