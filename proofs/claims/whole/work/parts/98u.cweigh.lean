/-! the class: CLOSE: the readings -/
section NF
variable {ad : Ad} {ct : Ct} {σ : St}
theorem Btr.nx {V : Type} {O : RdO V} {A P : List Ans} {e c : Ans} {v v2 : V} (b : Btr O A P e v) (l1 : O.le v2 v) (l2 : ∀ s, mt A c e s → O.le v2 (O.op (O.vl c) (O.vl s))) (o : v2 = v ∨ ∃ s, mt A c e s ∧ v2 = O.op (O.vl c) (O.vl s)) : Btr O A (P ++ [c]) e v2 := by
  refine ⟨O.tr l1 b.1, fun c2 hc2 s hm => ?_, ?_⟩
  · rcases List.mem_append.mp hc2 with z | z
    · exact O.tr l1 (b.2.1 c2 z s hm)
    · rw [List.mem_singleton.mp z] at hm ⊢
      exact l2 s hm
  · rcases o with z | ⟨s, hm, z⟩
    · rw [z]
      rcases b.2.2 with y | ⟨c2, hc2, s, hm, y⟩
      · exact Or.inl y
      · exact Or.inr ⟨c2, List.mem_append_left _ hc2, s, hm, y⟩
    · exact Or.inr ⟨c, List.mem_append_right _ List.mem_cons_self, s, hm, z⟩
theorem row_u {A : List Ans} (hd : (A.map (fun e => e.1)).Nodup) {s t : Ans} (hs : s ∈ A) (ht : t ∈ A) (e : s.1 = t.1) : s = t := by
  have a := filt_1 hd hs e
  have b := filt_1 hd ht rfl
  rw [a] at b
  exact (List.cons.inj b).1
theorem mn_pick (y v : Int32) : (if y < v then y else v) ≤ v ∧ (if y < v then y else v) ≤ y ∧ ((if y < v then y else v) = v ∨ (if y < v then y else v) = y) := by
  split
  · rename_i c; exact ⟨Int32.le_of_lt c, Int32.le_refl _, Or.inr rfl⟩
  · rename_i c; exact ⟨Int32.le_refl _, Int32.not_lt.mp c, Or.inl rfl⟩
theorem mx_pick (y v : Int64) : v ≤ (if y < v then v else y) ∧ y ≤ (if y < v then v else y) ∧ ((if y < v then v else y) = v ∨ (if y < v then v else y) = y) := by
  split
  · rename_i c; exact ⟨Int64.le_refl _, Int64.le_of_lt c, Or.inl rfl⟩
  · rename_i c; exact ⟨Int64.not_lt.mp c, Int64.le_refl _, Or.inr rfl⟩
theorem C_betterChain (h : Sh ad ct σ) {k s1 je : Nat} {cl1 : Bool} {A L : List Ans} {e : Ans} (hk : k < 40) (hs1 : s1 < 40) (q1 : AR ad σ s1 A 2 cl1) (qk : AR ad σ k L 2 true) (hd : (A.map (fun e => e.1)).Nodup) (hje : je < room k) (qe : AnsAt ad σ k je 2 true e) {Q : Int32 → St → Prop} (hQ : ∀ co tr y, Btr rdC A L e co → Btr rdT A L e tr → (y = 0 ∨ y = 1) → (y = 0 → co = e.2.2.2.1 ∧ tr = e.2.2.2.2) → Q y (uFj (uFi σ 132 (ad 3 k je) co) 133 (ad 3 k je) tr)) : wX4_betterChain (ad 5 0 0) (ad 4 s1 0) (ad 4 k 0) (ad 3 k je) σ Q := by
  have rm : ∀ s, s < 40 → room s = 32 := fun s hs => by unfold room; rw [if_neg (by omega)]
  have lL : L.length ≤ 32 := by have := qk.2.2.2.1; rw [rm k hk] at this; exact this
  obtain ⟨e0, e1, er⟩ := qe.r01
  have key : ∀ (d m : Nat) (co : Int32) (tr : Int64), m + d = L.length → Btr rdC A (L.take m) e co → Btr rdT A (L.take m) e tr → lX4_betterChain_15 Q (d + 1) (ad 4 s1 0) (ad 4 k 0) (ad 3 k je) co tr (nI m) σ := by
    intro d
    induction d with
    | zero =>
      intro m co tr hm bc bt
      have hm : m = L.length := by omega
      rw [hm, List.take_length] at bc bt
      refine ⟨k4 h (by omega), fun _ => ⟨k3 h (by omega) hje, ?_⟩, fun z => absurd ?_ z⟩
      · rw [qe.2.2.2.2.2.2.1, qe.2.2.2.2.2.2.2]
        refine ⟨fun _ => ⟨k3 h (by omega) hje, Or.inr rfl, hQ co tr 1 bc bt (Or.inr rfl) (fun z => absurd z (by decide))⟩, fun z => ⟨fun y => ⟨k3 h (by omega) hje, Or.inl rfl, hQ co tr 0 bc bt (Or.inl rfl) (fun _ => ⟨z, y⟩)⟩, fun _ => ⟨k3 h (by omega) hje, Or.inr rfl, hQ co tr 1 bc bt (Or.inr rfl) (fun z => absurd z (by decide))⟩⟩⟩
      · rw [qk.1, hm]; exact nI_le (Nat.le_refl _) (by omega)
    | succ d ih =>
      intro m co tr hm bc bt
      obtain ⟨c, hc⟩ : ∃ c, L[m]? = some c := ⟨_, List.getElem?_eq_getElem (by omega)⟩
      obtain ⟨j, b1, b2, b3⟩ := qk.2.2.2.2 m c hc
      obtain ⟨x0, x1, xe⟩ := b3.r01
      have et : L.take (m + 1) = L.take m ++ [c] := by rw [List.take_add_one, hc]; rfl
      have non : (∀ s, ¬ mt A c e s) → wX4_betterChain_70 Q (lX4_betterChain_15 Q (d + 1)) (ad 4 s1 0) (ad 4 k 0) (ad 3 k je) co tr (nI m) (ad 3 k j) none σ := fun no => by
        refine ⟨fun _ => ?_, fun a z => (by cases z)⟩
        rw [nI_1]
        refine ih (m + 1) co tr (by omega) ?_ ?_
        · rw [et]; exact bc.nx (rdC.rf _) (fun s hm => absurd hm (no s)) (Or.inl rfl)
        · rw [et]; exact bt.nx (rdT.rf _) (fun s hm => absurd hm (no s)) (Or.inl rfl)
      refine ⟨k4 h (by omega), fun z => absurd z (by rw [qk.1]; exact nI_ge (by omega) (by omega)), fun _ => ⟨_, p192 h (by omega), k192 h (by omega), by rw [l192 h (by omega), rm k hk]; exact vp_in_nI (by omega) (by decide), _, by rw [show ix (nI m) = m from nI_clamp (by omega)]; exact b2, k3 h (by omega) b1, _, p128 h (by omega) b1, k128 h (by omega) b1, by rw [l128 h (by omega) b1]; exact vp_in_nI (n := 0) (by decide) (by decide), k3 h (by omega) hje, _, p128 h (by omega) hje, k128 h (by omega) hje, by rw [l128 h (by omega) hje]; exact vp_in_nI (n := 0) (by decide) (by decide), ?_⟩⟩
      rw [show ix 0 = 0 from rfl, show ix 1 = 1 from rfl, x0, x1, e0, e1]
      refine ⟨fun z => non (fun s hm => z hm.2.2), fun z0 => ⟨by rw [l128 h (by omega) b1]; exact vp_in_nI (n := 1) (by decide) (by decide), by rw [l128 h (by omega) hje]; exact vp_in_nI (n := 1) (by decide) (by decide), ?_⟩⟩
      refine C_stepOf h hs1 q1 _ _ (fun no => non (fun s hm => no s hm.1 hm.2.1)) (fun ms s js hm es hjs qs => ⟨fun z => (by cases z), fun a z => ?_⟩)
      cases z
      have sm := List.mem_of_getElem? hm
      have hmt : mt A c e s := ⟨sm, es, z0⟩
      have un : ∀ s2, mt A c e s2 → s2 = s := fun s2 h2 => row_u hd h2.1 sm (h2.2.1.trans es.symm)
      refine ⟨k3 h (by omega) b1, k3 h (by omega) hjs, ?_⟩
      rw [b3.2.2.2.2.2.2.1, qs.2.2.2.2.2.2.1]
      refine ⟨k3 h (by omega) b1, k3 h (by omega) hjs, ?_⟩
      rw [b3.2.2.2.2.2.2.2, qs.2.2.2.2.2.2.2, nI_1]
      have pc := mn_pick (csB c.2.2.2.1 s.2.2.2.1) co
      have pt := mx_pick (mnT c.2.2.2.2 s.2.2.2.2) tr
      refine ih (m + 1) (if csB c.2.2.2.1 s.2.2.2.1 < co then csB c.2.2.2.1 s.2.2.2.1 else co) (if mnT c.2.2.2.2 s.2.2.2.2 < tr then tr else mnT c.2.2.2.2 s.2.2.2.2) (by omega) ?_ ?_
      · rw [et]
        exact bc.nx pc.1 (fun s2 h2 => by rw [un s2 h2]; exact pc.2.1) (pc.2.2.imp id (fun z => ⟨s, hmt, z⟩))
      · rw [et]
        exact bt.nx pt.1 (fun s2 h2 => by rw [un s2 h2]; exact pt.2.1) (pt.2.2.imp id (fun z => ⟨s, hmt, z⟩))
  refine ⟨k3 h (by omega) hje, L.length + 1, ?_⟩
  rw [qe.2.2.2.2.2.2.1, qe.2.2.2.2.2.2.2]
  exact key L.length 0 _ _ (by omega) ⟨rdC.rf _, fun c hc => absurd hc List.not_mem_nil, Or.inl rfl⟩ ⟨rdT.rf _, fun c hc => absurd hc List.not_mem_nil, Or.inl rfl⟩
theorem AR.upd (h : Sh ad ct σ) (hw : Crw ad σ) {s w i j : Nat} {cl : Bool} {L : List Ans} (hs : s < 43) (q : AR ad σ s L w cl) (hi : i < L.length) (hj : j < room s) (ej : zAr σ (ad 192 s 0) i = some (ad 3 s j)) {σ' : St} (F : Fr ct (fun p => p = (3, s)) σ σ') (sl : Slf ad σ σ' s j) {e2 : Ans} (qe : AnsAt ad σ' s j w cl e2) : AR ad σ' s (L.set i e2) w cl := by
  obtain ⟨q1, q2, q3, q4, q5⟩ := q
  have n4 : ¬ (fun p : Nat × Nat => p = (3, s)) (4, s) := fun z => by cases z
  have n192 : ¬ (fun p : Nat × Nat => p = (3, s)) (192, s) := fun z => by cases z
  have ea : ∀ m, zAr σ' (ad 192 s 0) m = zAr σ (ad 192 s 0) m := fun m => F.ar (k192 h hs) (by decide) (c192 h hs) n192 m
  refine ⟨by rw [List.length_set]; exact (F.fi (k4 h hs) (by decide) (c4 h hs) n4 _).trans q1, (F.fi (k4 h hs) (by decide) (c4 h hs) n4 _).trans q2, q3, by rw [List.length_set]; exact q4, fun m a ha => ?_⟩
  rw [List.getElem?_set] at ha
  by_cases c : i = m
  · subst c
    rw [if_pos rfl, if_pos hi] at ha
    cases ha
    exact ⟨j, hj, (ea _).trans ej, qe⟩
  · rw [if_neg c] at ha
    obtain ⟨j2, b1, b2, b3⟩ := q5 m a ha
    have hm := (List.getElem?_eq_some_iff.mp ha).1
    exact ⟨j2, b1, (ea _).trans b2, sl.ans b1 (hw.ne h hs (by omega) (by omega) (fun z => c z.symm) b1 b2 hj ej) b3⟩
theorem set_bare {L : List Ans} {i : Nat} {e e2 : Ans} (h : L[i]? = some e) (er : e2.1 = e.1) (ew : e2.2.1 = e.2.1) : (L.set i e2).map bare = L.map bare := by
  apply List.ext_getElem?
  intro j
  rw [List.getElem?_map, List.getElem?_map, List.getElem?_set]
  have hi := (List.getElem?_eq_some_iff.mp h).1
  by_cases c : i = j
  · subst c
    rw [if_pos rfl, if_pos hi, h]
    show some (bare e2) = some (bare e)
    unfold bare
    rw [er, ew]
  · rw [if_neg c]
theorem bare_rows (L : List Ans) : (L.map bare).map (fun e => e.1) = L.map (fun e => e.1) := by rw [List.map_map]; rfl
/-- what a chain starts from -/
def Ini {V : Type} (O : RdO V) (A : List Ans) (e : Ans) : Prop := (∃ s ∈ A, s.1 = e.1 ∧ O.vl e = O.vl s) ∨ ((∀ s ∈ A, s.1 ≠ e.1) ∧ O.vl e = O.top)
theorem Ini.wi {V : Type} {O : RdO V} {A L : List Ans} (hd : (A.map (fun e => e.1)).Nodup) (hR : RCl A L) (hA : okA O A) (h : ∀ e ∈ L, Ini O A e) : WI O A L 1 0 := by
  refine ⟨fun e he => ?_, fun j e he => ?_⟩
  · rcases h e he with ⟨s, hs, er, ev⟩ | ⟨_, ev⟩
    · have s0 : at0 s = at0 e := by unfold at0; rw [er]
      have s1 : at1 s = at1 e := by unfold at1; rw [er]
      refine Or.inr ⟨[at1 e], ?_⟩
      rw [ev, ← s1]
      exact Wk.one s hs s0
    · exact Or.inl ev
  · rw [if_neg (Nat.not_lt_zero _)]
    have em := List.mem_of_getElem? he
    intro T u w hT
    have key : ∀ x T y u, Wk O A x T y u → x = at0 e → y = at1 e → T.length ≤ 1 → O.le (O.vl e) u := by
      intro x T y u w
      refine Wk.ind (P := fun T y u => x = at0 e → y = at1 e → T.length ≤ 1 → O.le (O.vl e) u) ?_ ?_ w
      · intro s hs s0 hx hy _
        have er : s.1 = e.1 := by rw [row_of (hR.2.1 s hs), row_of (hR.1 e em), s0, hx, hy]
        rcases h e em with ⟨t, ht, et, ev⟩ | ⟨no, _⟩
        · rw [ev, row_u hd ht hs (et.trans er.symm)]; exact O.rf _
        · exact absurd er (no s hs)
      · intro T z v s w hs _ _ _ _ hT
        cases T with
        | nil => exact w.elim
        | cons a T => rw [List.length_cons, List.length_cons] at hT; omega
    exact key _ T _ u w rfl rfl hT
end NF
