/-! the class: a row is put into its place -/
section MG
variable {ad : Ad} {ct : Ct} {σ : St}
def kap (p n i : Nat) : Nat := if i < p then i else if i = p then n else if i ≤ n then i - 1 else i
theorem kap_ne {p n i j : Nat} (hp : p ≤ n) (h : i < j) : kap p n i ≠ kap p n j := by
  unfold kap
  repeat' split
  all_goals omega
theorem kap_lt {p n i m : Nat} (hp : p ≤ n) (hn : n < m) (h : i < m) : kap p n i < m := by
  unfold kap
  split
  · omega
  · split
    · omega
    · split <;> omega
/-- the slots turned: the one at n comes to p -/
def TurI (ad : Ad) (ct : Ct) (σ σ' : St) (s p n : Nat) : Prop := ∀ i, zAr σ' (ad 192 s 0) i = zAr σ (ad 192 s 0) (kap p n i)
theorem Crw.turn (h : Sh ad ct σ) (hw : Crw ad σ) {s p n : Nat} (hp : p ≤ n) (hn : n < room s) {σ' : St} (f : Fr ct (SNr s) σ σ') (t : TurI ad ct σ σ' s p n) : Crw ad σ' := by
  intro s' hs'
  obtain ⟨π, p1, p2⟩ := hw s' hs'
  by_cases c : s' = s
  · subst c
    refine ⟨fun i => π (kap p n i), fun i hi => ⟨(p1 _ (kap_lt hp hn hi)).1, (t i).trans (p1 _ (kap_lt hp hn hi)).2⟩, fun i j hij hj => ?_⟩
    have ne := kap_ne (n := n) hp hij
    rcases Nat.lt_or_gt_of_ne ne with z | z
    · exact p2 _ _ z (kap_lt hp hn hj)
    · exact (p2 _ _ z (kap_lt hp hn (by omega))).symm
  · exact ⟨π, fun j hj => ⟨(p1 j hj).1, (f.ar (k192 h hs') (by decide) (c192 h hs') (by simp; exact c) j).trans (p1 j hj).2⟩, p2⟩
theorem insR_pw {rs : List (List Int32)} {r : List Int32} {p w : Nat} (hr : ∀ u ∈ rs, u.length = w) (lr : r.length = w) (hs : rs.Pairwise rlt) (hp : p ≤ rs.length) (h1 : ∀ m u, m < p → rs[m]? = some u → rlt u r) (h2 : ∀ m u, p ≤ m → rs[m]? = some u → ¬ rlt u r) (h3 : ∀ m : Nat, rs[m]? ≠ some r) : (rs.take p ++ r :: rs.drop p).Pairwise rlt := by
  rw [List.pairwise_append, List.pairwise_cons]
  have dr : ∀ b ∈ rs.drop p, rlt r b := fun b hb => by
    obtain ⟨i, hi, rfl⟩ := List.mem_iff_getElem.mp hb
    rw [List.length_drop] at hi
    rw [List.getElem_drop]
    have e := List.getElem?_eq_getElem (show p + i < rs.length by omega)
    have ne := h2 _ _ (Nat.le_add_right p i) e
    rcases rlt_tri ((hr _ (List.mem_of_getElem? e)).trans lr.symm) with q | q | q
    · exact absurd q ne
    · rw [q] at e; exact absurd e (h3 _)
    · exact q
  have tk : ∀ a ∈ rs.take p, rlt a r := fun a ha => by
    obtain ⟨i, hi, rfl⟩ := List.mem_iff_getElem.mp ha
    rw [List.length_take] at hi
    rw [List.getElem_take]
    exact h1 i _ (by omega) (List.getElem?_eq_getElem (by omega))
  refine ⟨hs.sublist (List.take_sublist p rs), ⟨dr, hs.sublist (List.drop_sublist p rs)⟩, fun a ha b hb => ?_⟩
  rcases List.mem_cons.mp hb with z | z
  · rw [z]; exact tk a ha
  · exact rlt_tr (tk a ha) (dr b z)
theorem C_insert (h : Sh ad ct σ) (hw : Crw ad σ) {s w x : Nat} {rs : List (List Int32)} {r : List Int32} (hs : s < 43) (q : ARr ad σ s rs w) (hp : rs.Pairwise rlt) (lr : r.length = w) (hx : rowIs σ x r) {Q : Int32 → St → Prop}
    (h0 : rs.length = room s → (∀ i : Nat, rs[i]? ≠ some r) → Q 0 σ) (h1 : ∀ i : Nat, rs[i]? = some r → Q 1 σ)
    (h2 : ∀ p σ', p ≤ rs.length → (∀ i : Nat, rs[i]? ≠ some r) → rs.length < room s → Fr ct (SNr s) σ σ' → Crw ad σ' → ARr ad σ' s (rs.take p ++ r :: rs.drop p) w → (rs.take p ++ r :: rs.drop p).Pairwise rlt → Q 1 σ') : wX3_insert (ad 4 s 0) x σ Q := by
  have q' := q
  obtain ⟨q1, q2, q3, q4, q5⟩ := q
  have hr := room_le s
  have hlen : ∀ u ∈ rs, u.length = w := fun u hu => by
    obtain ⟨i, hi, rfl⟩ := List.mem_iff_getElem.mp hu
    obtain ⟨j, _, _, e, _⟩ := q5 i _ (List.getElem?_eq_getElem hi)
    exact e
  refine ⟨k4 h hs, A_notB h hs q' hp lr hx (fun p hpl g1 g2 => ⟨k4 h hs, ?_⟩)⟩
  rw [q1]
  have no : ∀ m, rs[m]? = some r → m = p ∧ p < rs.length := fun m hm => by
    have hml := (List.getElem?_eq_some_iff.mp hm).1
    have n1 : ¬ m < p := fun z => rlt_ir r (g1 m r z hm)
    refine ⟨?_, by omega⟩
    by_cases e : m = p
    · exact e
    · have hil : p < rs.length := by omega
      have em := (List.getElem?_eq_some_iff.mp hm).2
      have z := List.pairwise_iff_getElem.mp hp p m hil hml (by omega)
      rw [em] at z
      exact absurd z (g2 p _ (Nat.le_refl _) (List.getElem?_eq_getElem hil))
  have ins : (∀ m : Nat, rs[m]? ≠ some r) → wX3_insert_33 Q (ad 4 s 0) x (nI p) σ := fun hno => by
    refine ⟨k4 h hs, C_grow h hw hs q1 q4 (fun z => ⟨fun _ => h0 z hno, fun a y => (by cases y)⟩) (fun j hl hj ej => ⟨fun y => (by cases y), fun a y => ?_⟩)⟩
    cases y
    have f1 : Fr ct (SNr s) σ (uFi σ 193 (ad 4 s 0) (nI (rs.length + 1))) := Fr.rf.uFi _ _ _ (Or.inl (by rw [c4 h hs]; exact Or.inl rfl))
    have h1' := h.frC (f1.mono (SNr_SC s))
    refine ⟨k4 h1' hs, rs.length - p + 1, ?_⟩
    have key : ∀ (d m : Nat) (σ3 : St), m = p + d → m ≤ rs.length → Fr ct (SNr s) σ σ3 → zFi σ3 193 (ad 4 s 0) = nI (rs.length + 1) → zFi σ3 194 (ad 4 s 0) = nI w → (∀ y i, zAi σ3 y i = zAi σ y i) → (∀ i, zAr σ3 (ad 192 s 0) i = if m < i ∧ i ≤ rs.length then zAr σ (ad 192 s 0) (i - 1) else zAr σ (ad 192 s 0) i) → lX3_insert_52 Q (d + 1) (ad 4 s 0) x (nI p) (ad 3 s j) (nI m) σ3 := by
      intro d
      induction d with
      | zero =>
        intro m σ3 hm hml f e3 e4 e5 e6
        have hm : m = p := by omega
        subst hm
        have h3 := h.frC (f.mono (SNr_SC s))
        have f4 : Fr ct (SNr s) σ (uAr σ3 (ad 192 s 0) m (some (ad 3 s j))) := f.uAr _ _ _ (Or.inl (by rw [c192 h3 hs]; exact Or.inr (Or.inr (Or.inr (Or.inr rfl)))))
        have h4 := h.frC (f4.mono (SNr_SC s))
        refine ⟨fun _ => ⟨k4 h3 hs, _, p192 h3 hs, k192 h3 hs, by rw [l192 h3 hs]; exact vp_in_nI (by omega) (by omega), k3 h3 hs hj, ?_⟩, fun z => absurd (Int32.le_refl _) z⟩
        rw [show ix (nI m) = m from nI_clamp (by omega)]
        have kx : zK (uAr σ3 (ad 192 s 0) m (some (ad 3 s j))) x = 20 := f4.kk hx.1 (by decide)
        have lx : zL (uAr σ3 (ad 192 s 0) m (some (ad 3 s j))) x = 6 := (f4.ll hx.1 (by decide)).trans hx.2.1
        refine ⟨k3 h4 hs hj, _, p128 h4 hs hj, kx, k128 h4 hs hj, by decide, by decide, by decide, by rw [lx]; decide, by rw [l128 h4 hs hj]; decide, ?_⟩
        have tur : TurI ad ct σ (uCi (uAr σ3 (ad 192 s 0) m (some (ad 3 s j))) x (ix 0) (ad 128 s j) (ix 0) (ix 6)) s m rs.length := fun i => by
          rw [yAr_uCi, yAr_uAr, yu2, e6]
          unfold kap
          by_cases c1 : i < m
          · rw [if_neg (fun z => by have := z.2; omega), if_neg (by omega), if_pos c1]
          · rw [if_neg c1]
            by_cases c2 : i = m
            · rw [if_pos ⟨rfl, c2⟩, if_pos c2, ej]
            · rw [if_neg (fun z => c2 z.2), if_neg c2]
              by_cases c3 : i ≤ rs.length
              · rw [if_pos ⟨by omega, c3⟩, if_pos c3]
              · rw [if_neg (fun z => c3 z.2), if_neg c3]
        have f5 : Fr ct (SNr s) σ (uCi (uAr σ3 (ad 192 s 0) m (some (ad 3 s j))) x (ix 0) (ad 128 s j) (ix 0) (ix 6)) := f4.uCi _ _ _ _ _ (Or.inl (by rw [c128 h4 hs hj]; exact Or.inr (Or.inr (Or.inl rfl))))
        have rw_ : ∀ k v, r[k]? = some v → zAi (uCi (uAr σ3 (ad 192 s 0) m (some (ad 3 s j))) x (ix 0) (ad 128 s j) (ix 0) (ix 6)) (ad 128 s j) k = v := fun k v hv => by
          have hk := (List.getElem?_eq_some_iff.mp hv).1
          rw [yAi_uCi', if_pos rfl, yAi_uAr]
          show (if ix 0 ≤ k ∧ k < ix 0 + ix 6 then zAi σ3 x (ix 0 + (k - ix 0)) else _) = v
          rw [show ix 0 = 0 from rfl, show ix 6 = 6 from rfl, if_pos ⟨Nat.zero_le _, by omega⟩, Nat.zero_add, Nat.sub_zero, e5]
          exact hx.2.2 k v hv
        have oth_ : ∀ j', j' < room s → j' ≠ j → ∀ k, zAi (uCi (uAr σ3 (ad 192 s 0) m (some (ad 3 s j))) x (ix 0) (ad 128 s j) (ix 0) (ix 6)) (ad 128 s j') k = zAi σ (ad 128 s j') k := fun j' h1 h2 k => by
          rw [yAi_uCi', if_neg (fun z => h2 (j128 h hs h1 hj z)), yAi_uAr, e5]
        have a193 : zFi (uCi (uAr σ3 (ad 192 s 0) m (some (ad 3 s j))) x (ix 0) (ad 128 s j) (ix 0) (ix 6)) 193 (ad 4 s 0) = nI (rs.length + 1) := by rw [yFi_uCi, yFi_uAr]; exact e3
        have a194 : zFi (uCi (uAr σ3 (ad 192 s 0) m (some (ad 3 s j))) x (ix 0) (ad 128 s j) (ix 0) (ix 6)) 194 (ad 4 s 0) = nI w := by rw [yFi_uCi, yFi_uAr]; exact e4
        generalize uCi (uAr σ3 (ad 192 s 0) m (some (ad 3 s j))) x (ix 0) (ad 128 s j) (ix 0) (ix 6) = τ at tur f5 rw_ oth_ a193 a194 ⊢
        have hlen2 : (rs.take m ++ r :: rs.drop m).length = rs.length + 1 := by rw [List.length_append, List.length_cons, List.length_take, List.length_drop]; omega
        refine h2 m τ hml hno hl f5 (hw.turn h hml hl f5 tur) ⟨by rw [hlen2]; exact a193, a194, q3, by rw [hlen2]; omega, fun i u hi => ?_⟩ (insR_pw hlen lr hp hml g1 g2 hno)
        have old : ∀ k, k < rs.length → rs[k]? = some u → zAr τ (ad 192 s 0) i = zAr σ (ad 192 s 0) k → ∃ j', j' < room s ∧ zAr τ (ad 192 s 0) i = some (ad 3 s j') ∧ u.length = w ∧ ∀ k v, u[k]? = some v → zAi τ (ad 128 s j') k = v := fun k hk hu et => by
          obtain ⟨j', b1, b2, b3, b4⟩ := q5 k u hu
          exact ⟨j', b1, et.trans b2, b3, fun k2 v hv => (oth_ j' b1 (hw.ne h hs (by omega) hl (by omega) b1 b2 hj ej) k2).trans (b4 k2 v hv)⟩
        have ti := tur i
        unfold kap at ti
        by_cases c1 : i < m
        · rw [if_pos c1] at ti
          rw [List.getElem?_append_left (by rw [List.length_take]; omega), List.getElem?_take, if_pos c1] at hi
          exact old i (by omega) hi ti
        · rw [if_neg c1] at ti
          rw [List.getElem?_append_right (by rw [List.length_take]; omega), List.length_take, Nat.min_eq_left hml] at hi
          by_cases c2 : i = m
          · rw [if_pos c2] at ti
            rw [c2, Nat.sub_self] at hi
            have hi : some r = some u := hi
            cases hi
            exact ⟨j, hj, ti.trans ej, lr, rw_⟩
          · rw [if_neg c2] at ti
            obtain ⟨k, rfl⟩ : ∃ k, i = k + 1 := ⟨i - 1, by omega⟩
            rw [show k + 1 - m = (k - m) + 1 by omega, List.getElem?_cons_succ, List.getElem?_drop, show m + (k - m) = k by omega] at hi
            have hk := (List.getElem?_eq_some_iff.mp hi).1
            rw [if_pos (by omega), Nat.add_sub_cancel] at ti
            exact old k hk hi ti
      | succ d ih =>
        intro m σ3 hm hml f e3 e4 e5 e6
        have h3 := h.frC (f.mono (SNr_SC s))
        obtain ⟨k, rfl⟩ : ∃ k, m = k + 1 := ⟨m - 1, by omega⟩
        obtain ⟨j', b1, b2⟩ := hw.at hs (show k < room s by omega)
        refine ⟨fun z => absurd z (nI_ge (by omega) (by omega)), fun _ => ⟨k4 h3 hs, _, p192 h3 hs, k192 h3 hs, by rw [nI_pred, l192 h3 hs]; exact vp_in_nI (by omega) (by omega), ad 3 s j', ?_, by rw [l192 h3 hs]; exact vp_in_nI (by omega) (by omega), k3 h3 hs b1, ?_⟩⟩
        · rw [nI_pred, show ix (nI k) = k from nI_clamp (by omega), e6, if_neg (by omega)]; exact b2
        · rw [show ix (nI (k + 1)) = k + 1 from nI_clamp (by omega), show nI (k + 1) + (-1) = nI k from by rw [← Int32.sub_eq_add_neg]; exact nI_pred k]
          refine ih k _ (by omega) (by omega) (f.uAr _ _ _ (Or.inl (by rw [c192 h3 hs]; exact Or.inr (Or.inr (Or.inr (Or.inr rfl)))))) (by rw [yFi_uAr]; exact e3) (by rw [yFi_uAr]; exact e4) (fun y i => by rw [yAi_uAr]; exact e5 y i) (fun i => ?_)
          rw [yAr_uAr, yu2, e6]
          by_cases c : i = k + 1
          · rw [if_pos ⟨rfl, c⟩, if_pos ⟨by omega, by omega⟩, c, Nat.add_sub_cancel, b2]
          · rw [if_neg (fun z => c z.2)]
            by_cases c2 : k < i ∧ i ≤ rs.length
            · rw [if_pos c2, if_pos ⟨by omega, c2.2⟩]
            · rw [if_neg c2, if_neg (fun z => c2 ⟨by omega, z.2⟩)]
    rw [yFi_uFi, yu2, if_pos ⟨rfl, rfl⟩, nI_pred]
    refine key (rs.length - p) rs.length _ (by omega) (Nat.le_refl _) f1 (by rw [yFi_uFi, yu2, if_pos ⟨rfl, rfl⟩]) ?_ (fun y i => by rw [yAi_uFi]) (fun i => ?_)
    · rw [yFi_uFi, yu2, if_neg (fun z => absurd z.1 (by decide))]; exact q2
    · rw [yAr_uFi, if_neg (by omega)]
  refine pk_le rs.length p (fun c => ins (fun m hm => by have := no m hm; omega)) (fun c => ?_)
  obtain ⟨j, j1, j2, j3, j4⟩ := q5 _ _ (List.getElem?_eq_getElem c)
  refine ⟨_, p192 h hs, k192 h hs, by rw [l192 h hs]; exact vp_in_nI (by omega) (by omega), _, by rw [show ix (nI p) = p from nI_clamp (by omega)]; exact j2, k3 h hs j1, _, p128 h hs j1, ?_⟩
  have bad : rs[p] ≠ r → ∀ m : Nat, rs[m]? ≠ some r := fun z m hm => by
    obtain ⟨rfl, -⟩ := no m hm
    rw [List.getElem?_eq_getElem c] at hm
    exact z (Option.some.inj hm)
  exact A_cmp h hs q2 q3 j3 lr ⟨k128 h hs j1, l128 h hs j1, j4⟩ hx (fun z => ⟨fun y => absurd rfl y, fun _ => h1 p (by rw [← z]; exact List.getElem?_eq_getElem c)⟩) (fun z => ⟨fun _ => ins (bad (fun y => by rw [y] at z; exact rlt_ir r z)), fun y => absurd y (by decide)⟩) (fun z => ⟨fun _ => ins (bad (fun y => by rw [y] at z; exact rlt_ir r z)), fun y => absurd y (by decide)⟩)
end MG
