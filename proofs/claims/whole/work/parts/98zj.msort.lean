/-! the reference: ask: the rows are put in order -/
section NU
variable {ad : Ad} {ct : Ct} {σ : St}
theorem rlt_at : ∀ {k : Nat} {a e : List Int32} {x y : Int32}, (∀ j, j < k → a[j]? = e[j]?) → a[k]? = some x → e[k]? = some y → x < y → rlt a e
  | 0, [], _, _, _, _, h, _, _ => by cases h
  | 0, _ :: _, [], _, _, _, _, h, _ => by cases h
  | 0, a :: _, e :: _, x, y, _, h1, h2, h => by
    have h1 : some a = some x := h1
    have h2 : some e = some y := h2
    cases h1
    cases h2
    exact Or.inl h
  | k + 1, [], _, _, _, _, h, _, _ => by rw [List.getElem?_nil] at h; cases h
  | k + 1, _ :: _, [], _, _, _, _, h, _ => by rw [List.getElem?_nil] at h; cases h
  | k + 1, a :: s, e :: t, x, y, hp, h1, h2, h => by
    have e0 : some a = some e := hp 0 (by omega)
    refine Or.inr ⟨Option.some.inj e0, rlt_at (k := k) (fun j hj => ?_) (by rw [List.getElem?_cons_succ] at h1; exact h1) (by rw [List.getElem?_cons_succ] at h2; exact h2) h⟩
    have := hp (j + 1) (by omega)
    rw [List.getElem?_cons_succ, List.getElem?_cons_succ] at this
    exact this
theorem M_isLess (h : Sh ad ct σ) {s w i b : Nat} {cl : Bool} {L : List Ans} {a e : Ans} (hs : s < 42) (q : MR ad σ s L w cl) (hw : 1 ≤ w) (ha : L[i]? = some a) (he : L[b]? = some e) (ne : a.1 ≠ e.1) {Q : Int32 → St → Prop} (h0 : rlt e.1 a.1 → Q 0 σ) (h1 : rlt a.1 e.1 → Q 1 σ) : wX16_isLess (ad 15 s 0) (nI i) (nI b) σ Q := by
  have hi := (List.getElem?_eq_some_iff.mp ha).1
  have hb := (List.getElem?_eq_some_iff.mp he).1
  have l32 := q.2.2.2.1
  have w6 := q.2.2.1
  obtain ⟨a1, a2, _⟩ := q.2.2.2.2 i a ha
  obtain ⟨e1, e2, _⟩ := q.2.2.2.2 b e he
  have fin : ∀ k, k < w → (∀ j, j < k → a.1[j]? = e.1[j]?) → (k + 1 = w ∨ a.1[k]? ≠ e.1[k]?) → wX16_isLess_43 Q (ad 15 s 0) (nI i) (nI b) (nI k) σ := fun k hk hp hd => by
    obtain ⟨x, hx⟩ : ∃ x, a.1[k]? = some x := ⟨_, List.getElem?_eq_getElem (by omega)⟩
    obtain ⟨y, hy⟩ : ∃ y, e.1[k]? = some y := ⟨_, List.getElem?_eq_getElem (by omega)⟩
    obtain ⟨u1, u2⟩ := ix6 (r := i) (k := k) (by omega) (by omega)
    obtain ⟨v1, v2⟩ := ix6 (r := b) (k := k) (by omega) (by omega)
    refine ⟨k15 h hs, _, p898 h hs, k898 h hs, by rw [u2, l898 h hs]; exact vp_in_nI (by omega) (by decide), by rw [v2, l898 h hs]; exact vp_in_nI (by omega) (by decide), ?_⟩
    rw [u1, v1, a2 k x hx, e2 k y hy]
    have nxy : x ≠ y := fun z => by
      rcases hd with hd | hd
      · refine ne (List.ext_getElem? (fun j => ?_))
        by_cases c : j < k
        · exact hp j c
        · by_cases c2 : j = k
          · rw [c2, hx, hy, z]
          · rw [List.getElem?_eq_none (by omega), List.getElem?_eq_none (by omega)]
      · exact hd (by rw [hx, hy, z])
    refine ⟨fun z => h0 (rlt_at (fun j hj => (hp j hj).symm) hy hx ?_), fun z => h1 (rlt_at hp hx hy (Int32.not_le.mp z))⟩
    by_cases c : y < x
    · exact c
    · exact absurd (Int32.le_antisymm (Int32.not_lt.mp c) z) nxy
  have key : ∀ (d k : Nat), k + d + 1 = w → (∀ j, j < k → a.1[j]? = e.1[j]?) → lX16_isLess_2 Q (d + 1) (ad 15 s 0) (nI i) (nI b) (nI k) σ := by
    intro d
    induction d with
    | zero =>
      intro k hk hp
      refine ⟨k15 h hs, fun _ => fin k (by omega) hp (Or.inl (by omega)), fun z => absurd ?_ z⟩
      rw [q.2.1, show w = k + 1 by omega, nI_pred]; exact Int32.le_refl _
    | succ d ih =>
      intro k hk hp
      obtain ⟨x, hx⟩ : ∃ x, a.1[k]? = some x := ⟨_, List.getElem?_eq_getElem (by omega)⟩
      obtain ⟨y, hy⟩ : ∃ y, e.1[k]? = some y := ⟨_, List.getElem?_eq_getElem (by omega)⟩
      obtain ⟨u1, u2⟩ := ix6 (r := i) (k := k) (by omega) (by omega)
      obtain ⟨v1, v2⟩ := ix6 (r := b) (k := k) (by omega) (by omega)
      refine ⟨k15 h hs, fun z => absurd z ?_, fun _ => ⟨_, p898 h hs, k898 h hs, by rw [u2, l898 h hs]; exact vp_in_nI (by omega) (by decide), by rw [v2, l898 h hs]; exact vp_in_nI (by omega) (by decide), ?_⟩⟩
      · rw [q.2.1, show w = (k + d + 1) + 1 by omega, nI_pred]; exact nI_ge (by omega) (by omega)
      · rw [u1, v1, a2 k x hx, e2 k y hy]
        refine ⟨fun z => fin k (by omega) hp (Or.inr (fun u => z ?_)), fun z => ?_⟩
        · rw [hx, hy] at u; exact Option.some.inj u
        · rw [nI_1]
          refine ih (k + 1) (by omega) (fun j hj => ?_)
          by_cases c : j = k
          · rw [c, hx, hy, z]
          · exact hp j (by omega)
  exact ⟨_, key (w - 1) 0 (by omega) (fun j hj => absurd hj (Nat.not_lt_zero _))⟩
abbrev S59 : Nat × Nat → Prop := fun p => SQ 40 p ∨ p = (1059, 0)
theorem S59_SM : ∀ p, S59 p → SM p := fun p q => by
  rcases q with q | q
  · exact SQ_SM 40 p q
  · subst q; decide
/-- the frame of the ordering -/
def WkS (ad : Ad) (ct : Ct) (σ σ' : St) : Prop := Fr ct S59 σ σ' ∧ ∀ g, g ≠ 1054 → zFi σ' g (ad 17 0 0) = zFi σ g (ad 17 0 0)
theorem WkS.rf : WkS ad ct σ σ := ⟨Fr.rf, fun _ _ => rfl⟩
theorem WkS.tr {σ1 σ2 : St} (a : WkS ad ct σ σ1) (b : WkS ad ct σ1 σ2) : WkS ad ct σ σ2 := ⟨a.1.tr1 b.1, fun g hg => (b.2 g hg).trans (a.2 g hg)⟩
theorem WkF.s {σ1 : St} (a : WkF ad ct σ σ1 40) : WkS ad ct σ σ1 := ⟨a.1.mono (fun _ z => Or.inl z), a.2⟩
theorem WkS.u (h : Sh ad ct σ) (i : Nat) (v : Int32) : WkS ad ct σ (uAi σ (ad 1059 0 0) i v) := ⟨Fr.rf.uAi _ _ _ (Or.inl (by rw [c1059 h]; exact Or.inr rfl)), fun g _ => by rw [yFi_uAi]⟩
theorem WkS.mr (h : Sh ad ct σ) {σ1 : St} (f : WkS ad ct σ σ1) {s w : Nat} {cl : Bool} {L : List Ans} (hs : s < 40) (q : MR ad σ s L w cl) : MR ad σ1 s L w cl := q.ss h f.1 (by omega) (fun g hg z => by
  simp only [S59, SQ, SS, Prod.mk.injEq] at z
  omega)
/-- the rows already put are O, the rows marked are u -/
def SoI (L O : List Ans) (u : Nat → Bool) : Prop := O.Pairwise (fun a b => rlt a.1 b.1) ∧ (∀ x, x ∈ O ↔ ∃ j : Nat, u j = true ∧ L[j]? = some x) ∧ ∀ o ∈ O, ∀ (j : Nat) x, u j = false → L[j]? = some x → rlt o.1 x.1
theorem M_sort (h : Sh ad ct σ) {r w : Nat} {cl : Bool} {L : List Ans} (hr : r < 40) (hw : 1 ≤ w) (q : MR ad σ r L w cl) (nL : (L.map (fun e => e.1)).Nodup) (cA : ∀ e ∈ L, CnE e) (qo : MR ad σ 40 [] w cl) (hz : ∀ j, j < 32 → zAi σ (ad 1059 0 0) j = 0) {Q : Int32 → St → Prop} {v1 : Int32} (hQ : ∀ σ' O, WkS ad ct σ σ' → MR ad σ' 40 O w cl → O.Pairwise (fun a b => rlt a.1 b.1) → O.Perm L → ∀ r202 : Nat → Int32 → Nat → Int32 → St → Prop, wX16_ask_202 Q r202 (ad 17 0 0) v1 (ad 15 r 0) (nI L.length) σ') : ∃ f, lX16_ask_202 Q f (ad 17 0 0) v1 (ad 15 r 0) 0 σ := by
  have l32 := q.2.2.2.1
  have ndL : L.Nodup := by
    unfold List.Nodup at nL
    rw [List.pairwise_map] at nL
    exact nL.imp (fun {a b} z e => z (by rw [e]))
  have rowne : ∀ {i j : Nat} {a e : Ans}, L[i]? = some a → L[j]? = some e → i ≠ j → a.1 ≠ e.1 := fun {i j a e} hi hj n z => by
    obtain ⟨hi1, hi2⟩ := List.getElem?_eq_some_iff.mp hi
    obtain ⟨hj1, hj2⟩ := List.getElem?_eq_some_iff.mp hj
    unfold List.Nodup at nL
    rw [List.pairwise_map] at nL
    have pw := List.pairwise_iff_getElem.mp nL
    rcases Nat.lt_or_gt_of_ne n with c | c
    · exact pw i j hi1 hj1 c (by rw [hi2, hj2]; exact z)
    · exact pw j i hj1 hi1 c (by rw [hi2, hj2]; exact z.symm)
  have len : ∀ {j : Nat} {e : Ans}, L[j]? = some e → e.1.length = w := fun {j e} hj => (q.2.2.2.2 j e hj).1
  have sub : ∀ {O : List Ans} {u : Nat → Bool}, SoI L O u → ∀ x ∈ O, x ∈ L := fun {O u} I x hx => by
    obtain ⟨j, _, hj⟩ := (I.2.1 x).mp hx
    exact List.mem_of_getElem? hj
  have ndO : ∀ {O : List Ans} {u : Nat → Bool}, SoI L O u → O.Nodup := fun {O u} I => by
    unfold List.Nodup
    exact I.1.imp (fun {a b} z (e : a = b) => rlt_ir b.1 (by rw [e] at z; exact z))
  have out : ∀ (d n : Nat) (O : List Ans) (u : Nat → Bool) (σ3 : St), n + d = L.length → O.length = n → SoI L O u → WkS ad ct σ σ3 → MR ad σ3 40 O w cl → (∀ j, j < 32 → zAi σ3 (ad 1059 0 0) j = zB (u j)) → lX16_ask_202 Q (d + 1) (ad 17 0 0) v1 (ad 15 r 0) (nI n) σ3 := by
    intro d
    induction d with
    | zero =>
      intro n O u σ3 hn hO I F qO hu
      have hn : n = L.length := by omega
      have pm : O.Perm L := by
        rw [List.perm_ext_iff_of_nodup (ndO I) ndL]
        refine fun x => ⟨sub I x, fun hx => ?_⟩
        by_cases c : x ∈ O
        · exact c
        · have := (List.nodup_cons.mpr ⟨c, ndO I⟩).length_le_of_subset (l₂ := L) (fun y hy => by
            rcases List.mem_cons.mp hy with z | z
            · rw [z]; exact hx
            · exact sub I y z)
          rw [List.length_cons] at this
          omega
      rw [hn]
      exact hQ σ3 O F qO I.1 pm _
    | succ d ih =>
      intro n O u σ3 hn hO I F qO hu
      have h3 := h.frM (F.1.mono S59_SM)
      have q3 := F.mr h hr q
      have inn : ∀ (d2 i : Nat) (bb : Int32) (best : Option Nat), i + d2 = L.length → (best = none ∧ bb = -1 ∧ (∀ j, j < i → u j = true) ∨ ∃ b eb, best = some b ∧ bb = nI b ∧ b < i ∧ u b = false ∧ L[b]? = some eb ∧ ∀ (j : Nat) x, j < i → j ≠ b → u j = false → L[j]? = some x → rlt eb.1 x.1) → lX16_ask_216 Q (lX16_ask_202 Q (d + 1)) (d2 + 1) (ad 17 0 0) v1 (ad 15 r 0) (nI n) bb (nI i) σ3 := by
        intro d2
        induction d2 with
        | zero =>
          intro i bb best hi hb
          have hi : i = L.length := by omega
          rcases hb with ⟨_, _, all⟩ | ⟨b, eb, _, rfl, hbi, ub, hlb, mn⟩
          · have : L.length ≤ O.length := ndL.length_le_of_subset (fun x hx => by
              obtain ⟨j, hj, ej⟩ := List.mem_iff_getElem.mp hx
              exact (I.2.1 x).mpr ⟨j, all j (by omega), by rw [List.getElem?_eq_getElem hj, ej]⟩)
            omega
          · have hb32 : b < 32 := by omega
            refine ⟨k15 h3 (by omega), fun _ => ⟨k17 h3, _, p1059 h3, k1059 h3, by rw [l1059 h3]; exact vp_in_nI hb32 (by decide), _, p1050 h3, ?_⟩, fun z => absurd ?_ z⟩
            · rw [show ix (nI b) = b from nI_clamp (by omega), show vp_nar .boolean 1 = (1 : Int32) from rfl]
              have W4 := WkS.u h3 b 1
              have F4 := F.tr W4
              have h4 := h.frM (F4.1.mono S59_SM)
              have q4 := F4.mr h hr q
              have qO4 : MR ad (uAi σ3 (ad 1059 0 0) b 1) 40 O w cl := qO.ss h3 (Fr.rf.uAi _ _ _ (Or.inl (c1059 h3)) : Fr ct (fun p => p = (1059, 0)) σ3 _) (by decide) (fun g hg z => by
                have z : (g, 40) = (1059, 0) := z
                cases z)
              have hu4 : ∀ j, j < 32 → zAi (uAi σ3 (ad 1059 0 0) b 1) (ad 1059 0 0) j = zB (if j = b then true else u j) := fun j hj => by
                rw [yAi_uAi, yu2]
                by_cases c : j = b
                · rw [if_pos ⟨rfl, c⟩, if_pos c]; rfl
                · rw [if_neg (fun z => c z.2), if_neg c]; exact hu j hj
              generalize uAi σ3 (ad 1059 0 0) b 1 = ρ at W4 F4 h4 q4 qO4 hu4 ⊢
              refine M_copies h4 (by omega) (by decide) (by omega) q4 hlb (cA eb (List.mem_of_getElem? hlb)) (fun z => z) qO4 (fun z => by omega) (fun σ5 _ W5 q5 => ?_)
              rw [nI_1]
              have bL := (List.getElem?_eq_some_iff.mp hlb).1
              refine ih (n + 1) (O ++ [eb]) (fun j => if j = b then true else u j) σ5 (by omega) (by rw [List.length_append, List.length_singleton, hO]) ⟨?_, fun x => ?_, fun o ho j x hj hx => ?_⟩ (F4.tr W5.s) q5 (fun j hj => ?_)
              · rw [List.pairwise_append]
                exact ⟨I.1, List.pairwise_singleton _ _, fun o ho y hy => by rw [List.mem_singleton.mp hy]; exact I.2.2 o ho b eb ub hlb⟩
              · rw [List.mem_append, List.mem_singleton, I.2.1]
                constructor
                · rintro (⟨j, hj, hx⟩ | rfl)
                  · exact ⟨j, by dsimp only; split <;> first | rfl | exact hj, hx⟩
                  · exact ⟨b, if_pos rfl, hlb⟩
                · rintro ⟨j, hj, hx⟩
                  dsimp only at hj
                  by_cases c : j = b
                  · rw [c, hlb] at hx; exact Or.inr (Option.some.inj hx).symm
                  · rw [if_neg c] at hj; exact Or.inl ⟨j, hj, hx⟩
              · dsimp only at hj
                by_cases c : j = b
                · rw [if_pos c] at hj; cases hj
                · rw [if_neg c] at hj
                  rcases List.mem_append.mp ho with z | z
                  · exact I.2.2 o z j x hj hx
                  · rw [List.mem_singleton.mp z]
                    exact mn j x (by have := (List.getElem?_eq_some_iff.mp hx).1; omega) c hj hx
              · exact (W5.1.ai (k1059 h4) (by decide) (c1059 h4) (by simp [SQ, SS]) j).trans (hu4 j hj)
            · rw [q3.1, hi]; exact nI_le (Nat.le_refl _) (by omega)
        | succ d2 ih2 =>
          intro i bb best hi hb
          obtain ⟨a, ha⟩ : ∃ a, L[i]? = some a := ⟨_, List.getElem?_eq_getElem (by omega)⟩
          refine ⟨k15 h3 (by omega), fun z => absurd z (by rw [q3.1]; exact nI_ge (by omega) (by omega)), fun _ => ⟨k17 h3, _, p1059 h3, k1059 h3, by rw [l1059 h3]; exact vp_in_nI (by omega) (by decide), ?_⟩⟩
          rw [show ix (nI i) = i from nI_clamp (by omega), hu i (by omega), nI_1]
          refine ⟨fun z => ih2 (i + 1) bb best (by omega) ?_, fun z => ?_⟩
          · have ui : u i = true := by
              cases hc : u i with
              | true => rfl
              | false => rw [hc] at z; exact absurd rfl z
            rcases hb with ⟨b1, b2, all⟩ | ⟨b, eb, b1, b2, hbi, ub, hlb, mn⟩
            · refine Or.inl ⟨b1, b2, fun j hj => ?_⟩
              by_cases c : j = i
              · rw [c]; exact ui
              · exact all j (by omega)
            · refine Or.inr ⟨b, eb, b1, b2, by omega, ub, hlb, fun j x hj hjb hu2 hx => ?_⟩
              by_cases c : j = i
              · rw [c, ui] at hu2; cases hu2
              · exact mn j x (by omega) hjb hu2 hx
          · have ui : u i = false := by
              cases hc : u i with
              | false => rfl
              | true => rw [hc] at z; exact absurd z (by decide)
            rcases hb with ⟨b1, b2, all⟩ | ⟨b, eb, b1, b2, hbi, ub, hlb, mn⟩
            · refine ⟨fun _ => ih2 (i + 1) (nI i) (some i) (by omega) (Or.inr ⟨i, a, rfl, rfl, by omega, ui, ha, fun j x hj hji hu2 hx => ?_⟩), fun y => absurd b2 y⟩
              rw [all j (by omega)] at hu2; cases hu2
            · refine ⟨fun y => absurd y (by rw [b2]; exact nI_m1 (by omega)), fun _ => ?_⟩
              rw [b2]
              refine M_isLess h3 (by omega) q3 hw ha hlb (rowne ha hlb (by omega)) (fun lt => ⟨fun _ => ih2 (i + 1) (nI b) (some b) (by omega) (Or.inr ⟨b, eb, rfl, rfl, by omega, ub, hlb, fun j x hj hjb hu2 hx => ?_⟩), fun y => absurd rfl y⟩) (fun lt => ⟨fun y => absurd y (by decide), fun _ => ih2 (i + 1) (nI i) (some i) (by omega) (Or.inr ⟨i, a, rfl, rfl, by omega, ui, ha, fun j x hj hji hu2 hx => ?_⟩)⟩)
              · by_cases c : j = i
                · rw [c, ha] at hx; cases hx; exact lt
                · exact mn j x (by omega) hjb hu2 hx
              · by_cases c : j = b
                · rw [c, hlb] at hx; cases hx; exact lt
                · exact rlt_tr lt (mn j x (by omega) c hu2 hx)
      refine ⟨k15 h3 (by omega), fun z => absurd z (by rw [q3.1]; exact nI_ge (by omega) (by omega)), fun _ => ⟨L.length + 1, inn L.length 0 (-1) none (by omega) (Or.inl ⟨rfl, rfl, fun j hj => absurd hj (Nat.not_lt_zero _)⟩)⟩⟩
  exact ⟨_, out L.length 0 [] (fun _ => false) σ (by omega) rfl ⟨List.Pairwise.nil, fun x => ⟨fun z => (by cases z), fun ⟨j, z, _⟩ => (by cases z)⟩, fun o ho => absurd ho List.not_mem_nil⟩ WkS.rf qo (fun j hj => hz j hj)⟩
end NU
