/-! rows in their order -/
theorem rlt_ir : ∀ (a : List Int32), ¬ rlt a a
  | [], h => h
  | x :: r, h => h.elim (fun z => Int32.lt_irrefl z) (fun z => rlt_ir r z.2)
theorem rlt_tr : ∀ {a b c : List Int32}, rlt a b → rlt b c → rlt a c
  | [], _, _, h, _ => h.elim
  | _ :: _, [], _, h, _ => h.elim
  | _ :: _, _ :: _, [], _, k => k.elim
  | x :: a, y :: b, z :: c, h, k => by
    rcases h with h | ⟨rfl, h⟩
    · rcases k with k | ⟨rfl, k⟩
      · exact Or.inl (Int32.lt_trans h k)
      · exact Or.inl h
    · rcases k with k | ⟨rfl, k⟩
      · exact Or.inl k
      · exact Or.inr ⟨rfl, rlt_tr h k⟩
theorem rlt_tri : ∀ {a b : List Int32}, a.length = b.length → rlt a b ∨ a = b ∨ rlt b a
  | [], [], _ => Or.inr (Or.inl rfl)
  | [], _ :: _, h => by simp at h
  | _ :: _, [], h => by simp at h
  | x :: a, y :: b, h => by
    have hl : a.length = b.length := by simpa using h
    rcases Int32.lt_or_lt_of_ne (a := x) (b := y) |> fun f => Classical.em (x = y) with e | e
    · subst e
      rcases rlt_tri hl with q | q | q
      · exact Or.inl (Or.inr ⟨rfl, q⟩)
      · exact Or.inr (Or.inl (by rw [q]))
      · exact Or.inr (Or.inr (Or.inr ⟨rfl, q⟩))
    · rcases Int32.lt_or_lt_of_ne e with q | q
      · exact Or.inl (Or.inl q)
      · exact Or.inr (Or.inr (Or.inl q))
section A1
variable {ad : Ad} {ct : Ct} {σ : St}
/-- a row of values in an array -/
def rowIs (σ : St) (x : Nat) (r : List Int32) : Prop := zK σ x = 20 ∧ zL σ x = 6 ∧ ∀ k v, r[k]? = some v → zAi σ x k = v
def ARr (ad : Ad) (σ : St) (s : Nat) (rs : List (List Int32)) (w : Nat) : Prop := zFi σ 193 (ad 4 s 0) = nI rs.length ∧ zFi σ 194 (ad 4 s 0) = nI w ∧ w ≤ 6 ∧ rs.length ≤ room s ∧ ∀ i r, rs[i]? = some r → ∃ j, j < room s ∧ zAr σ (ad 192 s 0) i = some (ad 3 s j) ∧ r.length = w ∧ ∀ k v, r[k]? = some v → zAi σ (ad 128 s j) k = v
theorem AR.rows {s w : Nat} {L : List Ans} {cl : Bool} (q : AR ad σ s L w cl) : ARr ad σ s (L.map (fun e => e.1)) w := by
  obtain ⟨h1, h2, h3, h4, h5⟩ := q
  refine ⟨by rw [List.length_map]; exact h1, h2, h3, by rw [List.length_map]; exact h4, fun i r hr => ?_⟩
  rw [List.getElem?_map] at hr
  cases e : L[i]? with
  | none => rw [e] at hr; cases hr
  | some x =>
    rw [e] at hr
    cases hr
    obtain ⟨j, h6, h7, h8⟩ := h5 i x e
    exact ⟨j, h6, h7, h8.1, h8.2.1⟩
theorem room_le (s : Nat) : room s ≤ 64 := by unfold room; split <;> omega
theorem room_pos (s : Nat) : 32 ≤ room s := by unfold room; split <;> omega
theorem A_at (h : Sh ad ct σ) {s w : Nat} {cl : Bool} {L : List Ans} (hs : s < 43) (q : AR ad σ s L w cl) (v : Int32) {Q : Option Nat → St → Prop} (h0 : (if v < 0 then none else L[ix v]?) = none → Q none σ) (h1 : ∀ i e j, v = nI i → i < L.length → L[i]? = some e → (if v < 0 then none else L[ix v]?) = some e → j < room s → AnsAt ad σ s j w cl e → Q (some (ad 3 s j)) σ) : wX3_at (ad 4 s 0) v σ Q := by
  obtain ⟨q1, q2, q3, q4, q5⟩ := q
  have hr := room_le s
  unfold wX3_at wX3_at_0
  rw [q1]
  refine ⟨fun c => h0 (if_pos c), fun c => ⟨k4 h hs, fun d => h0 ?_, fun d => ?_⟩⟩
  · rw [if_neg c]
    obtain ⟨j, hj, rfl⟩ := nI_of c
    rw [show ix (nI j) = j from nI_clamp hj]
    exact List.getElem?_eq_none ((nI_leI (by omega) hj).mp d)
  · rcases pk_ix v (n := L.length) (by omega) with e | e | ⟨j, hj, e⟩
    · exact absurd e c
    · exact absurd e d
    · subst e
      have ej : ix (nI j) = j := nI_clamp (by omega)
      obtain ⟨m, m1, m2, m3⟩ := q5 j (L[j]) (List.getElem?_eq_getElem hj)
      refine ⟨_, p192 h hs, k192 h hs, by rw [l192 h hs]; exact vp_in_nI (by omega) (by omega), ad 3 s m, by rw [ej]; exact m2, h1 j _ m rfl hj (List.getElem?_eq_getElem hj) ?_ m1 m3⟩
      rw [if_neg c, ej]
      exact List.getElem?_eq_getElem hj
theorem A_stands (h : Sh ad ct σ) {s w j : Nat} {cl : Bool} {e : Ans} (hs : s < 43) (hj : j < room s) (q : AnsAt ad σ s j w cl e) (X : Int64) {Q : Int32 → St → Prop} (hQ : Q (zB (e.2.1.any (fun u => decide (sb u X)))) σ) : wX2_stands (ad 3 s j) X σ Q := by
  obtain ⟨q1, q2, q3, q4, q5, -⟩ := q
  have key : ∀ (l : List Int64) (k : Nat), k + l.length = e.2.1.length → (∀ m v, l[m]? = some v → zAj σ (ad 129 s j) (k + m) = v) → Q (zB (l.any (fun u => decide (sb u X)))) σ → lX2_stands_2 Q (l.length + 1) (ad 3 s j) X (nI k) σ := by
    intro l
    induction l with
    | nil =>
      intro k hk ha hq
      have hk : k = e.2.1.length := by simpa using hk
      refine ⟨k3 h hs hj, fun _ => hq, fun c => absurd ?_ c⟩
      rw [q4, hk]
      exact nI_le (Nat.le_refl _) (by omega)
    | cons a l ih =>
      intro k hk ha hq
      rw [List.length_cons] at hk
      refine ⟨k3 h hs hj, fun c => absurd c ?_, fun c => ⟨_, p129 h hs hj, k129 h hs hj, by rw [l129 h hs hj]; exact vp_in_nI (by omega) (by decide), ?_⟩⟩
      · rw [q4]; exact nI_ge (by omega) (by omega)
      · rw [show ix (nI k) = k from nI_clamp (by omega), nI_1, show zAj σ (ad 129 s j) k = a from ha 0 a rfl]
        refine ⟨fun c => ih (k + 1) (by omega) (fun m v hv => ?_) ?_, fun c => ?_⟩
        · rw [show k + 1 + m = k + (m + 1) by omega]; exact ha (m + 1) v hv
        · rw [List.any_cons, decide_eq_false c, Bool.false_or] at hq; exact hq
        · rw [List.any_cons, decide_eq_true (show sb a X from c), Bool.true_or] at hq; exact hq
  exact ⟨_, key e.2.1 0 (by omega) (fun m v hv => by rw [Nat.zero_add]; exact q5 m v hv) hQ⟩
theorem A_every (h : Sh ad ct σ) {s w j : Nat} {cl : Bool} {e : Ans} (hs : s < 43) (hj : j < room s) (q : AnsAt ad σ s j w cl e) {Q : Int64 → St → Prop} (hQ : Q (e.2.1.foldl (fun x y => x &&& y) (-1)) σ) : wX2_inEveryWay (ad 3 s j) σ Q := by
  obtain ⟨q1, q2, q3, q4, q5, -⟩ := q
  have key : ∀ (l : List Int64) (k : Nat) (x : Int64), k + l.length = e.2.1.length → (∀ m v, l[m]? = some v → zAj σ (ad 129 s j) (k + m) = v) → Q (l.foldl (fun x y => x &&& y) x) σ → lX2_inEveryWay_6 Q (l.length + 1) (ad 3 s j) x (nI k) σ := by
    intro l
    induction l with
    | nil =>
      intro k x hk ha hq
      have hk : k = e.2.1.length := by simpa using hk
      refine ⟨k3 h hs hj, fun _ => hq, fun c => absurd ?_ c⟩
      rw [q4, hk]
      exact nI_le (Nat.le_refl _) (by omega)
    | cons a l ih =>
      intro k x hk ha hq
      rw [List.length_cons] at hk
      refine ⟨k3 h hs hj, fun c => absurd c ?_, fun c => ⟨_, p129 h hs hj, k129 h hs hj, by rw [l129 h hs hj]; exact vp_in_nI (by omega) (by decide), ?_⟩⟩
      · rw [q4]; exact nI_ge (by omega) (by omega)
      · rw [show ix (nI k) = k from nI_clamp (by omega), nI_1, show zAj σ (ad 129 s j) k = a from ha 0 a rfl]
        refine ih (k + 1) _ (by omega) (fun m v hv => ?_) hq
        rw [show k + 1 + m = k + (m + 1) by omega]; exact ha (m + 1) v hv
  exact ⟨_, key e.2.1 0 _ (by omega) (fun m v hv => by rw [Nat.zero_add]; exact q5 m v hv) hQ⟩
theorem A_any (h : Sh ad ct σ) {s w j : Nat} {cl : Bool} {e : Ans} (hs : s < 43) (hj : j < room s) (q : AnsAt ad σ s j w cl e) {Q : Int64 → St → Prop} (hQ : Q (e.2.1.foldl (fun x y => x ||| y) 0) σ) : wX2_inAnyWay (ad 3 s j) σ Q := by
  obtain ⟨q1, q2, q3, q4, q5, -⟩ := q
  have key : ∀ (l : List Int64) (k : Nat) (x : Int64), k + l.length = e.2.1.length → (∀ m v, l[m]? = some v → zAj σ (ad 129 s j) (k + m) = v) → Q (l.foldl (fun x y => x ||| y) x) σ → lX2_inAnyWay_4 Q (l.length + 1) (ad 3 s j) x (nI k) σ := by
    intro l
    induction l with
    | nil =>
      intro k x hk ha hq
      have hk : k = e.2.1.length := by simpa using hk
      refine ⟨k3 h hs hj, fun _ => hq, fun c => absurd ?_ c⟩
      rw [q4, hk]
      exact nI_le (Nat.le_refl _) (by omega)
    | cons a l ih =>
      intro k x hk ha hq
      rw [List.length_cons] at hk
      refine ⟨k3 h hs hj, fun c => absurd c ?_, fun c => ⟨_, p129 h hs hj, k129 h hs hj, by rw [l129 h hs hj]; exact vp_in_nI (by omega) (by decide), ?_⟩⟩
      · rw [q4]; exact nI_ge (by omega) (by omega)
      · rw [show ix (nI k) = k from nI_clamp (by omega), nI_1, show zAj σ (ad 129 s j) k = a from ha 0 a rfl]
        refine ih (k + 1) _ (by omega) (fun m v hv => ?_) hq
        rw [show k + 1 + m = k + (m + 1) by omega]; exact ha (m + 1) v hv
  exact ⟨_, key e.2.1 0 _ (by omega) (fun m v hv => by rw [Nat.zero_add]; exact q5 m v hv) hQ⟩
theorem A_cmp (h : Sh ad ct σ) {s w x1 x2 : Nat} {r1 r2 : List Int32} (hs : s < 43) (hw : zFi σ 194 (ad 4 s 0) = nI w) (hw6 : w ≤ 6) (l1 : r1.length = w) (l2 : r2.length = w) (a1 : rowIs σ x1 r1) (a2 : rowIs σ x2 r2) {Q : Int32 → St → Prop} (h0 : r1 = r2 → Q 0 σ) (h1 : rlt r1 r2 → Q (-1) σ) (h2 : rlt r2 r1 → Q 1 σ) : wX3_compare (ad 4 s 0) x1 x2 σ Q := by
  have key : ∀ (s1 s2 : List Int32) (k : Nat), s1.length = s2.length → k + s1.length = w → (∀ m v, s1[m]? = some v → zAi σ x1 (k + m) = v) → (∀ m v, s2[m]? = some v → zAi σ x2 (k + m) = v) → (s1 = s2 → Q 0 σ) → (rlt s1 s2 → Q (-1) σ) → (rlt s2 s1 → Q 1 σ) → lX3_compare_2 Q (s1.length + 1) (ad 4 s 0) x1 x2 (nI k) σ := by
    intro s1
    induction s1 with
    | nil =>
      intro s2 k e hk b1 b2 g0 g1 g2
      have e : s2 = [] := List.length_eq_zero_iff.mp e.symm
      have hk : k = w := by simpa using hk
      refine ⟨k4 h hs, fun _ => g0 e.symm, fun c => absurd ?_ c⟩
      rw [hw, hk]
      exact nI_le (Nat.le_refl _) (by omega)
    | cons a s1 ih =>
      intro s2 k e hk b1 b2 g0 g1 g2
      cases s2 with
      | nil => simp at e
      | cons b s2 =>
        rw [List.length_cons] at hk
        have e' : s1.length = s2.length := by simpa using e
        refine ⟨k4 h hs, fun c => absurd c ?_, fun c => ⟨a1.1, by rw [a1.2.1]; exact vp_in_nI (by omega) (by decide), a2.1, by rw [a2.2.1]; exact vp_in_nI (by omega) (by decide), ?_⟩⟩
        · rw [hw]; exact nI_ge (by omega) (by omega)
        · rw [show ix (nI k) = k from nI_clamp (by omega), nI_1, show zAi σ x1 k = a from b1 0 a rfl, show zAi σ x2 k = b from b2 0 b rfl]
          refine ⟨fun c => ?_, fun c => ⟨fun d => g2 (Or.inl ?_), fun d => g1 (Or.inl (Int32.not_le.mp d))⟩⟩
          · subst c
            refine ih s2 (k + 1) e' (by omega) (fun m v hv => ?_) (fun m v hv => ?_) (fun q => g0 (by rw [q])) (fun q => g1 (Or.inr ⟨rfl, q⟩)) (fun q => g2 (Or.inr ⟨rfl, q⟩))
            · rw [show k + 1 + m = k + (m + 1) by omega]; exact b1 (m + 1) v hv
            · rw [show k + 1 + m = k + (m + 1) by omega]; exact b2 (m + 1) v hv
          · rcases Int32.lt_or_lt_of_ne c with q | q
            · exact absurd q (Int32.not_lt.mpr d)
            · exact q
  exact ⟨_, key r1 r2 0 (by omega) (by omega) (fun m v hv => by rw [Nat.zero_add]; exact a1.2.2 m v hv) (fun m v hv => by rw [Nat.zero_add]; exact a2.2.2 m v hv) h0 h1 h2⟩
theorem A_notB (h : Sh ad ct σ) {s w x : Nat} {rs : List (List Int32)} {r : List Int32} (hs : s < 43) (q : ARr ad σ s rs w) (hp : rs.Pairwise rlt) (lr : r.length = w) (hx : rowIs σ x r) {Q : Int32 → St → Prop}
    (hQ : ∀ i, i ≤ rs.length → (∀ m u, m < i → rs[m]? = some u → rlt u r) → (∀ m u, i ≤ m → rs[m]? = some u → ¬ rlt u r) → Q (nI i) σ) : wX3_notBefore (ad 4 s 0) x σ Q := by
  obtain ⟨q1, q2, q3, q4, q5⟩ := q
  have hr := room_le s
  have key : ∀ (d a b : Nat), b - a ≤ d → a ≤ b → b ≤ rs.length → (∀ m u, m < a → rs[m]? = some u → rlt u r) → (∀ m u, b ≤ m → rs[m]? = some u → ¬ rlt u r) → lX3_notBefore_7 Q (d + 1) (ad 4 s 0) x (nI a) (nI b) σ := by
    intro d
    induction d with
    | zero =>
      intro a b hd hab hb g1 g2
      have : a = b := by omega
      subst this
      exact ⟨fun _ => hQ a hb g1 g2, fun c => absurd (nI_le (Nat.le_refl _) (by omega)) c⟩
    | succ d ih =>
      intro a b hd hab hb g1 g2
      refine pk_le b a (fun c => ?_) (fun c => ?_)
      · have : a = b := by omega
        subst this
        exact hQ a hb g1 g2
      · have em : (nI a + nI b) / 2 = nI ((a + b) / 2) := by rw [nI_add]; exact pk_div (d := 2) (by omega) (by decide) (by decide)
        rw [em, show ix (nI ((a + b) / 2)) = (a + b) / 2 from nI_clamp (by omega), nI_1]
        have hm : (a + b) / 2 < rs.length := by omega
        obtain ⟨j, j1, j2, j3, j4⟩ := q5 _ _ (List.getElem?_eq_getElem hm)
        refine ⟨k4 h hs, _, p192 h hs, k192 h hs, by rw [l192 h hs]; exact vp_in_nI (by omega) (by omega), _, j2, k3 h hs j1, _, p128 h hs j1, ?_⟩
        have lo : ¬ rlt (rs[(a + b) / 2]) r → lX3_notBefore_7 Q (d + 1) (ad 4 s 0) x (nI a) (nI ((a + b) / 2)) σ := fun z => by
          refine ih a _ (by omega) (by omega) (by omega) g1 (fun m u hm2 hu => ?_)
          by_cases e : m = (a + b) / 2
          · subst e
            rw [List.getElem?_eq_getElem hm] at hu
            cases hu
            exact z
          · intro zu
            obtain ⟨hml, rfl⟩ := List.getElem?_eq_some_iff.mp hu
            exact z (rlt_tr (List.pairwise_iff_getElem.mp hp _ _ hm hml (by omega)) zu)
        refine A_cmp h hs q2 q3 j3 lr ⟨k128 h hs j1, l128 h hs j1, j4⟩ hx (fun z => ⟨fun _ => lo (by rw [z]; exact rlt_ir r), fun z => absurd (Int32.le_refl _) z⟩) (fun z => ⟨fun c => absurd c (by decide), fun _ => ?_⟩) (fun z => ⟨fun _ => lo (fun y => rlt_ir _ (rlt_tr y z)), fun c => absurd (by decide) c⟩)
        refine ih _ b (by omega) (by omega) hb (fun m u hm2 hu => ?_) g2
        obtain ⟨hml, rfl⟩ := List.getElem?_eq_some_iff.mp hu
        by_cases e : m = (a + b) / 2
        · subst e; exact z
        · exact rlt_tr (List.pairwise_iff_getElem.mp hp _ _ hml hm (by omega)) z
  refine ⟨k4 h hs, rs.length + 1, ?_⟩
  rw [q1]
  exact key rs.length 0 rs.length (by omega) (by omega) (Nat.le_refl _) (fun m u hm => absurd hm (Nat.not_lt_zero m)) (fun m u hm hu => absurd (List.getElem?_eq_some_iff.mp hu).1 (by omega))
theorem A_spot (h : Sh ad ct σ) {s w x : Nat} {rs : List (List Int32)} {r : List Int32} (hs : s < 43) (q : ARr ad σ s rs w) (hp : rs.Pairwise rlt) (lr : r.length = w) (hx : rowIs σ x r) {Q : Int32 → St → Prop}
    (h0 : (∀ i : Nat, rs[i]? ≠ some r) → Q (-1) σ) (h1 : ∀ i, i < rs.length → rs[i]? = some r → Q (nI i) σ) : wX3_spot (ad 4 s 0) x σ Q := by
  have q' := q
  obtain ⟨q1, q2, q3, q4, q5⟩ := q
  have hr := room_le s
  refine ⟨k4 h hs, A_notB h hs q' hp lr hx (fun i hi g1 g2 => ⟨k4 h hs, ?_⟩)⟩
  rw [q1]
  have no : ∀ m, rs[m]? = some r → m = i ∧ i < rs.length := fun m hm => by
    have hml := (List.getElem?_eq_some_iff.mp hm).1
    have n1 : ¬ m < i := fun z => rlt_ir r (g1 m r z hm)
    refine ⟨?_, by omega⟩
    by_cases e : m = i
    · exact e
    · have hil : i < rs.length := by omega
      have em := (List.getElem?_eq_some_iff.mp hm).2
      have z := List.pairwise_iff_getElem.mp hp i m hil hml (by omega)
      rw [em] at z
      exact absurd z (g2 i _ (Nat.le_refl _) (List.getElem?_eq_getElem hil))
  refine pk_le rs.length i (fun c => h0 (fun m hm => by have := no m hm; omega)) (fun c => ?_)
  obtain ⟨j, j1, j2, j3, j4⟩ := q5 _ _ (List.getElem?_eq_getElem c)
  refine ⟨_, p192 h hs, k192 h hs, by rw [l192 h hs]; exact vp_in_nI (by omega) (by omega), _, by rw [show ix (nI i) = i from nI_clamp (by omega)]; exact j2, k3 h hs j1, _, p128 h hs j1, ?_⟩
  have bad : rs[i] ≠ r → Q (-1) σ := fun z => h0 (fun m hm => by
    obtain ⟨rfl, -⟩ := no m hm
    rw [List.getElem?_eq_getElem c] at hm
    exact z (Option.some.inj hm))
  exact A_cmp h hs q2 q3 j3 lr ⟨k128 h hs j1, l128 h hs j1, j4⟩ hx (fun z => ⟨fun y => absurd rfl y, fun _ => h1 i c (by rw [← z]; exact List.getElem?_eq_getElem c)⟩) (fun z => ⟨fun _ => bad (fun y => by rw [y] at z; exact rlt_ir r z), fun y => absurd y (by decide)⟩) (fun z => ⟨fun _ => bad (fun y => by rw [y] at z; exact rlt_ir r z), fun y => absurd y (by decide)⟩)
end A1
