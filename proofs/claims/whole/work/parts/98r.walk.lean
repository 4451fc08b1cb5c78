/-! CLOSE: the readings -/
section NC
/-- an order of readings, the smaller the better: le, ok, op, top, the reading of an answer -/
def RdR (V : Type) : Type := (V → V → Prop) × (V → Prop) × (V → V → V) × V × (Ans → V)
def RdLaw {V : Type} (o : RdR V) : Prop := (∀ v, o.1 v v) ∧ (∀ a b c, o.1 a b → o.1 b c → o.1 a c) ∧ (∀ a b, o.1 a b → o.1 b a → a = b) ∧ (∀ v c, o.2.1 v → o.2.1 c → o.1 v (o.2.2.1 v c)) ∧ (∀ a b c, o.2.1 a → o.2.1 b → o.2.1 c → o.1 a b → o.1 (o.2.2.1 a c) (o.2.2.1 b c)) ∧ (∀ v c, o.2.1 v → o.2.1 c → o.2.1 (o.2.2.1 v c)) ∧ (∀ v, o.2.1 v → o.1 v o.2.2.2.1) ∧ o.2.1 o.2.2.2.1 ∧ ∀ c, o.2.1 c → o.2.2.1 o.2.2.2.1 c = o.2.2.2.1
def RdO (V : Type) : Type := {o : RdR V // RdLaw o}
def RdO.le {V : Type} (O : RdO V) : V → V → Prop := O.1.1
def RdO.ok {V : Type} (O : RdO V) : V → Prop := O.1.2.1
def RdO.op {V : Type} (O : RdO V) : V → V → V := O.1.2.2.1
def RdO.top {V : Type} (O : RdO V) : V := O.1.2.2.2.1
def RdO.vl {V : Type} (O : RdO V) : Ans → V := O.1.2.2.2.2
theorem RdO.rf {V : Type} (O : RdO V) : ∀ v, O.le v v := O.2.1
theorem RdO.tr {V : Type} (O : RdO V) {a b c : V} : O.le a b → O.le b c → O.le a c := O.2.2.1 a b c
theorem RdO.an {V : Type} (O : RdO V) {a b : V} : O.le a b → O.le b a → a = b := O.2.2.2.1 a b
theorem RdO.ex {V : Type} (O : RdO V) {v c : V} : O.ok v → O.ok c → O.le v (O.op v c) := O.2.2.2.2.1 v c
theorem RdO.mo {V : Type} (O : RdO V) {a b c : V} : O.ok a → O.ok b → O.ok c → O.le a b → O.le (O.op a c) (O.op b c) := O.2.2.2.2.2.1 a b c
theorem RdO.oo {V : Type} (O : RdO V) {v c : V} : O.ok v → O.ok c → O.ok (O.op v c) := O.2.2.2.2.2.2.1 v c
theorem RdO.tp {V : Type} (O : RdO V) {v : V} : O.ok v → O.le v O.top := O.2.2.2.2.2.2.2.1 v
theorem RdO.tk {V : Type} (O : RdO V) : O.ok O.top := O.2.2.2.2.2.2.2.2.1
theorem RdO.tt {V : Type} (O : RdO V) {c : V} : O.ok c → O.op O.top c = O.top := O.2.2.2.2.2.2.2.2.2 c
variable {V : Type} {O : RdO V} {A : List Ans}
def Wk (O : RdO V) (A : List Ans) (x : Int32) : List Int32 → Int32 → V → Prop
  | [], _, _ => False
  | y :: T, z, v => z = y ∧ ∃ s ∈ A, at1 s = y ∧ ((T = [] ∧ at0 s = x ∧ v = O.vl s) ∨ ∃ u, Wk O A x T (at0 s) u ∧ v = O.op u (O.vl s))
theorem Wk.one {x : Int32} (s : Ans) (hs : s ∈ A) (e : at0 s = x) : Wk O A x [at1 s] (at1 s) (O.vl s) := ⟨rfl, s, hs, rfl, Or.inl ⟨rfl, e, rfl⟩⟩
theorem Wk.more {x : Int32} (T : List Int32) (z : Int32) (v : V) (s : Ans) (h : Wk O A x T z v) (hs : s ∈ A) (e : at0 s = z) : Wk O A x (at1 s :: T) (at1 s) (O.op v (O.vl s)) := ⟨rfl, s, hs, rfl, Or.inr ⟨v, by rw [e]; exact h, rfl⟩⟩
theorem Wk.ind {x : Int32} {P : List Int32 → Int32 → V → Prop} (h1 : ∀ s, s ∈ A → at0 s = x → P [at1 s] (at1 s) (O.vl s)) (h2 : ∀ T z v s, Wk O A x T z v → s ∈ A → at0 s = z → P T z v → P (at1 s :: T) (at1 s) (O.op v (O.vl s))) : ∀ {T : List Int32} {z : Int32} {v : V}, Wk O A x T z v → P T z v
  | [], _, _, h => h.elim
  | y :: T, z, v, ⟨e, s, hs, e1, h⟩ => by
    subst e1
    rw [e]
    rcases h with ⟨rfl, e0, rfl⟩ | ⟨u, hu, rfl⟩
    · exact h1 s hs e0
    · exact h2 T (at0 s) u s hu hs rfl (Wk.ind h1 h2 hu)
def okA (O : RdO V) (A : List Ans) : Prop := ∀ s ∈ A, O.ok (O.vl s)
theorem Wk.ok (hA : okA O A) {x : Int32} {T : List Int32} {z : Int32} {v : V} (h : Wk O A x T z v) : O.ok v := Wk.ind (P := fun _ _ v => O.ok v) (fun s hs _ => hA s hs) (fun T z v s _ hs _ ih => O.oo ih (hA s hs)) h
theorem Wk.tgt {x : Int32} {T : List Int32} {z : Int32} {v : V} (h : Wk O A x T z v) : ∀ y ∈ T, y ∈ A.map at1 := by
  refine Wk.ind (P := fun T _ _ => ∀ y ∈ T, y ∈ A.map at1) ?_ ?_ h
  · intro s hs _ y hy; rw [List.mem_singleton.mp hy]; exact List.mem_map.mpr ⟨s, hs, rfl⟩
  · intro T z v s _ hs _ ih y hy
    rcases List.mem_cons.mp hy with e | e
    · rw [e]; exact List.mem_map.mpr ⟨s, hs, rfl⟩
    · exact ih y e
theorem Wk.sub (hA : okA O A) {x : Int32} {T : List Int32} {z : Int32} {v : V} (h : Wk O A x T z v) : ∀ y ∈ T, ∃ T2 v2, Wk O A x T2 y v2 ∧ T2.Sublist T ∧ O.le v2 v := by
  refine Wk.ind (P := fun T _ v => ∀ y ∈ T, ∃ T2 v2, Wk O A x T2 y v2 ∧ T2.Sublist T ∧ O.le v2 v) ?_ ?_ h
  · intro s hs e y hy
    rw [List.mem_singleton.mp hy]
    exact ⟨_, _, Wk.one s hs e, List.Sublist.refl _, O.rf _⟩
  · intro T z v s h hs e ih y hy
    rcases List.mem_cons.mp hy with q | q
    · rw [q]; exact ⟨_, _, Wk.more T z v s h hs e, List.Sublist.refl _, O.rf _⟩
    · obtain ⟨T2, v2, a, b, c⟩ := ih y q
      exact ⟨T2, v2, a, b.trans (List.sublist_cons_self _ _), O.tr c (O.ex (h.ok hA) (hA s hs))⟩
theorem Wk.short (hA : okA O A) {x : Int32} {T : List Int32} {z : Int32} {v : V} (h : Wk O A x T z v) : ∃ T2 v2, Wk O A x T2 z v2 ∧ T2.Nodup ∧ O.le v2 v := by
  refine Wk.ind (P := fun _ z v => ∃ T2 v2, Wk O A x T2 z v2 ∧ T2.Nodup ∧ O.le v2 v) ?_ ?_ h
  · exact fun s hs e => ⟨_, _, Wk.one s hs e, List.pairwise_singleton _ _, O.rf _⟩
  · intro T z v s h hs e ih
    obtain ⟨T2, v2, a, b, c⟩ := ih
    by_cases q : at1 s ∈ T2
    · obtain ⟨T3, v3, a3, b3, c3⟩ := a.sub hA _ q
      exact ⟨T3, v3, a3, b.sublist b3, O.tr c3 (O.tr c (O.ex (h.ok hA) (hA s hs)))⟩
    · exact ⟨_, _, Wk.more T2 z v2 s a hs e, List.nodup_cons.mpr ⟨q, b⟩, O.mo (a.ok hA) (h.ok hA) (hA s hs) c⟩
/-- the best there is -/
def Bst (O : RdO V) (A : List Ans) (x y : Int32) (v : V) : Prop := (∀ T u, Wk O A x T y u → O.le v u) ∧ (v = O.top ∨ ∃ T, Wk O A x T y v)
theorem Bst.one (hA : okA O A) {x y : Int32} {v w : V} (h : Bst O A x y v) (k : Bst O A x y w) : v = w := by
  have key : ∀ {v w : V}, Bst O A x y v → Bst O A x y w → O.le w v := fun {v w} h k => by
    rcases h.2 with e | ⟨T, q⟩
    · rw [e]
      refine O.tp ?_
      rcases k.2 with f | ⟨T, q⟩
      · rw [f]; exact O.tk
      · exact q.ok hA
    · exact k.1 T v q
  exact O.an (key k h) (key h k)
theorem Bst.perm {B : List Ans} (p : A.Perm B) {x y : Int32} {v : V} (h : Bst O A x y v) : Bst O B x y v := by
  have key : ∀ {A B : List Ans}, A.Perm B → ∀ {T : List Int32} {z : Int32} {u : V}, Wk O A x T z u → Wk O B x T z u := fun {A B} p {T z u} q => Wk.ind (P := fun T z u => Wk O B x T z u) (fun s hs e => Wk.one s (p.mem_iff.mp hs) e) (fun T z v s _ hs e ih => Wk.more T z v s ih (p.mem_iff.mp hs) e) q
  exact ⟨fun T u q => h.1 T u (key p.symm q), h.2.imp id (fun ⟨T, q⟩ => ⟨T, key p q⟩)⟩
/-- the chain c and the step s give e -/
def mt (A : List Ans) (c e s : Ans) : Prop := s ∈ A ∧ s.1 = [at1 c, at1 e] ∧ at0 c = at0 e
/-- e's reading, bettered once over the chains of L -/
def Btr (O : RdO V) (A L : List Ans) (e : Ans) (v : V) : Prop := O.le v (O.vl e) ∧ (∀ c ∈ L, ∀ s, mt A c e s → O.le v (O.op (O.vl c) (O.vl s))) ∧ (v = O.vl e ∨ ∃ c ∈ L, ∃ s, mt A c e s ∧ v = O.op (O.vl c) (O.vl s))
def Snd (O : RdO V) (A L : List Ans) : Prop := ∀ e ∈ L, O.vl e = O.top ∨ ∃ T, Wk O A (at0 e) T (at1 e) (O.vl e)
def Dpt (O : RdO V) (A : List Ans) (n : Nat) (e : Ans) : Prop := ∀ T u, Wk O A (at0 e) T (at1 e) u → T.length ≤ n → O.le (O.vl e) u
/-- the rows of L have all that the steps reach -/
def RCl (A L : List Ans) : Prop := (∀ e ∈ L, e.1.length = 2) ∧ (∀ s ∈ A, s.1.length = 2) ∧ (∀ s ∈ A, ∃ e ∈ L, e.1 = s.1) ∧ ∀ c ∈ L, ∀ s ∈ A, at1 c = at0 s → ∃ e ∈ L, e.1 = [at0 c, at1 s]
theorem at0_of {e : Ans} {a b : Int32} (h : e.1 = [a, b]) : at0 e = a ∧ at1 e = b := by
  unfold at0 at1
  rw [h]
  exact ⟨rfl, rfl⟩
theorem row_of {e : Ans} (h : e.1.length = 2) : e.1 = [at0 e, at1 e] := row2 h
theorem Wk.row {L : List Ans} (hR : RCl A L) {x : Int32} {T : List Int32} {z : Int32} {v : V} (h : Wk O A x T z v) : ∃ e ∈ L, e.1 = [x, z] := by
  refine Wk.ind (P := fun _ z _ => ∃ e ∈ L, e.1 = [x, z]) ?_ ?_ h
  · intro s hs e
    obtain ⟨c, hc, ec⟩ := hR.2.2.1 s hs
    exact ⟨c, hc, by rw [ec, row_of (hR.2.1 s hs), e]⟩
  · intro T z v s _ hs e ih
    obtain ⟨c, hc, ec⟩ := ih
    obtain ⟨c0, c1⟩ := at0_of ec
    obtain ⟨d, hd, ed⟩ := hR.2.2.2 c hc s hs (by rw [c1, e])
    exact ⟨d, hd, by rw [ed, c0]⟩
theorem Snd.ok (hA : okA O A) {L : List Ans} (h : Snd O A L) : ∀ e ∈ L, O.ok (O.vl e) := fun e he => by
  rcases h e he with q | ⟨T, q⟩
  · rw [q]; exact O.tk
  · exact q.ok hA
theorem Btr.snd (hA : okA O A) (gA : ∀ s ∈ A, s.1.length = 2) {L : List Ans} (h : Snd O A L) {e : Ans} (he : e ∈ L) {v : V} (b : Btr O A L e v) : v = O.top ∨ ∃ T, Wk O A (at0 e) T (at1 e) v := by
  rcases b.2.2 with q | ⟨c, hc, s, hm, q⟩
  · rw [q]; exact h e he
  · obtain ⟨s0, s1⟩ := at0_of hm.2.1
    rcases h c hc with w | ⟨T, w⟩
    · refine Or.inl ?_
      rw [q, w]; exact O.tt (hA s hm.1)
    · refine Or.inr ⟨at1 e :: T, ?_⟩
      rw [q, ← hm.2.2]
      have := Wk.more T (at1 c) (O.vl c) s w hm.1 s0
      rw [s1] at this
      exact this
theorem Btr.dpt (hA : okA O A) {L : List Ans} (hR : RCl A L) (h : Snd O A L) {n : Nat} (hn : 1 ≤ n) (d : ∀ c ∈ L, Dpt O A n c) {e : Ans} (he : e ∈ L) {v : V} (b : Btr O A L e v) : ∀ T u, Wk O A (at0 e) T (at1 e) u → T.length ≤ n + 1 → O.le v u := by
  intro T u w hT
  have key : ∀ x T y u, Wk O A x T y u → x = at0 e → y = at1 e → T.length ≤ n + 1 → O.le v u := by
    intro x T y u w
    refine Wk.ind (P := fun T y u => x = at0 e → y = at1 e → T.length ≤ n + 1 → O.le v u) ?_ ?_ w
    · intro s hs e0 hx hy hT
      exact O.tr b.1 (d e he [at1 s] _ (by rw [← hx, ← hy]; exact Wk.one s hs e0) hn)
    · intro T z u s w hs e0 _ hx hy hT
      rw [List.length_cons] at hT
      obtain ⟨c, hc, ec⟩ := w.row hR
      obtain ⟨c0, c1⟩ := at0_of ec
      have hs2 := row_of (hR.2.1 s hs)
      refine O.tr (b.2.1 c hc s ⟨hs, by rw [hs2, e0, c1, hy], by rw [c0, hx]⟩) (O.mo (h.ok hA c hc) (w.ok hA) (hA s hs) (d c hc T u (by rw [c0, c1]; exact w) (by omega)))
  exact key _ T _ u w rfl rfl hT
theorem RCl.rows {L L2 : List Ans} (e : L.map (fun e => e.1) = L2.map (fun e => e.1)) (h : RCl A L) : RCl A L2 := by
  have f : ∀ a ∈ L, ∃ b ∈ L2, b.1 = a.1 := fun a ha => by
    have : a.1 ∈ L2.map (fun e => e.1) := by rw [← e]; exact List.mem_map.mpr ⟨a, ha, rfl⟩
    exact List.mem_map.mp this
  have g : ∀ a ∈ L2, ∃ b ∈ L, b.1 = a.1 := fun a ha => by
    have : a.1 ∈ L.map (fun e => e.1) := by rw [e]; exact List.mem_map.mpr ⟨a, ha, rfl⟩
    exact List.mem_map.mp this
  refine ⟨fun a ha => ?_, h.2.1, fun s hs => ?_, fun c hc s hs q => ?_⟩
  · obtain ⟨b, hb, eb⟩ := g a ha
    rw [← eb]; exact h.1 b hb
  · obtain ⟨b, hb, eb⟩ := h.2.2.1 s hs
    obtain ⟨c, hc, ec⟩ := f b hb
    exact ⟨c, hc, ec.trans eb⟩
  · obtain ⟨b, hb, eb⟩ := g c hc
    have b0 : at0 b = at0 c := by unfold at0; rw [eb]
    have b1 : at1 b = at1 c := by unfold at1; rw [eb]
    obtain ⟨d, hd, ed⟩ := h.2.2.2 b hb s hs (b1.trans q)
    obtain ⟨d2, hd2, ed2⟩ := f d hd
    exact ⟨d2, hd2, by rw [ed2, ed, b0]⟩
theorem set_rows {L : List Ans} {i : Nat} {e e2 : Ans} (h : L[i]? = some e) (er : e2.1 = e.1) : (L.set i e2).map (fun e => e.1) = L.map (fun e => e.1) := by
  apply List.ext_getElem?
  intro j
  rw [List.getElem?_map, List.getElem?_map, List.getElem?_set]
  have hi := (List.getElem?_eq_some_iff.mp h).1
  by_cases c : i = j
  · subst c
    rw [if_pos rfl, if_pos hi, h]
    show some e2.1 = some e.1
    rw [er]
  · rw [if_neg c]
def WI (O : RdO V) (A L : List Ans) (n i : Nat) : Prop := Snd O A L ∧ ∀ (j : Nat) e, L[j]? = some e → Dpt O A (if j < i then n + 1 else n) e
theorem WI.all {L : List Ans} {n i : Nat} (h : WI O A L n i) : ∀ c ∈ L, Dpt O A n c := fun c hc => by
  obtain ⟨j, hj, ej⟩ := List.mem_iff_getElem.mp hc
  intro T u w hT
  refine h.2 j c (by rw [List.getElem?_eq_getElem hj, ej]) T u w ?_
  split <;> omega
theorem WI.step (hA : okA O A) {L : List Ans} (hR : RCl A L) {n i : Nat} (hn : 1 ≤ n) (h : WI O A L n i) {e e2 : Ans} (he : L[i]? = some e) (er : e2.1 = e.1) (b : Btr O A L e (O.vl e2)) : WI O A (L.set i e2) n (i + 1) := by
  have em := List.mem_of_getElem? he
  have x0 : at0 e2 = at0 e := by unfold at0; rw [er]
  have x1 : at1 e2 = at1 e := by unfold at1; rw [er]
  refine ⟨fun a ha => ?_, fun j a ha => ?_⟩
  · rcases List.mem_or_eq_of_mem_set ha with q | q
    · exact h.1 a q
    · rw [q, x0, x1]
      exact b.snd hA hR.2.1 h.1 em
  · rw [List.getElem?_set] at ha
    by_cases c : i = j
    · subst c
      rw [if_pos rfl, if_pos (List.getElem?_eq_some_iff.mp he).1] at ha
      cases ha
      rw [if_pos (by omega)]
      unfold Dpt
      rw [x0, x1]
      exact b.dpt hA hR h.1 hn h.all em
    · rw [if_neg c] at ha
      have := h.2 j a ha
      by_cases c2 : j < i
      · rw [if_pos c2] at this
        rw [if_pos (by omega)]; exact this
      · rw [if_neg c2] at this
        rw [if_neg (by omega)]; exact this
theorem WI.next {L : List Ans} {n i : Nat} (hi : i = L.length) (h : WI O A L n i) : WI O A L (n + 1) 0 := ⟨h.1, fun j e he => by
  have := h.2 j e he
  rw [if_pos (by have := (List.getElem?_eq_some_iff.mp he).1; omega)] at this
  rw [if_neg (by omega)]
  exact this⟩
theorem WI.bst32 (hA : okA O A) (l32 : A.length ≤ 32) {L : List Ans} {n : Nat} (hn : 32 ≤ n) (h : WI O A L n 0) : ∀ e ∈ L, Bst O A (at0 e) (at1 e) (O.vl e) := fun e he => by
  refine ⟨fun T u w => ?_, h.1 e he⟩
  obtain ⟨T2, u2, w2, nd, l2⟩ := w.short hA
  refine O.tr (h.all e he T2 u2 w2 ?_) l2
  have := nd.length_le_of_subset (fun y hy => w2.tgt y hy)
  rw [List.length_map] at this
  omega
theorem WI.bstC (hA : okA O A) {L : List Ans} (hR : RCl A L) {n : Nat} (hn : 1 ≤ n) (h : WI O A L n 0) (cl : ∀ e ∈ L, ∀ c ∈ L, ∀ s, mt A c e s → O.le (O.vl e) (O.op (O.vl c) (O.vl s))) : ∀ e ∈ L, Bst O A (at0 e) (at1 e) (O.vl e) := fun e he => by
  refine ⟨fun T u w => ?_, h.1 e he⟩
  have key : ∀ x T y u, Wk O A x T y u → ∀ e ∈ L, e.1 = [x, y] → O.le (O.vl e) u := by
    intro x T y u w
    refine Wk.ind (P := fun T y u => ∀ e ∈ L, e.1 = [x, y] → O.le (O.vl e) u) ?_ ?_ w
    · intro s hs e0 e he ee
      obtain ⟨c0, c1⟩ := at0_of ee
      exact h.all e he [at1 s] _ (by rw [c0, c1]; exact Wk.one s hs e0) hn
    · intro T z u s w hs e0 ih e he ee
      obtain ⟨c, hc, ec⟩ := w.row hR
      obtain ⟨c0, c1⟩ := at0_of ec
      obtain ⟨d0, d1⟩ := at0_of ee
      refine O.tr (cl e he c hc s ⟨hs, by rw [row_of (hR.2.1 s hs), e0, c1, d1], by rw [c0, d0]⟩) (O.mo (h.1.ok hA c hc) (w.ok hA) (hA s hs) (ih c hc ec))
  exact key _ T _ u w e he (row_of (hR.1 e he))
/-- the two readings -/
def cOk (v : Int32) : Prop := ¬ v < 0 ∧ v ≤ 1000000000
theorem i32_0 : (0 : Int32).toInt = 0 := rfl
theorem i32_9 : (1000000000 : Int32).toInt = 1000000000 := rfl
theorem cOk_i {v : Int32} (h : cOk v) : 0 ≤ v.toInt ∧ v.toInt ≤ 1000000000 := by
  obtain ⟨h1, h2⟩ := h
  rw [Int32.lt_iff_toInt_lt, i32_0] at h1
  rw [Int32.le_iff_toInt_le, i32_9] at h2
  omega
theorem csB_i {v c : Int32} (h : cOk v) (k : cOk c) : (csB v c).toInt = if 1000000000 < v.toInt + c.toInt then 1000000000 else v.toInt + c.toInt := by
  have h1 := cOk_i h
  have k1 := cOk_i k
  have a : (v + c).toInt = v.toInt + c.toInt := by
    rw [Int32.toInt_add]
    apply Int.bmod_eq_of_le <;> omega
  unfold csB
  have q : (1000000000 : Int32) < v + c ↔ 1000000000 < v.toInt + c.toInt := by rw [Int32.lt_iff_toInt_lt, a, i32_9]
  by_cases z : (1000000000 : Int32) < v + c
  · rw [if_pos z, if_pos (q.mp z)]; rfl
  · rw [if_neg z, if_neg (fun y => z (q.mpr y))]; exact a
theorem rdC_law : RdLaw ((fun a b : Int32 => a ≤ b), cOk, csB, 1000000000, (fun e : Ans => e.2.2.2.1)) := by
  refine ⟨fun _ => Int32.le_refl _, fun _ _ _ h k => Int32.le_trans h k, fun _ _ h k => Int32.le_antisymm h k, fun v c h k => ?_, fun a b c ha hb hc l => ?_, fun v c h k => ?_, fun v h => h.2, by unfold cOk; decide, fun c k => ?_⟩
  · have h1 := cOk_i h
    have k1 := cOk_i k
    show v ≤ csB v c
    rw [Int32.le_iff_toInt_le, csB_i h k]
    split <;> omega
  · have l : a ≤ b := l
    have a1 := cOk_i ha
    have b1 := cOk_i hb
    have c1 := cOk_i hc
    show csB a c ≤ csB b c
    rw [Int32.le_iff_toInt_le] at l ⊢
    rw [csB_i ha hc, csB_i hb hc]
    split <;> split <;> omega
  · have h1 := cOk_i h
    have k1 := cOk_i k
    show cOk (csB v c)
    unfold cOk
    rw [Int32.lt_iff_toInt_lt, Int32.le_iff_toInt_le, csB_i h k, i32_0, i32_9]
    split <;> omega
  · have k1 := cOk_i k
    show csB 1000000000 c = 1000000000
    rw [← Int32.toInt_inj, csB_i (by unfold cOk; decide) k, i32_9]
    split <;> omega
theorem rdT_law : RdLaw ((fun a b : Int64 => b ≤ a), tru, mnT, 0, (fun e : Ans => e.2.2.2.2)) := by
  refine ⟨fun _ => Int64.le_refl _, fun _ _ _ h k => Int64.le_trans k h, fun _ _ h k => Int64.le_antisymm k h, fun v c h k => ?_, fun a b c ha hb hc l => ?_, fun v c h k => mnT_tru h k, fun v h => ?_, by unfold tru; decide, fun c k => ?_⟩
  · show mnT v c ≤ v
    unfold mnT
    split
    · rename_i q; exact Int64.le_of_lt q
    · exact Int64.le_refl _
  · show mnT b c ≤ mnT a c
    have l : b ≤ a := l
    unfold mnT
    rw [Int64.le_iff_toInt_le] at *
    simp only [Int64.lt_iff_toInt_lt]
    split <;> split <;> omega
  · show (0 : Int64) ≤ v
    exact Int64.not_lt.mp h.1
  · show mnT 0 c = 0
    unfold mnT
    rw [if_neg k.1]
def rdC : RdO Int32 := ⟨_, rdC_law⟩
def rdT : RdO Int64 := ⟨_, rdT_law⟩
end NC
