/-! CLOSE: the rounds -/
section NA
def at0 (e : Ans) : Int32 := e.1.getD 0 0
def at1 (e : Ans) : Int32 := e.1.getD 1 0
theorem row2 {l : List Int32} (h : l.length = 2) : l = [l.getD 0 0, l.getD 1 0] := by
  cases l with
  | nil => simp at h
  | cons a t => cases t with
    | nil => simp at h
    | cons b u => cases u with
      | nil => rfl
      | cons c v => simp at h
def bare (e : Ans) : Ans := (e.1, e.2.1, 0, 0, 0)
def stpJ (c s : Ans) : Ans := ([at0 c, at1 s], uni c.2.1 s.2.1, 0, 0, 0)
/-- what comes to a round: the chains, and each with one step more -/
def rndR (A K : List Ans) : List Ans := K ++ K.flatMap (fun c => (A.filter (fun s => decide (at1 c = at0 s))).map (stpJ c))
def MeW (raw : List Ans) (e : Ans) : Prop := e = bare e ∧ e.2.1.length ≤ 16 ∧ CW e.2.1 (gath raw e.1)
def OKw (raw R : List Ans) : Prop := R.length ≤ 32 ∧ R.Pairwise (fun a b => rlt a.1 b.1) ∧ rowsEq raw R ∧ ∀ e ∈ R, MeW raw e
def OKv (raw R : List Ans) : Prop := R.length ≤ 32 ∧ (R.map (fun e => e.1)).Nodup ∧ rowsEq raw R ∧ ∀ e ∈ R, MeW raw e
theorem MeW.one {raw : List Ans} {e f : Ans} (h : MeW raw e) (k : MeW raw f) (er : e.1 = f.1) : e = f := by
  have w : e.2.1 = f.2.1 := h.2.2.one k.2.2 (fun X => by rw [er])
  rw [h.1, k.1]
  unfold bare
  rw [er, w]
theorem OKw.v {raw R : List Ans} (h : OKw raw R) : OKv raw R := ⟨h.1, rows_nd h.2.1, h.2.2⟩
theorem OKv.nd {raw R : List Ans} (h : OKv raw R) : R.Nodup := by
  have := h.2.1
  unfold List.Nodup at this
  rw [List.pairwise_map] at this
  exact this.imp (fun {a b} z e => z (by rw [e]))
theorem OKv.same {raw R S : List Ans} (h : OKv raw R) (k : OKv raw S) : R.Perm S := by
  rw [List.perm_ext_iff_of_nodup h.nd k.nd]
  intro e
  constructor
  · intro he
    obtain ⟨f, hf, er⟩ := (k.2.2.1 e.1).mpr ((h.2.2.1 e.1).mp ⟨e, he, rfl⟩)
    rw [← (k.2.2.2 f hf).one (h.2.2.2 e he) er]; exact hf
  · intro he
    obtain ⟨f, hf, er⟩ := (h.2.2.1 e.1).mpr ((k.2.2.1 e.1).mp ⟨e, he, rfl⟩)
    rw [← (h.2.2.2 f hf).one (k.2.2.2 e he) er]; exact hf
theorem OKw.one {raw R S : List Ans} (h : OKw raw R) (k : OKw raw S) : R = S := rows_ext h.2.1 k.2.1 (fun e => (h.v.same k.v).mem_iff)
theorem MeW.perm {a b : List Ans} (p : a.Perm b) {e : Ans} (h : MeW a e) : MeW b e := ⟨h.1, h.2.1, h.2.2.1, h.2.2.2.1, fun X => (h.2.2.2.2 X).trans (up_perm (gath_perm p _) X)⟩
theorem OKv.perm {a b R : List Ans} (p : a.Perm b) (h : OKv a R) : OKv b R := ⟨h.1, h.2.1, h.2.2.1.perm p, fun e he => (h.2.2.2 e he).perm p⟩
theorem OKv.no {raw R : List Ans} (h : OKv raw R) (k : NOm raw) : False := by
  rcases k with ⟨l, h1, h2, h3⟩ | ⟨r, l, h1, h2, h3⟩
  · have : l.length ≤ (R.map (fun e => e.1)).length := h1.length_le_of_subset (fun r hr => by
      obtain ⟨e, he, er⟩ := (h.2.2.1 r).mpr (h3 r hr)
      exact List.mem_map.mpr ⟨e, he, er⟩)
    rw [List.length_map] at this
    have := h.1
    omega
  · cases l with
    | nil => exact absurd h2 (Nat.not_lt_zero _)
    | cons x0 l0 =>
      obtain ⟨y, hy, ey, _⟩ := gath_mem.mp (h3 x0 List.mem_cons_self).1
      obtain ⟨e, he, er⟩ := (h.2.2.1 r).mpr ⟨y, hy, ey⟩
      have me := h.2.2.2 e he
      have : (x0 :: l0).length ≤ e.2.1.length := h1.length_le_of_subset (fun x hx => me.2.2.min (by rw [er]; exact (h3 x hx).1) (by rw [er]; exact (h3 x hx).2))
      have := me.2.1
      omega
theorem rndR_perm {A B K L : List Ans} (p : A.Perm B) (q : K.Perm L) : (rndR A K).Perm (rndR B L) := by
  unfold rndR
  refine q.append ?_
  refine (q.flatMap_right _).trans ?_
  have : ∀ c : Ans, ((A.filter (fun s => decide (at1 c = at0 s))).map (stpJ c)).Perm ((B.filter (fun s => decide (at1 c = at0 s))).map (stpJ c)) := fun c => (p.filter _).map _
  clear q
  induction L with
  | nil => exact List.Perm.refl _
  | cons c L ih =>
    rw [List.flatMap_cons, List.flatMap_cons]
    exact (this c).append ih
theorem rndR_mem {A K : List Ans} {x : Ans} : x ∈ rndR A K ↔ x ∈ K ∨ ∃ c ∈ K, ∃ s ∈ A, at1 c = at0 s ∧ x = stpJ c s := by
  unfold rndR
  rw [List.mem_append, List.mem_flatMap]
  constructor
  · rintro (h | ⟨c, hc, h⟩)
    · exact Or.inl h
    · obtain ⟨s, hs, rfl⟩ := List.mem_map.mp h
      rw [List.mem_filter] at hs
      exact Or.inr ⟨c, hc, s, hs.1, of_decide_eq_true hs.2, rfl⟩
  · rintro (h | ⟨c, hc, s, hs, e, rfl⟩)
    · exact Or.inl h
    · exact Or.inr ⟨c, hc, List.mem_map.mpr ⟨s, List.mem_filter.mpr ⟨hs, decide_eq_true e⟩, rfl⟩⟩
theorem uni_mem {a b : List Int64} {x : Int64} : x ∈ uni a b ↔ ∃ u ∈ a, ∃ v ∈ b, x = u ||| v := by
  unfold uni
  rw [List.mem_flatMap]
  constructor
  · rintro ⟨u, hu, h⟩
    obtain ⟨v, hv, rfl⟩ := List.mem_map.mp h
    exact ⟨u, hu, v, hv, rfl⟩
  · rintro ⟨u, hu, v, hv, rfl⟩
    exact ⟨u, hu, List.mem_map.mpr ⟨v, hv, rfl⟩⟩
theorem up_uni {a b : List Int64} {X : Int64} : Upw (uni a b) X ↔ Upw a X ∧ Upw b X := by
  constructor
  · rintro ⟨x, hx, h⟩
    obtain ⟨u, hu, v, hv, rfl⟩ := uni_mem.mp hx
    exact ⟨⟨u, hu, (sb_or.mp h).1⟩, ⟨v, hv, (sb_or.mp h).2⟩⟩
  · rintro ⟨⟨u, hu, h1⟩, ⟨v, hv, h2⟩⟩
    exact ⟨u ||| v, uni_mem.mpr ⟨u, hu, v, hv, rfl⟩, sb_or.mpr ⟨h1, h2⟩⟩
/-- y is reached from x with the facts of X -/
def Sx (K : List Ans) (x y : Int32) (X : Int64) : Prop := ∃ e ∈ K, e.1 = [x, y] ∧ Upw e.2.1 X
def gdK (K : List Ans) : Prop := ∀ e ∈ K, e.1.length = 2 ∧ e.2.1 ≠ []
theorem Sx_rnd {A K K' : List Ans} (gA : gdK A) (gK : gdK K) (o : OKw (rndR A K) K') (x y : Int32) (X : Int64) : Sx K' x y X ↔ Sx K x y X ∨ ∃ z, Sx K x z X ∧ Sx A z y X := by
  have put : ∀ it, it ∈ rndR A K → it.1 = [x, y] → Upw it.2.1 X → Sx K' x y X := fun it hi er ⟨w, hw, hX⟩ => by
    obtain ⟨e, he, ee⟩ := (o.2.2.1 [x, y]).mpr ⟨it, hi, er⟩
    refine ⟨e, he, ee, ((o.2.2.2 e he).2.2.2.2 X).mpr ⟨w, gath_mem.mpr ⟨it, hi, er.trans ee.symm, hw⟩, hX⟩⟩
  constructor
  · rintro ⟨e, he, ee, hX⟩
    obtain ⟨w, hw, hwX⟩ := ((o.2.2.2 e he).2.2.2.2 X).mp hX
    obtain ⟨it, hi, er, hwi⟩ := gath_mem.mp hw
    rw [ee] at er
    rcases rndR_mem.mp hi with h | ⟨c, hc, s, hs, es, rfl⟩
    · exact Or.inl ⟨it, h, er, w, hwi, hwX⟩
    · have er : [at0 c, at1 s] = [x, y] := er
      have e0 : at0 c = x := (List.cons.inj er).1
      have e1 : at1 s = y := (List.cons.inj (List.cons.inj er).2).1
      obtain ⟨h1, h2⟩ := up_uni.mp ⟨w, hwi, hwX⟩
      refine Or.inr ⟨at1 c, ⟨c, hc, ?_, h1⟩, ⟨s, hs, ?_, h2⟩⟩
      · rw [← e0]; exact row2 (gK c hc).1
      · rw [es, ← e1]; exact row2 (gA s hs).1
  · rintro (⟨e, he, ee, hX⟩ | ⟨z, ⟨c, hc, ec, hcX⟩, ⟨s, hs, es, hsX⟩⟩)
    · exact put e (rndR_mem.mpr (Or.inl he)) ee hX
    · have c0 : at0 c = x := by unfold at0; rw [ec]; rfl
      have c1 : at1 c = z := by unfold at1; rw [ec]; rfl
      have s0 : at0 s = z := by unfold at0; rw [es]; rfl
      have s1 : at1 s = y := by unfold at1; rw [es]; rfl
      refine put (stpJ c s) (rndR_mem.mpr (Or.inr ⟨c, hc, s, hs, by rw [c1, s0], rfl⟩)) ?_ (up_uni.mpr ⟨hcX, hsX⟩)
      show [at0 c, at1 s] = [x, y]
      rw [c0, s1]
theorem gdK_rnd {A K K' : List Ans} (gA : gdK A) (gK : gdK K) (o : OKw (rndR A K) K') : gdK K' := fun e he => by
  obtain ⟨it, hi, er⟩ := (o.2.2.1 e.1).mp ⟨e, he, rfl⟩
  have hn : it.1.length = 2 ∧ it.2.1 ≠ [] := by
    rcases rndR_mem.mp hi with h | ⟨c, hc, s, hs, es, rfl⟩
    · exact gK it h
    · refine ⟨rfl, fun z => ?_⟩
      have z : uni c.2.1 s.2.1 = [] := z
      have hc2 := (gK c hc).2
      have hs2 := (gA s hs).2
      cases hcc : c.2.1 with
      | nil => exact hc2 hcc
      | cons u t => cases hss : s.2.1 with
        | nil => exact hs2 hss
        | cons v q =>
          have : (u ||| v) ∈ uni c.2.1 s.2.1 := uni_mem.mpr ⟨u, by rw [hcc]; exact List.mem_cons_self, v, by rw [hss]; exact List.mem_cons_self, rfl⟩
          rw [z] at this
          cases this
  refine ⟨by rw [← er]; exact hn.1, fun z => ?_⟩
  cases hc : it.2.1 with
  | nil => exact hn.2 hc
  | cons u t =>
    have := ((o.2.2.2 e he).2.2.2.2 u).mpr ⟨u, gath_mem.mpr ⟨it, hi, er, by rw [hc]; exact List.mem_cons_self⟩, sb_rf u⟩
    obtain ⟨w, hw, _⟩ := this
    rw [z] at hw
    cases hw
theorem cnt_lt {T : List Int32} {p q : Int32 → Bool} (h : ∀ y ∈ T, p y = true → q y = true) {y : Int32} (hy : y ∈ T) (hq : q y = true) (hp : p y = false) : T.countP p < T.countP q := by
  induction T with
  | nil => cases hy
  | cons a T ih =>
    rw [List.countP_cons, List.countP_cons]
    have mono : T.countP p ≤ T.countP q := List.countP_mono_left (fun z hz hpz => h z (List.mem_cons_of_mem _ hz) hpz)
    rcases List.mem_cons.mp hy with e | e
    · subst e
      rw [hp, hq]
      simp
      omega
    · have := ih (fun z hz => h z (List.mem_cons_of_mem _ hz)) e
      have ha := h a List.mem_cons_self
      by_cases c : p a = true
      · rw [c, ha c]; simp; exact this
      · have c : p a = false := by cases z : p a with | true => exact absurd z c | false => rfl
        rw [c]
        simp
        omega
/-- the n-th round's chains -/
def Seqn (A : List Ans) : Nat → List Ans → Prop
  | 0, K => K = A.map bare
  | n + 1, K => ∃ K0, Seqn A n K0 ∧ OKw (rndR A K0) K
theorem Seqn.one {A : List Ans} : ∀ {n : Nat} {K L : List Ans}, Seqn A n K → Seqn A n L → K = L
  | 0, _, _, h, k => h.trans k.symm
  | n + 1, _, _, ⟨K0, h1, h2⟩, ⟨L0, k1, k2⟩ => by
    have := Seqn.one h1 k1
    subst this
    exact h2.one k2
theorem Seqn.gd {A : List Ans} (gA : gdK A) : ∀ {n : Nat} {K : List Ans}, Seqn A n K → gdK K
  | 0, _, h => fun e he => by
    rw [show _ = A.map bare from h] at he
    obtain ⟨a, ha, rfl⟩ := List.mem_map.mp he
    exact gA a ha
  | n + 1, _, ⟨K0, h1, h2⟩ => gdK_rnd gA (Seqn.gd gA h1) h2
theorem Sx_0 {A : List Ans} {x y : Int32} {X : Int64} : Sx (A.map bare) x y X ↔ Sx A x y X := by
  constructor
  · rintro ⟨e, he, r⟩
    obtain ⟨a, ha, rfl⟩ := List.mem_map.mp he
    exact ⟨a, ha, r⟩
  · rintro ⟨a, ha, r⟩
    exact ⟨bare a, List.mem_map.mpr ⟨a, ha, rfl⟩, r⟩
theorem Seqn.fun {A : List Ans} : ∀ {n : Nat} {K : List Ans}, Seqn A n K → ∃ f : Nat → List Ans, f 0 = A.map bare ∧ f n = K ∧ ∀ m, m < n → OKw (rndR A (f m)) (f (m + 1))
  | 0, K, h => ⟨fun _ => K, h, rfl, fun m hm => absurd hm (Nat.not_lt_zero _)⟩
  | n + 1, K, ⟨K0, h1, h2⟩ => by
    obtain ⟨f, f0, fn, fs⟩ := Seqn.fun h1
    refine ⟨fun m => if m ≤ n then f m else K, ?_, ?_, fun m hm => ?_⟩
    · show (if 0 ≤ n then f 0 else K) = _
      rw [if_pos (Nat.zero_le _)]; exact f0
    · show (if n + 1 ≤ n then f (n + 1) else K) = K
      rw [if_neg (by omega)]
    · show OKw (rndR A (if m ≤ n then f m else K)) (if m + 1 ≤ n then f (m + 1) else K)
      by_cases c : m < n
      · rw [if_pos (by omega), if_pos (by omega)]; exact fs m c
      · have : m = n := by omega
        subst this
        rw [if_pos (Nat.le_refl _), if_neg (by omega), fn]; exact h2
theorem Seqn.at {A : List Ans} {f : Nat → List Ans} (f0 : f 0 = A.map bare) : ∀ {n : Nat}, (∀ m, m < n → OKw (rndR A (f m)) (f (m + 1))) → ∀ m, m ≤ n → Seqn A m (f m)
  | n, fs, 0, _ => f0
  | n, fs, m + 1, h => ⟨f m, Seqn.at f0 fs m (by omega), fs m (by omega)⟩
theorem Seqn.fix {A : List Ans} (gA : gdK A) (l32 : A.length ≤ 32) {K K' : List Ans} (h : Seqn A 32 K) (o : OKw (rndR A K) K') : K' = K := by
  obtain ⟨f, f0, f33, fs⟩ := Seqn.fun (n := 33) ⟨K, h, o⟩
  have g : ∀ m, m ≤ 33 → gdK (f m) := fun m hm => Seqn.gd gA (Seqn.at f0 fs m hm)
  have e32 : f 32 = K := Seqn.one (Seqn.at f0 fs 32 (by decide)) h
  have rel : ∀ m, m < 33 → ∀ x y X, Sx (f (m + 1)) x y X ↔ Sx (f m) x y X ∨ ∃ z, Sx (f m) x z X ∧ Sx A z y X := fun m hm x y X => Sx_rnd gA (g m (by omega)) (fs m hm) x y X
  have tgt : ∀ m, m ≤ 33 → ∀ x y X, Sx (f m) x y X → y ∈ A.map at1 := by
    intro m
    induction m with
    | zero =>
      intro _ x y X hS
      rw [f0, Sx_0] at hS
      obtain ⟨a, ha, ea, _⟩ := hS
      exact List.mem_map.mpr ⟨a, ha, by unfold at1; rw [ea]; rfl⟩
    | succ m ih =>
      intro hm x y X hS
      rcases (rel m (by omega) x y X).mp hS with q | ⟨z, _, ⟨a, ha, ea, _⟩⟩
      · exact ih (by omega) x y X q
      · exact List.mem_map.mpr ⟨a, ha, by unfold at1; rw [ea]; rfl⟩
  have stab : ∀ x X, ∀ y, Sx (f 33) x y X → Sx (f 32) x y X := by
    intro x X
    classical
    have sm : ∀ m, m < 33 → ∀ y, Sx (f m) x y X → Sx (f (m + 1)) x y X := fun m hm y q => (rel m hm x y X).mpr (Or.inl q)
    have nx : ∀ m, m + 1 < 33 → (∀ y, Sx (f (m + 1)) x y X → Sx (f m) x y X) → ∀ y, Sx (f (m + 2)) x y X → Sx (f (m + 1)) x y X := fun m hm q y hS => by
      rcases (rel (m + 1) hm x y X).mp hS with u | ⟨z, u1, u2⟩
      · exact u
      · exact (rel m (by omega) x y X).mpr (Or.inr ⟨z, q z u1, u2⟩)
    by_cases c : ∃ m, m ≤ 32 ∧ ∀ y, Sx (f (m + 1)) x y X → Sx (f m) x y X
    · obtain ⟨m, hm, q⟩ := c
      have : ∀ d, m + d ≤ 32 → ∀ y, Sx (f (m + d + 1)) x y X → Sx (f (m + d)) x y X := by
        intro d
        induction d with
        | zero => exact fun _ => q
        | succ d ih => exact fun hd => nx (m + d) (by omega) (ih (by omega))
      have := this (32 - m) (by omega)
      rw [show m + (32 - m) = 32 by omega] at this
      exact this
    · have grow : ∀ m, m ≤ 33 → m ≤ (A.map at1).countP (fun y => decide (Sx (f m) x y X)) := by
        intro m
        induction m with
        | zero => exact fun _ => Nat.zero_le _
        | succ m ih =>
          intro hm
          have := ih (by omega)
          by_cases c2 : ∀ y, Sx (f (m + 1)) x y X → Sx (f m) x y X
          · exact absurd ⟨m, by omega, c2⟩ c
          · obtain ⟨y, hy⟩ : ∃ y, Sx (f (m + 1)) x y X ∧ ¬ Sx (f m) x y X := by
              by_cases c3 : ∃ y, Sx (f (m + 1)) x y X ∧ ¬ Sx (f m) x y X
              · exact c3
              · exact absurd (fun y hS => by
                  by_cases z : Sx (f m) x y X
                  · exact z
                  · exact absurd ⟨y, hS, z⟩ c3) c2
            have := cnt_lt (T := A.map at1) (p := fun y => decide (Sx (f m) x y X)) (q := fun y => decide (Sx (f (m + 1)) x y X)) (fun y _ h => decide_eq_true (sm m (by omega) y (of_decide_eq_true h))) (tgt (m + 1) hm x y X hy.1) (decide_eq_true hy.1) (decide_eq_false hy.2)
            omega
      have a := grow 33 (Nat.le_refl _)
      have b := List.countP_le_length (p := fun y => decide (Sx (f 33) x y X)) (l := A.map at1)
      rw [List.length_map] at b
      omega
  have same : ∀ x y X, Sx (f 33) x y X ↔ Sx (f 32) x y X := fun x y X => ⟨stab x X y, fun q => (rel 32 (by decide) x y X).mpr (Or.inl q)⟩
  rw [← e32, ← f33]
  obtain ⟨K31, _, o32⟩ : ∃ K0, Seqn A 31 K0 ∧ OKw (rndR A K0) (f 32) := Seqn.at f0 fs 32 (by decide)
  have o33 := fs 32 (by decide)
  have key : ∀ {P Q : List Ans} {rp rq : List Ans}, OKw rp P → OKw rq Q → gdK P → gdK Q → (∀ x y X, Sx P x y X ↔ Sx Q x y X) → ∀ e, e ∈ P → e ∈ Q := fun {P Q rp rq} oP oQ gP gQ sE e he => by
    have e2 := row2 (gP e he).1
    have upE : ∀ X, Upw e.2.1 X ↔ Sx P (e.1.getD 0 0) (e.1.getD 1 0) X := fun X => by
      constructor
      · exact fun z => ⟨e, he, e2, z⟩
      · rintro ⟨g, hg, eg, z⟩
        have := (oP.2.2.2 g hg).one (oP.2.2.2 e he) (eg.trans e2.symm)
        rw [← this]; exact z
    cases hc : e.2.1 with
    | nil => exact absurd hc (gP e he).2
    | cons u t =>
      obtain ⟨g, hg, eg, _⟩ := (sE _ _ u).mp ((upE u).mp ⟨u, by rw [hc]; exact List.mem_cons_self, sb_rf u⟩)
      have er : g.1 = e.1 := eg.trans e2.symm
      have ww : e.2.1 = g.2.1 := by
        refine (oP.2.2.2 e he).2.2.one (oQ.2.2.2 g hg).2.2 (fun X => ?_)
        rw [← (oP.2.2.2 e he).2.2.2.2 X, ← (oQ.2.2.2 g hg).2.2.2.2 X, upE X, sE]
        constructor
        · rintro ⟨g2, hg2, eg2, z⟩
          have := (oQ.2.2.2 g2 hg2).one (oQ.2.2.2 g hg) (eg2.trans eg.symm)
          rw [← this]; exact z
        · exact fun z => ⟨g, hg, eg, z⟩
      have : e = g := by
        rw [(oP.2.2.2 e he).1, (oQ.2.2.2 g hg).1]
        unfold bare
        rw [er, ww]
      rw [this]; exact hg
  exact rows_ext o33.2.1 o32.2.1 (fun e => ⟨key o33 o32 (g 33 (by decide)) (g 32 (by decide)) same e, key o32 o33 (g 32 (by decide)) (g 33 (by decide)) (fun x y X => (same x y X).symm) e⟩)
/-- the rounds end with K; they fail -/
def Clo (A K : List Ans) : Prop := ∃ n, Seqn A n K ∧ OKw (rndR A K) K
def CloX (A : List Ans) : Prop := ∃ n K, Seqn A n K ∧ NOm (rndR A K)
theorem Seqn.stay {A K : List Ans} {n : Nat} (h : Seqn A n K) (o : OKw (rndR A K) K) : ∀ d, Seqn A (n + d) K
  | 0 => h
  | d + 1 => ⟨K, Seqn.stay h o d, o⟩
theorem Clo.one {A K L : List Ans} (h : Clo A K) (k : Clo A L) : K = L := by
  obtain ⟨n, h1, h2⟩ := h
  obtain ⟨m, k1, k2⟩ := k
  have a := h1.stay h2 m
  have b := k1.stay k2 n
  rw [Nat.add_comm] at b
  exact a.one b
theorem Seqn.pre {A K : List Ans} : ∀ {n : Nat} (d : Nat), Seqn A (n + d + 1) K → ∃ K0 K1, Seqn A n K0 ∧ OKw (rndR A K0) K1
  | n, 0, ⟨K0, h1, h2⟩ => ⟨K0, K, h1, h2⟩
  | n, d + 1, ⟨K0, h1, _⟩ => Seqn.pre d h1
theorem Clo.no {A K : List Ans} (h : Clo A K) (k : CloX A) : False := by
  obtain ⟨n, h1, h2⟩ := h
  obtain ⟨m, L, k1, k2⟩ := k
  by_cases c : m < n
  · obtain ⟨d, rfl⟩ : ∃ d, n = m + d + 1 := ⟨n - m - 1, by omega⟩
    obtain ⟨K0, K1, q1, q2⟩ := Seqn.pre d h1
    rw [Seqn.one k1 q1] at k2
    exact q2.v.no k2
  · obtain ⟨d, rfl⟩ : ∃ d, m = n + d := ⟨m - n, by omega⟩
    rw [Seqn.one k1 (h1.stay h2 d)] at k2
    exact h2.v.no k2
end NA
