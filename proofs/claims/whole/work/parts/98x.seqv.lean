/-! CLOSE: the rounds, in any order of the rows -/
section NI
theorem Sx_rndv {A K K' : List Ans} (gA : gdK A) (gK : gdK K) (o : OKv (rndR A K) K') (x y : Int32) (X : Int64) : Sx K' x y X ↔ Sx K x y X ∨ ∃ z, Sx K x z X ∧ Sx A z y X := by
  have put : ∀ it, it ∈ rndR A K → it.1 = [x, y] → Upw it.2.1 X → Sx K' x y X := fun it hi er ⟨w, hw, hX⟩ => by
    obtain ⟨e, he, ee⟩ := (o.2.2.1 [x, y]).mpr ⟨it, hi, er⟩
    refine ⟨e, he, ee, ((o.2.2.2 e he).2.2.2.2 X).mpr ⟨w, gath_mem.mpr ⟨it, hi, er.trans ee.symm, hw⟩, hX⟩⟩
  constructor
  · rintro ⟨e, he, ee, hX⟩
    obtain ⟨w, hw, hwX⟩ := ((o.2.2.2 e he).2.2.2.2 X).mp hX
    obtain ⟨it, hi, er, hwi⟩ := gath_mem.mp hw
    rw [ee] at er
    rcases rndR_mem.mp hi with h | ⟨c, hc, s, hs, es, rfl⟩
    · exact Or.inl ⟨it, h, er, w, hwi, hwX⟩
    · have er : [at0 c, at1 s] = [x, y] := er
      have e0 : at0 c = x := (List.cons.inj er).1
      have e1 : at1 s = y := (List.cons.inj (List.cons.inj er).2).1
      obtain ⟨h1, h2⟩ := up_uni.mp ⟨w, hwi, hwX⟩
      refine Or.inr ⟨at1 c, ⟨c, hc, ?_, h1⟩, ⟨s, hs, ?_, h2⟩⟩
      · rw [← e0]; exact row2 (gK c hc).1
      · rw [es, ← e1]; exact row2 (gA s hs).1
  · rintro (⟨e, he, ee, hX⟩ | ⟨z, ⟨c, hc, ec, hcX⟩, ⟨s, hs, es, hsX⟩⟩)
    · exact put e (rndR_mem.mpr (Or.inl he)) ee hX
    · have c0 : at0 c = x := by unfold at0; rw [ec]; rfl
      have c1 : at1 c = z := by unfold at1; rw [ec]; rfl
      have s0 : at0 s = z := by unfold at0; rw [es]; rfl
      have s1 : at1 s = y := by unfold at1; rw [es]; rfl
      refine put (stpJ c s) (rndR_mem.mpr (Or.inr ⟨c, hc, s, hs, by rw [c1, s0], rfl⟩)) ?_ (up_uni.mpr ⟨hcX, hsX⟩)
      show [at0 c, at1 s] = [x, y]
      rw [c0, s1]
theorem gdK_rndv {A K K' : List Ans} (gA : gdK A) (gK : gdK K) (o : OKv (rndR A K) K') : gdK K' := fun e he => by
  obtain ⟨it, hi, er⟩ := (o.2.2.1 e.1).mp ⟨e, he, rfl⟩
  have hn : it.1.length = 2 ∧ it.2.1 ≠ [] := by
    rcases rndR_mem.mp hi with h | ⟨c, hc, s, hs, es, rfl⟩
    · exact gK it h
    · refine ⟨rfl, fun z => ?_⟩
      have z : uni c.2.1 s.2.1 = [] := z
      have hc2 := (gK c hc).2
      have hs2 := (gA s hs).2
      cases hcc : c.2.1 with
      | nil => exact hc2 hcc
      | cons u t => cases hss : s.2.1 with
        | nil => exact hs2 hss
        | cons v q =>
          have : (u ||| v) ∈ uni c.2.1 s.2.1 := uni_mem.mpr ⟨u, by rw [hcc]; exact List.mem_cons_self, v, by rw [hss]; exact List.mem_cons_self, rfl⟩
          rw [z] at this
          cases this
  refine ⟨by rw [← er]; exact hn.1, fun z => ?_⟩
  cases hc : it.2.1 with
  | nil => exact hn.2 hc
  | cons u t =>
    have := ((o.2.2.2 e he).2.2.2.2 u).mpr ⟨u, gath_mem.mpr ⟨it, hi, er, by rw [hc]; exact List.mem_cons_self⟩, sb_rf u⟩
    obtain ⟨w, hw, _⟩ := this
    rw [z] at hw
    cases hw
/-- the n-th round's chains, in any order -/
def Seqv (A : List Ans) : Nat → List Ans → Prop
  | 0, K => K = A.map bare
  | n + 1, K => ∃ K0, Seqv A n K0 ∧ OKv (rndR A K0) K
theorem Seqv.gd {A : List Ans} (gA : gdK A) : ∀ {n : Nat} {K : List Ans}, Seqv A n K → gdK K
  | 0, _, h => fun e he => by
    rw [show _ = A.map bare from h] at he
    obtain ⟨a, ha, rfl⟩ := List.mem_map.mp he
    exact gA a ha
  | n + 1, _, ⟨K0, h1, h2⟩ => gdK_rndv gA (Seqv.gd gA h1) h2
theorem Seqv.fun {A : List Ans} : ∀ {n : Nat} {K : List Ans}, Seqv A n K → ∃ f : Nat → List Ans, f 0 = A.map bare ∧ f n = K ∧ ∀ m, m < n → OKv (rndR A (f m)) (f (m + 1))
  | 0, K, h => ⟨fun _ => K, h, rfl, fun m hm => absurd hm (Nat.not_lt_zero _)⟩
  | n + 1, K, ⟨K0, h1, h2⟩ => by
    obtain ⟨f, f0, fn, fs⟩ := Seqv.fun h1
    refine ⟨fun m => if m ≤ n then f m else K, ?_, ?_, fun m hm => ?_⟩
    · show (if 0 ≤ n then f 0 else K) = _
      rw [if_pos (Nat.zero_le _)]; exact f0
    · show (if n + 1 ≤ n then f (n + 1) else K) = K
      rw [if_neg (by omega)]
    · show OKv (rndR A (if m ≤ n then f m else K)) (if m + 1 ≤ n then f (m + 1) else K)
      by_cases c : m < n
      · rw [if_pos (by omega), if_pos (by omega)]; exact fs m c
      · have : m = n := by omega
        subst this
        rw [if_pos (Nat.le_refl _), if_neg (by omega), fn]; exact h2
theorem Seqv.at {A : List Ans} {f : Nat → List Ans} (f0 : f 0 = A.map bare) : ∀ {n : Nat}, (∀ m, m < n → OKv (rndR A (f m)) (f (m + 1))) → ∀ m, m ≤ n → Seqv A m (f m)
  | n, fs, 0, _ => f0
  | n, fs, m + 1, h => ⟨f m, Seqv.at f0 fs m (by omega), fs m (by omega)⟩
theorem Seqv.fix {A : List Ans} (gA : gdK A) (l32 : A.length ≤ 32) {K K' : List Ans} (h : Seqv A 32 K) (o : OKv (rndR A K) K') : ∀ e, e ∈ K' ↔ e ∈ K := by
  obtain ⟨g0, g00, g32, gs⟩ := Seqv.fun h
  obtain ⟨f, f0, e32, f33, fs⟩ : ∃ f : Nat → List Ans, f 0 = A.map bare ∧ f 32 = K ∧ f 33 = K' ∧ ∀ m, m < 33 → OKv (rndR A (f m)) (f (m + 1)) := by
    refine ⟨fun m => if m ≤ 32 then g0 m else K', ?_, ?_, ?_, fun m hm => ?_⟩
    · show (if 0 ≤ 32 then g0 0 else K') = _
      rw [if_pos (by decide)]; exact g00
    · show (if 32 ≤ 32 then g0 32 else K') = _
      rw [if_pos (by decide)]; exact g32
    · show (if 33 ≤ 32 then g0 33 else K') = _
      rw [if_neg (by decide)]
    · show OKv (rndR A (if m ≤ 32 then g0 m else K')) (if m + 1 ≤ 32 then g0 (m + 1) else K')
      by_cases c : m < 32
      · rw [if_pos (by omega), if_pos (by omega)]; exact gs m c
      · have : m = 32 := by omega
        subst this
        rw [if_pos (Nat.le_refl _), if_neg (by omega), g32]; exact o
  have g : ∀ m, m ≤ 33 → gdK (f m) := fun m hm => Seqv.gd gA (Seqv.at f0 fs m hm)
  have rel : ∀ m, m < 33 → ∀ x y X, Sx (f (m + 1)) x y X ↔ Sx (f m) x y X ∨ ∃ z, Sx (f m) x z X ∧ Sx A z y X := fun m hm x y X => Sx_rndv gA (g m (by omega)) (fs m hm) x y X
  have tgt : ∀ m, m ≤ 33 → ∀ x y X, Sx (f m) x y X → y ∈ A.map at1 := by
    intro m
    induction m with
    | zero =>
      intro _ x y X hS
      rw [f0, Sx_0] at hS
      obtain ⟨a, ha, ea, _⟩ := hS
      exact List.mem_map.mpr ⟨a, ha, by unfold at1; rw [ea]; rfl⟩
    | succ m ih =>
      intro hm x y X hS
      rcases (rel m (by omega) x y X).mp hS with q | ⟨z, _, ⟨a, ha, ea, _⟩⟩
      · exact ih (by omega) x y X q
      · exact List.mem_map.mpr ⟨a, ha, by unfold at1; rw [ea]; rfl⟩
  have stab : ∀ x X, ∀ y, Sx (f 33) x y X → Sx (f 32) x y X := by
    intro x X
    classical
    have sm : ∀ m, m < 33 → ∀ y, Sx (f m) x y X → Sx (f (m + 1)) x y X := fun m hm y q => (rel m hm x y X).mpr (Or.inl q)
    have nx : ∀ m, m + 1 < 33 → (∀ y, Sx (f (m + 1)) x y X → Sx (f m) x y X) → ∀ y, Sx (f (m + 2)) x y X → Sx (f (m + 1)) x y X := fun m hm q y hS => by
      rcases (rel (m + 1) hm x y X).mp hS with u | ⟨z, u1, u2⟩
      · exact u
      · exact (rel m (by omega) x y X).mpr (Or.inr ⟨z, q z u1, u2⟩)
    by_cases c : ∃ m, m ≤ 32 ∧ ∀ y, Sx (f (m + 1)) x y X → Sx (f m) x y X
    · obtain ⟨m, hm, q⟩ := c
      have : ∀ d, m + d ≤ 32 → ∀ y, Sx (f (m + d + 1)) x y X → Sx (f (m + d)) x y X := by
        intro d
        induction d with
        | zero => exact fun _ => q
        | succ d ih => exact fun hd => nx (m + d) (by omega) (ih (by omega))
      have := this (32 - m) (by omega)
      rw [show m + (32 - m) = 32 by omega] at this
      exact this
    · have grow : ∀ m, m ≤ 33 → m ≤ (A.map at1).countP (fun y => decide (Sx (f m) x y X)) := by
        intro m
        induction m with
        | zero => exact fun _ => Nat.zero_le _
        | succ m ih =>
          intro hm
          have := ih (by omega)
          by_cases c2 : ∀ y, Sx (f (m + 1)) x y X → Sx (f m) x y X
          · exact absurd ⟨m, by omega, c2⟩ c
          · obtain ⟨y, hy⟩ : ∃ y, Sx (f (m + 1)) x y X ∧ ¬ Sx (f m) x y X := by
              by_cases c3 : ∃ y, Sx (f (m + 1)) x y X ∧ ¬ Sx (f m) x y X
              · exact c3
              · exact absurd (fun y hS => by
                  by_cases z : Sx (f m) x y X
                  · exact z
                  · exact absurd ⟨y, hS, z⟩ c3) c2
            have := cnt_lt (T := A.map at1) (p := fun y => decide (Sx (f m) x y X)) (q := fun y => decide (Sx (f (m + 1)) x y X)) (fun y _ h => decide_eq_true (sm m (by omega) y (of_decide_eq_true h))) (tgt (m + 1) hm x y X hy.1) (decide_eq_true hy.1) (decide_eq_false hy.2)
            omega
      have a := grow 33 (Nat.le_refl _)
      have b := List.countP_le_length (p := fun y => decide (Sx (f 33) x y X)) (l := A.map at1)
      rw [List.length_map] at b
      omega
  have same : ∀ x y X, Sx (f 33) x y X ↔ Sx (f 32) x y X := fun x y X => ⟨stab x X y, fun q => (rel 32 (by decide) x y X).mpr (Or.inl q)⟩
  rw [← e32, ← f33]
  obtain ⟨K31, _, o32⟩ : ∃ K0, Seqv A 31 K0 ∧ OKv (rndR A K0) (f 32) := Seqv.at f0 fs 32 (by decide)
  have o33 := fs 32 (by decide)
  have key : ∀ {P Q : List Ans} {rp rq : List Ans}, OKv rp P → OKv rq Q → gdK P → gdK Q → (∀ x y X, Sx P x y X ↔ Sx Q x y X) → ∀ e, e ∈ P → e ∈ Q := fun {P Q rp rq} oP oQ gP gQ sE e he => by
    have e2 := row2 (gP e he).1
    have upE : ∀ X, Upw e.2.1 X ↔ Sx P (e.1.getD 0 0) (e.1.getD 1 0) X := fun X => by
      constructor
      · exact fun z => ⟨e, he, e2, z⟩
      · rintro ⟨g, hg, eg, z⟩
        have := (oP.2.2.2 g hg).one (oP.2.2.2 e he) (eg.trans e2.symm)
        rw [← this]; exact z
    cases hc : e.2.1 with
    | nil => exact absurd hc (gP e he).2
    | cons u t =>
      obtain ⟨g, hg, eg, _⟩ := (sE _ _ u).mp ((upE u).mp ⟨u, by rw [hc]; exact List.mem_cons_self, sb_rf u⟩)
      have er : g.1 = e.1 := eg.trans e2.symm
      have ww : e.2.1 = g.2.1 := by
        refine (oP.2.2.2 e he).2.2.one (oQ.2.2.2 g hg).2.2 (fun X => ?_)
        rw [← (oP.2.2.2 e he).2.2.2.2 X, ← (oQ.2.2.2 g hg).2.2.2.2 X, upE X, sE]
        constructor
        · rintro ⟨g2, hg2, eg2, z⟩
          have := (oQ.2.2.2 g2 hg2).one (oQ.2.2.2 g hg) (eg2.trans eg.symm)
          rw [← this]; exact z
        · exact fun z => ⟨g, hg, eg, z⟩
      have : e = g := by
        rw [(oP.2.2.2 e he).1, (oQ.2.2.2 g hg).1]
        unfold bare
        rw [er, ww]
      rw [this]; exact hg
  exact (fun e => ⟨key o33 o32 (g 33 (by decide)) (g 32 (by decide)) same e, key o32 o33 (g 32 (by decide)) (g 33 (by decide)) (fun x y X => (same x y X).symm) e⟩)
theorem Seqv.same {A B : List Ans} (p : A.Perm B) : ∀ {n : Nat} {K L : List Ans}, Seqn A n K → Seqv B n L → K.Perm L
  | 0, _, _, h, k => by
    rw [show _ = A.map bare from h, show _ = B.map bare from k]
    exact p.map _
  | n + 1, _, _, ⟨K0, h1, h2⟩, ⟨L0, k1, k2⟩ => by
    have q := Seqv.same p h1 k1
    exact (h2.v.perm (rndR_perm p q)).same k2
theorem Seqv.stay {A K : List Ans} {n : Nat} (h : Seqv A n K) (o : OKv (rndR A K) K) : ∀ d, Seqv A (n + d) K
  | 0 => h
  | d + 1 => ⟨K, Seqv.stay h o d, o⟩
theorem Seqv.pre {A K : List Ans} : ∀ {n : Nat} (d : Nat), Seqv A (n + d + 1) K → ∃ K0 K1, Seqv A n K0 ∧ OKv (rndR A K0) K1
  | n, 0, ⟨K0, h1, h2⟩ => ⟨K0, K, h1, h2⟩
  | n, d + 1, ⟨K0, h1, _⟩ => Seqv.pre d h1
def Clov (A K : List Ans) : Prop := ∃ n, Seqv A n K ∧ OKv (rndR A K) K
def ClXv (A : List Ans) : Prop := ∃ n K, Seqv A n K ∧ NOm (rndR A K)
theorem Clo.same {A B : List Ans} (p : A.Perm B) {K L : List Ans} (h : Clo A K) (k : Clov B L) : K.Perm L := by
  obtain ⟨n, h1, h2⟩ := h
  obtain ⟨m, k1, k2⟩ := k
  have a := h1.stay h2 m
  have b := k1.stay k2 n
  rw [Nat.add_comm] at b
  exact Seqv.same p a b
theorem Clo.nov {A B : List Ans} (p : A.Perm B) {K : List Ans} (h : Clo A K) (k : ClXv B) : False := by
  obtain ⟨n, h1, h2⟩ := h
  obtain ⟨m, L, k1, k2⟩ := k
  by_cases c : m < n
  · obtain ⟨d, rfl⟩ : ∃ d, n = m + d + 1 := ⟨n - m - 1, by omega⟩
    obtain ⟨K0, K1, q1, q2⟩ := Seqn.pre d h1
    exact (q2.v.perm (rndR_perm p (Seqv.same p q1 k1))).no k2
  · obtain ⟨d, rfl⟩ : ∃ d, m = n + d := ⟨m - n, by omega⟩
    exact (h2.v.perm (rndR_perm p (Seqv.same p (h1.stay h2 d) k1))).no k2
theorem Clov.no {A B : List Ans} (p : A.Perm B) {K : List Ans} (h : Clov B K) (k : CloX A) : False := by
  obtain ⟨n, h1, h2⟩ := h
  obtain ⟨m, L, k1, k2⟩ := k
  by_cases c : m < n
  · obtain ⟨d, rfl⟩ : ∃ d, n = m + d + 1 := ⟨n - m - 1, by omega⟩
    obtain ⟨K0, K1, q1, q2⟩ := Seqv.pre d h1
    exact (q2.perm (rndR_perm p.symm (Seqv.same p k1 q1).symm)).no k2
  · obtain ⟨d, rfl⟩ : ∃ d, m = n + d := ⟨m - n, by omega⟩
    exact (h2.perm (rndR_perm p.symm (Seqv.same p k1 (h1.stay h2 d)).symm)).no k2
theorem Seqv.has {A : List Ans} : ∀ {n : Nat} {K : List Ans}, Seqv A n K → ∀ s ∈ A, ∃ e ∈ K, e.1 = s.1
  | 0, _, h => fun s hs => ⟨bare s, by rw [show _ = A.map bare from h]; exact List.mem_map.mpr ⟨s, hs, rfl⟩, rfl⟩
  | _ + 1, _, ⟨K0, h, o⟩ => fun s hs => by
    obtain ⟨e, he, ee⟩ := h.has s hs
    exact (o.2.2.1 s.1).mpr ⟨e, rndR_mem.mpr (Or.inl he), ee⟩
theorem Clov.rcl {A K : List Ans} (gA : gdK A) {n : Nat} (h : Seqv A n K) (o : OKv (rndR A K) K) : RCl A K := by
  refine ⟨fun e he => (Seqv.gd gA h e he).1, fun s hs => (gA s hs).1, h.has, fun c hc s hs e => ?_⟩
  exact (o.2.2.1 [at0 c, at1 s]).mpr ⟨stpJ c s, rndR_mem.mpr (Or.inr ⟨c, hc, s, hs, e, rfl⟩), rfl⟩
end NI
