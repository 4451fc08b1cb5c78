/-! the class: CLOSE, whole -/
section NH
variable {ad : Ad} {ct : Ct} {σ : St}
theorem OKw.b {raw R : List Ans} (o : OKw raw R) : ∀ e ∈ R, e = bare e := fun e he => (o.2.2.2 e he).1
theorem Seqn.b {A : List Ans} : ∀ {n : Nat} {K : List Ans}, Seqn A n K → ∀ e ∈ K, e = bare e
  | 0, _, h => fun e he => by
    rw [show _ = A.map bare from h] at he
    obtain ⟨a, _, rfl⟩ := List.mem_map.mp he
    rfl
  | _ + 1, _, ⟨_, _, o⟩ => o.b
theorem Seqn.pw {A : List Ans} (hA : A.Pairwise (fun a b => rlt a.1 b.1)) : ∀ {n : Nat} {K : List Ans}, Seqn A n K → K.Pairwise (fun a b => rlt a.1 b.1)
  | 0, _, h => by
    rw [show _ = A.map bare from h, List.pairwise_map]
    exact hA
  | _ + 1, _, ⟨_, _, o⟩ => o.2.1
theorem Seqn.has {A : List Ans} : ∀ {n : Nat} {K : List Ans}, Seqn A n K → ∀ s ∈ A, ∃ e ∈ K, e.1 = s.1
  | 0, _, h => fun s hs => ⟨bare s, by rw [show _ = A.map bare from h]; exact List.mem_map.mpr ⟨s, hs, rfl⟩, rfl⟩
  | _ + 1, _, ⟨K0, h, o⟩ => fun s hs => by
    obtain ⟨e, he, ee⟩ := h.has s hs
    exact (o.2.2.1 s.1).mpr ⟨e, rndR_mem.mpr (Or.inl he), ee⟩
theorem Clo.rcl {A K : List Ans} (gA : gdK A) {n : Nat} (h : Seqn A n K) (o : OKw (rndR A K) K) : RCl A K := by
  refine ⟨fun e he => (Seqn.gd gA h e he).1, fun s hs => (gA s hs).1, h.has, fun c hc s hs e => ?_⟩
  exact (o.2.2.1 [at0 c, at1 s]).mpr ⟨stpJ c s, rndR_mem.mpr (Or.inr ⟨c, hc, s, hs, e, rfl⟩), rfl⟩
theorem C_workClose (h : Sh ad ct σ) (hw : Crw ad σ) {k s1 : Nat} {cl1 : Bool} {A : List Ans} (hk : k < 40) (hs1 : s1 < 40) (n1 : s1 ≠ k) (q1 : AR ad σ s1 A 2 cl1) (pA : A.Pairwise (fun a b => rlt a.1 b.1)) (gA : gdK A) (hC : okA rdC A) (hT : okA rdT A) {Q : Int32 → St → Prop} (h0 : ∀ σ', Fr ct (SWo k) σ σ' → Crw ad σ' → CloX A → Q 0 σ') (h1 : ∀ σ' R, Fr ct (SWo k) σ σ' → Crw ad σ' → AR ad σ' k R 2 true → Clo A (R.map bare) → Wgh A R → Q 1 σ') : wX4_workClose (ad 5 0 0) (ad 4 s1 0) (ad 4 k 0) σ Q := by
  have rm : ∀ s, s < 40 → room s = 32 := fun s hs => by unfold room; rw [if_neg (by omega)]
  have lA : A.length ≤ 32 := by have := q1.2.2.2.1; rw [rm s1 hs1] at this; exact this
  have nd : (A.map (fun e => e.1)).Nodup := rows_nd pA
  have mk : ∀ p, SN k p → SWo k p := fun p q => Or.inl (SN_r k p q)
  have mr : ∀ p, SRo p → SWo k p := fun p q => by
    rcases q with q | q
    · exact Or.inr (Or.inr (Or.inl q))
    · exact Or.inr (Or.inr (Or.inr (Or.inr (Or.inr (Or.inr q)))))
  have mg : ∀ p, S3g 41 p → SWo k p := fun p q => by rcases q with q | q | q | q <;> simp [SWo, SNr, q]
  have m3 : ∀ p : Nat × Nat, p = (3, k) → SWo k p := fun p q => Or.inl (Or.inr (Or.inl q))
  have q1f : ∀ {σ3 : St}, Fr ct (SWo k) σ σ3 → AR ad σ3 s1 A 2 cl1 := fun {σ3} F => by
    have n : ∀ c, (c = 4 ∨ c = 3 ∨ c = 128 ∨ c = 129 ∨ c = 192) → ¬ SWo k (c, s1) := fun c hc z => by
      simp only [SWo, SNr, Prod.mk.injEq] at z
      omega
    exact q1.cg h F (by omega) (n _ (by decide)) (n _ (by decide)) (n _ (by decide)) (n _ (by decide)) (n _ (by decide))
  have key : ∀ (d n : Nat) (M : List Ans) (σ3 : St), n + d = 32 → Fr ct (SWo k) σ σ3 → Crw ad σ3 → AR ad σ3 k M 2 true → Seqn A n (M.map bare) → lX4_workClose_7 Q (d + 1) (ad 5 0 0) (ad 4 s1 0) (ad 4 k 0) (nI n) σ3 := by
    intro d
    induction d with
    | zero =>
      intro n M σ3 hn F c q S
      have hn : n = 32 := by omega
      have h3 := h.frC (F.mono (SWo_SC k))
      have nM : (M.map (fun e => e.1)).Nodup := by
        rw [← bare_rows]; exact rows_nd (S.pw pA)
      refine ⟨fun z => absurd z (nI_ge (a := n) (b := 1000) (by omega) (by decide)), fun _ => ⟨k5 h3, C_reach h3 c hk hs1 (q1f F) q (fun σ4 f4 c4 no => ⟨fun _ => h0 σ4 (F.tr1 (f4.mono mr)) c4 ⟨n, _, S, no⟩, fun y => absurd rfl y⟩) (fun σ4 rs f4 c4 q4 hp hm => ⟨fun y => absurd y (by decide), fun _ => ?_⟩)⟩⟩
      have F4 := F.tr1 (f4.mono mr)
      have h4 := h.frC (F4.mono (SWo_SC k))
      have qk4 := q.ro h3 hk f4
      refine ⟨k5 h4, C_gatherRound h4 c4 hk hs1 (q1f F4) qk4 nd nM q4 hp hm (fun σ5 f5 no => ⟨fun y => absurd rfl y, fun _ => h0 σ5 (F4.tr1 (f5.mono mg)) (c4.cg h4 f5 (fun s' _ => by simp)) ⟨n, _, S, no⟩⟩) (fun σ5 R f5 q5 o => ⟨fun _ => ?_, fun y => absurd y (by decide)⟩)⟩
      have F5 := F4.tr1 (f5.mono mg)
      have h5 := h.frC (F5.mono (SWo_SC k))
      have c5 : Crw ad σ5 := c4.cg h4 f5 (fun s' _ => by simp)
      have qk5 := qk4.cg h4 f5 (by omega) (by simp) (by simp; omega) (by simp) (by simp; omega) (by simp)
      refine ⟨k5 h5, _, p261 h5, k4 h5 (by decide), C_sameWays h5 (by decide) q5 (by omega) qk5 (fun ne => ?_) (fun ee => ⟨fun y => absurd y (by decide), fun _ => ?_⟩)⟩
      · rw [hn] at S
        have fx := Seqn.fix gA lA S o
        exact absurd (by
          have := congrArg (fun l : List Ans => l.map (fun e => e.2.1)) fx
          simp only [List.map_map] at this
          exact this) ne
      · have o2 : R.map bare = M.map bare := same_end (S.pw pA) S.b o (by rw [List.map_map, List.map_map]; exact ee)
        rw [o2] at o
        have hR : RCl A M := (Clo.rcl gA S o).rows (bare_rows M)
        exact ⟨k5 h5, C_weighChains h5 c5 hk hs1 n1 (q1f F5) qk5 nd hC hT hR (fun σ6 R2 f6 q6 eB w => h1 σ6 R2 (F5.tr1 (f6.mono m3)) (c5.cg h5 f6 (fun s' _ => by simp)) q6 (by rw [eB]; exact ⟨n, S, o⟩) w)⟩
    | succ d ih =>
      intro n M σ3 hn F c q S
      have h3 := h.frC (F.mono (SWo_SC k))
      have nM : (M.map (fun e => e.1)).Nodup := by
        rw [← bare_rows]; exact rows_nd (S.pw pA)
      refine ⟨fun z => absurd z (nI_ge (a := n) (b := 1000) (by omega) (by decide)), fun _ => ⟨k5 h3, C_reach h3 c hk hs1 (q1f F) q (fun σ4 f4 c4 no => ⟨fun _ => h0 σ4 (F.tr1 (f4.mono mr)) c4 ⟨n, _, S, no⟩, fun y => absurd rfl y⟩) (fun σ4 rs f4 c4 q4 hp hm => ⟨fun y => absurd y (by decide), fun _ => ?_⟩)⟩⟩
      have F4 := F.tr1 (f4.mono mr)
      have h4 := h.frC (F4.mono (SWo_SC k))
      have qk4 := q.ro h3 hk f4
      refine ⟨k5 h4, C_gatherRound h4 c4 hk hs1 (q1f F4) qk4 nd nM q4 hp hm (fun σ5 f5 no => ⟨fun y => absurd rfl y, fun _ => h0 σ5 (F4.tr1 (f5.mono mg)) (c4.cg h4 f5 (fun s' _ => by simp)) ⟨n, _, S, no⟩⟩) (fun σ5 R f5 q5 o => ⟨fun _ => ?_, fun y => absurd y (by decide)⟩)⟩
      have F5 := F4.tr1 (f5.mono mg)
      have h5 := h.frC (F5.mono (SWo_SC k))
      have c5 : Crw ad σ5 := c4.cg h4 f5 (fun s' _ => by simp)
      have qk5 := qk4.cg h4 f5 (by omega) (by simp) (by simp; omega) (by simp) (by simp; omega) (by simp)
      refine ⟨k5 h5, _, p261 h5, k4 h5 (by decide), C_sameWays h5 (by decide) q5 (by omega) qk5 (fun ne => ⟨fun _ => ?_, fun y => absurd rfl y⟩) (fun ee => ⟨fun y => absurd y (by decide), fun _ => ?_⟩)⟩
      · have lR : R.length ≤ 32 := by have := q5.2.2.2.1; exact this
        refine ⟨k5 h5, _, p261 h5, k4 h5 (by omega), C_takeAll h5 c5 (by omega) (by decide) (by omega) q5 (by rw [rm k hk]; exact lR) (fun σ6 f6 c6 q6 => ?_)⟩
        rw [nI_1]
        exact ih (n + 1) R σ6 (by omega) (F5.tr1 (f6.mono mk)) c6 q6 ⟨_, S, o⟩
      · have o2 : R.map bare = M.map bare := same_end (S.pw pA) S.b o (by rw [List.map_map, List.map_map]; exact ee)
        rw [o2] at o
        have hR : RCl A M := (Clo.rcl gA S o).rows (bare_rows M)
        exact ⟨k5 h5, C_weighChains h5 c5 hk hs1 n1 (q1f F5) qk5 nd hC hT hR (fun σ6 R2 f6 q6 eB w => h1 σ6 R2 (F5.tr1 (f6.mono m3)) (c5.cg h5 f6 (fun s' _ => by simp)) q6 (by rw [eB]; exact ⟨n, S, o⟩) w)⟩
  exact ⟨k4 h (by omega), C_takeAll h hw (by omega) (by omega) n1 q1 (by rw [rm k hk]; exact lA) (fun σ2 f2 c2 q2 => ⟨33, key 32 0 A σ2 (by omega) (f2.mono mk) c2 (q2.weak (fun _ => rfl)) rfl⟩)⟩
end NH
