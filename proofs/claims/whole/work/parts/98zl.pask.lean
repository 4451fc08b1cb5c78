/-! ask: the class and the reference answer alike -/
section NW
theorem Good.len {c : Co} (W : WF c) {D : Nat → Bool} (cl : ∀ (i : Nat) q, c.2.2.1[i]? = some q → D i = true → ∀ j ∈ opsT q, D j = true) {T : Nat → List Ans} {n : Nat} (h : Good c D T n) : ∀ (i : Nat) q, i < n → D i = true → c.2.2.1[i]? = some q → (T i).length ≤ 32 := by
  intro i
  induction i using Nat.strongRecOn with
  | _ i ih =>
    intro q hi hd hq
    have w := h i q hi hd hq
    obtain ⟨g8, _⟩ := W.2.2.2.2.2.1 i q hq
    have cs : q.1 = 0 ∨ (q.1 = 1 ∨ q.1 = 2 ∨ q.1 = 7) ∨ q.1 = 3 ∨ q.1 = 4 ∨ q.1 = 5 ∨ q.1 = 6 := by omega
    rcases cs with z | z | z | z | z | z
    · exact (w.1 z).1
    · have mem : ix q.2.2.1 ∈ opsT q := by unfold opsT; rw [if_neg (by omega)]; exact List.mem_cons_self
      obtain ⟨a, p, hp⟩ := ops_lt W hq _ mem
      have l := ih _ a p (by omega) (cl i q hq hd _ mem) hp
      have f := List.length_filter_le (styP c.2.1 q (T (ix q.2.2.2.1))) (T (ix q.2.2.1))
      rw [(w.2.1 z).length_eq]
      omega
    · exact (w.2.2.1 z).1
    · exact (w.2.2.2.1 z).1
    · exact (w.2.2.2.2.1 z).1
    · obtain ⟨m, _, o⟩ := (w.2.2.2.2.2 z).1
      have := o.1
      rw [List.length_map] at this
      exact this
theorem P_ask {ad : Ad} {ct : Ct} {V : Vt} (W : WFv V) (v : Int32) : PR ad ct V (fun σ Q => wX11_ask (ad 12 0 0) v σ Q) (fun σ Q => wX16_ask (ad 17 0 0) v σ Q) := by
  have wf := W.1.wf
  have hl := wf.2.2.2.2.1
  cases e : qOf V v with
  | none =>
    have no : ∀ {q0 : Qst}, qOf V v = some q0 → False := fun z => by rw [e] at z; cases z
    exact ⟨-1, stV V 1, W, fun σ Q h R hQ => C_ask wf h R v (fun _ => hQ) (fun _ _ _ _ z => (no z).elim) (fun _ _ _ _ _ z => (no z).elim), fun σ Q h R hQ => M_ask W.2.1 wf h R v (fun _ => hQ) (fun _ _ _ _ z => (no z).elim) (fun _ _ _ _ _ z => (no z).elim)⟩
  | some q =>
    have non : qOf V v = none → False := fun z => by rw [e] at z; cases z
    by_cases P : ∃ r q0 T, v = nI r ∧ V.1.2.2.1[r]? = some q0 ∧ Good V.1 (duD V.1 r) T (r + 1) ∧ (T r).Pairwise (fun a b => rlt a.1 b.1)
    · obtain ⟨r, q0, T, ev, hr, G, so⟩ := P
      have hr1 := (List.getElem?_eq_some_iff.mp hr).1
      have uni : ∀ {r2 : Nat} {q2 : Qst}, v = nI r2 → V.1.2.2.1[r2]? = some q2 → r2 = r ∧ q2 = q0 := fun {r2 q2} e2 h2 => by
        have h21 := (List.getElem?_eq_some_iff.mp h2).1
        have z := congrArg Int32.toInt (ev.symm.trans e2)
        rw [nI_toInt (by omega), nI_toInt (by omega)] at z
        have er : r2 = r := by omega
        subst er
        rw [hr] at h2
        exact ⟨rfl, (Option.some.inj h2).symm⟩
      have cl := duD_cl wf r
      have same : ∀ {T2 : Nat → List Ans}, Good V.1 (duD V.1 r) T2 (r + 1) → (T2 r).Pairwise (fun a b => rlt a.1 b.1) → T2 r = T r := fun {T2} G2 s2 => rows_ext s2 so (fun x => (G2.same wf cl G r q0 (by omega) (duD_r r) hr).mem_iff)
      have gw6 := (wf.2.2.2.2.2.1 r q0 hr).2.2.1
      refine ⟨nI (T r).length, askV V (T r) q0.2.1 q0.2.2.2.2.1, ⟨W.1, W.2.1, G.len wf cl r q0 (by omega) (duD_r r) hr, gw6, so, G.can wf cl r q0 (by omega) (duD_r r) hr⟩, fun σ Q h R hQ => C_ask wf h R v (fun z => (non z).elim) (fun r2 q2 e2 h2 _ bad => ?_) (fun r2 q2 T2 e2 h2 _ G2 s2 => ?_), fun σ Q h R hQ => M_ask W.2.1 wf h R v (fun z => (non z).elim) (fun r2 q2 e2 h2 _ bad => ?_) (fun r2 q2 T2 e2 h2 _ G2 s2 => ?_)⟩
      · obtain ⟨rfl, rfl⟩ := uni e2 h2
        exact (G.bad wf cl bad).elim
      · obtain ⟨rfl, rfl⟩ := uni e2 h2
        rw [same G2 s2]; exact hQ
      · obtain ⟨rfl, rfl⟩ := uni e2 h2
        exact (G.bad wf cl bad).elim
      · obtain ⟨rfl, rfl⟩ := uni e2 h2
        rw [same G2 s2]; exact hQ
    · exact ⟨-1, stV V 5, W, fun σ Q h R hQ => C_ask wf h R v (fun z => (non z).elim) (fun _ _ _ _ _ _ => hQ) (fun r2 q2 T2 e2 h2 _ G2 s2 => (P ⟨r2, q2, T2, e2, h2, G2, s2⟩).elim), fun σ Q h R hQ => M_ask W.2.1 wf h R v (fun z => (non z).elim) (fun _ _ _ _ _ _ => hQ) (fun r2 q2 T2 e2 h2 _ G2 s2 => (P ⟨r2, q2, T2, e2, h2, G2, s2⟩).elim)⟩
theorem askP_all : AskP := fun ad ct V W => ⟨fun q => P_ask W q, fun i => P_chance W i, fun i f => P_share W i f, fun i => P_least W i, fun i f => P_blame W i f⟩
end NW
