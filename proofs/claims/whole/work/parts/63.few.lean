/-! the reference: the few facts of an answer -/
section KF
variable {ad : Ad} {ct : Ct} {σ : St}
abbrev S6 : Nat × Nat → Prop := fun p => p = (17, 0) ∨ p = (1060, 0) ∨ p = (1061, 0) ∨ p = (1063, 0)
theorem rmF (h : Sh ad ct σ) {V : Vt} (hl : V.2.1.length ≤ 100) (R : RM ad σ V) {ρ : St} (f : Fr ct S6 σ ρ) (e : ∀ g, g = 1025 ∨ g = 1027 ∨ g = 1028 ∨ g = 1029 ∨ g = 1030 ∨ g = 1057 → zFi ρ g (ad 17 0 0) = zFi σ g (ad 17 0 0)) : RM ad ρ V := by
  obtain ⟨h1, h2, h3, h4, h5, h6, h7⟩ := R
  exact ⟨h1.cg h f (by decide) (e _ (by decide)), h2.cg h f (by decide) (by decide) (by decide) (by decide) (by decide) (by decide) (by decide) (e _ (by decide)), h3.cg h f (fun g g1 g2 q => by rcases q with q | q | q | q <;> cases q <;> omega) (e _ (by decide)), h4.cg h f (fun k _ => ⟨by simp, by simp, by simp⟩), h5.cg h f (by decide) (fun i _ => ⟨by simp, by simp, by simp, by simp⟩) (e _ (by decide)) hl, h6.cg h f (by decide) (fun g g1 g2 q => by rcases q with q | q | q | q <;> cases q) (e _ (by decide)), (e _ (by decide)).trans h7⟩
theorem S6_SM : ∀ p, S6 p → SM p := fun p q => by rcases q with rfl | rfl | rfl | rfl <;> decide
/-- the facts below t among these bits -/
def fws (all : Int64) (t : Nat) : List Nat := (List.range t).filter (fun i => bt all i)
theorem fws_s (all : Int64) (t : Nat) : fws all (t + 1) = fws all t ++ (if bt all t = true then [t] else []) := by
  unfold fws
  rw [List.range_succ, List.filter_append]
  congr 1
  cases c : bt all t <;> simp [c]
theorem fws_le (all : Int64) {s t : Nat} (h : s ≤ t) : (fws all s).length ≤ (fws all t).length := by
  obtain ⟨d, rfl⟩ := Nat.exists_eq_add_of_le h
  unfold fws
  rw [List.range_add, List.filter_append, List.length_append]
  omega
def FewI (ad : Ad) (ct : Ct) (σ σ' : St) (F : List Nat) : Prop := Fr ct S6 σ σ' ∧ (∀ g, g ≠ 1062 → zFi σ' g (ad 17 0 0) = zFi σ g (ad 17 0 0)) ∧ zFi σ' 1062 (ad 17 0 0) = nI F.length ∧ F.length ≤ 16 ∧ ∀ x f, F[x]? = some f → zAi σ' (ad 1060 0 0) x = nI f
theorem Sh.fr6 (h : Sh ad ct σ) {σ' : St} (f : Fr ct S6 σ σ') : Sh ad ct σ' := h.frM (f.mono S6_SM)
theorem F_col (h : Sh ad ct σ) (all : Int64) {v1 : Int32} {Q : Int32 → St → Prop} (hno : ∀ σ' t, FewI ad ct σ σ' (fws all t) → 16 < (fws all 60).length → Q 0 σ') (hgo : ∀ σ', FewI ad ct σ σ' (fws all 60) → ∃ f, lX16_isFew_113 Q f (ad 17 0 0) v1 0 σ') : ∀ (d t : Nat) (σ' : St), t + d = 60 → FewI ad ct σ σ' (fws all t) → lX16_isFew_51 Q (d + 1) (ad 17 0 0) v1 all (nI t) σ'
  | 0, t, σ', ht, I => by
    have : t = 60 := by omega
    subst this
    exact ⟨fun _ => hgo σ' I, fun c => absurd (nI_le (a := 60) (b := 60) (by decide) (by decide)) c⟩
  | d + 1, t, σ', ht, I => by
    have hs := I.1
    have h' := h.fr6 hs
    refine ⟨fun c => absurd c (nI_ge (a := t) (b := 60) (by omega) (by decide)), fun _ => ⟨fun c => ⟨k17 h', fun c2 => ⟨_, p1060 h', k1060 h', ?_, ?_⟩, fun c2 => ?_⟩, fun c => ?_⟩⟩
    · rw [l1060 h', I.2.2.1]
      have : (fws all t).length ≠ 16 := fun z => c2 (by rw [I.2.2.1, z]; rfl)
      have := I.2.2.2.1
      exact vp_in_nI (by omega) (by decide)
    · have hb : bt all t = true := by
        cases z : bt all t with
        | true => rfl
        | false => exact absurd ((shr_bt all (by omega)).mpr z) c
      have hn : (fws all t).length ≠ 16 := fun z => c2 (by rw [I.2.2.1, z]; rfl)
      have h16 := I.2.2.2.1
      have e1 : nI t + 1 = nI (t + 1) := (nI_succ t).symm
      have e2 : fws all (t + 1) = fws all t ++ [t] := by rw [fws_s, if_pos hb]
      rw [e1, I.2.2.1, show ix (nI (fws all t).length) = (fws all t).length from nI_clamp (by omega)]
      refine F_col h all hno hgo d (t + 1) _ (by omega) ⟨(hs.uAi _ _ _ (Or.inl (by rw [c1060 h']; decide))).uFi _ _ _ (Or.inl (by rw [c17 h']; decide)), fun g hg => ?_, ?_, by rw [e2, List.length_append, List.length_singleton]; omega, fun x f hx => ?_⟩
      · rw [yFi_uFi, yu2, if_neg (fun z => hg z.1), yFi_uAi]; exact I.2.1 g hg
      · rw [yFi_uFi, yu2, if_pos ⟨rfl, rfl⟩, e2, List.length_append, List.length_singleton]
        exact (nI_succ _).symm
      · rw [yAi_uFi, yAi_uAi, yu2]
        rw [e2] at hx
        by_cases z : x = (fws all t).length
        · rw [if_pos ⟨rfl, z⟩]
          rw [z, List.getElem?_append_right (Nat.le_refl _), Nat.sub_self] at hx
          cases hx
          rfl
        · rw [if_neg (fun q => z q.2)]
          have hl := (List.getElem?_eq_some_iff.mp hx).1
          rw [List.length_append, List.length_singleton] at hl
          rw [List.getElem?_append_left (by omega)] at hx
          exact I.2.2.2.2 x f hx
    · refine hno σ' t I ?_
      have hb : bt all t = true := by
        cases z : bt all t with
        | true => rfl
        | false => exact absurd ((shr_bt all (by omega)).mpr z) c
      have h16 := I.2.2.2.1
      have hn : (fws all t).length = 16 := by
        rw [I.2.2.1] at c2
        have := congrArg Int32.toInt c2
        rw [nI_toInt (by omega), show (16 : Int32).toInt = 16 from by decide] at this
        omega
      have e2 : fws all (t + 1) = fws all t ++ [t] := by rw [fws_s, if_pos hb]
      have := fws_le all (s := t + 1) (t := 60) (by omega)
      rw [e2, List.length_append, List.length_singleton] at this
      omega
    · have hb : bt all t = false := (shr_bt all (by omega)).mp c
      have e2 : fws all (t + 1) = fws all t := by rw [fws_s, if_neg (by rw [hb]; decide), List.append_nil]
      have e1 : nI t + 1 = nI (t + 1) := (nI_succ t).symm
      rw [e1]
      exact F_col h all hno hgo d (t + 1) σ' (by omega) (by rw [e2]; exact I)
end KF
