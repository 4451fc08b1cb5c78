/-! the class: behind how many facts a way is ended -/
section KR
variable {ad : Ad} {ct : Ct} {σ : St}
/-- the ways that hold one of the last d facts -/
def opn (n : Nat) (H : Nat → Int32) : Nat → Int32
  | 0 => 0
  | d + 1 => opn n H d ||| H (n - (d + 1))
abbrev S322 : Nat × Nat → Prop := fun p => p = (322, 0)
theorem S322_SC : ∀ p, S322 p → SC p := fun p q => by subst q; decide
def EndI (ad : Ad) (ct : Ct) (σ σ' : St) (n : Nat) (H : Nat → Int32) (k : Nat) : Prop := Fr ct S322 σ σ' ∧ ∀ x, k ≤ x → x ≤ n → zAi σ' (ad 322 0 0) x = opn n H (n - x) ^^^ (-1)
theorem C_ended (h : Sh ad ct σ) {n : Nat} (hn : n ≤ 16) (e1 : zFi σ 323 (ad 6 0 0) = nI n) {H : Nat → Int32} (hH : ∀ x, x < n → zAi σ (ad 321 0 0) x = H x) {v1 : Nat} {Q : Int64 → St → Prop} (hgo : ∀ σ', EndI ad ct σ σ' n H 0 → zK σ' v1 = 3 ∧ zK σ' (ad 6 0 0) = 6 ∧ wX5_partsFrom 18 (ad 6 0 0) 0 (((1 : Int32) <<< ((zFi σ' 130 v1) &&& 31)) - 1) σ' Q) : ∀ (k : Nat) (σ' : St), k ≤ n → EndI ad ct σ σ' n H (k + 1) → lX5_chanceOf_108 Q (k + 2) (ad 6 0 0) v1 (opn n H (n - (k + 1))) (nI k) σ' := by
  have last : ∀ (o : Int32) (σ' : St), EndI ad ct σ σ' n H 0 → lX5_chanceOf_108 Q 1 (ad 6 0 0) v1 o (-1) σ' := fun o σ' I => ⟨fun _ => hgo σ' I, fun c => absurd (by decide) c⟩
  have stp : ∀ (k : Nat) (σ' : St) (r : Nat → Nat → Int32 → Int32 → St → Prop) (m : Int32), k ≤ n → EndI ad ct σ σ' n H (k + 1) → nI k + (-1) = m → (∀ σ2, EndI ad ct σ σ2 n H k → r (ad 6 0 0) v1 (opn n H (n - k)) m σ2) → wX5_chanceOf_108 Q r (ad 6 0 0) v1 (opn n H (n - (k + 1))) (nI k) σ' := by
    intro k σ' r m hk I em hr
    have h' := h.frC (I.1.mono S322_SC)
    have ek : ix (nI k) = k := nI_clamp (by omega)
    have e1' : zFi σ' 323 (ad 6 0 0) = nI n := (((I.1 _ (by rw [k6 h]; decide)).2 (by rw [c6 h]; decide)).1 _).trans e1
    have put : ∀ (s1 : Int32), opn n H (n - (k + 1)) ||| s1 = opn n H (n - k) → wX5_chanceOf_135 Q r (ad 6 0 0) v1 (nI k) s1 (opn n H (n - (k + 1))) σ' := fun s1 eo => by
      refine ⟨k6 h', _, p322 h', k322 h', by rw [l322 h']; exact vp_in_nI (by omega) (by decide), ?_⟩
      rw [eo, ek, em]
      refine hr _ ⟨I.1.uAi _ _ _ (Or.inl (by rw [c322 h'])), fun x hx hx2 => ?_⟩
      rw [yAi_uAi, yu2]
      by_cases z : x = k
      · rw [if_pos ⟨rfl, z⟩, z]
      · rw [if_neg (fun w => z w.2)]; exact I.2 x (by omega) hx2
    refine ⟨fun c => absurd c (nI_pos (by omega)), fun _ => ⟨k6 h', fun c => put 0 ?_, fun c => ⟨_, p321 h', k321 h', by rw [l321 h']; exact vp_in_nI (by rw [e1'] at c; have : k ≠ n := fun z => c (by rw [z]; exact nI_le (Nat.le_refl _) (by omega)); omega) (by decide), put _ ?_⟩⟩⟩
    · rw [e1'] at c
      have : k = n := by
        by_cases z : k = n
        · exact z
        · exact absurd c (nI_ge (by omega) (by omega))
      rw [this, show n - (n + 1) = 0 by omega, Nat.sub_self]
      exact (show (0 : Int32) ||| 0 = 0 by decide)
    · have kn : k < n := by
        rw [e1'] at c
        have : k ≠ n := fun z => c (by rw [z]; exact nI_le (Nat.le_refl _) (by omega))
        omega
      have e321 : zAi σ' (ad 321 0 0) k = H k := (((I.1 _ (by rw [k321 h]; decide)).2 (by rw [c321 h]; decide)).2.2.1 k).trans (hH k kn)
      rw [ek, e321, show n - k = (n - (k + 1)) + 1 by omega]
      show _ = opn n H (n - (k + 1)) ||| H (n - (n - (k + 1) + 1))
      rw [show n - (n - (k + 1) + 1) = k by omega]
  intro k
  induction k with
  | zero => exact fun σ' hk I => stp 0 σ' _ (-1) hk I (by decide) (fun σ2 I2 => last _ σ2 I2)
  | succ k ih => exact fun σ' hk I => stp (k + 1) σ' _ (nI k) hk I (by rw [← Int32.sub_eq_add_neg]; exact nI_pred k) (fun σ2 I2 => ih σ2 (by omega) I2)
end KR
