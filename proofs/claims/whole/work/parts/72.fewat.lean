/-! the reference: a fact's place among the few -/
section KA
variable {ad : Ad} {ct : Ct} {σ : St}
theorem M_fewAt {σ' : St} (h' : Sh ad ct σ') {F : List Nat} (hF : ∀ f ∈ F, f < 60) (I : FewI ad ct σ σ' F) {g : Nat} (hg : g < 60) {Q : Int32 → St → Prop} (h0 : g ∉ F → Q (-1) σ') (h1 : ∀ x, F[x]? = some g → (∀ y, y < x → F[y]? ≠ some g) → Q (nI x) σ') : wX16_fewAt (ad 17 0 0) (nI g) σ' Q := by
  have h16 := I.2.2.2.1
  have key : ∀ (d x : Nat), x + d = F.length → (∀ y, y < x → F[y]? ≠ some g) → lX16_fewAt_2 Q (d + 1) (ad 17 0 0) (nI g) (nI x) σ' := by
    intro d
    induction d with
    | zero =>
      intro x hx hn
      have hx : x = F.length := by omega
      refine ⟨k17 h', fun _ => ⟨k17 h', fun _ => h0 (fun z => ?_), fun c => absurd ?_ c⟩, fun c => absurd ?_ c⟩
      · obtain ⟨y, hy, e⟩ := List.mem_iff_getElem.mp z
        exact hn y (by omega) (by rw [List.getElem?_eq_getElem hy, e])
      · rw [I.2.2.1, hx]; exact nI_le (Nat.le_refl _) (by omega)
      · rw [I.2.2.1, hx]; exact nI_le (Nat.le_refl _) (by omega)
    | succ d ih =>
      intro x hx hn
      obtain ⟨f, hfx⟩ : ∃ f, F[x]? = some f := ⟨_, List.getElem?_eq_getElem (by omega)⟩
      have hf := hF f (List.mem_of_getElem? hfx)
      have ge : ¬ zFi σ' 1062 (ad 17 0 0) ≤ nI x := by rw [I.2.2.1]; exact nI_ge (by omega) (by omega)
      refine ⟨k17 h', fun c => absurd c ge, fun _ => ⟨_, p1060 h', k1060 h', by rw [l1060 h']; exact vp_in_nI (by omega) (by decide), ?_⟩⟩
      rw [show ix (nI x) = x from nI_clamp (by omega), I.2.2.2.2 x f hfx, show nI x + 1 = nI (x + 1) from (nI_succ x).symm]
      refine ⟨fun c => ⟨k17 h', fun c2 => absurd c2 ge, fun _ => h1 x ?_ hn⟩, fun c => ih (x + 1) (by omega) (fun y hy => ?_)⟩
      · have e := congrArg Int32.toInt c
        rw [nI_toInt (by omega), nI_toInt (by omega)] at e
        rw [hfx, show f = g by omega]
      · by_cases z : y = x
        · rw [z, hfx]
          intro e
          exact c (by rw [Option.some.inj e])
        · exact hn y (by omega)
  exact ⟨_, key F.length 0 (by omega) (fun y hy => absurd hy (Nat.not_lt_zero _))⟩
end KA
