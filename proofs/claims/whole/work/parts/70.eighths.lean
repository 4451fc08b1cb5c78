/-! the reference: the eighths of the few facts -/
section KE
variable {ad : Ad} {ct : Ct} {σ : St}
/-- the chance of the fact of this number, in eighths -/
def eiF (fs : List Fct) (f : Nat) : Int32 := match fs[f]? with
  | none => 0
  | some x => (x.2.2.1 3).toInt32
theorem n6063 (h : Sh ad ct σ) : ad 1060 0 0 ≠ ad 1063 0 0 ∧ ad 1061 0 0 ≠ ad 1063 0 0 := by
  refine ⟨fun z => ?_, fun z => ?_⟩
  · have a := c1060 h
    rw [z, c1063 h] at a
    exact absurd a (by decide)
  · have a := c1061 h
    rw [z, c1063 h] at a
    exact absurd a (by decide)
theorem FewM.e {σ' : St} (h' : Sh ad ct σ') {F : List Nat} {ws : List Int64} {K : Nat} (M : FewM ad ct σ σ' F ws K) (i : Nat) (v : Int32) : FewM ad ct σ (uAi σ' (ad 1063 0 0) i v) F ws K := by
  obtain ⟨⟨i1, i2, i3, i4, i5⟩, m⟩ := M
  obtain ⟨n1, n2⟩ := n6063 h'
  refine ⟨⟨i1.uAi _ _ _ (Or.inl (by rw [c1063 h']; decide)), fun g hg => by rw [yFi_uAi]; exact i2 g hg, by rw [yFi_uAi]; exact i3, i4, fun x f hx => ?_⟩, fun k w hk hw => ?_⟩
  · rw [yAi_uAi, yu2, if_neg (fun z => n1 z.1)]; exact i5 x f hx
  · rw [yAi_uAi, yu2, if_neg (fun z => n2 z.1)]; exact m k w hk hw
theorem rd1036 (h : Sh ad ct σ) {σ' : St} (f : Fr ct S6 σ σ') (i : Nat) : zAi σ' (ad 1036 0 0) i = zAi σ (ad 1036 0 0) i := ((f _ (by rw [k1036 h]; decide)).2 (by rw [c1036 h]; decide)).2.2.1 i
theorem M_eig (h : Sh ad ct σ) {V : Vt} (R : Mfs ad σ V.1.2.1) (hf : V.1.2.1.length ≤ 60) {r wd : Nat} {cl : Bool} {e : Ans} (hr : r < 32) (q : RowAt ad σ 40 r wd cl e) {F : List Nat} (hF : ∀ f ∈ F, f < V.1.2.1.length) {Q : Int64 → St → Prop} (hgo : ∀ σ', FewM ad ct σ σ' F e.2.1 e.2.1.length → (∀ y, y < F.length → zAi σ' (ad 1063 0 0) y = eiF V.1.2.1 (F.getD y 0)) → wX16_chances (ad 17 0 0) (nI e.2.1.length) (uFi σ' 1025 (ad 17 0 0) 0) Q) : ∀ (d x : Nat) (σ' : St), x + d = F.length → FewM ad ct σ σ' F e.2.1 e.2.1.length → (∀ y, y < x → zAi σ' (ad 1063 0 0) y = eiF V.1.2.1 (F.getD y 0)) → lX16_chance_38 Q (d + 1) (ad 17 0 0) (nI r) (nI x) σ'
  | 0, x, σ', hx, M, he => by
    have h' := h.fr6 M.1.1
    have h16 := M.1.2.2.2.1
    have hx : x = F.length := by omega
    have er : ix (nI r) = r := nI_clamp (by omega)
    refine ⟨k17 h', fun _ => ⟨_, p1050 h', k15 h' (by decide), _, p899 h' (by decide), k899 h' (by decide), by rw [l899 h' (by decide)]; exact vp_in_nI hr (by decide), ?_⟩, fun c => absurd ?_ c⟩
    · rw [er, rd899 h M.1.1, q.2.2.2.1]
      exact hgo σ' M (by rw [← hx]; exact he)
    · rw [M.1.2.2.1, hx]; exact nI_le (Nat.le_refl _) (by omega)
  | d + 1, x, σ', hx, M, he => by
    have h' := h.fr6 M.1.1
    have h16 := M.1.2.2.2.1
    have ex : ix (nI x) = x := nI_clamp (by omega)
    have es : nI x + 1 = nI (x + 1) := (nI_succ x).symm
    obtain ⟨f, hfx⟩ : ∃ f, F[x]? = some f := ⟨_, List.getElem?_eq_getElem (by omega)⟩
    have hfl : f < V.1.2.1.length := hF f (List.mem_of_getElem? hfx)
    have ef := M.1.2.2.2.2 x f hfx
    have eg : F.getD x 0 = f := by rw [List.getD_eq_getElem?_getD, hfx]; rfl
    have em : ix (nI f) = f := nI_clamp (by omega)
    obtain ⟨u, hu⟩ : ∃ u, V.1.2.1[f]? = some u := ⟨_, List.getElem?_eq_getElem hfl⟩
    have ev : zAi σ' (ad 1036 0 0) f = eiF V.1.2.1 f := by
      rw [rd1036 h M.1.1, (R.2 f u hu).2.2.2.2.2.1]
      unfold eiF
      rw [hu]
    refine ⟨k17 h', fun c => absurd c (by rw [M.1.2.2.1]; exact nI_ge (by omega) (by omega)), fun _ => ⟨_, p1063 h', _, p1036 h', _, p1060 h', k1060 h', by rw [l1060 h']; exact vp_in_nI (by omega) (by decide), k1036 h', ?_, k1063 h', by rw [l1063 h']; exact vp_in_nI (by omega) (by decide), ?_⟩⟩
    · rw [ex, ef, l1036 h']; exact vp_in_nI (by omega) (by decide)
    · rw [ex, ef, em, ev, es]
      refine M_eig h R hf hr q hF hgo d (x + 1) _ (by omega) (M.e h' _ _) (fun y hy => ?_)
      rw [yAi_uAi, yu2]
      by_cases z : y = x
      · rw [if_pos ⟨rfl, z⟩, z, eg]
      · rw [if_neg (fun w => z w.2)]; exact he y (by omega)
end KE
