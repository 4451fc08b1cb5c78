/-! the reference: chance -/
section KC
variable {ad : Ad} {ct : Ct} {σ : St}
def chaF (fs : List Fct) (e : Ans) : Int64 := sumE (fws (anyW e) 60) e.2.1 (fun x => eiF fs ((fws (anyW e) 60).getD x 0)) (2 ^ (fws (anyW e) 60).length) 0 0
def chaV (i : Int32) (V : Vt) : Int64 × Vt := weiV (-1) (chaF V.1.2.1) i V
theorem fws_fs {V : Vt} (W : WFv V) {n : Nat} {e : Ans} (he : V.2.2.1.1[n]? = some e) {f : Nat} (hf : f ∈ fws (anyW e) 60) : f < V.1.2.1.length := by
  have hw := (W.2.2.2.2.2 e (List.mem_of_getElem? he)).2.2.2.2.2.1
  have hb := (fws_60 hf).2
  by_cases c : f < V.1.2.1.length
  · exact c
  · unfold anyW at hb
    rw [anyW_bt, bt_0, Bool.false_or] at hb
    obtain ⟨w, w1, w2⟩ := List.any_eq_true.mp hb
    rw [hw w w1 f (by omega)] at w2
    cases w2
theorem k62 {σ' : St} (k : ∀ g, g ≠ 1062 → zFi σ' g (ad 17 0 0) = zFi σ g (ad 17 0 0)) : ∀ g, g = 1025 ∨ g = 1027 ∨ g = 1028 ∨ g = 1029 ∨ g = 1030 ∨ g = 1057 → zFi σ' g (ad 17 0 0) = zFi σ g (ad 17 0 0) := fun g hg => k g (by omega)
theorem M_chance {V : Vt} (h0 : Sh ad ct σ) (R0 : RM ad σ V) (W : WFv V) (i : Int32) {Q : Int64 → St → Prop} (hQ0 : ∀ σ', Fr ct SM σ σ' → RM ad σ' (chaV i V).2 → Q (chaV i V).1 σ') : wX16_chance (ad 17 0 0) i σ Q := by
  have ft := fr17 h0 1024 0
  have R := rmth h0 W.2.1 R0 0
  have h := h0.frM ft
  unfold wX16_chance wX16_chance_0
  generalize uFi σ 1024 (ad 17 0 0) 0 = τ at R h ft
  unfold chaV weiV at hQ0
  refine ⟨k17 h0, M_isAns h R i (fun e => ⟨fun z => absurd rfl z, fun _ => ⟨k17 h, M_ref h W.2.1 R 1 (fun σ' f' R' => ?_)⟩⟩) (fun n e e1 e2 e3 e4 e5 e6 e7 e8 => ⟨fun _ => ⟨k17 h, ?_⟩, fun z => absurd z (by decide)⟩)⟩
  · rw [e] at hQ0
    exact hQ0 σ' (ft.tr1 f') R'
  · rw [e4] at hQ0
    simp only [bits_fws W e3] at hQ0
    subst e1
    have hl : V.1.2.1.length ≤ 60 := W.1.wf.2.2.1
    have h16 := e5.2.2.1
    refine M_few h e2 e5 (fun σ' f' k' big => ⟨fun z => absurd rfl z, fun _ => ⟨k17 (h.fr6 f'), M_ref (h.fr6 f') W.2.1 (rmF h W.2.1 R f' (k62 k')) 6 (fun σ2 f2 R2 => ?_)⟩⟩) (fun σ' M => ⟨fun _ => ⟨_, M_eig (V := V) h R.2.1 hl e2 e5 (fun f hf => fws_fs W e3 hf) (fun σ2 M2 hE => ?_) (fws (anyW e) 60).length 0 σ' (by omega) M (fun y hy => absurd hy (Nat.not_lt_zero _))⟩, fun z => absurd z (by decide)⟩)
    · rw [if_pos big] at hQ0
      exact hQ0 σ2 ((ft.tr1 (f'.mono S6_SM)).tr1 f2) R2
    · have hs := M2.1.2.2.2.1
      rw [if_neg (by omega)] at hQ0
      have h2 := h.fr6 M2.1.1
      have hr := rmst h2 W.2.1 (rmF h W.2.1 R M2.1.1 (k62 M2.1.2.1)) 0
      have f2 := fr17 h2 1025 0
      have e62 : zFi (uFi σ2 1025 (ad 17 0 0) 0) 1062 (ad 17 0 0) = nI (fws (anyW e) 60).length := by rw [yFi_uFi, yu2, if_neg (fun z => absurd z.1 (by decide))]; exact M2.1.2.2.1
      have hm : ∀ m w, e.2.1[m]? = some w → zAi (uFi σ2 1025 (ad 17 0 0) 0) (ad 1061 0 0) m = mkN (fws (anyW e) 60) w (fws (anyW e) 60).length := fun m w hw => by rw [yAi_uFi]; exact M2.2 m w (List.getElem?_eq_some_iff.mp hw).1 hw
      have hE2 : ∀ x, x < (fws (anyW e) 60).length → zAi (uFi σ2 1025 (ad 17 0 0) 0) (ad 1063 0 0) x = eiF V.1.2.1 ((fws (anyW e) 60).getD x 0) := fun x hx => by rw [yAi_uFi]; exact hE x hx
      have q := hQ0 _ ((ft.tr1 (M2.1.1.mono S6_SM)).tr1 f2) hr
      have h3 := h2.frM f2
      generalize uFi σ2 1025 (ad 17 0 0) 0 = ρ at q h3 e62 hm hE2 ⊢
      exact M_chances h3 hs h16 e62 hm hE2 q
end KC
