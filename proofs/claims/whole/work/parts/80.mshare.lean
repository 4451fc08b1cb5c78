/-! the reference: share -/
section KY
variable {ad : Ad} {ct : Ct} {σ : St}
theorem FewM.re {σ' : St} {F : List Nat} {ws : List Int64} {K : Nat} (M : FewM ad ct σ σ' F ws K) (s : Int32) : FewM ad ct (uFi σ' 1025 (ad 17 0 0) s) (uFi σ' 1025 (ad 17 0 0) s) F ws K := by
  obtain ⟨⟨i1, i2, i3, i4, i5⟩, m⟩ := M
  refine ⟨⟨Fr.rf, fun _ _ => rfl, ?_, i4, fun x f hx => ?_⟩, fun k w hk hw => ?_⟩
  · rw [yFi_uFi, yu2, if_neg (fun z => absurd z.1 (by decide))]; exact i3
  · rw [yAi_uFi]; exact i5 x f hx
  · rw [yAi_uFi]; exact m k w hk hw
theorem fws_nd (all : Int64) (t : Nat) : (fws all t).Pairwise (fun a b => a ≠ b) := List.Pairwise.filter _ List.nodup_range
theorem fws_one {all : Int64} {at' g : Nat} (h1 : (fws all 60)[at']? = some g) {x : Nat} (hx : x < (fws all 60).length) : (fws all 60).getD x 0 = g ↔ x = at' := by
  have ha := (List.getElem?_eq_some_iff.mp h1).1
  have eg := (List.getElem?_eq_some_iff.mp h1).2
  rw [List.getD_eq_getElem?_getD, List.getElem?_eq_getElem hx]
  show (fws all 60)[x] = g ↔ _
  constructor
  · intro e
    have nd := List.pairwise_iff_getElem.mp (fws_nd all 60)
    rcases Nat.lt_trichotomy x at' with c | c | c
    · exact absurd (e.trans eg.symm) (nd x at' hx ha c)
    · exact c
    · exact absurd (eg.trans e.symm) (nd at' x ha hx c)
  · intro e
    subst e
    exact eg
theorem M_eis (h : Sh ad ct σ) {V : Vt} (R : Mfs ad σ V.1.2.1) (hf : V.1.2.1.length ≤ 60) {r wd : Nat} {cl : Bool} {e : Ans} (hr : r < 32) (q : RowAt ad σ 40 r wd cl e) {F : List Nat} (hF : ∀ f ∈ F, f < V.1.2.1.length) {p : Nat} (hp : p < F.length) {E8 E0 : Nat → Int32} (e8 : ∀ x, x < F.length → E8 x = if x = p then 8 else eiF V.1.2.1 (F.getD x 0)) (e0 : ∀ x, x < F.length → E0 x = if x = p then 0 else eiF V.1.2.1 (F.getD x 0)) {Q : Int64 → St → Prop} (hgo : ∀ σ', FewM ad ct σ σ' F e.2.1 e.2.1.length → Q (sumE F e.2.1 E8 (2 ^ F.length) 0 0 - sumE F e.2.1 E0 (2 ^ F.length) 0 0) σ') : ∀ (d x : Nat) (σ' : St), x + d = F.length → FewM ad ct σ σ' F e.2.1 e.2.1.length → (∀ y, y < x → zAi σ' (ad 1063 0 0) y = eiF V.1.2.1 (F.getD y 0)) → lX16_share_65 Q (d + 1) (ad 17 0 0) (nI r) (nI p) (nI x) σ'
  | 0, x, σ', hx, M, he => by
    have h' := h.fr6 M.1.1
    have h16 := M.1.2.2.2.1
    have hx : x = F.length := by omega
    have er : ix (nI r) = r := nI_clamp (by omega)
    have ep : ix (nI p) = p := nI_clamp (by omega)
    have go : ∀ (τ : St) (v : Int32) (E : Nat → Int32) (Q2 : Int64 → St → Prop), FewM ad ct σ τ F e.2.1 e.2.1.length → (∀ y, y < F.length → y ≠ p → zAi τ (ad 1063 0 0) y = eiF V.1.2.1 (F.getD y 0)) → (∀ x, x < F.length → E x = if x = p then v else eiF V.1.2.1 (F.getD x 0)) → Q2 (sumE F e.2.1 E (2 ^ F.length) 0 0) (uAi τ (ad 1063 0 0) p v) → ∃ a2 : Nat, zFr τ 1063 (ad 17 0 0) = some a2 ∧ zK τ a2 = 20 ∧ vp_in (nI p) (zL τ a2) ∧ ∃ a6 : Nat, zFr τ 1050 (ad 17 0 0) = some a6 ∧ zK τ a6 = 15 ∧ ∃ a9 : Nat, zFr τ 899 a6 = some a9 ∧ zK τ a9 = 20 ∧ vp_in (nI r) (zL τ a9) ∧ wX16_chances (ad 17 0 0) (zAi (uAi τ a2 (ix (nI p)) v) a9 (ix (nI r))) (uAi τ a2 (ix (nI p)) v) Q2 := fun τ v E Q2 M he e8 hq => by
      have h' := h.fr6 M.1.1
      refine ⟨_, p1063 h', k1063 h', by rw [l1063 h']; exact vp_in_nI (by omega) (by decide), _, p1050 h', k15 h' (by decide), _, p899 h' (by decide), k899 h' (by decide), by rw [l899 h' (by decide)]; exact vp_in_nI hr (by decide), ?_⟩
      have M2 := M.e h' p v
      have h2 := h.fr6 M2.1.1
      rw [ep, er, rd899 h M2.1.1, q.2.2.2.1]
      have hE2 : ∀ x, x < F.length → zAi (uAi τ (ad 1063 0 0) p v) (ad 1063 0 0) x = E x := fun x hx => by
        rw [yAi_uAi, yu2, e8 x hx]
        by_cases z : x = p
        · rw [if_pos ⟨rfl, z⟩, if_pos z]
        · rw [if_neg (fun w => z w.2), if_neg z]; exact he x hx z
      exact M_chances h2 h16 q.2.2.1 M2.1.2.2.1 (fun m w hw => M2.2 m w (List.getElem?_eq_some_iff.mp hw).1 hw) hE2 hq
    refine ⟨k17 h', fun _ => ?_, fun c => absurd ?_ c⟩
    · refine go σ' 8 E8 _ M (fun y hy _ => he y (by omega)) e8 ?_
      have M2 := M.e h' p 8
      have h2 := h.fr6 M2.1.1
      refine ⟨k17 h2, ?_⟩
      refine go _ 0 E0 _ M2 (fun y hy hn => ?_) e0 ?_
      · rw [yAi_uAi, yu2, if_neg (fun w => hn w.2)]; exact he y (by omega)
      · exact hgo _ (M2.e h2 p 0)
    · rw [M.1.2.2.1, hx]; exact nI_le (Nat.le_refl _) (by omega)
  | d + 1, x, σ', hx, M, he => by
    have h' := h.fr6 M.1.1
    have h16 := M.1.2.2.2.1
    have ex : ix (nI x) = x := nI_clamp (by omega)
    have es : nI x + 1 = nI (x + 1) := (nI_succ x).symm
    obtain ⟨f, hfx⟩ : ∃ f, F[x]? = some f := ⟨_, List.getElem?_eq_getElem (by omega)⟩
    have hfl : f < V.1.2.1.length := hF f (List.mem_of_getElem? hfx)
    have ef := M.1.2.2.2.2 x f hfx
    have eg : F.getD x 0 = f := by rw [List.getD_eq_getElem?_getD, hfx]; rfl
    have em : ix (nI f) = f := nI_clamp (by omega)
    obtain ⟨u, hu⟩ : ∃ u, V.1.2.1[f]? = some u := ⟨_, List.getElem?_eq_getElem hfl⟩
    have ev : zAi σ' (ad 1036 0 0) f = eiF V.1.2.1 f := by
      rw [rd1036 h M.1.1, (R.2 f u hu).2.2.2.2.2.1]
      unfold eiF
      rw [hu]
    refine ⟨k17 h', fun c => absurd c (by rw [M.1.2.2.1]; exact nI_ge (by omega) (by omega)), fun _ => ⟨_, p1063 h', _, p1036 h', _, p1060 h', k1060 h', by rw [l1060 h']; exact vp_in_nI (by omega) (by decide), k1036 h', ?_, k1063 h', by rw [l1063 h']; exact vp_in_nI (by omega) (by decide), ?_⟩⟩
    · rw [ex, ef, l1036 h']; exact vp_in_nI (by omega) (by decide)
    · rw [ex, ef, em, ev, es]
      refine M_eis h R hf hr q hF hp e8 e0 hgo d (x + 1) _ (by omega) (M.e h' _ _) (fun y hy => ?_)
      rw [yAi_uAi, yu2]
      by_cases z : y = x
      · rw [if_pos ⟨rfl, z⟩, z, eg]
      · rw [if_neg (fun w => z w.2)]; exact he y (by omega)
theorem RowAt.s6 (h : Sh ad ct σ) {r w : Nat} {cl : Bool} {e : Ans} (q : RowAt ad σ 40 r w cl e) {ρ : St} (f : Fr ct S6 σ ρ) : RowAt ad ρ 40 r w cl e := q.cg h f (by decide) (fun g g1 g2 q => by rcases q with q | q | q | q <;> cases q)
theorem M_share {V : Vt} (h0 : Sh ad ct σ) (R0 : RM ad σ V) (W : WFv V) (i f : Int32) {Q : Int64 → St → Prop} (hQ0 : ∀ σ', Fr ct SM σ σ' → RM ad σ' (shaV i f V).2 → Q (shaV i f V).1 σ') : wX16_share (ad 17 0 0) i f σ Q := by
  have ft := fr17 h0 1024 0
  have R := rmth h0 W.2.1 R0 0
  have h := h0.frM ft
  have hl : V.1.2.1.length ≤ 60 := W.1.wf.2.2.1
  unfold wX16_share wX16_share_0
  generalize uFi σ 1024 (ad 17 0 0) 0 = τ at R h ft
  have no : shaV i f V = (-1, stV V 1) → wX16_share_21 Q (ad 17 0 0) τ := fun e => ⟨k17 h, M_ref h W.2.1 R 1 (fun σ' f' R' => by rw [e] at hQ0; exact hQ0 σ' (ft.tr1 f') R')⟩
  refine ⟨k17 h0, M_isAns h R i (fun e => ⟨fun _ => no (by unfold shaV wefV; rw [e]), fun z => absurd rfl z⟩) (fun n e e1 e2 e3 e4 e5 e6 e7 e8 => ⟨fun z => absurd z (by decide), fun _ => ⟨k17 h, ?_⟩⟩)⟩
  refine M_isFact h R hl f (fun ef => ⟨fun z => absurd rfl z, fun _ => no (by unfold shaV wefV; rw [e4, ef])⟩) (fun g x hg eg hx ef => ⟨fun _ => ⟨k17 h, ?_⟩, fun z => absurd z (by decide)⟩)
  subst eg
  unfold shaV wefV at hQ0
  rw [e4, ef] at hQ0
  simp only [bits_fws W e3, show ix (nI g) = g from nI_clamp (by omega)] at hQ0
  subst e1
  have hm60 : ∀ y ∈ fws (anyW e) 60, y < 60 := fun y hy => (fws_60 hy).1
  refine M_few h e2 e5 (fun σ' f' k' big => ⟨fun z => absurd rfl z, fun _ => ⟨k17 (h.fr6 f'), M_ref (h.fr6 f') W.2.1 (rmF h W.2.1 R f' (k62 k')) 6 (fun σ2 f2 R2 => ?_)⟩⟩) (fun σ' M => ⟨fun _ => ⟨k17 (h.fr6 M.1.1), ?_⟩, fun z => absurd z (by decide)⟩)
  · rw [if_pos big] at hQ0
    exact hQ0 σ2 ((ft.tr1 (f'.mono S6_SM)).tr1 f2) R2
  · have hs := M.1.2.2.2.1
    have h' := h.fr6 M.1.1
    have R' := rmst h' W.2.1 (rmF h W.2.1 R M.1.1 (k62 M.1.2.1)) 0
    have f2 := fr17 h' 1025 0
    rw [if_neg (by omega)] at hQ0
    unfold shaF at hQ0
    refine M_fewAt h' hm60 M.1 (by omega) (fun hno => ⟨k17 h', fun z => absurd rfl z, fun _ => ?_⟩) (fun p hp _ => ⟨k17 h', fun _ => ?_, fun z => absurd z (nI_m1 (by have := (List.getElem?_eq_some_iff.mp hp).1; omega))⟩)
    · have hb : ¬ bt (anyW e) g = true := fun z => hno (by unfold fws; rw [List.mem_filter, List.mem_range]; exact ⟨by omega, z⟩)
      rw [if_neg hb] at hQ0
      exact hQ0 _ ((ft.tr1 (M.1.1.mono S6_SM)).tr1 f2) R'
    · have hb : bt (anyW e) g = true := (fws_60 (List.mem_of_getElem? hp)).2
      have hpl := (List.getElem?_eq_some_iff.mp hp).1
      rw [if_pos hb] at hQ0
      have M2 := M.re 0
      have q2 : RowAt ad (uFi σ' 1025 (ad 17 0 0) 0) 40 n V.2.2.1.2.1 V.2.2.1.2.2 e := (e5.s6 h M.1.1).s6 h' (Fr.rf.uFi _ _ _ (Or.inl (by rw [c17 h']; decide)))
      have h2 := h'.frM f2
      have F2 := (ft.tr1 (M.1.1.mono S6_SM)).tr1 f2
      generalize uFi σ' 1025 (ad 17 0 0) 0 = ρ at R' M2 q2 h2 F2 ⊢
      have sel : ∀ (v : Int32) x, x < (fws (anyW e) 60).length → eiC V.1.2.1 (nI g) v ((fws (anyW e) 60).getD x 0) = if x = p then v else eiF V.1.2.1 ((fws (anyW e) 60).getD x 0) := fun v x hx => by
        unfold eiC
        by_cases c : x = p
        · rw [if_pos c, if_pos (by rw [(fws_one hp hx).mpr c])]
        · rw [if_neg c, if_neg]
          intro z
          have z := congrArg Int32.toInt z
          have := fws_getD (anyW e) x
          rw [nI_toInt (by omega), nI_toInt (by omega)] at z
          exact c ((fws_one hp hx).mp (by omega))
      exact ⟨_, M_eis (V := V) h2 R'.2.1 hl e2 q2 (fun y hy => fws_fs W e3 hy) hpl (E8 := fun x => eiC V.1.2.1 (nI g) 8 ((fws (anyW e) 60).getD x 0)) (E0 := fun x => eiC V.1.2.1 (nI g) 0 ((fws (anyW e) 60).getD x 0)) (sel 8) (sel 0) (fun σ3 M3 => hQ0 σ3 (F2.tr1 (M3.1.1.mono S6_SM)) (rmF (V := stV V 0) h2 W.2.1 R' M3.1.1 (k62 M3.1.2.1))) (fws (anyW e) 60).length 0 ρ (by omega) M2 (fun y hy => absurd hy (Nat.not_lt_zero _))⟩
theorem W_wei {α : Type} {V : Vt} (W : WFv V) (no : α) (f : Ans → α) (i : Int32) : WFv (weiV no f i V).2 := by
  unfold weiV
  cases aOf V i with
  | none => exact W
  | some e =>
    show WFv (if 16 < (bits (anyW e)).length then (no, stV V 6) else (f e, stV V 0)).2
    by_cases c : 16 < (bits (anyW e)).length
    · rw [if_pos c]; exact W
    · rw [if_neg c]; exact W
theorem W_wef {α : Type} {V : Vt} (W : WFv V) (no : α) (F : Ans → Nat → α × Int32) (i f : Int32) : WFv (wefV no F i f V).2 := by
  unfold wefV
  cases aOf V i with
  | none => exact W
  | some e =>
    cases fOf V f with
    | none => exact W
    | some x =>
      show WFv (if 16 < (bits (anyW e)).length then (no, stV V 6) else ((F e (ix f)).1, stV V (F e (ix f)).2)).2
      by_cases c : 16 < (bits (anyW e)).length
      · rw [if_pos c]; exact W
      · rw [if_neg c]; exact W
theorem P_chance {V : Vt} (W : WFv V) (i : Int32) : PR ad ct V (fun σ Q => wX11_chance (ad 12 0 0) i σ Q) (fun σ Q => wX16_chance (ad 17 0 0) i σ Q) := ⟨_, _, W_wei W (-1) (chaF V.1.2.1) i, fun σ Q h R hQ => C_chance h R W i hQ, fun σ Q h R hQ => M_chance h R W i hQ⟩
theorem P_share {V : Vt} (W : WFv V) (i f : Int32) : PR ad ct V (fun σ Q => wX11_share (ad 12 0 0) i f σ Q) (fun σ Q => wX16_share (ad 17 0 0) i f σ Q) := ⟨_, _, W_wef W (-1) (fun e g => (shaF V.1.2.1 e g, 0)) i f, fun σ Q h R hQ => C_share h R W i f hQ, fun σ Q h R hQ => M_share h R W i f hQ⟩
end KY
