/-! the class: the facts of an answer are gathered, with their eighths and their holders -/
section KG
variable {ad : Ad} {ct : Ct} {σ : St}
abbrev SW : Nat × Nat → Prop := fun p => p = (6, 0) ∨ p = (320, 0) ∨ p = (321, 0) ∨ p = (322, 0) ∨ p = (9, 0) ∨ p = (512, 0)
theorem SW_SC : ∀ p, SW p → SC p := fun p q => by rcases q with rfl | rfl | rfl | rfl | rfl | rfl <;> decide
theorem rcW (h : Sh ad ct σ) {V : Vt} (R : RC ad ct σ V) {σ' : St} (f : Fr ct SW σ σ') : RC ad ct σ' V := by
  obtain ⟨h1, h2, h3, h4, h5, h6, h7, h8⟩ := R
  have e := f.fi (k12 h) (by decide) (c12 h) (by decide)
  have e7 := f.fi (k7 h) (by decide) (c7 h) (by decide)
  have e7j := f.fj (k7 h) (by decide) (c7 h) (by decide)
  exact ⟨h1.cg h f (by decide) (e7 _), h2.cg h f (by decide) (by decide) (by decide) (e7 _) (e7j _), h3.cg h f (by decide) (by decide) (e _), h4.cg h f (by decide) (by decide), h5.cg h f (by decide) (by decide) (by decide), h6.cg h f (by decide) (by decide) (by decide) (by decide) (by decide) (e _), (e _).trans h7, h8.cg h f (fun s _ => by simp)⟩
theorem AnsAt.w (h : Sh ad ct σ) {j w : Nat} {cl : Bool} {e : Ans} (hj : j < room 42) (q : AnsAt ad σ 42 j w cl e) {σ' : St} (f : Fr ct SW σ σ') : AnsAt ad σ' 42 j w cl e := q.cg h f (by decide) hj (by decide) (by decide) (by decide)
theorem fws_full {all : Int64} {t : Nat} (ht : t ≤ 60) (h : (fws all 60).length ≤ (fws all t).length) : fws all t = fws all 60 := by
  obtain ⟨d, e⟩ := Nat.exists_eq_add_of_le ht
  have e2 : fws all (t + d) = fws all t ++ ((List.range d).map (fun x => t + x)).filter (fun i => bt all i) := by unfold fws; rw [List.range_add, List.filter_append]
  rw [e, e2] at h ⊢
  rw [List.length_append] at h
  have : (((List.range d).map (fun x => t + x)).filter (fun i => bt all i)).length = 0 := by omega
  rw [List.length_eq_zero_iff.mp this, List.append_nil]
/-- the eighths of a fact, those of one changed -/
def eiC (fs : List Fct) (ch oe : Int32) (f : Nat) : Int32 := if nI f = ch then oe else eiF fs f
def GatI (ad : Ad) (ct : Ct) (σ σ' : St) (fs : List Fct) (ws : List Int64) (ch oe : Int32) (F : List Nat) : Prop := Fr ct SW σ σ' ∧ zFi σ' 323 (ad 6 0 0) = nI F.length ∧ F.length ≤ 16 ∧ ∀ x f, F[x]? = some f → zAi σ' (ad 320 0 0) x = eiC fs ch oe f ∧ zAi σ' (ad 321 0 0) x = hoN ws f ws.length
theorem n3201 (h : Sh ad ct σ) : ad 320 0 0 ≠ ad 321 0 0 := fun z => by
  have a := c320 h
  rw [z, c321 h] at a
  exact absurd a (by decide)
theorem C_gat {V : Vt} (h : Sh ad ct σ) (R : RC ad ct σ V) (hl : V.1.2.1.length ≤ 60) {j w : Nat} {cl : Bool} {e : Ans} (hj : j < room 42) (q : AnsAt ad σ 42 j w cl e) {all : Int64} (hF : ∀ f ∈ fws all 60, f < V.1.2.1.length) (hb : (fws all 60).length ≤ 16) {ch oe : Int32} {Q : Int64 → St → Prop} (hgo : ∀ σ', GatI ad ct σ σ' V.1.2.1 e.2.1 ch oe (fws all 60) → wX5_chanceOf_99 Q (ad 6 0 0) (ad 3 42 j) σ') : ∀ (d t : Nat) (σ' : St), t + d = 60 → GatI ad ct σ σ' V.1.2.1 e.2.1 ch oe (fws all t) → lX5_chanceOf_14 Q (d + 1) (ad 6 0 0) (ad 3 42 j) (ad 7 0 0) ch oe all (nI t) σ'
  | 0, t, σ', ht, I => by
    have : t = 60 := by omega
    subst this
    exact ⟨fun _ => hgo σ' I, fun c => absurd (nI_le (a := 60) (b := 60) (by decide) (by decide)) c⟩
  | d + 1, t, σ', ht, I => by
    have hs := I.1
    have i1 := I.2.1
    have i2 := I.2.2.1
    have h' := h.frC (hs.mono SW_SC)
    have es : nI t + 1 = nI (t + 1) := (nI_succ t).symm
    refine ⟨fun c => absurd c (nI_ge (a := t) (b := 60) (by omega) (by decide)), fun _ => ⟨k6 h', fun c => ?_, fun c => ⟨fun z => ⟨fun _ => ?_, fun z2 => absurd rfl z2⟩, fun z => ⟨fun z2 => absurd z2 (by decide), fun _ => ?_⟩⟩⟩⟩
    · rw [i1] at c
      have c2 : ¬ (fws all t).length < 16 := fun z => nI_ge (b := 16) z (by decide) c
      exact hgo σ' (by rw [← fws_full (all := all) (t := t) (by omega) (by omega)]; exact I)
    · have hbt : bt all t = false := (has_bt all (by omega)).mp z
      rw [es]
      exact C_gat h R hl hj q hF hb hgo d (t + 1) σ' (by omega) (by rw [fws_s, if_neg (by rw [hbt]; decide), List.append_nil]; exact I)
    · have hbt : bt all t = true := by
        cases y : bt all t with
        | true => rfl
        | false => exact absurd ((has_bt all (by omega)).mpr y) z
      rw [i1] at c
      have hn : (fws all t).length < 16 := by
        by_cases y : (fws all t).length < 16
        · exact y
        · exact absurd (nI_le (a := 16) (by omega) (by omega)) c
      have htm : t ∈ fws all 60 := by unfold fws; rw [List.mem_filter, List.mem_range]; exact ⟨by omega, hbt⟩
      have htl := hF t htm
      obtain ⟨u, hu⟩ : ∃ u, V.1.2.1[t]? = some u := ⟨_, List.getElem?_eq_getElem htl⟩
      have e2 : fws all (t + 1) = fws all t ++ [t] := by rw [fws_s, if_pos hbt]
      have ex : ix (nI (fws all t).length) = (fws all t).length := nI_clamp (by omega)
      have e67 : ∀ v, v = eiC V.1.2.1 ch oe t → wX5_chanceOf_67 Q (lX5_chanceOf_14 Q (d + 1)) (ad 6 0 0) (ad 3 42 j) (ad 7 0 0) ch oe all (nI t) v (zFi σ' 323 (ad 6 0 0)) (ad 320 0 0) σ' := fun v ev => by
        have hs1 : Fr ct SW σ (uAi σ' (ad 320 0 0) (ix (zFi σ' 323 (ad 6 0 0))) v) := hs.uAi _ _ _ (Or.inl (by rw [c320 h']; decide))
        have h1 := h.frC (hs1.mono SW_SC)
        refine ⟨k320 h', by rw [l320 h', i1]; exact vp_in_nI (by omega) (by decide), k6 h', _, p321 h', C_hold h1 (by decide) hj (q.w h hj hs1) (by omega) ⟨k321 h1, by rw [l321 h1, i1]; exact vp_in_nI (by omega) (by decide), k6 h1, ?_⟩⟩
        rw [es, yFi_uAi, i1, ex, ← nI_succ]
        rw [i1, ex] at hs1 h1
        refine C_gat h R hl hj q hF hb hgo d (t + 1) _ (by omega) ⟨(hs1.uAi _ _ _ (Or.inl (by rw [c321 h1]; decide))).uFi _ _ _ (Or.inl (by rw [c6 h1]; decide)), ?_, by rw [e2, List.length_append, List.length_singleton]; omega, fun x f hx => ?_⟩
        · rw [yFi_uFi, yu2, if_pos ⟨rfl, rfl⟩, e2, List.length_append, List.length_singleton]
        · rw [yAi_uFi, yAi_uAi, yAi_uAi]
          rw [e2] at hx
          simp only [yu2]
          rw [if_neg (fun z => n3201 h' z.1)]
          by_cases y : x = (fws all t).length
          · rw [if_pos ⟨trivial, y⟩, if_pos ⟨trivial, y⟩]
            rw [y, List.getElem?_append_right (Nat.le_refl _), Nat.sub_self] at hx
            cases hx
            exact ⟨ev, rfl⟩
          · rw [if_neg (fun z => y z.2), if_neg (fun z => y z.2), if_neg (fun z => y z.2)]
            have hl := (List.getElem?_eq_some_iff.mp hx).1
            rw [List.length_append, List.length_singleton] at hl
            rw [List.getElem?_append_left (by omega)] at hx
            exact I.2.2.2 x f hx
      refine ⟨k6 h', _, p320 h', fun c2 => ⟨k7 h', C_weight h' (rcW h R hs) hl hu (k := 3) (by decide) (e67 _ ?_)⟩, fun c2 => e67 _ ?_⟩
      · unfold eiC eiF; rw [if_neg c2, hu]
      · unfold eiC; rw [if_pos c2]
/-- the chance of an answer as the class reckons it -/
def chC (fs : List Fct) (e : Ans) (ch oe : Int32) : Int64 := pF (fws (anyW e) 60).length (fun x => eiC fs ch oe ((fws (anyW e) 60).getD x 0)) (fun x => hoN e.2.1 ((fws (anyW e) 60).getD x 0) e.2.1.length) (fun x => opn (fws (anyW e) 60).length (fun x => hoN e.2.1 ((fws (anyW e) 60).getD x 0) e.2.1.length) ((fws (anyW e) 60).length - x) ^^^ (-1)) 18 0 (((1 : Int32) <<< (nI e.2.1.length &&& 31)) - 1)
theorem S322_SW : ∀ p, S322 p → SW p := fun p q => by subst q; decide
theorem C_chanceOf {V : Vt} (h : Sh ad ct σ) (R : RC ad ct σ V) (W : WFv V) {n j w : Nat} {cl : Bool} {e : Ans} (he : V.2.2.1.1[n]? = some e) (hj : j < room 42) (q : AnsAt ad σ 42 j w cl e) (hb : (fws (anyW e) 60).length ≤ 16) (ch oe : Int32) {Q : Int64 → St → Prop} (hQ : ∀ σ', Fr ct SW σ σ' → Q (chC V.1.2.1 e ch oe) σ') : wX5_chanceOf (ad 6 0 0) (ad 3 42 j) (ad 7 0 0) ch oe σ Q := by
  have hl : V.1.2.1.length ≤ 60 := W.1.wf.2.2.1
  have f0 : Fr ct SW σ (uFi σ 323 (ad 6 0 0) 0) := Fr.rf.uFi _ _ _ (Or.inl (by rw [c6 h]; decide))
  refine ⟨k3 h (by decide) hj, A_any h (by decide) hj q ⟨k6 h, 61, ?_⟩⟩
  refine C_gat h R hl hj q (all := anyW e) (fun f hf => fws_fs W he hf) hb (fun σ1 I => ?_) 60 0 _ (by decide) ⟨f0, ?_, Nat.zero_le _, fun x f hx => ?_⟩
  · obtain ⟨s1, i1, i2, i3⟩ := I
    have h1 := h.frC (s1.mono SW_SC)
    have gd : ∀ x, x < (fws (anyW e) 60).length → (fws (anyW e) 60)[x]? = some ((fws (anyW e) 60).getD x 0) := fun x hx => by rw [List.getD_eq_getElem?_getD, List.getElem?_eq_getElem hx]; rfl
    refine ⟨k6 h1, (fws (anyW e) 60).length + 2, ?_⟩
    rw [i1]
    have ce := C_ended (v1 := ad 3 42 j) (Q := Q) h1 i2 i1 (H := fun x => hoN e.2.1 ((fws (anyW e) 60).getD x 0) e.2.1.length) (fun x hx => (i3 x _ (gd x hx)).2) (fun σ2 E2 => ?_) (fws (anyW e) 60).length σ1 (Nat.le_refl _) ⟨Fr.rf, fun x h1 h2 => absurd h1 (by omega)⟩
    · rw [show (fws (anyW e) 60).length - ((fws (anyW e) 60).length + 1) = 0 by omega] at ce
      exact ce
    · have s2 : Fr ct SW σ σ2 := s1.tr1 (E2.1.mono S322_SW)
      have h2 := h.frC (s2.mono SW_SC)
      have q2 := q.w h hj s2
      refine ⟨k3 h2 (by decide) hj, k6 h2, ?_⟩
      rw [q2.2.2.2.1]
      have d320 := ((E2.1 _ (by rw [k320 h1]; decide)).2 (by rw [c320 h1]; decide)).2.2.1
      have d321 := ((E2.1 _ (by rw [k321 h1]; decide)).2 (by rw [c321 h1]; decide)).2.2.1
      have d6 := ((E2.1 _ (by rw [k6 h1]; decide)).2 (by rw [c6 h1]; decide)).1
      exact C_parts h2 i2 ((d6 _).trans i1) (E := fun x => eiC V.1.2.1 ch oe ((fws (anyW e) 60).getD x 0)) (fun x hx => (d320 x).trans (i3 x _ (gd x hx)).1) (fun x hx => (d321 x).trans (i3 x _ (gd x hx)).2) (fun x hx => E2.2 x (Nat.zero_le _) hx) 18 0 _ Q (Nat.zero_le _) (by omega) (hQ σ2 s2)
  · rw [yFi_uFi, yu2, if_pos ⟨rfl, rfl⟩]; rfl
  · rw [show fws (anyW e) 0 = [] from rfl, List.getElem?_nil] at hx; cases hx
end KG
