/-! the class: ask -/
section NT
variable {ad : Ad} {ct : Ct} {σ : St}
def D0 (r : Nat) : Nat → Bool := fun j => decide (j = r)
def duD (c : Co) (r : Nat) : Nat → Bool := due c.2.2.1 (r + 1) (D0 r)
theorem duD_r {c : Co} (r : Nat) : duD c r r = true := due_mono _ _ _ _ (decide_eq_true rfl)
theorem duD_cl {c : Co} (W : WF c) (r : Nat) : ∀ (i : Nat) q, c.2.2.1[i]? = some q → duD c r i = true → ∀ j ∈ opsT q, duD c r j = true := fun i q hq hd => by
  by_cases z : i < r + 1
  · exact due_cl W (r + 1) (D0 r) i q z hq hd
  · unfold duD at hd
    rw [due_ge W _ _ _ (by omega)] at hd
    have := of_decide_eq_true hd
    omega
theorem C_allWithin {c : Co} (W : WF c) (h : Sh ad ct σ) (hq : Cqs ad ct σ c.2.2.1) {r : Nat} {q0 : Qst} (hr : c.2.2.1[r]? = some q0) {Q : Int64 → St → Prop} (hQ : ∀ w, (∀ j, j < 40 → bt w j = duD c r j) → Q w σ) : wX4_allWithin (ad 5 0 0) (nI r) σ Q := by
  have hl := W.2.2.2.2.1
  have hr1 := (List.getElem?_eq_some_iff.mp hr).1
  have key : ∀ (n : Nat) (w : Int64) (D : Nat → Bool), n ≤ c.2.2.1.length → (∀ j, j < 40 → bt w j = D j) → due c.2.2.1 n D = duD c r → lX4_allWithin_7 Q (n + 1) (ad 5 0 0) w (nI n + (-1)) σ := by
    intro n
    induction n with
    | zero =>
      intro w D hn hb hd
      refine ⟨fun _ => hQ w (fun j hj => by rw [hb j hj, ← hd]; rfl), fun z => absurd (by decide) z⟩
    | succ n ih =>
      intro w D hn hb hd
      obtain ⟨q, hqn⟩ : ∃ q, c.2.2.1[n]? = some q := ⟨_, List.getElem?_eq_getElem (by omega)⟩
      obtain ⟨x, hx, iq⟩ := hq.2 n q hqn
      have en : nI (n + 1) + (-1) = nI n := by rw [← Int32.sub_eq_add_neg]; exact nI_pred n
      rw [en]
      have g8 := (W.2.2.2.2.2.1 n q hqn).1
      have nx : ∀ w2, (∀ j, j < 40 → bt w2 j = duS c.2.2.1 D n j) → lX4_allWithin_7 Q (n + 1) (ad 5 0 0) w2 (nI n + (-1)) σ := fun w2 hb2 => ih w2 _ (by omega) hb2 hd
      refine ⟨fun z => absurd z (nI_pos (by omega)), fun _ => ⟨k5 h, _, p257 h, k705 h, by rw [l705 h]; exact vp_in_nI (by omega) (by decide), x, by rw [show ix (nI n) = n from nI_clamp (by omega)]; exact hx, fun z => ⟨fun _ => nx w (fun j hj => ?_), fun y => absurd rfl y⟩, fun z => ⟨fun y => absurd y (by decide), fun _ => ⟨iq.1, fun nz => ?_, fun z0 => nx w (fun j hj => ?_)⟩⟩⟩⟩
      · have : D n = false := by rw [← hb n (by omega)]; exact (has_bt w (by omega)).mp z
        unfold duS
        rw [this, hb j hj]; simp
      · have dn : D n = true := by
          rw [← hb n (by omega)]
          cases hz : bt w n with
          | true => rfl
          | false => exact absurd ((has_bt w (by omega)).mpr hz) z
        have nz0 : q.1 ≠ 0 := fun y => nz (by rw [iq.2.2.1, y]; rfl)
        have m1 : ix q.2.2.1 ∈ opsT q := by unfold opsT; rw [if_neg nz0]; exact List.mem_cons_self
        have l1 := (ops_lt W hqn _ m1).1
        obtain ⟨p, ⟨s1, hs1, eo, hp⟩, _⟩ := (W.2.2.2.2.2.1 n q hqn).2.2.2.2 nz0
        have x1 : ix q.2.2.1 = s1 := by rw [eo]; exact nI_clamp (by omega)
        rw [iq.2.2.2.2.1, iq.2.2.2.2.2.1]
        refine ⟨fun zm => nx _ (fun j hj => ?_), fun zm => nx _ (fun j hj => ?_)⟩
        · rw [bt_or, hb j hj, eo, bt_sh1 (by omega)]
          unfold duS opsT
          rw [hqn, dn]
          simp only [if_neg nz0, if_pos zm, x1, List.mem_cons, List.not_mem_nil, or_false, Bool.true_and]
        · have m2 : ix q.2.2.2.1 ∈ opsT q := by unfold opsT; rw [if_neg nz0, if_neg zm]; exact List.mem_cons_of_mem _ List.mem_cons_self
          have l2 := (ops_lt W hqn _ m2).1
          obtain ⟨g8, gw1, gw6, g0, g1⟩ := W.2.2.2.2.2.1 n q hqn
          obtain ⟨p', _, _, _, _, _, r123, r66, r457⟩ := g1 nz0
          have k457 : q.1 = 4 ∨ q.1 = 5 ∨ q.1 = 7 := by
            by_cases z4 : q.1 = 1 ∨ q.1 = 2 ∨ q.1 = 3
            · exact absurd (r123 z4).1 zm
            · by_cases z6 : q.1 = 6
              · exact absurd (r66 z6).1 zm
              · exact kd_a g8 nz0 z4 z6
          obtain ⟨p2, ⟨s2, hs2, eo2, hp2⟩, _⟩ := r457 k457
          have x2 : ix q.2.2.2.1 = s2 := by rw [eo2]; exact nI_clamp (by omega)
          rw [bt_or, bt_or, hb j hj, eo, bt_sh1 (by omega), eo2, bt_sh1 (by omega)]
          unfold duS opsT
          rw [hqn, dn]
          simp only [if_neg nz0, if_neg zm, x1, x2, List.mem_cons, List.not_mem_nil, or_false, Bool.true_and, Bool.decide_or, Bool.or_assoc]
      · have z0' : q.1 = 0 := by
          rw [iq.2.2.1] at z0
          have z0 := congrArg Int32.toInt z0
          rw [nI_toInt (by omega), show (0 : Int32).toInt = 0 from rfl] at z0
          omega
        unfold duS opsT
        rw [hqn, hb j hj]
        simp [z0']
  refine ⟨r + 2, ?_⟩
  have := key (r + 1) ((1 : Int64) <<< (Int32.toInt64 (nI r) &&& 63)) (D0 r) (by omega) (fun j hj => by rw [bt_sh1 (by omega)]; rfl) rfl
  rw [show nI (r + 1) + (-1) = nI r from by rw [← Int32.sub_eq_add_neg]; exact nI_pred r] at this
  exact this
abbrev SWa : Nat × Nat → Prop := fun p => ∃ k, k < 40 ∧ SWo k p
theorem SWa_n {p : Nat × Nat} (h : p.1 ≠ 4 ∧ p.1 ≠ 3 ∧ p.1 ≠ 128 ∧ p.1 ≠ 129 ∧ p.1 ≠ 192 ∧ p.1 ≠ 8 ∧ p.1 ≠ 448 ∧ p.1 ≠ 262 ∧ p.1 ≠ 263) : ¬ SWa p := fun ⟨k, hk, z⟩ => by
  obtain ⟨a, b⟩ := p
  simp only [SWo, SNr, Prod.mk.injEq] at z
  simp only at h
  omega
theorem SWa_42 (g : Nat) : ¬ SWa (g, 42) := fun ⟨k, hk, z⟩ => by
  simp only [SWo, SNr, Prod.mk.injEq] at z
  omega
theorem SWa_SC : ∀ p, SWa p → SC p := fun p ⟨k, _, z⟩ => SWo_SC k p z
theorem rcO (h : Sh ad ct σ) {V : Vt} (R : RC ad ct σ V) {σ' : St} (f : Fr ct SWa σ σ') (cw : Crw ad σ') : RC ad ct σ' V := by
  obtain ⟨h1, h2, h3, h4, h5, h6, h7, h8⟩ := R
  have e := f.fi (k12 h) (by decide) (c12 h) (SWa_n (by decide))
  have e7 := f.fi (k7 h) (by decide) (c7 h) (SWa_n (by decide))
  have e7j := f.fj (k7 h) (by decide) (c7 h) (SWa_n (by decide))
  exact ⟨h1.cg h f (SWa_n (by decide)) (e7 _), h2.cg h f (SWa_n (by decide)) (SWa_n (by decide)) (SWa_n (by decide)) (e7 _) (e7j _), h3.cg h f (SWa_n (by decide)) (SWa_n (by decide)) (e _), h4.cg h f (SWa_n (by decide)) (SWa_n (by decide)), h5.cg h f (SWa_n (by decide)) (SWa_n (by decide)) (SWa_n (by decide)), h6.cg h f (SWa_42 _) (SWa_42 _) (SWa_42 _) (SWa_42 _) (SWa_42 _) (e _), (e _).trans h7, cw⟩
theorem AR.swo (h : Sh ad ct σ) {k s w : Nat} {cl : Bool} {L : List Ans} (hs : s < 40) (n1 : s ≠ k) (q : AR ad σ s L w cl) {σ' : St} (F : Fr ct (SWo k) σ σ') : AR ad σ' s L w cl := by
  have n : ∀ c, (c = 4 ∨ c = 3 ∨ c = 128 ∨ c = 129 ∨ c = 192) → ¬ SWo k (c, s) := fun c hc z => by
    simp only [SWo, SNr, Prod.mk.injEq] at z
    omega
  exact q.cg h F (by omega) (n _ (by decide)) (n _ (by decide)) (n _ (by decide)) (n _ (by decide)) (n _ (by decide))
theorem C_answersTo {V : Vt} (W : WF V.1) (h : Sh ad ct σ) (R : RC ad ct σ V) {r : Nat} {q0 : Qst} (hr : V.1.2.2.1[r]? = some q0) {Q : Option Nat → St → Prop} (h0 : ∀ σ', Fr ct SWa σ σ' → Crw ad σ' → Bad V.1 (duD V.1 r) r → Q none σ') (h1 : ∀ σ' T, Fr ct SWa σ σ' → Crw ad σ' → Good V.1 (duD V.1 r) T (r + 1) → AR ad σ' r (T r) q0.2.1 q0.2.2.2.2.1 → (T r).Pairwise (fun a b => rlt a.1 b.1) → Q (some (ad 4 r 0)) σ') : wX4_answersTo (ad 5 0 0) (nI r) σ Q := by
  have hl := W.2.2.2.2.1
  have hr1 := (List.getElem?_eq_some_iff.mp hr).1
  refine ⟨k5 h, C_allWithin W h R.2.2.1 hr (fun w hb => ⟨r + 2, ?_⟩)⟩
  have key : ∀ (d i : Nat) (T : Nat → List Ans) (σ3 : St), i + d = r + 1 → Fr ct SWa σ σ3 → Crw ad σ3 → Good V.1 (duD V.1 r) T i → (∀ (j : Nat) p, j < i → duD V.1 r j = true → V.1.2.2.1[j]? = some p → TOk ad σ3 V.1 T j p) → lX4_answersTo_9 Q (d + 1) (ad 5 0 0) (nI r) w (nI i) σ3 := by
    intro d
    induction d with
    | zero =>
      intro i T σ3 hi F cw G hT
      have h3 := h.frC (F.mono SWa_SC)
      have hi : i = r + 1 := by omega
      rw [hi] at G
      have t := hT r q0 (by omega) (duD_r r) hr
      refine ⟨fun _ => ⟨k5 h3, _, p258 h3, k258 h3, by rw [l258 h3]; exact vp_in_nI (by omega) (by decide), _, by rw [show ix (nI r) = r from nI_clamp (by omega)]; exact w258 h3 (by omega), h1 σ3 T F cw G t.1 t.2.1⟩, fun z => absurd ?_ z⟩
      rw [Int32.lt_iff_toInt_lt, nI_toInt (by omega), nI_toInt (by omega)]
      omega
    | succ d ih =>
      intro i T σ3 hi F cw G hT
      have h3 := h.frC (F.mono SWa_SC)
      have R3 := rcO h R F cw
      obtain ⟨q, hq⟩ : ∃ q, V.1.2.2.1[i]? = some q := ⟨_, List.getElem?_eq_getElem (by omega)⟩
      refine ⟨fun z => absurd z ?_, fun _ => ⟨fun z => ⟨fun _ => ?_, fun y => absurd rfl y⟩, fun z => ⟨fun y => absurd y (by decide), fun _ => ⟨k5 h3, ?_⟩⟩⟩⟩
      · rw [Int32.lt_iff_toInt_lt, nI_toInt (by omega), nI_toInt (by omega)]
        omega
      · have dn : duD V.1 r i = false := by rw [← hb i (by omega)]; exact (has_bt w (by omega)).mp z
        rw [nI_1]
        refine ih (i + 1) T σ3 (by omega) F cw (G.skip dn) (fun j p hj hd hp => hT j p ?_ hd hp)
        by_cases e : j = i
        · rw [e, dn] at hd; cases hd
        · omega
      · have dn : duD V.1 r i = true := by
          rw [← hb i (by omega)]
          cases hz : bt w i with
          | true => rfl
          | false => exact absurd ((has_bt w (by omega)).mpr hz) z
        have hTi : ∀ j p, (q.1 ≠ 0 ∧ q.2.2.1 = nI j ∨ q.2.2.2.1 = nI j) → j < i → V.1.2.2.1[j]? = some p → TOk ad σ3 V.1 T j p := fun j p ho hj hp => hT j p hj (duD_cl W r i q hq dn j (ops_mem W hq ho hj)) hp
        refine C_workOut W h3 cw R3.2.2.1 R3.2.1 hq hTi (fun σ' f cw' no => ⟨fun y => absurd rfl y, fun _ => h0 σ' (F.tr1 (f.mono (fun p z => ⟨i, by omega, z⟩))) cw' ⟨T, i, q, by omega, dn, hq, G, no⟩⟩) (fun σ' R' f cw' a s wk => ⟨fun _ => ?_, fun y => absurd y (by decide)⟩)
        rw [nI_1]
        have can := can_step W hq (fun j hj p hp => by
          have lt := (ops_lt W hq j hj).1
          exact (hT j p lt (duD_cl W r i q hq dn j hj) hp).2.2) wk
        refine ih (i + 1) (upT T i R') σ' (by omega) (F.tr1 (f.mono (fun p z => ⟨i, by omega, z⟩))) cw' (G.up W hq wk) (fun j p hj hd hp => ?_)
        by_cases e : j = i
        · subst e
          rw [hq] at hp
          cases hp
          unfold TOk
          rw [upT_s]
          exact ⟨a, s, can⟩
        · have t := hT j p (by omega) hd hp
          unfold TOk at t ⊢
          rw [upT_o e]
          exact ⟨t.1.swo h3 (by omega) e f, t.2⟩
  exact key (r + 1) 0 (fun _ => []) σ (by omega) Fr.rf R.2.2.2.2.2.2.2 (fun i q hi => absurd hi (Nat.not_lt_zero _)) (fun j p hj => absurd hj (Nat.not_lt_zero _))
/-- the value after a good ask -/
def askV (V : Vt) (la : List Ans) (w : Nat) (cl : Bool) : Vt := (V.1, V.2.1, (la, w, cl), 0)
theorem C_ask {V : Vt} (W : WF V.1) (h : Sh ad ct σ) (R : RC ad ct σ V) (v : Int32) {Q : Int32 → St → Prop} (h0 : qOf V v = none → ∀ σ', Fr ct SC σ σ' → RC ad ct σ' (stV V 1) → Q (-1) σ') (h5 : ∀ r q0, v = nI r → V.1.2.2.1[r]? = some q0 → qOf V v = some q0 → Bad V.1 (duD V.1 r) r → ∀ σ', Fr ct SC σ σ' → RC ad ct σ' (stV V 5) → Q (-1) σ') (h1 : ∀ r q0 T, v = nI r → V.1.2.2.1[r]? = some q0 → qOf V v = some q0 → Good V.1 (duD V.1 r) T (r + 1) → (T r).Pairwise (fun a b => rlt a.1 b.1) → ∀ σ', Fr ct SC σ σ' → RC ad ct σ' (askV V (T r) q0.2.1 q0.2.2.2.2.1) → Q (nI (T r).length) σ') : wX11_ask (ad 12 0 0) v σ Q := by
  have hl := W.2.2.2.2.1
  refine ⟨k12 h, C_isQ h R hl v (fun z => ⟨fun y => absurd rfl y, fun _ => ⟨k12 h, C_ref h R 1 (h0 z)⟩⟩) (fun r q0 hr1 ev hr eq => ⟨fun _ => ?_, fun y => absurd y (by decide)⟩)⟩
  refine ⟨k12 h, _, p707 h, k5 h, ?_⟩
  rw [ev]
  refine C_answersTo W h R hr (fun σ1 f cw bad => ⟨fun _ => ?_, fun a z => (by cases z)⟩) (fun σ1 T f cw G a s => ⟨fun z => (by cases z), fun b z => ?_⟩)
  · have h1' := h.frC (f.mono SWa_SC)
    exact ⟨k12 h1', C_ref h1' (rcO h R f cw) 5 (fun σ2 f2 R2 => h5 r q0 ev hr eq bad σ2 ((f.mono SWa_SC).tr1 f2) R2)⟩
  · cases z
    have h1' := h.frC (f.mono SWa_SC)
    have R1 := rcO h R f cw
    have lT : (T r).length ≤ 32 := by have := a.2.2.2.1; unfold room at this; rw [if_neg (by omega)] at this; exact this
    refine ⟨k12 h1', _, p708 h1', k4 h1' (by decide), C_takeAll (s := 42) h1' cw (by decide) (by omega) (by omega) a lT (fun σ2 f2 cw2 a2 => ?_)⟩
    have h2 := h1'.frC (f2.mono (SN_SC 42))
    obtain ⟨q1, q2, q3, q4, q5, q6, q7, q8⟩ := R1
    obtain ⟨x, hx, iq⟩ := q3.2 r q0 hr
    have n00 : ¬ SN 42 (0, 0) := fun z => by simp [SN] at z
    have iq2 : isQ ct σ2 x q0 := iq.fr f2 n00
    have hx2 : zAr σ2 (ad 705 0 0) r = some x := (f2.ar (k705 h1') (by decide) (c705 h1') (by simp [SN]) r).trans hx
    have xr : ix (nI r) = r := nI_clamp (by omega)
    refine ⟨k12 h2, _, p705 h2, k705 h2, by rw [l705 h2]; exact vp_in_nI (by omega) (by decide), x, by rw [xr]; exact hx2, iq2.1, ?_, _, p708 h2, k4 h2 (by decide), ?_⟩
    · rw [iq2.2.2.2.2.2.2.1]
      cases q0.2.2.2.2.1
      · exact Or.inl rfl
      · exact Or.inr rfl
    · rw [iq2.2.2.2.2.2.2.1, yFi_uFi, yu2, if_neg (fun z => absurd z.1 (by decide)), yFi_uFi, yu2, if_neg (fun z => absurd z.1 (by decide)), a2.1]
      have F3 : Fr ct (fun p => SN 42 p ∨ p = (12, 0)) σ1 (uFi (uFi σ2 709 (ad 12 0 0) (zB q0.2.2.2.2.1)) 714 (ad 12 0 0) 0) := ((f2.mono (S' := fun p => SN 42 p ∨ p = (12, 0)) (fun p z => Or.inl z)).uFi _ _ _ (Or.inl (by rw [c12 h1']; exact Or.inr rfl))).uFi _ _ _ (Or.inl (by rw [c12 h1']; exact Or.inr rfl))
      have Fa : Fr ct (fun p => p = (12, 0)) σ2 (uFi (uFi σ2 709 (ad 12 0 0) (zB q0.2.2.2.2.1)) 714 (ad 12 0 0) 0) := (Fr.rf.uFi _ _ _ (Or.inl (by rw [c12 h2]))).uFi _ _ _ (Or.inl (by rw [c12 h2]))
      have e706 : zFi (uFi (uFi σ2 709 (ad 12 0 0) (zB q0.2.2.2.2.1)) 714 (ad 12 0 0) 0) 706 (ad 12 0 0) = zFi σ1 706 (ad 12 0 0) := by
        rw [yFi_uFi, yu2, if_neg (fun z => absurd z.1 (by decide)), yFi_uFi, yu2, if_neg (fun z => absurd z.1 (by decide))]
        exact f2.fi (k12 h1') (by decide) (c12 h1') (by simp [SN]) _
      have e709 : zFi (uFi (uFi σ2 709 (ad 12 0 0) (zB q0.2.2.2.2.1)) 714 (ad 12 0 0) 0) 709 (ad 12 0 0) = zB q0.2.2.2.2.1 := by
        rw [yFi_uFi, yu2, if_neg (fun z => absurd z.1 (by decide)), yFi_uFi, yu2, if_pos ⟨rfl, rfl⟩]
      have e714 : zFi (uFi (uFi σ2 709 (ad 12 0 0) (zB q0.2.2.2.2.1)) 714 (ad 12 0 0) 0) 714 (ad 12 0 0) = 0 := by
        rw [yFi_uFi, yu2, if_pos ⟨rfl, rfl⟩]
      have SC3 : ∀ p, (SN 42 p ∨ p = (12, 0)) → SC p := fun p z => z.elim (SN_SC 42 p) (fun e => by subst e; decide)
      have a3 := a2.cg h2 Fa (by decide) (by simp) (by simp) (by simp) (by simp) (by simp)
      have cw3 := cw2.cg h2 Fa (fun s' _ => by simp)
      generalize uFi (uFi σ2 709 (ad 12 0 0) (zB q0.2.2.2.2.1)) 714 (ad 12 0 0) 0 = ρ at F3 Fa e706 e709 e714 a3 cw3 ⊢
      have e7 := F3.fi (k7 h1') (by decide) (c7 h1') (by simp [SN])
      have e7j := F3.fj (k7 h1') (by decide) (c7 h1') (by simp [SN])
      exact h1 r q0 T ev hr eq G s ρ ((f.mono SWa_SC).tr1 (F3.mono SC3)) ⟨q1.cg h1' F3 (by simp [SN]) (e7 _), q2.cg h1' F3 (by simp [SN]) (by simp [SN]) (by simp [SN]) (e7 _) (e7j _), q3.cg h1' F3 (by simp [SN]) (by simp [SN]) e706, q4.cg h1' F3 (by simp [SN]) (by simp [SN]), q5.cg h1' F3 (by simp [SN]) (by simp [SN]) (by simp [SN]), ⟨_, a3, fun _ => ⟨rfl, e709⟩⟩, e714, cw3⟩
end NT
