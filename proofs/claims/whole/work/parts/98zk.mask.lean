/-! the reference: ask -/
section NV
variable {ad : Ad} {ct : Ct} {σ : St}
abbrev SAk : Nat × Nat → Prop := fun p => (∃ k, k < 40 ∧ SX k p) ∨ p = (1058, 0)
theorem SAk_n {p : Nat × Nat} (h : p.1 ≠ 15 ∧ ¬ (898 ≤ p.1 ∧ p.1 ≤ 903) ∧ p.1 ≠ 17 ∧ p.1 ≠ 1053 ∧ p.1 ≠ 1055 ∧ p.1 ≠ 1056 ∧ p.1 ≠ 1058) : ¬ SAk p := fun z => by
  obtain ⟨a, b⟩ := p
  simp only [SAk, SX, SS, Prod.mk.injEq] at z
  simp only at h
  rcases z with ⟨k, _, z⟩ | z
  · omega
  · omega
theorem SAk_40 (g : Nat) : ¬ SAk (g, 40) := fun z => by
  simp only [SAk, SX, SS, Prod.mk.injEq] at z
  rcases z with ⟨k, _, z⟩ | z
  · omega
  · omega
theorem SAk_SM : ∀ p, SAk p → SM p := fun p z => by
  rcases z with ⟨k, _, z⟩ | z
  · exact SX_SM k p z
  · subst z; decide
def WkA (ad : Ad) (ct : Ct) (σ σ' : St) : Prop := Fr ct SAk σ σ' ∧ ∀ g, g ≠ 1054 → zFi σ' g (ad 17 0 0) = zFi σ g (ad 17 0 0)
theorem WkA.rf : WkA ad ct σ σ := ⟨Fr.rf, fun _ _ => rfl⟩
theorem WkA.tr {σ1 σ2 : St} (a : WkA ad ct σ σ1) (b : WkA ad ct σ1 σ2) : WkA ad ct σ σ2 := ⟨a.1.tr1 b.1, fun g hg => (b.2 g hg).trans (a.2 g hg)⟩
theorem WkH.a {k : Nat} (hk : k < 40) {σ1 : St} (f : WkH ad ct σ σ1 k) : WkA ad ct σ σ1 := ⟨f.1.mono (fun p z => Or.inl ⟨k, hk, z⟩), f.2⟩
theorem WkA.u (h : Sh ad ct σ) (i : Nat) (v : Int32) : WkA ad ct σ (uAi σ (ad 1058 0 0) i v) := ⟨Fr.rf.uAi _ _ _ (Or.inl (by rw [c1058 h]; exact Or.inr rfl)), fun g _ => by rw [yFi_uAi]⟩
theorem rmA (h : Sh ad ct σ) {V : Vt} (hl : V.2.1.length ≤ 100) (R : RM ad σ V) {ρ : St} (f : WkA ad ct σ ρ) : RM ad ρ V := by
  obtain ⟨h1, h2, h3, h4, h5, h6, h7⟩ := R
  have e := f.2
  have f := f.1
  exact ⟨h1.cg h f (SAk_n (by decide)) (e _ (by decide)), h2.cg h f (SAk_n (by decide)) (SAk_n (by decide)) (SAk_n (by decide)) (SAk_n (by decide)) (SAk_n (by decide)) (SAk_n (by decide)) (SAk_n (by decide)) (e _ (by decide)), h3.cg h f (fun g g1 g2 => SAk_n (by dsimp only; omega)) (e _ (by decide)), h4.cg h f (fun k _ => ⟨SAk_n (by dsimp only; omega), SAk_n (by dsimp only; omega), SAk_n (by dsimp only; omega)⟩), h5.cg h f (SAk_n (by decide)) (fun i _ => ⟨SAk_n (by dsimp only; omega), SAk_n (by dsimp only; omega), SAk_n (by dsimp only; omega), SAk_n (by dsimp only; omega)⟩) (e _ (by decide)) hl, h6.cg h f (SAk_40 _) (fun g _ _ => SAk_40 g) (e _ (by decide)), (e _ (by decide)).trans h7⟩
theorem S59_n {p : Nat × Nat} (h : p.1 ≠ 15 ∧ ¬ (898 ≤ p.1 ∧ p.1 ≤ 903) ∧ p.1 ≠ 17 ∧ p.1 ≠ 1053 ∧ p.1 ≠ 1059) : ¬ S59 p := fun z => by
  obtain ⟨a, b⟩ := p
  simp only [S59, SQ, SS, Prod.mk.injEq] at z
  simp only at h
  omega
theorem M_fin {V : Vt} (hl : V.2.1.length ≤ 100) (h : Sh ad ct σ) (R : RM ad σ V) {ρ : St} (f : WkS ad ct σ ρ) {O : List Ans} {w : Nat} {cl : Bool} (a : MR ad ρ 40 O w cl) {Q : Int32 → St → Prop} (hQ : ∀ σ', Fr ct SM σ σ' → RM ad σ' (askV V O w cl) → Q (nI O.length) σ') : wX16_ask_302 Q (ad 17 0 0) (zB (!cl)) (ad 17 0 0) ρ := by
  have hρ := h.frM (f.1.mono S59_SM)
  have z17 : S59 (ct (ad 17 0 0)) ∨ zK σ (ad 17 0 0) = 0 := Or.inl (by rw [c17 h]; exact Or.inl (Or.inr (Or.inl rfl)))
  have F2 : Fr ct S59 σ (uFi ρ 1057 (ad 17 0 0) (zB (!cl))) := f.1.uFi _ _ _ z17
  have e : ∀ g, g ≠ 1054 → g ≠ 1057 → zFi (uFi ρ 1057 (ad 17 0 0) (zB (!cl))) g (ad 17 0 0) = zFi σ g (ad 17 0 0) := fun g g1 g2 => by
    rw [yFi_uFi, yu2, if_neg (fun z => g2 z.1)]; exact f.2 g g1
  have e57 : zFi (uFi ρ 1057 (ad 17 0 0) (zB (!cl))) 1057 (ad 17 0 0) = zB (!cl) := by rw [yFi_uFi, yu2, if_pos ⟨rfl, rfl⟩]
  have a2 : MR ad (uFi ρ 1057 (ad 17 0 0) (zB (!cl))) 40 O w cl := a.ss hρ (Fr.rf.uFi _ _ _ (Or.inl (c17 hρ)) : Fr ct (fun p => p = (17, 0)) ρ _) (by decide) (fun g hg z => by
    have z : (g, 40) = (17, 0) := z
    cases z)
  refine ⟨k17 hρ, ?_, k17 hρ, _, p1050 hρ, k15 hρ (by decide), ?_⟩
  · cases cl
    · exact Or.inr rfl
    · exact Or.inl rfl
  · generalize uFi ρ 1057 (ad 17 0 0) (zB (!cl)) = τ at F2 e e57 a2 ⊢
    have hτ := h.frM (F2.mono S59_SM)
    obtain ⟨h1, h2, h3, h4, h5, h6, h7⟩ := R
    have R2 : RM ad τ (V.1, V.2.1, (O, w, cl), V.2.2.2) := ⟨h1.cg h F2 (S59_n (by decide)) (e _ (by decide) (by decide)), h2.cg h F2 (S59_n (by decide)) (S59_n (by decide)) (S59_n (by decide)) (S59_n (by decide)) (S59_n (by decide)) (S59_n (by decide)) (S59_n (by decide)) (e _ (by decide) (by decide)), h3.cg h F2 (fun g g1 g2 => S59_n (by dsimp only; omega)) (e _ (by decide) (by decide)), h4.cg h F2 (fun k _ => ⟨S59_n (by dsimp only; omega), S59_n (by dsimp only; omega), S59_n (by dsimp only; omega)⟩), h5.cg h F2 (S59_n (by decide)) (fun i _ => ⟨S59_n (by dsimp only; omega), S59_n (by dsimp only; omega), S59_n (by dsimp only; omega), S59_n (by dsimp only; omega)⟩) (e _ (by decide) (by decide)) hl, ⟨w, a2, fun _ => ⟨rfl, e57⟩⟩, (e _ (by decide) (by decide)).trans h7⟩
    rw [a2.1]
    exact M_done (V := (V.1, V.2.1, (O, w, cl), V.2.2.2)) hτ hl R2 _ (fun σ' f' R' => hQ σ' ((F2.mono S59_SM).tr1 f') R')
theorem M_ask {V : Vt} (hlen : V.2.1.length ≤ 100) (W : WF V.1) (h : Sh ad ct σ) (R : RM ad σ V) (v : Int32) {Q : Int32 → St → Prop} (h0 : qOf V v = none → ∀ σ', Fr ct SM σ σ' → RM ad σ' (stV V 1) → Q (-1) σ') (h5 : ∀ r q0, v = nI r → V.1.2.2.1[r]? = some q0 → qOf V v = some q0 → Bad V.1 (duD V.1 r) r → ∀ σ', Fr ct SM σ σ' → RM ad σ' (stV V 5) → Q (-1) σ') (h1 : ∀ r q0 T, v = nI r → V.1.2.2.1[r]? = some q0 → qOf V v = some q0 → Good V.1 (duD V.1 r) T (r + 1) → (T r).Pairwise (fun a b => rlt a.1 b.1) → ∀ σ', Fr ct SM σ σ' → RM ad σ' (askV V (T r) q0.2.1 q0.2.2.2.2.1) → Q (nI (T r).length) σ') : wX16_ask (ad 17 0 0) v σ Q := by
  have hl := W.2.2.2.2.1
  have f0 : Fr ct S6 σ (uFi σ 1024 (ad 17 0 0) 0) := Fr.rf.uFi _ _ _ (Or.inl (by rw [c17 h]; exact Or.inl rfl))
  have R0 := rmF h hlen R f0 (fun g hg => by rw [yFi_uFi, yu2, if_neg (fun z => by have := z.1; omega)])
  refine ⟨k17 h, ?_⟩
  have h00 := h.frM (f0.mono S6_SM)
  have F00 := f0.mono S6_SM
  generalize uFi σ 1024 (ad 17 0 0) 0 = σ0 at f0 R0 h00 F00 ⊢
  refine M_isQ h00 R0 hl v (fun z => ⟨fun y => absurd rfl y, fun _ => ⟨k17 h00, M_ref h00 hlen R0 1 (fun σ' f' R' => h0 z σ' (F00.tr1 f') R')⟩⟩) (fun r q0 hr1 ev hr eq => ⟨fun _ => ?_, fun y => absurd y (by decide)⟩)
  rw [ev]
  have xr : ix (nI r) = r := nI_clamp (by omega)
  have gw1 := (W.2.2.2.2.2.1 r q0 hr).2.1
  have l181 : ∀ (T : Nat → List Ans) (σ4 ρ : St), WkA ad ct σ0 σ4 → Good V.1 (duD V.1 r) T (r + 1) → TOm ad ρ V.1 T r q0 → WkS ad ct σ4 ρ → ∀ (d j : Nat) (σ5 : St), j + d = 32 → WkS ad ct ρ σ5 → MR ad σ5 40 [] q0.2.1 q0.2.2.2.2.1 → (∀ m, m < j → zAi σ5 (ad 1059 0 0) m = 0) → lX16_ask_181 Q (d + 1) (ad 17 0 0) (nI r) (ad 15 r 0) (nI j) σ5 := by
    intro T σ4 ρ A4 G t S4 d
    have h4 := h00.frM (A4.1.mono SAk_SM)
    have hρ := h4.frM (S4.1.mono S59_SM)
    induction d with
    | zero =>
      intro j σ5 hj S q40 hz
      have hj : j = 32 := by omega
      rw [hj] at hz
      have h5' := hρ.frM (S.1.mono S59_SM)
      refine ⟨fun _ => ?_, fun z => absurd (nI_le (a := 32) (b := j) (by omega) (by omega)) z⟩
      refine M_sort h5' (by omega) gw1 (S.mr hρ (by omega) t.1) t.2.1 (fun e he => (t.2.2 e he).cn) q40 hz (fun σ6 O S6' q6 so pm r202 => ?_)
      have S46 := (S4.tr S).tr S6'
      have h6 := h5'.frM (S6'.1.mono S59_SM)
      have qr6 := (S.tr S6').mr hρ (by omega) t.1
      refine ⟨k15 h6 (by omega), fun _ => ⟨k17 h6, _, p1047 h6, k1047 h6, by rw [l1047 h6]; exact vp_in_nI (by omega) (by decide), ?_⟩, fun z => absurd ?_ z⟩
      · have R4 := rmA h00 hlen R0 A4
        have e47 : zAi σ6 (ad 1047 0 0) (ix (nI r)) = zB q0.2.2.2.2.1 := by
          rw [xr]
          exact (S46.1.ai (k1047 h4) (by decide) (c1047 h4) (S59_n (by decide)) r).trans (R4.2.2.1.2 r q0 hr).2.2.2.2.1
        rw [e47]
        have wk : Wkr V.1.2.1 q0 (T (ix q0.2.2.1)) (T (ix q0.2.2.2.1)) O := (G r q0 (by omega) (duD_r r) hr).pr pm.symm
        have G2 : Good V.1 (duD V.1 r) (upT T r O) (r + 1) := Good.up W (fun i p hi => G i p (by omega)) hr wk
        have fin := M_fin (Q := Q) hlen h4 R4 S46 q6 (fun σ' f' R' => by
          have := h1 r q0 (upT T r O) ev hr eq G2 (by rw [upT_s]; exact so) σ' ((F00.tr1 (A4.1.mono SAk_SM)).tr1 f') (by rw [upT_s]; exact R')
          rw [upT_s] at this
          exact this)
        cases hc : q0.2.2.2.2.1 with
        | true =>
          rw [hc] at fin
          exact ⟨fun _ => fin, fun z => absurd z (by decide)⟩
        | false =>
          rw [hc] at fin
          exact ⟨fun z => absurd rfl z, fun _ => fin⟩
      · rw [qr6.1]; exact nI_le (Nat.le_refl _) (by have := qr6.2.2.2.1; omega)
    | succ d ih =>
      intro j σ5 hj S q40 hz
      have h5' := hρ.frM (S.1.mono S59_SM)
      refine ⟨fun z => absurd z (nI_ge (a := j) (b := 32) (by omega) (by decide)), fun _ => ⟨k17 h5', _, p1059 h5', k1059 h5', by rw [l1059 h5']; exact vp_in_nI (by omega) (by decide), ?_⟩⟩
      rw [show ix (nI j) = j from nI_clamp (by omega), nI_1, show vp_nar .boolean 0 = (0 : Int32) from rfl]
      refine ih (j + 1) _ (by omega) (S.tr (WkS.u h5' j 0)) (q40.ss h5' (Fr.rf.uAi _ _ _ (Or.inl (c1059 h5')) : Fr ct (fun p => p = (1059, 0)) σ5 _) (by decide) (fun g hg z => by
        have z : (g, 40) = (1059, 0) := z
        cases z)) (fun m hm => ?_)
      rw [yAi_uAi, yu2]
      by_cases c : m = j
      · rw [if_pos ⟨rfl, c⟩]
      · rw [if_neg (fun z => c z.2)]; exact hz m (by omega)
  have l118 : ∀ (d i : Nat) (T : Nat → List Ans) (σ3 : St), i + d = r + 1 → WkA ad ct σ0 σ3 → (∀ m, m < 40 → zAi σ3 (ad 1058 0 0) m = zB (duD V.1 r m)) → Good V.1 (duD V.1 r) T i → (∀ (j : Nat) p, j < i → duD V.1 r j = true → V.1.2.2.1[j]? = some p → TOm ad σ3 V.1 T j p) → lX16_ask_118 Q (d + 1) (ad 17 0 0) (nI r) (nI i) σ3 := by
    intro d
    induction d with
    | zero =>
      intro i T σ3 hi A hb G hT
      have hi : i = r + 1 := by omega
      rw [hi] at G hT
      have h3 := h00.frM (A.1.mono SAk_SM)
      have t := hT r q0 (by omega) (duD_r r) hr
      refine ⟨fun _ => ⟨k17 h3, _, p1049 h3, k1049 h3, by rw [l1049 h3]; exact vp_in_nI (by omega) (by decide), ad 15 r 0, by rw [xr]; exact w1049 h3 (by omega), _, p1050 h3, k15 h3 (by decide), k15 h3 (by omega), 33, ?_⟩, fun z => absurd ?_ z⟩
      · have ew : zFi (uFi σ3 896 (ad 15 40 0) 0) 897 (ad 15 r 0) = nI q0.2.1 := by
          rw [yFi_uFi, yu2, if_neg (fun z => absurd z.1 (by decide))]; exact t.1.2.1
        rw [ew]
        have z15 : (fun p : Nat × Nat => p = (15, 40)) (ct (ad 15 40 0)) ∨ zK σ3 (ad 15 40 0) = 0 := Or.inl (c15 h3 (by decide))
        have Fx : Fr ct (fun p => p = (15, 40)) σ3 (uFi (uFi σ3 896 (ad 15 40 0) 0) 897 (ad 15 40 0) (nI q0.2.1)) := (Fr.rf.uFi _ _ _ z15).uFi _ _ _ z15
        have S : WkS ad ct σ3 (uFi (uFi σ3 896 (ad 15 40 0) 0) 897 (ad 15 40 0) (nI q0.2.1)) := ⟨Fx.mono (fun p z => Or.inl (Or.inl (Or.inl z))), fun g _ => Fx.fi (k17 h3) (by decide) (c17 h3) (by simp) g⟩
        have qo : MR ad (uFi (uFi σ3 896 (ad 15 40 0) 0) 897 (ad 15 40 0) (nI q0.2.1)) 40 [] q0.2.1 q0.2.2.2.2.1 := by
          refine ⟨?_, ?_, t.1.2.2.1, Nat.zero_le _, fun r e he => by rw [List.getElem?_nil] at he; cases he⟩
          · rw [yFi_uFi, yu2, if_neg (fun z => absurd z.1 (by decide)), yFi_uFi, yu2, if_pos ⟨rfl, rfl⟩]; rfl
          · rw [yFi_uFi, yu2, if_pos ⟨rfl, rfl⟩]
        exact l181 T σ3 _ A G ⟨S.mr h3 (by omega) t.1, t.2⟩ S 32 0 _ (by omega) WkS.rf qo (fun m hm => absurd hm (Nat.not_lt_zero _))
      · rw [Int32.lt_iff_toInt_lt, nI_toInt (by omega), nI_toInt (by omega)]
        omega
    | succ d ih =>
      intro i T σ3 hi A hb G hT
      have h3 := h00.frM (A.1.mono SAk_SM)
      have R3 := rmA h00 hlen R0 A
      obtain ⟨q, hq⟩ : ∃ q, V.1.2.2.1[i]? = some q := ⟨_, List.getElem?_eq_getElem (by omega)⟩
      refine ⟨fun z => absurd z ?_, fun _ => ⟨k17 h3, _, p1058 h3, k1058 h3, by rw [l1058 h3]; exact vp_in_nI (by omega) (by decide), ?_⟩⟩
      · rw [Int32.lt_iff_toInt_lt, nI_toInt (by omega), nI_toInt (by omega)]
        omega
      · rw [show ix (nI i) = i from nI_clamp (by omega), hb i (by omega)]
        refine ⟨fun z => ?_, fun z => ?_⟩
        · have dn : duD V.1 r i = false := by
            cases hc : duD V.1 r i with
            | false => rfl
            | true => rw [hc] at z; exact absurd z (by decide)
          rw [nI_1]
          refine ih (i + 1) T σ3 (by omega) A hb (G.skip dn) (fun j p hj hd hp => hT j p ?_ hd hp)
          by_cases e : j = i
          · rw [e, dn] at hd; cases hd
          · omega
        · have dn : duD V.1 r i = true := by
            cases hc : duD V.1 r i with
            | true => rfl
            | false => rw [hc] at z; exact absurd rfl z
          have hTi : ∀ j p, (q.1 ≠ 0 ∧ q.2.2.1 = nI j ∨ q.2.2.2.1 = nI j) → j < i → V.1.2.2.1[j]? = some p → TOm ad σ3 V.1 T j p := fun j p ho hj hp => hT j p hj (duD_cl W r i q hq dn j (ops_mem W hq ho hj)) hp
          refine M_works W h3 R3.2.2.1 R3.2.1 hq hTi (fun σ' f no => ?_) (fun σ' R' f a nd wk => ?_)
          · have A' := A.tr (WkH.a (by omega) f)
            have h' := h00.frM (A'.1.mono SAk_SM)
            exact ⟨k17 h', M_ref h' hlen (rmA h00 hlen R0 A') 5 (fun σ'' f'' R'' => h5 r q0 ev hr eq ⟨T, i, q, by omega, dn, hq, G, no⟩ σ'' ((F00.tr1 (A'.1.mono SAk_SM)).tr1 f'') R'')⟩
          · rw [nI_1]
            have can := can_step W hq (fun j hj p hp => by
              have lt := (ops_lt W hq j hj).1
              exact (hT j p lt (duD_cl W r i q hq dn j hj) hp).2.2) wk
            refine ih (i + 1) (upT T i R') σ' (by omega) (A.tr (WkH.a (by omega) f)) (fun m hm => ?_) (G.up W hq wk) (fun j p hj hd hp => ?_)
            · exact (f.1.ai (k1058 h3) (by decide) (c1058 h3) (by simp [SX, SS]) m).trans (hb m hm)
            · by_cases e : j = i
              · subst e
                rw [hq] at hp
                cases hp
                unfold TOm
                rw [upT_s]
                exact ⟨a, nd, can⟩
              · have t := hT j p (by omega) hd hp
                unfold TOm at t ⊢
                rw [upT_o e]
                exact ⟨f.mr h3 (by omega) e t.1, t.2⟩
  have l51 : ∀ (n : Nat) (D : Nat → Bool) (σ3 : St), n ≤ V.1.2.2.1.length → WkA ad ct σ0 σ3 → (∀ m, m < 40 → zAi σ3 (ad 1058 0 0) m = zB (D m)) → due V.1.2.2.1 n D = duD V.1 r → lX16_ask_51 Q (n + 1) (ad 17 0 0) (nI r) (nI n + (-1)) σ3 := by
    intro n
    induction n with
    | zero =>
      intro D σ3 hn A hb hd
      refine ⟨fun _ => ⟨r + 2, ?_⟩, fun z => absurd (by decide) z⟩
      exact l118 (r + 1) 0 (fun _ => []) σ3 (by omega) A (fun m hm => by rw [hb m hm, ← hd]; rfl) (fun i q hi => absurd hi (Nat.not_lt_zero _)) (fun j p hj => absurd hj (Nat.not_lt_zero _))
    | succ n ih =>
      intro D σ3 hn A hb hd
      have h3 := h00.frM (A.1.mono SAk_SM)
      have R3 := rmA h00 hlen R0 A
      obtain ⟨q, hqn⟩ : ∃ q, V.1.2.2.1[n]? = some q := ⟨_, List.getElem?_eq_getElem (by omega)⟩
      obtain ⟨b1, b2, b3, b4, _⟩ := R3.2.2.1.2 n q hqn
      have en : nI (n + 1) + (-1) = nI n := by rw [← Int32.sub_eq_add_neg]; exact nI_pred n
      have xn : ix (nI n) = n := nI_clamp (by omega)
      have n58 : ad 1041 0 0 ≠ ad 1058 0 0 := fun z => by
        have b := c1041 h3
        rw [z, c1058 h3] at b
        cases b
      rw [en]
      have nx : ∀ σ4, WkA ad ct σ0 σ4 → (∀ m, m < 40 → zAi σ4 (ad 1058 0 0) m = zB (duS V.1.2.2.1 D n m)) → lX16_ask_51 Q (n + 1) (ad 17 0 0) (nI r) (nI n + (-1)) σ4 := fun σ4 A4 hb4 => ih _ σ4 (by omega) A4 hb4 hd
      refine ⟨fun z => absurd z (nI_pos (by omega)), fun _ => ⟨k17 h3, _, p1058 h3, k1058 h3, by rw [l1058 h3]; exact vp_in_nI (by omega) (by decide), ?_⟩⟩
      rw [xn, hb n (by omega)]
      refine ⟨fun z => nx σ3 A (fun m hm => ?_), fun z => ⟨_, p1039 h3, k1039 h3, by rw [l1039 h3]; exact vp_in_nI (by omega) (by decide), ?_⟩⟩
      · have : D n = false := by
          cases hc : D n with
          | false => rfl
          | true => rw [hc] at z; exact absurd z (by decide)
        rw [hb m hm]
        unfold duS
        rw [this]; simp
      · have dn : D n = true := by
          cases hc : D n with
          | true => rfl
          | false => rw [hc] at z; exact absurd rfl z
        have g8 := (W.2.2.2.2.2.1 n q hqn).1
        rw [b1]
        refine ⟨fun nz => ?_, fun z0 => nx σ3 A (fun m hm => ?_)⟩
        · have nz0 : q.1 ≠ 0 := fun y => nz (by rw [y]; rfl)
          obtain ⟨_, gw1', gw6, g0, g1⟩ := W.2.2.2.2.2.1 n q hqn
          obtain ⟨p, ⟨s1, hs1, eo, hp⟩, _, _, _, _, r123, r66, r457⟩ := g1 nz0
          have x1 : ix q.2.2.1 = s1 := by rw [eo]; exact nI_clamp (by omega)
          refine ⟨_, p1040 h3, k1040 h3, by rw [l1040 h3]; exact vp_in_nI (by omega) (by decide), by rw [b3, eo, l1058 h3]; exact vp_in_nI (by omega) (by decide), _, p1041 h3, k1041 h3, by rw [l1041 h3]; exact vp_in_nI (by omega) (by decide), ?_⟩
          have w41 : ∀ i v, zAi (uAi σ3 (ad 1058 0 0) i v) (ad 1041 0 0) n = q.2.2.2.1 := fun i v => by rw [yAi_uAi, yu2, if_neg (fun z => n58 z.1)]; exact b4
          rw [b3, x1, w41, show vp_nar .boolean 1 = (1 : Int32) from rfl]
          have A4 := A.tr (WkA.u h3 s1 1)
          have h4 := h00.frM (A4.1.mono SAk_SM)
          refine ⟨fun zm => nx _ A4 (fun m hm => ?_), fun zm => ?_⟩
          · rw [yAi_uAi, yu2]
            unfold duS opsT
            rw [hqn, dn]
            simp only [if_neg nz0, if_pos zm, x1, List.mem_cons, List.not_mem_nil, or_false, Bool.true_and]
            by_cases c : m = s1
            · rw [if_pos ⟨trivial, c⟩, decide_eq_true c, Bool.or_true]; rfl
            · rw [if_neg (fun z => c z.2), decide_eq_false c, Bool.or_false]; exact hb m hm
          · have k457 : q.1 = 4 ∨ q.1 = 5 ∨ q.1 = 7 := by
              by_cases z4 : q.1 = 1 ∨ q.1 = 2 ∨ q.1 = 3
              · exact absurd (r123 z4).1 zm
              · by_cases z6 : q.1 = 6
                · exact absurd (r66 z6).1 zm
                · exact kd_a g8 nz0 z4 z6
            obtain ⟨p2, ⟨s2, hs2, eo2, hp2⟩, _⟩ := r457 k457
            have x2 : ix q.2.2.2.1 = s2 := by rw [eo2]; exact nI_clamp (by omega)
            refine ⟨by rw [eo2, l1058 h3]; exact vp_in_nI (by omega) (by decide), ?_⟩
            rw [x2]
            refine nx _ (A4.tr (WkA.u h4 s2 1)) (fun m hm => ?_)
            rw [yAi_uAi, yu2, yAi_uAi, yu2]
            unfold duS opsT
            rw [hqn, dn]
            simp only [if_neg nz0, if_neg zm, x1, x2, List.mem_cons, List.not_mem_nil, or_false, Bool.true_and]
            by_cases c : m = s2
            · rw [if_pos ⟨trivial, c⟩, decide_eq_true (show m = s1 ∨ m = s2 from Or.inr c), Bool.or_true]; rfl
            · rw [if_neg (fun z => c z.2)]
              by_cases c2 : m = s1
              · rw [if_pos ⟨trivial, c2⟩, decide_eq_true (show m = s1 ∨ m = s2 from Or.inl c2), Bool.or_true]; rfl
              · rw [if_neg (fun z => c2 z.2), decide_eq_false (fun z : m = s1 ∨ m = s2 => z.elim c2 c), Bool.or_false]; exact hb m hm
        · have z0' : q.1 = 0 := by
            have z0 := congrArg Int32.toInt z0
            rw [nI_toInt (by omega), show (0 : Int32).toInt = 0 from rfl] at z0
            omega
          rw [hb m hm]
          unfold duS opsT
          rw [hqn]
          simp [z0']
  have l21 : ∀ (d j : Nat) (σ3 : St), j + d = 40 → WkA ad ct σ0 σ3 → (∀ m, m < j → zAi σ3 (ad 1058 0 0) m = zB (D0 r m)) → lX16_ask_21 Q (d + 1) (ad 17 0 0) (nI r) (nI j) σ3 := by
    intro d
    induction d with
    | zero =>
      intro j σ3 hj A hb
      have hj : j = 40 := by omega
      rw [hj] at hb
      refine ⟨fun _ => ⟨r + 2, ?_⟩, fun z => absurd (nI_le (a := 40) (b := j) (by omega) (by omega)) z⟩
      have := l51 (r + 1) (D0 r) σ3 (by omega) A hb rfl
      rw [show nI (r + 1) + (-1) = nI r from by rw [← Int32.sub_eq_add_neg]; exact nI_pred r] at this
      exact this
    | succ d ih =>
      intro j σ3 hj A hb
      have h3 := h00.frM (A.1.mono SAk_SM)
      have go : ∀ v : Int32, v = zB (D0 r j) → wX16_ask_42 Q (lX16_ask_21 Q (d + 1)) (ad 17 0 0) (nI r) (nI j) v (nI j) (ad 1058 0 0) σ3 := fun v hv => by
        refine ⟨k1058 h3, by rw [l1058 h3]; exact vp_in_nI (by omega) (by decide), ?_⟩
        have vn : vp_nar .boolean v = v := by rw [hv]; cases D0 r j <;> rfl
        rw [show ix (nI j) = j from nI_clamp (by omega), nI_1, vn]
        refine ih (j + 1) _ (by omega) (A.tr (WkA.u h3 j v)) (fun m hm => ?_)
        rw [yAi_uAi, yu2]
        by_cases c : m = j
        · rw [if_pos ⟨rfl, c⟩, c]; exact hv
        · rw [if_neg (fun z => c z.2)]; exact hb m (by omega)
      refine ⟨fun z => absurd z (nI_ge (a := j) (b := 40) (by omega) (by decide)), fun _ => ⟨k17 h3, _, p1058 h3, fun z => go 0 ?_, fun z => go 1 ?_⟩⟩
      · unfold D0
        rw [decide_eq_false (fun e => z (by rw [e]))]; rfl
      · have : j = r := by
          have z := congrArg Int32.toInt z
          rw [nI_toInt (by omega), nI_toInt (by omega)] at z
          omega
        unfold D0
        rw [decide_eq_true this]; rfl
  exact ⟨_, l21 40 0 σ0 (by omega) WkA.rf (fun m hm => absurd hm (Nat.not_lt_zero _))⟩
end NV
