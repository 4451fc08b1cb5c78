/-! the law's loop: one turn after another. The five calls that ask are given as premises here -/
def AskP : Prop := ∀ (ad : Ad) (ct : Ct) (V : Vt), WFv V → (∀ q : Int32, PR ad ct V (fun σ Q => wX11_ask (ad 12 0 0) q σ Q) (fun σ Q => wX16_ask (ad 17 0 0) q σ Q)) ∧ (∀ i : Int32, PR ad ct V (fun σ Q => wX11_chance (ad 12 0 0) i σ Q) (fun σ Q => wX16_chance (ad 17 0 0) i σ Q)) ∧ (∀ i f : Int32, PR ad ct V (fun σ Q => wX11_share (ad 12 0 0) i f σ Q) (fun σ Q => wX16_share (ad 17 0 0) i f σ Q)) ∧ (∀ i : Int32, PR ad ct V (fun σ Q => wX11_least (ad 12 0 0) i σ Q) (fun σ Q => wX16_least (ad 17 0 0) i σ Q)) ∧ (∀ i f : Int32, PR ad ct V (fun σ Q => wX11_blame (ad 12 0 0) i f σ Q) (fun σ Q => wX16_blame (ad 17 0 0) i f σ Q))
theorem lw_add (a b : Nat) : nI a + nI b = nI (a + b) := (Int32.ofNat_add a b).symm
theorem lw_in {L t j : Nat} (hL : L ≤ 3584) (h : 7 * t + 7 ≤ L) (hj : j < 7) : vp_in (nI (7 * t) + nI j) L := by
  rw [lw_add]
  exact vp_in_nI (by omega) (by omega)
theorem lw_go {L t : Nat} (ht : t ≤ 513) (hL : L ≤ 3584) (h : ¬ Int32.ofNat L - 7 < nI (7 * t)) : 7 * t + 7 ≤ L := by
  have e1 : (Int32.ofNat L - 7).toInt = (L : Int) - 7 := by
    rw [Int32.toInt_sub, show (Int32.ofNat L).toInt = (L : Int) from nI_toInt (by omega), show (7 : Int32).toInt = 7 from by decide]
    exact Int.bmod_eq_of_le (by omega) (by omega)
  rw [Int32.lt_iff_toInt_lt, e1, nI_toInt (by omega)] at h
  omega
theorem CRT.keepv {o o' : Ow} {τ τ' : St} {v : Nat} (h : CRT o τ v) (S : Sp v o τ o' τ') (e : ∀ g, zFr τ' g v = zFr τ g v) (z : ∀ g, zFi τ' g v = zFi τ g v) : CRT o' τ' v := by
  obtain ⟨h1, h2, h3, f, q, k, y, c, h', a, ⟨f1, f2⟩, q1, ⟨k1, k2⟩, ⟨y1, y2⟩, ⟨c1, c2⟩, ⟨i1, i2⟩, ⟨s, s1⟩, ⟨a1, a2⟩⟩ := h
  have v0 : zK τ v ≠ 0 := by rw [h2]; decide
  exact ⟨(S.2.1 v v0).trans h1, S.2.2.2.trans h2, fun g => (z g).trans (h3 g), f, q, k, y, c, h', a, ⟨(e _).trans f1, f2.keep S h1 (by decide) (by decide)⟩, q1.keep S (by decide) h1 (by decide) (e _), ⟨(e _).trans k1, k2.keep S h1 (by decide)⟩, ⟨(e _).trans y1, y2.keep S h1 (Or.inl (by decide))⟩, ⟨(e _).trans c1, c2.keep S h1 (by decide) (by decide)⟩, ⟨(e _).trans i1, i2.keep S h1 (by decide) (by decide)⟩, ⟨s, s1.keep S (by decide) h1 (by decide) (e _)⟩, ⟨(e _).trans a1, a2.keep S h1 (by decide) (by decide)⟩⟩
theorem law_drop {ad : Ad} {ct : Ct} {V : Vt} {σ : St} (I : Inv ad ct σ V) {L : Nat} {xs : Nat → Int32} {mc ms k n : Nat} {Q : Int32 → St → Prop} {r18 : Nat → Nat → Nat → Nat → Int32 → St → Prop} {v3 s1 s2 : Int32} (i1 : vp_in (v3 + 1) L) (i2 : vp_in (v3 + 2) L) (e1 : s1 = xs (ix (v3 + 1))) (e2 : xs (ix (v3 + 2)) = 0 → s2 = 0) (e3 : ¬ xs (ix (v3 + 2)) = 0 → s2 = 1) (hk : k + 10 ≤ mc) (hn : n + 100 ≤ ms) (K : ∀ σ2 V2, Inv ad ct σ2 V2 → r18 (k + 10) (n + 100) (ad 12 0 0) (ad 17 0 0) (v3 + 7) σ2) : wL_law_301 mc ms Q L xs r18 k n (ad 12 0 0) (ad 17 0 0) v3 s2 s1 (ad 12 0 0) σ := by
  subst e1
  have hv : s2 = 0 ∨ s2 = 1 := by
    by_cases c : xs (ix (v3 + 2)) = 0
    · exact Or.inl (e2 c)
    · exact Or.inr (e3 c)
  refine ⟨10, 100, hk, hn, k12 I.1, (P_drop I.2.2.2 _ s2 hv).go I (fun r σ1 z H => ⟨i1, i2, fun c => ?_, fun c => ?_⟩)⟩
  · rw [e2 c] at H
    exact ⟨hk, hn, z, H _ (fun σ2 V2 I2 => ⟨fun _ => K σ2 V2 I2, fun c => absurd rfl c⟩)⟩
  · rw [e3 c] at H
    exact ⟨hk, hn, z, H _ (fun σ2 V2 I2 => ⟨fun _ => K σ2 V2 I2, fun c => absurd rfl c⟩)⟩
set_option maxHeartbeats 4000000 in
theorem law_loop (A0 : AskP) {ad : Ad} {ct : Ct} {L : Nat} (hL : L ≤ 3584) {xs : Nat → Int32} : ∀ (f t k n : Nat) (σ : St) (V : Vt), t + f = 513 → 1 ≤ f → k + 10 * f ≤ 601024 → n + 100 * f ≤ 7293034 → Inv ad ct σ V → lL_law_18 601024 7293034 (fun r _ => r = 1) L xs f k n (ad 12 0 0) (ad 17 0 0) (nI (7 * t)) σ
  | 0, _, _, _, _, _, _, h, _, _, _ => absurd h (by decide)
  | f + 1, t, k, n, σ, V, ht, _, hk, hn, I => by
    show wL_law_18 _ _ _ _ _ _ _ _ _ _ _ _
    refine ⟨fun _ => ⟨by omega, by omega, rfl⟩, fun hc => ?_⟩
    have hx : 7 * t + 7 ≤ L := lw_go (by omega) hL hc
    have A := A0 ad ct V I.2.2.2
    have J0 : vp_in (nI (7 * t)) L := vp_in_nI (by omega) (by omega)
    have J1 : vp_in (nI (7 * t) + 1) L := lw_in (j := 1) hL hx (by decide)
    have J2 : vp_in (nI (7 * t) + 2) L := lw_in (j := 2) hL hx (by decide)
    have J3 : vp_in (nI (7 * t) + 3) L := lw_in (j := 3) hL hx (by decide)
    have J4 : vp_in (nI (7 * t) + 4) L := lw_in (j := 4) hL hx (by decide)
    have J5 : vp_in (nI (7 * t) + 5) L := lw_in (j := 5) hL hx (by decide)
    have J6 : vp_in (nI (7 * t) + 6) L := lw_in (j := 6) hL hx (by decide)
    have e7 : nI (7 * t) + 7 = nI (7 * (t + 1)) := lw_add (7 * t) 7
    have Ka : ∀ σ2 V2, Inv ad ct σ2 V2 → lL_law_18 601024 7293034 (fun r _ => r = 1) L xs f (k + 10) (n + 100) (ad 12 0 0) (ad 17 0 0) (nI (7 * t) + 7) σ2 := fun σ2 V2 I2 => by
      rw [e7]; exact law_loop A0 hL f (t + 1) (k + 10) (n + 100) σ2 V2 (by omega) (by omega) (by omega) (by omega) I2
    have Kb : ∀ σ2 V2, Inv ad ct σ2 V2 → lL_law_18 601024 7293034 (fun r _ => r = 1) L xs f k n (ad 12 0 0) (ad 17 0 0) (nI (7 * t) + 7) σ2 := fun σ2 V2 I2 => by
      rw [e7]; exact law_loop A0 hL f (t + 1) k n σ2 V2 (by omega) (by omega) (by omega) (by omega) I2
    generalize nI (7 * t) = v3 at J0 J1 J2 J3 J4 J5 J6 Ka Kb ⊢
    generalize lL_law_18 601024 7293034 (fun r _ => r = 1) L xs f = r18 at Ka Kb ⊢
    exact ⟨J0,
      fun _ => ⟨J1, 10, 100, by omega, by omega, k12 I.1, PR.go (P_table I.2.2.2 _) I (fun r σ1 z H => ⟨J1, by omega, by omega, z, H _ (fun σ2 V2 I2 => ⟨fun _ => Ka σ2 V2 I2, fun c => absurd rfl c⟩)⟩)⟩,
      fun _ => ⟨J1, J2, J3, J4, J5, 10, 100, by omega, by omega, k12 I.1, PR.go (P_fact I.2.2.2 _ _ _ _ _) I (fun r σ1 z H => ⟨J1, J2, J3, J4, J5, by omega, by omega, z, H _ (fun σ2 V2 I2 => ⟨fun _ => Ka σ2 V2 I2, fun c => absurd rfl c⟩)⟩)⟩,
      fun _ => ⟨J1, J2, fun c => law_drop I J1 J2 rfl (fun _ => rfl) (fun d => absurd c d) (by omega) (by omega) Ka, fun c => law_drop I J1 J2 rfl (fun d => absurd d c) (fun _ => rfl) (by omega) (by omega) Ka⟩,
      fun _ => ⟨J1, J2, J3, J4, 10, 100, by omega, by omega, k12 I.1, PR.go (P_put I.2.2.2 _ _ _) I (fun r σ1 z H => ⟨J1, J2, J3, J4, by omega, by omega, z, H _ (fun σ2 V2 I2 => ⟨fun _ => Ka σ2 V2 I2, fun c => absurd rfl c⟩)⟩)⟩,
      fun _ => ⟨J1, J2, by omega, by omega, k12 I.1, PR.go (P_told I.2.2.2 _ _) I (fun r σ1 z H => ⟨J1, J2, by omega, by omega, z, H _ (fun σ2 V2 I2 => ⟨fun _ => Kb σ2 V2 I2, fun c => absurd rfl c⟩)⟩)⟩,
      fun _ => ⟨J1, 10, 100, by omega, by omega, k12 I.1, PR.go (P_base I.2.2.2 _) I (fun r σ1 z H => ⟨J1, by omega, by omega, z, H _ (fun σ2 V2 I2 => ⟨fun _ => Ka σ2 V2 I2, fun c => absurd rfl c⟩)⟩)⟩,
      fun _ => ⟨J1, J2, J3, 10, 100, by omega, by omega, k12 I.1, PR.go (P_pick I.2.2.2 _ _ _) I (fun r σ1 z H => ⟨J1, J2, J3, by omega, by omega, z, H _ (fun σ2 V2 I2 => ⟨fun _ => Ka σ2 V2 I2, fun c => absurd rfl c⟩)⟩)⟩,
      fun _ => ⟨J1, J2, J3, 10, 100, by omega, by omega, k12 I.1, PR.go (P_like I.2.2.2 _ _ _) I (fun r σ1 z H => ⟨J1, J2, J3, by omega, by omega, z, H _ (fun σ2 V2 I2 => ⟨fun _ => Ka σ2 V2 I2, fun c => absurd rfl c⟩)⟩)⟩,
      fun _ => ⟨J1, J2, J3, J4, J5, J6, 10, 100, by omega, by omega, k12 I.1, PR.go (P_cut I.2.2.2 _ _ _ _ _ _) I (fun r σ1 z H => ⟨J1, J2, J3, J4, J5, J6, by omega, by omega, z, H _ (fun σ2 V2 I2 => ⟨fun _ => Ka σ2 V2 I2, fun c => absurd rfl c⟩)⟩)⟩,
      fun _ => ⟨J1, J2, J3, J4, 10, 100, by omega, by omega, k12 I.1, PR.go (P_pair I.2.2.2 _ _ _ _) I (fun r σ1 z H => ⟨J1, J2, J3, J4, by omega, by omega, z, H _ (fun σ2 V2 I2 => ⟨fun _ => Ka σ2 V2 I2, fun c => absurd rfl c⟩)⟩)⟩,
      fun _ => ⟨J1, J2, 10, 100, by omega, by omega, k12 I.1, PR.go (P_either I.2.2.2 _ _) I (fun r σ1 z H => ⟨J1, J2, by omega, by omega, z, H _ (fun σ2 V2 I2 => ⟨fun _ => Ka σ2 V2 I2, fun c => absurd rfl c⟩)⟩)⟩,
      fun _ => ⟨J1, 10, 100, by omega, by omega, k12 I.1, PR.go (P_close I.2.2.2 _) I (fun r σ1 z H => ⟨J1, by omega, by omega, z, H _ (fun σ2 V2 I2 => ⟨fun _ => Ka σ2 V2 I2, fun c => absurd rfl c⟩)⟩)⟩,
      fun _ => ⟨J1, J2, 10, 100, by omega, by omega, k12 I.1, PR.go (P_most I.2.2.2 _ _) I (fun r σ1 z H => ⟨J1, J2, by omega, by omega, z, H _ (fun σ2 V2 I2 => ⟨fun _ => Ka σ2 V2 I2, fun c => absurd rfl c⟩)⟩)⟩,
      fun _ => ⟨J1, J2, by omega, by omega, k12 I.1, PR.go (P_kind I.2.2.2 _ _) I (fun r σ1 z H => ⟨J1, J2, by omega, by omega, z, H _ (fun σ2 V2 I2 => ⟨fun _ => Kb σ2 V2 I2, fun c => absurd rfl c⟩)⟩)⟩,
      fun _ => ⟨J1, by omega, by omega, k12 I.1, PR.go (A.1 _) I (fun r σ1 z H => ⟨J1, by omega, by omega, z, H _ (fun σ2 V2 I2 => ⟨fun _ => Kb σ2 V2 I2, fun c => absurd rfl c⟩)⟩)⟩,
      fun _ => ⟨J1, J2, by omega, by omega, k12 I.1, PR.go (P_value I.2.2.2 _ _) I (fun r σ1 z H => ⟨J1, J2, by omega, by omega, z, H _ (fun σ2 V2 I2 => ⟨fun _ => Kb σ2 V2 I2, fun c => absurd rfl c⟩)⟩)⟩,
      fun _ => ⟨J1, J2, J3, J4, J5, J6, 10, 100, by omega, by omega, k12 I.1, PR.go (P_find I.2.2.2 _ _ _ _ _ _) I (fun r σ1 z H => ⟨J1, J2, J3, J4, J5, J6, by omega, by omega, z, H _ (fun σ2 V2 I2 => ⟨fun _ => Ka σ2 V2 I2, fun c => absurd rfl c⟩)⟩)⟩,
      fun _ => ⟨J1, by omega, by omega, k12 I.1, PR.go (P_ways I.2.2.2 _) I (fun r σ1 z H => ⟨J1, by omega, by omega, z, H _ (fun σ2 V2 I2 => ⟨fun _ => Kb σ2 V2 I2, fun c => absurd rfl c⟩)⟩)⟩,
      fun _ => ⟨J1, J2, by omega, by omega, k12 I.1, PR.go (P_way I.2.2.2 _ _) I (fun r σ1 z H => ⟨J1, J2, by omega, by omega, z, H _ (fun σ2 V2 I2 => ⟨fun _ => Kb σ2 V2 I2, fun c => absurd rfl c⟩)⟩)⟩,
      fun _ => ⟨J1, by omega, by omega, k12 I.1, PR.go (P_need I.2.2.2 _) I (fun r σ1 z H => ⟨J1, by omega, by omega, z, H _ (fun σ2 V2 I2 => ⟨fun _ => Kb σ2 V2 I2, fun c => absurd rfl c⟩)⟩)⟩,
      fun _ => ⟨J1, by omega, by omega, k12 I.1, PR.go (P_count I.2.2.2 _) I (fun r σ1 z H => ⟨J1, by omega, by omega, z, H _ (fun σ2 V2 I2 => ⟨fun _ => Kb σ2 V2 I2, fun c => absurd rfl c⟩)⟩)⟩,
      fun _ => ⟨J1, by omega, by omega, k12 I.1, PR.go (P_cost I.2.2.2 _) I (fun r σ1 z H => ⟨J1, by omega, by omega, z, H _ (fun σ2 V2 I2 => ⟨fun _ => Kb σ2 V2 I2, fun c => absurd rfl c⟩)⟩)⟩,
      fun _ => ⟨J1, by omega, by omega, k12 I.1, PR.go (P_trust I.2.2.2 _) I (fun r σ1 z H => ⟨J1, by omega, by omega, z, H _ (fun σ2 V2 I2 => ⟨fun _ => Kb σ2 V2 I2, fun c => absurd rfl c⟩)⟩)⟩,
      fun _ => ⟨J1, by omega, by omega, k12 I.1, PR.go (P_stays I.2.2.2 _) I (fun r σ1 z H => ⟨J1, by omega, by omega, z, H _ (fun σ2 V2 I2 => ⟨fun _ => Kb σ2 V2 I2, fun c => absurd rfl c⟩)⟩)⟩,
      fun _ => ⟨J1, J2, by omega, by omega, k12 I.1, PR.go (P_without I.2.2.2 _) I (fun r σ1 z H => ⟨J1, J2, by omega, by omega, z, H _ (fun σ2 V2 I2 => ⟨fun _ => Kb σ2 V2 I2, fun c => absurd rfl c⟩)⟩)⟩,
      fun _ => ⟨J1, J2, J3, by omega, by omega, k12 I.1, PR.go (P_with I.2.2.2 _ _) I (fun r σ1 z H => ⟨J1, J2, J3, by omega, by omega, z, H _ (fun σ2 V2 I2 => ⟨fun _ => Kb σ2 V2 I2, fun c => absurd rfl c⟩)⟩)⟩,
      fun _ => ⟨J1, by omega, by omega, k12 I.1, PR.go (A.2.1 _) I (fun r σ1 z H => ⟨J1, by omega, by omega, z, H _ (fun σ2 V2 I2 => ⟨fun _ => Kb σ2 V2 I2, fun c => absurd rfl c⟩)⟩)⟩,
      fun _ => ⟨J1, J2, by omega, by omega, k12 I.1, PR.go (A.2.2.1 _ _) I (fun r σ1 z H => ⟨J1, J2, by omega, by omega, z, H _ (fun σ2 V2 I2 => ⟨fun _ => Kb σ2 V2 I2, fun c => absurd rfl c⟩)⟩)⟩,
      fun _ => ⟨J1, by omega, by omega, k12 I.1, PR.go (A.2.2.2.1 _) I (fun r σ1 z H => ⟨J1, by omega, by omega, z, H _ (fun σ2 V2 I2 => ⟨fun _ => Kb σ2 V2 I2, fun c => absurd rfl c⟩)⟩)⟩,
      fun _ => ⟨J1, J2, by omega, by omega, k12 I.1, PR.go (A.2.2.2.2 _ _) I (fun r σ1 z H => ⟨J1, J2, by omega, by omega, z, H _ (fun σ2 V2 I2 => ⟨fun _ => Kb σ2 V2 I2, fun c => absurd rfl c⟩)⟩)⟩,
      fun _ => ⟨J1, J2, J3, 10, 100, by omega, by omega, k12 I.1, PR.go (P_lay I.2.2.2 _ _ _) I (fun r σ1 z H => ⟨J1, J2, J3, by omega, by omega, z, H _ (fun σ2 V2 I2 => ⟨fun _ => Ka σ2 V2 I2, fun c => absurd rfl c⟩)⟩)⟩,
      fun _ => ⟨J1, by omega, by omega, k12 I.1, PR.go (P_lies I.2.2.2 _) I (fun r σ1 z H => ⟨J1, by omega, by omega, z, H _ (fun σ2 V2 I2 => ⟨fun _ => Kb σ2 V2 I2, fun c => absurd rfl c⟩)⟩)⟩,
      fun _ => ⟨J1, J2, J3, by omega, by omega, k12 I.1, PR.go (P_taken I.2.2.2 _ _ _) I (fun r σ1 z H => ⟨J1, J2, J3, by omega, by omega, z, H _ (fun σ2 V2 I2 => ⟨fun _ => Kb σ2 V2 I2, fun c => absurd rfl c⟩)⟩)⟩,
      fun _ => ⟨J1, J2, J3, J4, J5, 10, 100, by omega, by omega, k12 I.1, PR.go (P_copy I.2.2.2 _ _ _ _ _) I (fun r σ1 z H => ⟨J1, J2, J3, J4, J5, by omega, by omega, z, H _ (fun σ2 V2 I2 => ⟨fun _ => Ka σ2 V2 I2, fun c => absurd rfl c⟩)⟩)⟩,
      fun _ => ⟨by omega, by omega, k12 I.1, PR.go (P_undo I.2.2.2) I (fun r σ1 z H => ⟨by omega, by omega, z, H _ (fun σ2 V2 I2 => ⟨fun _ => Kb σ2 V2 I2, fun c => absurd rfl c⟩)⟩)⟩,
      fun _ => ⟨J1, by omega, by omega, k12 I.1, PR.go (P_size I.2.2.2 _) I (fun r σ1 z H => ⟨J1, by omega, by omega, z, H _ (fun σ2 V2 I2 => ⟨fun _ => Kb σ2 V2 I2, fun c => absurd rfl c⟩)⟩)⟩,
      fun _ => ⟨by omega, by omega, k12 I.1, PR.go (P_status I.2.2.2) I (fun r σ1 z H => ⟨by omega, by omega, z, H _ (fun σ2 V2 I2 => ⟨fun _ => Kb σ2 V2 I2, fun c => absurd rfl c⟩)⟩)⟩,
      fun _ _ _ _ _ _ _ _ _ _ _ _ _ _ _ _ _ _ _ _ _ _ _ _ _ _ _ _ _ _ _ _ _ _ _ _ _ => Kb σ V I⟩
theorem W_0 : WFv V0 := by
  have nil : ∀ {α : Type} (i : Nat) (A : α), ([] : List α)[i]? = some A → False := fun i A h => by rw [List.getElem?_nil] at h; cases h
  refine ⟨⟨by decide, fun i A h => (nil i A h).elim, by decide, fun i A h => (nil i A h).elim, by decide, fun i A h => (nil i A h).elim, fun k _ => ⟨show 0 < 5 by decide, fun _ => rfl, fun z => (by rcases z with z | z <;> cases z), fun z => (by cases z), fun z => (by cases z)⟩⟩, by decide, by decide, by decide, List.Pairwise.nil, fun e he => absurd he List.not_mem_nil⟩
/-- the whole law, once the five calls that ask are known -/
theorem law_all (A0 : AskP) {L : Nat} (hL : L ≤ 3584) (xs : Nat → Int32) : wL_law_0 601024 7293034 (fun r _ => r = 1) L xs 0 0 σ0 := by
  refine ⟨by decide, by decide, fun b3 hb3 => ⟨6000, 70000, by decide, by decide, ?_⟩⟩
  have ok0 : okO (fun _ => none) σ0 := fun x h => absurd rfl h
  have ok1 : okO (fun x => if x = b3 then some (12, 0, 0) else none) (nO σ0 b3 12) := fun x hx => by
    rw [yK_nO]
    by_cases c : x = b3
    · rw [if_pos c]; decide
    · exact absurd (if_neg c) hx
  refine I_11 (σ := nO σ0 b3 12) ok1 (if_pos rfl) (by rw [yK_nO, if_pos rfl]) (fun g => by rw [yFi_nO, if_pos rfl]) (fun o1 τ1 S1 C1 => ?_)
  refine ⟨by decide, by decide, fun b12 hb12 => ⟨3000, 100000, by decide, by decide, ?_⟩⟩
  have kv : zK τ1 b3 ≠ 0 := by rw [C1.2.1]; decide
  have S2 := Sp.new S1.2.2.1 kv hb12 (by decide : (17 : Nat) ≠ 0) (17, 0, 0)
  have hbb : b3 ≠ b12 := fun z => kv (by rw [z]; exact hb12)
  have C2 : CRT (fun x => if x = b12 then some (17, 0, 0) else o1 x) (nO τ1 b12 17) b3 := C1.keepv S2 (fun g => by rw [yFr_nO, if_neg hbb]) (fun g => by rw [yFi_nO, if_neg hbb])
  refine I_16 (σ := nO τ1 b12 17) S2.2.2.1 (if_pos rfl) (by rw [yK_nO, if_pos rfl]) (fun g => by rw [yFi_nO, if_pos rfl]) (fun o3 τ3 S3 M3 => ?_)
  have C3 := C2.keep S3 (if_pos rfl) (Or.inl ⟨by decide, by decide⟩)
  obtain ⟨ad, ct, e1, e2, h, R, R2⟩ := start_all S3.2.2.1 C3 M3
  refine ⟨513, ?_⟩
  have := law_loop A0 hL (xs := xs) 513 0 9002 170051 τ3 V0 (by decide) (by decide) (by decide) (by decide) ⟨h, R, R2, W_0⟩
  rw [e1, e2] at this
  exact this
