/-! the reference: the smallest set that takes an answer away -/
section LD
variable {ad : Ad} {ct : Ct} {σ : St}
theorem fws_pw (all : Int64) (t : Nat) : (fws all t).Pairwise (fun a b => a < b) := List.Pairwise.filter _ List.pairwise_lt_range
theorem or_as (a b c : Int64) : a ||| (b ||| c) = (a ||| c) ||| b := bt_ext (fun i _ => by
  rw [bt_or, bt_or, bt_or, bt_or]
  cases bt a i <;> cases bt b i <;> cases bt c i <;> rfl)
theorem L_out (h : Sh ad ct σ) {F : List Nat} (hF : ∀ f ∈ F, f < 60) (h16 : F.length ≤ 16) (e1 : zFi σ 1062 (ad 17 0 0) = nI F.length) (i5 : ∀ x f, F[x]? = some f → zAi σ (ad 1060 0 0) x = nI f) (t : Nat) {Q : Int64 → St → Prop} (hQ : Q (MF F t) (uFi σ 1025 (ad 17 0 0) 0)) : ∃ f, lX16_least_142 Q f (ad 17 0 0) (nI t) 0 0 σ := by
  have key : ∀ (l : List Nat) (k : Nat) (a : Int64), k + l.length = F.length → (∀ m v, l[m]? = some v → F[k + m]? = some v) → Q (a ||| MF l (t / 2 ^ k)) (uFi σ 1025 (ad 17 0 0) 0) → lX16_least_142 Q (l.length + 1) (ad 17 0 0) (nI t) a (nI k) σ := by
    intro l
    induction l with
    | nil =>
      intro k a hk ha hq
      have hk : k = F.length := by simpa using hk
      refine ⟨k17 h, fun _ => ?_, fun c => absurd ?_ c⟩
      · rw [show a ||| MF [] (t / 2 ^ k) = a from bt_ext (fun i _ => by rw [bt_or]; show (bt a i || bt 0 i) = _; rw [bt_0, Bool.or_false])] at hq
        exact hq
      · rw [e1, hk]; exact nI_le (Nat.le_refl _) (by omega)
    | cons f l ih =>
      intro k a hk ha hq
      rw [List.length_cons] at hk
      have hfk := ha 0 f rfl
      rw [Nat.add_zero] at hfk
      have ha2 : ∀ m v, l[m]? = some v → F[k + 1 + m]? = some v := fun m v hv => by rw [show k + 1 + m = k + (m + 1) by omega]; exact ha (m + 1) v hv
      have hq : Q (a ||| (MF l (t / 2 ^ k / 2) ||| (if t / 2 ^ k % 2 = 1 then bit1 f else 0))) (uFi σ 1025 (ad 17 0 0) 0) := hq
      rw [dv2, or_as] at hq
      refine ⟨k17 h, fun c => absurd c (by rw [e1]; exact nI_ge (by omega) (by omega)), fun _ => ⟨fun c => ?_, fun c => ⟨_, p1060 h, k1060 h, by rw [l1060 h]; exact vp_in_nI (by omega) (by decide), ?_⟩⟩⟩
      · have hb : ¬ t / 2 ^ k % 2 = 1 := fun z => c ((shri_bt1 (nI t) (by omega)).mpr (by rw [bi_nI t (by omega)]; exact decide_eq_true z))
        rw [if_neg hb, show a ||| 0 = a from bt_ext (fun i _ => by rw [bt_or, bt_0, Bool.or_false])] at hq
        rw [nI_1]
        exact ih (k + 1) a (by omega) ha2 hq
      · have hb : t / 2 ^ k % 2 = 1 := by
          have := (shri_bt1 (nI t) (by omega)).mp c
          rw [bi_nI t (by omega)] at this
          exact of_decide_eq_true this
        rw [if_pos hb] at hq
        rw [nI_1, show ix (nI k) = k from nI_clamp (by omega), i5 k f hfk]
        exact ih (k + 1) _ (by omega) ha2 hq
  refine ⟨_, key F 0 0 (by omega) (fun m v hv => by rw [Nat.zero_add]; exact hv) ?_⟩
  rw [Nat.pow_zero, Nat.div_one, show (0 : Int64) ||| MF F t = MF F t from bt_ext (fun i _ => by rw [bt_or, bt_0, Bool.false_or])]
  exact hQ
/-- all ways are met by the set of this number -/
def metN (F : List Nat) (l : List Int64) (t : Nat) : Bool := l.all (fun w => decide (¬ w &&& MF F t = 0))
theorem metN_hit {F : List Nat} {l : List Int64} {t : Nat} : metN F l t = true ↔ hit l (MF F t) := by
  unfold metN hit
  rw [List.all_eq_true]
  exact ⟨fun h s hs => of_decide_eq_true (h s hs), fun h s hs => decide_eq_true (h s hs)⟩
theorem L_met (h : Sh ad ct σ) {F : List Nat} (hF : ∀ f ∈ F, f < 60) (h16 : F.length ≤ 16) {r wd : Nat} {cl : Bool} {e : Ans} (hr : r < 32) (q : RowAt ad σ 40 r wd cl e) (hm : ∀ m w, e.2.1[m]? = some w → zAi σ (ad 1061 0 0) m = mkN F w F.length) (t : Nat) (b : Bool) {v2 : Int32} {Q : Int64 → St → Prop} {r49 : Nat → Int32 → Int32 → Int32 → St → Prop} (hq : wX16_least_124 Q r49 (ad 17 0 0) (nI r) v2 (nI t) (zB (b && metN F e.2.1 t)) σ) : wX16_least_75 Q r49 (ad 17 0 0) (nI r) v2 (nI t) (zB b) σ := by
  have hl := q.2.2.1
  have er : ix (nI r) = r := nI_clamp (by omega)
  have key : ∀ (l : List Int64) (k : Nat) (b : Bool), k + l.length = e.2.1.length → (∀ m v, l[m]? = some v → zAi σ (ad 1061 0 0) (k + m) = mkN F v F.length) → wX16_least_124 Q r49 (ad 17 0 0) (nI r) v2 (nI t) (zB (b && metN F l t)) σ → lX16_least_80 Q r49 (l.length + 1) (ad 17 0 0) (nI r) v2 (nI t) (zB b) (nI k) σ := by
    intro l
    induction l with
    | nil =>
      intro k b hk ha hq
      have hk : k = e.2.1.length := by simpa using hk
      refine ⟨k17 h, _, p1050 h, k15 h (by decide), _, p899 h (by decide), k899 h (by decide), by rw [l899 h (by decide)]; exact vp_in_nI hr (by decide), fun _ => ?_, fun c => absurd ?_ c⟩
      · rw [show (b && metN F [] t) = b from Bool.and_true b] at hq; exact hq
      · rw [er, q.2.2.2.1, hk]; exact nI_le (Nat.le_refl _) (by omega)
    | cons a l ih =>
      intro k b hk ha hq
      rw [List.length_cons] at hk
      have ha2 : ∀ m v, l[m]? = some v → zAi σ (ad 1061 0 0) (k + 1 + m) = mkN F v F.length := fun m v hv => by rw [show k + 1 + m = k + (m + 1) by omega]; exact ha (m + 1) v hv
      refine ⟨k17 h, _, p1050 h, k15 h (by decide), _, p899 h (by decide), k899 h (by decide), by rw [l899 h (by decide)]; exact vp_in_nI hr (by decide), fun c => absurd c (by rw [er, q.2.2.2.1]; exact nI_ge (by omega) (by omega)), fun _ => ⟨fun c => ?_, fun c => ⟨_, p1061 h, k1061 h, by rw [l1061 h]; exact vp_in_nI (by omega) (by decide), ?_⟩⟩⟩
      · cases b with
        | true => exact absurd c (by decide)
        | false => exact hq
      · cases b with
        | false => exact absurd rfl c
        | true =>
          have hq : wX16_least_124 Q r49 (ad 17 0 0) (nI r) v2 (nI t) (zB (decide (¬ a &&& MF F t = 0) && metN F l t)) σ := by rw [Bool.true_and] at hq; exact hq
          rw [show ix (nI k) = k from nI_clamp (by omega), show zAi σ (ad 1061 0 0) k = mkN F a F.length from ha 0 a rfl, nI_1]
          refine ⟨fun c => ih (k + 1) false (by omega) ha2 ?_, fun c => ih (k + 1) true (by omega) ha2 ?_⟩
          · rw [decide_eq_false (fun z => z ((mk_hit F hF h16 a t).mp c))] at hq; exact hq
          · rw [decide_eq_true (show ¬ a &&& MF F t = 0 from fun z => c ((mk_hit F hF h16 a t).mpr z))] at hq; exact hq
  exact ⟨_, key e.2.1 0 b (by omega) (fun m v hv => by rw [Nat.zero_add]; exact hm m v hv) hq⟩
/-- what the numbers tried so far have come to -/
def LeaI (F : List Nat) (ws : List Int64) (t b : Nat) : Prop := b < 2 ^ F.length ∧ hit ws (MF F b) ∧ (b < t ∨ b = 2 ^ F.length - 1) ∧ ∀ u, (u < t ∨ u = 2 ^ F.length - 1) → u < 2 ^ F.length → hit ws (MF F u) → pcN F.length b < pcN F.length u ∨ (pcN F.length b = pcN F.length u ∧ b ≤ u)
theorem LeaI.yes {F : List Nat} {ws : List Int64} {t b : Nat} (ht : t < 2 ^ F.length) (I : LeaI F ws t b) (c1 : pcN F.length t < pcN F.length b) (c2 : hit ws (MF F t)) : LeaI F ws (t + 1) t := by
  obtain ⟨i1, i2, i3, i4⟩ := I
  refine ⟨ht, c2, Or.inl (by omega), fun u hu hu2 hh => ?_⟩
  by_cases z : u = t
  · subst z; exact Or.inr ⟨rfl, Nat.le_refl _⟩
  · have := i4 u (by omega) hu2 hh
    omega
theorem LeaI.no {F : List Nat} (hF : ∀ f ∈ F, f < 60) (hp : F.Pairwise (fun a b => a < b)) {ws : List Int64} {t b : Nat} (I : LeaI F ws t b) (c : ¬ (pcN F.length t < pcN F.length b ∧ hit ws (MF F t))) : LeaI F ws (t + 1) b := by
  obtain ⟨i1, i2, i3, i4⟩ := I
  have hF64 : ∀ f ∈ F, f < 64 := fun f hf => by have := hF f hf; omega
  refine ⟨i1, i2, by omega, fun u hu hu2 hh => ?_⟩
  by_cases z : u = t
  · subst z
    have hle : pcN F.length b ≤ pcN F.length u := by
      by_cases y : pcN F.length u < pcN F.length b
      · exact absurd ⟨y, hh⟩ c
      · omega
    by_cases y : pcN F.length b = pcN F.length u
    · refine Or.inr ⟨y, ?_⟩
      rcases i3 with i3 | i3
      · omega
      · have sbu : sb (MF F u) (MF F b) := sb_bt.mpr (fun j _ hj => by
          obtain ⟨x, hx, _⟩ := (MF_bt F hF64 u j).mp hj
          rw [i3]; exact MF_full hF (List.mem_of_getElem? hx))
        have e := sb_eq sbu (by rw [MF_sz F hF64 hp, MF_sz F hF64 hp]; omega)
        by_cases x : b ≤ u
        · exact x
        · have := MF_lt hF hp (t := u) (u := b) (by omega) i1
          rw [e] at this
          exact absurd this (Int64.lt_irrefl)
    · exact Or.inl (by omega)
  · exact i4 u (by omega) hu2 hh
theorem Lea_end {F : List Nat} (hF : ∀ f ∈ F, f < 60) (hp : F.Pairwise (fun a b => a < b)) {ws : List Int64} (hall : ∀ j, j ∈ F ↔ ∃ w ∈ ws, bt w j = true) {b : Nat} (I : LeaI F ws (2 ^ F.length) b) : Lst ws (MF F b) := by
  obtain ⟨i1, i2, i3, i4⟩ := I
  have hF64 : ∀ f ∈ F, f < 64 := fun f hf => by have := hF f hf; omega
  refine ⟨i2, fun U hU => sb_bt.mpr (fun j hj hb => ?_), fun Y hY => ?_⟩
  · obtain ⟨x, hx, _⟩ := (MF_bt F hF64 b j).mp hb
    obtain ⟨w, hw, hwb⟩ := (hall j).mp (List.mem_of_getElem? hx)
    exact sb_bt.mp (hU w hw) j hj hwb
  · have sbY : sb (Y &&& MF F (2 ^ F.length - 1)) Y := sb_bt.mpr (fun j _ hb => by rw [bt_and, Bool.and_eq_true] at hb; exact hb.1)
    obtain ⟨u, hu, e⟩ := MF_ex F hF64 (Y &&& MF F (2 ^ F.length - 1)) (fun j hj => by
      rw [bt_and, Bool.and_eq_true] at hj
      obtain ⟨x, hx, _⟩ := (MF_bt F hF64 _ j).mp hj.2
      exact List.mem_of_getElem? hx)
    have hh : hit ws (MF F u) := fun s hs z => by
      obtain ⟨k, hk, b1, b2⟩ := and_n0 (hY s hs)
      rw [e] at z
      have := bt_and0.mp z k b1
      rw [bt_and, b2, MF_full hF ((hall k).mpr ⟨s, hs, b1⟩)] at this
      cases this
    have k1 := i4 u (Or.inl hu) hu hh
    have k2 := sz_mono sbY
    rw [← e, MF_sz F hF64 hp] at k2
    rw [MF_sz F hF64 hp]
    rcases k1 with k1 | ⟨k1, k3⟩
    · exact Or.inl (by omega)
    · by_cases c : pcN F.length b < sz Y
      · exact Or.inl c
      · refine Or.inr ⟨by omega, ?_⟩
        rw [← sb_eq sbY (by rw [← e, MF_sz F hF64 hp]; omega), ← e]
        exact MF_le hF hp k3 hu
end LD
