/-! least on both sides -/
section LE
variable {ad : Ad} {ct : Ct} {σ : St}
theorem L_loop (h : Sh ad ct σ) {F : List Nat} (hF : ∀ f ∈ F, f < 60) (hp : F.Pairwise (fun a b => a < b)) (h16 : F.length ≤ 16) (e1 : zFi σ 1062 (ad 17 0 0) = nI F.length) (i5 : ∀ x f, F[x]? = some f → zAi σ (ad 1060 0 0) x = nI f) {r wd : Nat} {cl : Bool} {e : Ans} (hr : r < 32) (q : RowAt ad σ 40 r wd cl e) (hm : ∀ m w, e.2.1[m]? = some w → zAi σ (ad 1061 0 0) m = mkN F w F.length) {Q : Int64 → St → Prop} (hQ : ∀ b, LeaI F e.2.1 (2 ^ F.length) b → Q (MF F b) (uFi σ 1025 (ad 17 0 0) 0)) : ∀ (d t b : Nat), t + d = 2 ^ F.length → LeaI F e.2.1 t b → lX16_least_49 Q (d + 1) (ad 17 0 0) (nI r) (nI b) (nI t) σ
  | 0, t, b, ht, I => by
    have h2 : 2 ^ F.length ≤ 2 ^ 16 := Nat.pow_le_pow_right (by decide) h16
    have ht : t = 2 ^ F.length := by omega
    subst ht
    refine ⟨k17 h, fun _ => L_out h hF h16 e1 i5 b (hQ b I), fun c => absurd ?_ c⟩
    rw [e1, sh_pow _ (by omega)]
    exact nI_le (Nat.le_refl _) (by omega)
  | d + 1, t, b, ht, I => by
    have h2 : 2 ^ F.length ≤ 2 ^ 16 := Nat.pow_le_pow_right (by decide) h16
    have hb := I.1
    have l1 := pc_le F.length t
    have l2 := pc_le F.length b
    refine ⟨k17 h, fun c => absurd c (by rw [e1, sh_pow _ (by omega)]; exact nI_ge (by omega) (by omega)), fun _ => M_szOf h16 (by omega) (M_szOf h16 hb ⟨fun c => ?_, fun c => ?_⟩)⟩
    · have c := (nI_leI (by omega) (by omega)).mp c
      refine L_met h hF h16 hr q hm t false ⟨fun _ => ?_, fun z => absurd rfl z⟩
      rw [nI_1]
      exact L_loop h hF hp h16 e1 i5 hr q hm hQ d (t + 1) b (by omega) (I.no hF hp (fun z => by have := z.1; omega))
    · have c : ¬ pcN F.length b ≤ pcN F.length t := fun z => c ((nI_leI (by omega) (by omega)).mpr z)
      refine L_met h hF h16 hr q hm t true ?_
      rw [Bool.true_and]
      cases z : metN F e.2.1 t with
      | true =>
        refine ⟨fun y => absurd y (by decide), fun _ => ?_⟩
        rw [nI_1]
        exact L_loop h hF hp h16 e1 i5 hr q hm hQ d (t + 1) t (by omega) (I.yes (by omega) (by omega) (metN_hit.mp z))
      | false =>
        refine ⟨fun _ => ?_, fun y => absurd rfl y⟩
        rw [nI_1]
        exact L_loop h hF hp h16 e1 i5 hr q hm hQ d (t + 1) b (by omega) (I.no hF hp (fun y => by have := metN_hit.mpr y.2; rw [z] at this; cases this))
theorem fws_all {V : Vt} (W : WFv V) {n : Nat} {e : Ans} (he : V.2.2.1.1[n]? = some e) : ∀ j, j ∈ fws (anyW e) 60 ↔ ∃ w ∈ e.2.1, bt w j = true := fun j => by
  have hl : V.1.2.1.length ≤ 60 := W.1.wf.2.2.1
  have hw := (W.2.2.2.2.2 e (List.mem_of_getElem? he)).2.2.2.2.2.1
  unfold fws
  rw [List.mem_filter, List.mem_range]
  unfold anyW
  rw [anyW_bt, bt_0, Bool.false_or, List.any_eq_true]
  constructor
  · exact fun h => h.2
  · rintro ⟨w, w1, w2⟩
    refine ⟨?_, w, w1, w2⟩
    by_cases c : j < 60
    · exact c
    · rw [hw w w1 j (by omega)] at w2; cases w2
theorem la_60 {V : Vt} (W : WFv V) {n : Nat} {e : Ans} (he : V.2.2.1.1[n]? = some e) : ∀ s ∈ e.2.1, ∀ i, 60 ≤ i → bt s i = false := fun s hs i hi => (W.2.2.2.2.2 e (List.mem_of_getElem? he)).2.2.2.2.2.1 s hs i (by have : V.1.2.1.length ≤ 60 := W.1.wf.2.2.1; omega)
theorem la_n0 {V : Vt} (W : WFv V) {n : Nat} {e : Ans} (he : V.2.2.1.1[n]? = some e) : ∀ s ∈ e.2.1, s ≠ 0 := (W.2.2.2.2.2 e (List.mem_of_getElem? he)).2.2.2.2.2.2.2.2.2.2
theorem M_least {V : Vt} (h0 : Sh ad ct σ) (R0 : RM ad σ V) (W : WFv V) (i : Int32) {Q : Int64 → St → Prop} (hn : aOf V i = none → ∀ σ', Fr ct SM σ σ' → RM ad σ' (stV V 1) → Q (-1) σ') (hb : ∀ e, aOf V i = some e → 16 < (bits (anyW e)).length → ∀ σ', Fr ct SM σ σ' → RM ad σ' (stV V 6) → Q (-1) σ') (hQ0 : ∀ e B, aOf V i = some e → ¬ 16 < (bits (anyW e)).length → Lst e.2.1 B → ∀ σ', Fr ct SM σ σ' → RM ad σ' (stV V 0) → Q B σ') : wX16_least (ad 17 0 0) i σ Q := by
  have ft := fr17 h0 1024 0
  have R := rmth h0 W.2.1 R0 0
  have h := h0.frM ft
  unfold wX16_least wX16_least_0
  generalize uFi σ 1024 (ad 17 0 0) 0 = τ at R h ft
  refine ⟨k17 h0, M_isAns h R i (fun e => ⟨fun z => absurd rfl z, fun _ => ⟨k17 h, M_ref h W.2.1 R 1 (fun σ' f' R' => hn e σ' (ft.tr1 f') R')⟩⟩) (fun n e e1 e2 e3 e4 e5 e6 e7 e8 => ⟨fun _ => ⟨k17 h, ?_⟩, fun z => absurd z (by decide)⟩)⟩
  have eb := bits_fws W e3
  subst e1
  have hF : ∀ y ∈ fws (anyW e) 60, y < 60 := fun y hy => (fws_60 hy).1
  have hp := fws_pw (anyW e) 60
  refine M_few h e2 e5 (fun σ' f' k' big => ⟨fun z => absurd rfl z, fun _ => ⟨k17 (h.fr6 f'), M_ref (h.fr6 f') W.2.1 (rmF h W.2.1 R f' (k62 k')) 6 (fun σ2 f2 R2 => hb e e4 (by rw [eb]; exact big) σ2 ((ft.tr1 (f'.mono S6_SM)).tr1 f2) R2)⟩⟩) (fun σ' M => ⟨fun _ => ⟨k17 (h.fr6 M.1.1), 2 ^ (fws (anyW e) 60).length + 1, ?_⟩, fun z => absurd z (by decide)⟩)
  have h16 := M.1.2.2.2.1
  have h' := h.fr6 M.1.1
  have h2 : 0 < 2 ^ (fws (anyW e) 60).length := Nat.two_pow_pos _
  have R' := rmst h' W.2.1 (rmF h W.2.1 R M.1.1 (k62 M.1.2.1)) 0
  have ef : ((1 : Int32) <<< ((zFi σ' 1062 (ad 17 0 0)) &&& 31)) - 1 = nI (2 ^ (fws (anyW e) 60).length - 1) := by
    rw [M.1.2.2.1, sh_pow _ (by omega)]
    have := nI_pred (2 ^ (fws (anyW e) 60).length - 1)
    rw [show 2 ^ (fws (anyW e) 60).length - 1 + 1 = 2 ^ (fws (anyW e) 60).length by omega] at this
    exact this
  rw [ef]
  have hall := fws_all W e3
  have full : hit e.2.1 (MF (fws (anyW e) 60) (2 ^ (fws (anyW e) 60).length - 1)) := fun s hs z => by
    obtain ⟨k, hk, b⟩ := bt_ne0 (la_n0 W e3 s hs)
    have := bt_and0.mp z k b
    rw [MF_full hF ((hall k).mpr ⟨s, hs, b⟩)] at this
    cases this
  refine L_loop h' hF hp h16 M.1.2.2.1 M.1.2.2.2.2 e2 (e5.s6 h M.1.1) (fun m w hw => M.2 m w (List.getElem?_eq_some_iff.mp hw).1 hw) (fun b I => hQ0 e _ e4 (by rw [eb]; omega) (Lea_end hF hp hall I) _ ((ft.tr1 (M.1.1.mono S6_SM)).tr1 (fr17 h' 1025 0)) R') _ 0 _ (by omega) ⟨by omega, full, Or.inr rfl, fun u hu hu2 hh => ?_⟩
  rcases hu with hu | hu
  · exact absurd hu (Nat.not_lt_zero _)
  · rw [hu]; exact Or.inr ⟨rfl, Nat.le_refl _⟩
theorem C_least {V : Vt} (h : Sh ad ct σ) (R : RC ad ct σ V) (W : WFv V) (i : Int32) {Q : Int64 → St → Prop} (hn : aOf V i = none → ∀ σ', Fr ct SC σ σ' → RC ad ct σ' (stV V 1) → Q (-1) σ') (hb : ∀ e, aOf V i = some e → 16 < (bits (anyW e)).length → ∀ σ', Fr ct SC σ σ' → RC ad ct σ' (stV V 6) → Q (-1) σ') (hQ : ∀ e B, aOf V i = some e → ¬ 16 < (bits (anyW e)).length → Lst e.2.1 B → ∀ σ', Fr ct SC σ σ' → RC ad ct σ' (stV V 0) → Q B σ') : wX11_least (ad 12 0 0) i σ Q := by
  refine ⟨k12 h, C_wei h R i (fun e σ' f' R' => ⟨fun _ => hn e σ' f' R', fun a z => (by cases z)⟩) (fun e e4 big σ' f' R' => ⟨fun _ => hb e e4 big σ' f' R', fun a z => (by cases z)⟩) (fun n e j e1 e2 e3 e4 e5 e6 σ' f' R' q' => ⟨fun z => (by cases z), fun a z => ?_⟩)⟩
  cases z
  have h' := h.frC f'
  exact ⟨k12 h', _, p711 h', k9 h', C_leastOf h' e6 q' (la_n0 W e3) (la_60 W e3) (fun B σ2 f2 L => hQ e B e4 e5 L σ2 (f'.tr1 (f2.mono SW_SC)) (rcW h' R' f2))⟩
theorem Lst_ex {S : List Int64} (h0 : ∀ s ∈ S, s ≠ 0) (h60 : ∀ s ∈ S, ∀ i, 60 ≤ i → bt s i = false) (h16 : S.length ≤ 16) : ∃ B, Lst S B := by
  obtain ⟨Y, y1, y2⟩ := hit_few S h0
  obtain ⟨s, ⟨Z, z1, z2⟩, hs⟩ := pk_least (fun k => ∃ Y, hit S Y ∧ sz Y = k) ⟨sz Y, Y, y1, rfl⟩
  have hmin : ∀ Y, hit S Y → s ≤ sz Y := fun Y hY => by
    by_cases c : s ≤ sz Y
    · exact c
    · exact absurd ⟨Y, hY, rfl⟩ (hs (sz Y) (by omega))
  have hsl : s < 18 := by have := hmin Y y1; omega
  have nm1 : ∀ B : Int64, sb B (bit1 60 - 1) → B ≠ -1 := fun B hB z => by
    have t := sb_bt.mp hB 60 (by decide) (by rw [z]; exact bt_m1 60 (by decide))
    exact absurd t (by decide +kernel)
  have up : ∀ s ∈ S, sb s (bit1 60 - 1) := fun s hs => sb_bt.mpr (fun i hi hb => by
    by_cases c : i < 60
    · exact (by decide +kernel : ∀ i, i < 60 → bt (bit1 60 - 1) i = true) i c
    · rw [h60 s hs i (by omega)] at hb; cases hb)
  rcases updB_0 (cand S 18 0 s) (fun x hx => nm1 x ((cand_1 h0 18 0 s x hx).2.2.2 _ (sb_bt.mpr (fun i _ z => by rw [bt_0] at z; cases z)) up)) with ⟨g1, g2⟩ | ⟨g1, g2⟩
  · have := cand_no h0 hsl hmin g1 Z z1
    omega
  · exact ⟨_, cand_Lst h0 hsl hmin g1 g2⟩
theorem P_least {V : Vt} (W : WFv V) (i : Int32) : PR ad ct V (fun σ Q => wX11_least (ad 12 0 0) i σ Q) (fun σ Q => wX16_least (ad 17 0 0) i σ Q) := by
  cases e : aOf V i with
  | none => exact ⟨-1, stV V 1, W, fun σ Q h R hQ => C_least h R W i (fun _ => hQ) (fun x z => by rw [e] at z; cases z) (fun x B z => by rw [e] at z; cases z), fun σ Q h R hQ => M_least h R W i (fun _ => hQ) (fun x z => by rw [e] at z; cases z) (fun x B z => by rw [e] at z; cases z)⟩
  | some x =>
    by_cases c : 16 < (bits (anyW x)).length
    · exact ⟨-1, stV V 6, W, fun σ Q h R hQ => C_least h R W i (fun z => by rw [e] at z; cases z) (fun y z _ => hQ) (fun y B z z2 => by rw [e] at z; cases z; exact absurd c z2), fun σ Q h R hQ => M_least h R W i (fun z => by rw [e] at z; cases z) (fun y z _ => hQ) (fun y B z z2 => by rw [e] at z; cases z; exact absurd c z2)⟩
    · have he : ∃ n : Nat, V.2.2.1.1[n]? = some x := by
        unfold aOf at e
        by_cases z : i < 0
        · rw [if_pos z] at e; cases e
        · rw [if_neg z] at e; exact ⟨_, e⟩
      obtain ⟨n, he⟩ := he
      obtain ⟨B, hB⟩ := Lst_ex (la_n0 W he) (la_60 W he) (W.2.2.2.2.2 x (List.mem_of_getElem? he)).2.1
      refine ⟨B, stV V 0, W, fun σ Q h R hQ => C_least h R W i (fun z => by rw [e] at z; cases z) (fun y z z2 => by rw [e] at z; cases z; exact absurd z2 c) (fun y C z _ hC => ?_), fun σ Q h R hQ => M_least h R W i (fun z => by rw [e] at z; cases z) (fun y z z2 => by rw [e] at z; cases z; exact absurd z2 c) (fun y C z _ hC => ?_)⟩
      · rw [e] at z; cases z
        rw [hC.one hB]; exact hQ
      · rw [e] at z; cases z
        rw [hC.one hB]; exact hQ
end LE
