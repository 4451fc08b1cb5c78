/-! blame on both sides -/
section LH
variable {ad : Ad} {ct : Ct} {σ : St}
theorem M_bloop (h : Sh ad ct σ) {F : List Nat} (hF : ∀ f ∈ F, f < 60) (hpF : F.Pairwise (fun a b => a < b)) (h16 : F.length ≤ 16) {r wd : Nat} {cl : Bool} {e : Ans} (hr : r < 32) (q : RowAt ad σ 40 r wd cl e) (hm : ∀ m w, e.2.1[m]? = some w → zAi σ (ad 1061 0 0) m = mkN F w F.length) {p g : Nat} (hp : F[p]? = some g) {Q : Int32 → St → Prop} (hQ : ∀ b, BrI F e.2.1 g (2 ^ F.length) b → wX16_done (ad 17 0 0) (nI b) σ Q) : ∀ (d t b : Nat), t + d = 2 ^ F.length → BrI F e.2.1 g t b → lX16_blame_79 Q (d + 1) (ad 17 0 0) (nI r) (nI p) (nI (2 ^ F.length - 1)) (nI b) (nI t) σ
  | 0, t, b, ht, I => by
    have h2 : 2 ^ F.length ≤ 2 ^ 16 := Nat.pow_le_pow_right (by decide) h16
    have h3 : 0 < 2 ^ F.length := Nat.two_pow_pos _
    have ht : t = 2 ^ F.length := by omega
    subst ht
    refine ⟨fun _ => ⟨k17 h, hQ b I⟩, fun c => absurd ?_ c⟩
    rw [Int32.lt_iff_toInt_lt, nI_toInt (by omega), nI_toInt (by omega)]
    omega
  | d + 1, t, b, ht, I => by
    have h2 : 2 ^ F.length ≤ 2 ^ 16 := Nat.pow_le_pow_right (by decide) h16
    have hpl := (List.getElem?_eq_some_iff.mp hp).1
    have l1 := pc_le F.length t
    have l2 := I.1
    have er : ix (nI r) = r := nI_clamp (by omega)
    have hl := q.2.2.1
    have go : (valS e.2.1 g (MF F t) → b ≤ pcN F.length t) → lX16_blame_79 Q (d + 1) (ad 17 0 0) (nI r) (nI p) (nI (2 ^ F.length - 1)) (nI b) (nI t + 1) σ := fun z => by
      rw [nI_1]
      refine M_bloop h hF hpF h16 hr q hm hp hQ d (t + 1) b (by omega) ⟨I.1, I.2.1, fun u hu hv => ?_⟩
      by_cases c : u = t
      · subst c; exact z hv
      · exact I.2.2 u (by omega) hv
    refine ⟨fun c => absurd c ?_, fun _ => ⟨fun c => go (fun v => ?_), fun c => M_szOf h16 (by omega) ⟨fun c2 => ⟨k17 h, _, p1050 h, k15 h (by decide), _, p899 h (by decide), k899 h (by decide), by rw [l899 h (by decide)]; exact vp_in_nI hr (by decide), ?_⟩, fun c2 => go (fun _ => ?_)⟩⟩⟩
    · rw [Int32.lt_iff_toInt_lt, nI_toInt (by omega), nI_toInt (by omega)]
      omega
    · have c := (shri_bt1 (nI t) (by omega)).mp c
      rw [bi_nI t (by omega)] at c
      have := (bt_MF_p hF hpF hp t).mpr (of_decide_eq_true c)
      rw [v.1] at this
      cases this
    · rw [er, q.2.2.2.1]
      refine M_whole h hm hl _ ⟨fun z => go (fun v => ?_), fun z => ⟨k17 h, _, p1050 h, k15 h (by decide), _, p899 h (by decide), k899 h (by decide), by rw [l899 h (by decide)]; exact vp_in_nI hr (by decide), ?_⟩⟩
      · have := (whl_1 hF h16 e.2.1 t).mpr v.2.1
        rw [this] at z
        exact absurd z (by decide)
      · rw [q.2.2.2.1]
        have z1 : whl F e.2.1 (nI (2 ^ F.length - 1) &&& (nI t ^^^ (-1))) = true := by
          cases y : whl F e.2.1 (nI (2 ^ F.length - 1) &&& (nI t ^^^ (-1))) with
          | true => rfl
          | false => rw [y] at z; exact absurd rfl z
        refine M_whole h hm hl _ ⟨fun z2 => go (fun v => ?_), fun z2 => M_szOf h16 (by omega) ?_⟩
        · have y : whl F e.2.1 ((nI (2 ^ F.length - 1) &&& (nI t ^^^ (-1))) &&& (((1 : Int32) <<< (nI p &&& 31)) ^^^ (-1))) = true := by
            cases y : whl F e.2.1 ((nI (2 ^ F.length - 1) &&& (nI t ^^^ (-1))) &&& (((1 : Int32) <<< (nI p &&& 31)) ^^^ (-1))) with
            | true => rfl
            | false => rw [y] at z2; exact absurd rfl z2
          obtain ⟨w, hw, w1, w2⟩ := (whl_2 hF h16 e.2.1 t hp).mp y
          rw [v.2.2 w hw w1] at w2
          cases w2
        · rw [nI_1]
          have c2 : pcN F.length t < b := by
            rw [Int32.lt_iff_toInt_lt, nI_toInt (by omega), nI_toInt (by omega)] at c2
            omega
          have vt : valS e.2.1 g (MF F t) := by
            refine ⟨?_, (whl_1 hF h16 e.2.1 t).mp z1, fun w hw w1 => ?_⟩
            · cases y : bt (MF F t) g with
              | false => rfl
              | true => exact absurd ((shri_bt1 (nI t) (by omega)).mpr (by rw [bi_nI t (by omega)]; exact decide_eq_true ((bt_MF_p hF hpF hp t).mp y))) c
            · cases y : bt w g with
              | true => rfl
              | false =>
                rw [(whl_2 hF h16 e.2.1 t hp).mpr ⟨w, hw, w1, y⟩] at z2
                exact absurd z2 (by decide)
          refine M_bloop h hF hpF h16 hr q hm hp hQ d (t + 1) _ (by omega) ⟨l1, Or.inr ⟨t, by omega, vt, rfl⟩, fun u hu hv => ?_⟩
          by_cases c : u = t
          · subst c; exact Nat.le_refl _
          · have := I.2.2 u (by omega) hv; omega
    · have c2 : ¬ pcN F.length t < b := fun z => c2 (by rw [Int32.lt_iff_toInt_lt, nI_toInt (by omega), nI_toInt (by omega)]; omega)
      omega
theorem M_blame {V : Vt} (h0 : Sh ad ct σ) (R0 : RM ad σ V) (W : WFv V) (i f : Int32) {Q : Int32 → St → Prop} (hn : aOf V i = none ∨ fOf V f = none → ∀ σ', Fr ct SM σ σ' → RM ad σ' (stV V 1) → Q (-1) σ') (hb : ∀ e x, aOf V i = some e → fOf V f = some x → 16 < (bits (anyW e)).length ∨ bt (anyW e) (ix f) = false → ∀ σ', Fr ct SM σ σ' → RM ad σ' (stV V 6) → Q (-1) σ') (hQ0 : ∀ e x b, aOf V i = some e → fOf V f = some x → ¬ 16 < (bits (anyW e)).length → bt (anyW e) (ix f) = true → Blm e.2.1 (ix f) b → ∀ σ', Fr ct SM σ σ' → RM ad σ' (stV V 0) → Q (nI b) σ') : wX16_blame (ad 17 0 0) i f σ Q := by
  have ft := fr17 h0 1024 0
  have R := rmth h0 W.2.1 R0 0
  have h := h0.frM ft
  have hl : V.1.2.1.length ≤ 60 := W.1.wf.2.2.1
  unfold wX16_blame wX16_blame_0
  generalize uFi σ 1024 (ad 17 0 0) 0 = τ at R h ft
  have no : (aOf V i = none ∨ fOf V f = none) → wX16_blame_21 Q (ad 17 0 0) τ := fun e => ⟨k17 h, M_ref h W.2.1 R 1 (fun σ' f' R' => hn e σ' (ft.tr1 f') R')⟩
  refine ⟨k17 h0, M_isAns h R i (fun e => ⟨fun _ => no (Or.inl e), fun z => absurd rfl z⟩) (fun n e e1 e2 e3 e4 e5 e6 e7 e8 => ⟨fun z => absurd z (by decide), fun _ => ⟨k17 h, ?_⟩⟩)⟩
  refine M_isFact h R hl f (fun ef => ⟨fun z => absurd rfl z, fun _ => no (Or.inr ef)⟩) (fun g x hg eg hx ef => ⟨fun _ => ⟨k17 h, ?_⟩, fun z => absurd z (by decide)⟩)
  subst eg
  have ig : ix (nI g) = g := nI_clamp (by omega)
  rw [ig] at hb hQ0
  have eb := bits_fws W e3
  subst e1
  have hF : ∀ y ∈ fws (anyW e) 60, y < 60 := fun y hy => (fws_60 hy).1
  have hpF := fws_pw (anyW e) 60
  have la := W.2.2.2.2.2 e (List.mem_of_getElem? e3)
  refine M_few h e2 e5 (fun σ' f' k' big => ⟨fun z => absurd rfl z, fun _ => ⟨k17 (h.fr6 f'), M_ref (h.fr6 f') W.2.1 (rmF h W.2.1 R f' (k62 k')) 6 (fun σ2 f2 R2 => hb e x e4 ef (Or.inl (by rw [eb]; exact big)) σ2 ((ft.tr1 (f'.mono S6_SM)).tr1 f2) R2)⟩⟩) (fun σ' M => ⟨fun _ => ⟨k17 (h.fr6 M.1.1), ?_⟩, fun z => absurd z (by decide)⟩)
  have h16 := M.1.2.2.2.1
  have h' := h.fr6 M.1.1
  have R' := rmF h W.2.1 R M.1.1 (k62 M.1.2.1)
  have F' := ft.tr1 (M.1.1.mono S6_SM)
  refine M_fewAt h' hF M.1 (by omega) (fun hno => ⟨fun z => absurd rfl z, fun _ => ⟨k17 h', M_ref h' W.2.1 R' 6 (fun σ2 f2 R2 => hb e x e4 ef (Or.inr ?_) σ2 (F'.tr1 f2) R2)⟩⟩) (fun p hp _ => ⟨fun _ => ⟨k17 h', 2 ^ (fws (anyW e) 60).length + 1, ?_⟩, fun z => absurd z (nI_m1 (by have := (List.getElem?_eq_some_iff.mp hp).1; omega))⟩)
  · cases c : bt (anyW e) g with
    | false => rfl
    | true => exact absurd (by unfold fws; rw [List.mem_filter, List.mem_range]; exact ⟨by omega, c⟩) hno
  · have h3 : 0 < 2 ^ (fws (anyW e) 60).length := Nat.two_pow_pos _
    have efl : ((1 : Int32) <<< ((zFi σ' 1062 (ad 17 0 0)) &&& 31)) - 1 = nI (2 ^ (fws (anyW e) 60).length - 1) := by
      rw [M.1.2.2.1, sh_pow _ (by omega)]
      have := nI_pred (2 ^ (fws (anyW e) 60).length - 1)
      rw [show 2 ^ (fws (anyW e) 60).length - 1 + 1 = 2 ^ (fws (anyW e) 60).length by omega] at this
      exact this
    have hgF := List.mem_of_getElem? hp
    rw [efl, M.1.2.2.1]
    refine M_bloop h' hF hpF h16 e2 (e5.s6 h M.1.1) (fun m w hw => M.2 m w (List.getElem?_eq_some_iff.mp hw).1 hw) hp (fun b I => M_done h' W.2.1 R' _ (fun σ2 f2 R2 => hQ0 e x b e4 ef (by rw [eb]; omega) (fws_60 hgF).2 (Br_end hF hpF (fws_all W e3) la.2.1 (la_60 W e3) la.2.2.2.2.1 hgF I) σ2 (F'.tr1 f2) R2)) _ 0 _ (by omega) ⟨Nat.le_refl _, Or.inl rfl, fun u hu => absurd hu (Nat.not_lt_zero _)⟩
theorem C_blame {V : Vt} (h : Sh ad ct σ) (R : RC ad ct σ V) (W : WFv V) (i f : Int32) {Q : Int32 → St → Prop} (hn : aOf V i = none ∨ fOf V f = none → ∀ σ', Fr ct SC σ σ' → RC ad ct σ' (stV V 1) → Q (-1) σ') (hb : ∀ e x, aOf V i = some e → fOf V f = some x → 16 < (bits (anyW e)).length ∨ bt (anyW e) (ix f) = false → ∀ σ', Fr ct SC σ σ' → RC ad ct σ' (stV V 6) → Q (-1) σ') (hQ0 : ∀ e x b, aOf V i = some e → fOf V f = some x → ¬ 16 < (bits (anyW e)).length → bt (anyW e) (ix f) = true → Blm e.2.1 (ix f) b → ∀ σ', Fr ct SC σ σ' → RC ad ct σ' (stV V 0) → Q (nI b) σ') : wX11_blame (ad 12 0 0) i f σ Q := by
  have hl : V.1.2.1.length ≤ 60 := W.1.wf.2.2.1
  have no : (aOf V i = none ∨ fOf V f = none) → wX11_blame_22 Q (ad 12 0 0) σ := fun e => ⟨k12 h, C_ref h R 1 (fun σ' f' R' => hn e σ' f' R')⟩
  refine C_at h R i (fun e => ⟨fun _ => no (Or.inl e), fun a z => (by cases z)⟩) (fun n e j e1 e2 e3 e4 e5 e6 e7 e8 => ⟨fun z => (by cases z), fun a z => ?_⟩)
  cases z
  refine ⟨k12 h, _, p704 h, k7 h, C_isFact h R hl f (fun ef => ⟨fun z => absurd rfl z, fun _ => no (Or.inr ef)⟩) (fun g x hg eg hx ef => ⟨fun _ => ⟨k12 h, ?_⟩, fun z => absurd z (by decide)⟩)⟩
  subst eg
  have ig : ix (nI g) = g := nI_clamp (by omega)
  rw [ig] at hb hQ0
  refine C_wei h R i (fun z => absurd z (by rw [e4]; exact fun y => (by cases y))) (fun e' e4' big σ' f' R' => ⟨fun _ => hb e' x e4' ef (Or.inl big) σ' f' R', fun a z => (by cases z)⟩) (fun n' e' j' e1' e2' e3' e4' e5' e6' σ' f' R' q' => ⟨fun z => (by cases z), fun a z => ?_⟩)
  cases z
  have h' := h.frC f'
  have la := W.2.2.2.2.2 e' (List.mem_of_getElem? e3')
  refine ⟨k3 h' (by decide) e6', A_any h' (by decide) e6' q' ⟨fun z => ⟨fun y => absurd rfl y, fun _ => ⟨k12 h', C_ref (V := stV V 0) h' R' 6 (fun σ2 f2 R2 => hb e' x e4' ef (Or.inr ((has_bt (anyW e') (by omega)).mp z)) σ2 (f'.tr1 f2) R2)⟩⟩, fun z => ⟨fun _ => ⟨k12 h', _, p711 h', k9 h', ?_⟩, fun y => absurd y (by decide)⟩⟩⟩
  have z : bt (anyW e') g = true := by
    cases y : bt (anyW e') g with
    | true => rfl
    | false => exact absurd ((has_bt (anyW e') (by omega)).mpr y) z
  have hz := z
  unfold anyW at hz
  rw [anyW_bt, bt_0, Bool.false_or, List.any_eq_true] at hz
  obtain ⟨w0, hw0, hg0⟩ := hz
  exact C_blameOf h' e6' q' (by omega) (fun w hw hwg => oth_n0 la.2.2.2.2.1 hw hwg) (fun w _ => oth_60 (la_60 W e3') w) (fun b σ2 f2 I => hQ0 e' x b e4' ef e5' z (Bla_end la.2.1 (la_60 W e3') la.2.2.2.2.1 (by omega) hw0 hg0 I) σ2 (f'.tr1 (f2.mono SW_SC)) (rcW h' R' f2))
theorem P_blame {V : Vt} (W : WFv V) (i f : Int32) : PR ad ct V (fun σ Q => wX11_blame (ad 12 0 0) i f σ Q) (fun σ Q => wX16_blame (ad 17 0 0) i f σ Q) := by
  by_cases c0 : aOf V i = none ∨ fOf V f = none
  · have no : ∀ {e x}, aOf V i = some e → fOf V f = some x → False := fun a b => by
      rcases c0 with c | c
      · rw [c] at a; cases a
      · rw [c] at b; cases b
    exact ⟨-1, stV V 1, W, fun σ Q h R hQ => C_blame h R W i f (fun _ => hQ) (fun e x a b => (no a b).elim) (fun e x y a b => (no a b).elim), fun σ Q h R hQ => M_blame h R W i f (fun _ => hQ) (fun e x a b => (no a b).elim) (fun e x y a b => (no a b).elim)⟩
  · cases e : aOf V i with
    | none => exact absurd (Or.inl e) c0
    | some a =>
      cases e2 : fOf V f with
      | none => exact absurd (Or.inr e2) c0
      | some x =>
        by_cases c : 16 < (bits (anyW a)).length ∨ bt (anyW a) (ix f) = false
        · have no : ∀ {a' : Ans}, aOf V i = some a' → ¬ 16 < (bits (anyW a')).length → bt (anyW a') (ix f) = true → False := fun y z w => by
            rw [e] at y
            cases y
            rcases c with c | c
            · exact z c
            · rw [c] at w; cases w
          exact ⟨-1, stV V 6, W, fun σ Q h R hQ => C_blame h R W i f (fun z => absurd z c0) (fun _ _ _ _ _ => hQ) (fun _ _ _ y _ z w => (no y z w).elim), fun σ Q h R hQ => M_blame h R W i f (fun z => absurd z c0) (fun _ _ _ _ _ => hQ) (fun _ _ _ y _ z w => (no y z w).elim)⟩
        · have c1 : ¬ 16 < (bits (anyW a)).length := fun z => c (Or.inl z)
          have c2 : bt (anyW a) (ix f) = true := by
            cases z : bt (anyW a) (ix f) with
            | true => rfl
            | false => exact absurd (Or.inr z) c
          have he : ∃ n : Nat, V.2.2.1.1[n]? = some a := by
            unfold aOf at e
            by_cases z : i < 0
            · rw [if_pos z] at e; cases e
            · rw [if_neg z] at e; exact ⟨_, e⟩
          obtain ⟨n, he⟩ := he
          have la := W.2.2.2.2.2 a (List.mem_of_getElem? he)
          have hz := c2
          unfold anyW at hz
          rw [anyW_bt, bt_0, Bool.false_or, List.any_eq_true] at hz
          obtain ⟨w0, hw0, hg0⟩ := hz
          obtain ⟨B, L⟩ := Lst_ex (oth_n0 la.2.2.2.2.1 hw0 hg0) (oth_60 (la_60 W he) w0) (oth_16 la.2.1 (ix f) w0)
          obtain ⟨b, ⟨X, x1, x2⟩, hb⟩ := pk_least (fun k => ∃ X, valS a.2.1 (ix f) X ∧ sz X = k) ⟨sz B, B, val_A hw0 hg0 L, rfl⟩
          have B1 : Blm a.2.1 (ix f) b := ⟨⟨X, x1, x2⟩, fun Y hY => by
            by_cases z : b ≤ sz Y
            · exact z
            · exact absurd ⟨Y, hY, rfl⟩ (hb (sz Y) (by omega))⟩
          have no : ∀ {a' : Ans}, aOf V i = some a' → 16 < (bits (anyW a')).length ∨ bt (anyW a') (ix f) = false → False := fun y z => by
            rw [e] at y
            cases y
            exact c z
          refine ⟨nI b, stV V 0, W, fun σ Q h R hQ => C_blame h R W i f (fun z => absurd z c0) (fun _ _ y _ z => (no y z).elim) (fun a' _ b' y _ _ _ k => ?_), fun σ Q h R hQ => M_blame h R W i f (fun z => absurd z c0) (fun _ _ y _ z => (no y z).elim) (fun a' _ b' y _ _ _ k => ?_)⟩
          · rw [e] at y; cases y
            rw [k.one B1]; exact hQ
          · rw [e] at y; cases y
            rw [k.one B1]; exact hQ
end LH
