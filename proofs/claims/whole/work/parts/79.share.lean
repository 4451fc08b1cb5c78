/-! chance and share on both sides -/
section KX
variable {ad : Ad} {ct : Ct} {σ : St}
theorem nI_m1 {f : Nat} (h : f < 2 ^ 31) : ¬ nI f = -1 := fun z => by
  have e := congrArg Int32.toInt z
  rw [nI_toInt h, show (-1 : Int32).toInt = -1 from by decide] at e
  omega
theorem fws_getD (all : Int64) (x : Nat) : (fws all 60).getD x 0 < 60 := by
  rw [List.getD_eq_getElem?_getD]
  cases c : (fws all 60)[x]? with
  | none => exact (by decide : 0 < 60)
  | some f => exact (fws_60 (List.mem_of_getElem? c)).1
theorem eiC_m1 (fs : List Fct) (all : Int64) : (fun x => eiC fs (-1) 0 ((fws all 60).getD x 0)) = fun x => eiF fs ((fws all 60).getD x 0) := funext (fun x => if_neg (nI_m1 (by have := fws_getD all x; omega)))
theorem C_chance {V : Vt} (h : Sh ad ct σ) (R : RC ad ct σ V) (W : WFv V) (i : Int32) {Q : Int64 → St → Prop} (hQ : ∀ σ', Fr ct SC σ σ' → RC ad ct σ' (chaV i V).2 → Q (chaV i V).1 σ') : wX11_chance (ad 12 0 0) i σ Q := by
  unfold chaV weiV at hQ
  refine ⟨k12 h, C_wei h R i (fun e σ' f' R' => ⟨fun _ => ?_, fun a z => (by cases z)⟩) (fun e e4 big σ' f' R' => ⟨fun _ => ?_, fun a z => (by cases z)⟩) (fun n e j e1 e2 e3 e4 e5 e6 σ' f' R' q' => ⟨fun z => (by cases z), fun a z => ?_⟩)⟩
  · rw [e] at hQ; exact hQ σ' f' R'
  · rw [e4] at hQ; simp only [if_pos big] at hQ; exact hQ σ' f' R'
  · cases z
    rw [e4] at hQ
    simp only [if_neg e5] at hQ
    have h' := h.frC f'
    have hb : (fws (anyW e) 60).length ≤ 16 := by rw [← bits_fws W e3]; omega
    refine ⟨k12 h', _, p710 h', _, p704 h', k6 h', C_chanceOf (V := stV V 0) h' R' W e3 e6 q' hb (-1) 0 (fun σ2 f2 => ?_)⟩
    have e9 : chC (stV V 0).1.2.1 e (-1) 0 = chaF V.1.2.1 e := by
      refine (chC_sum (V := V) W e3 hb (-1) 0 ⟨0, by decide, rfl⟩).trans ?_
      rw [eiC_m1]
      rfl
    rw [e9]
    exact hQ σ2 (f'.tr1 (f2.mono SW_SC)) (rcW h' R' f2)
/-- how much of the chance hangs on the fact g -/
def shaF (fs : List Fct) (e : Ans) (g : Nat) : Int64 := if bt (anyW e) g = true then sumE (fws (anyW e) 60) e.2.1 (fun x => eiC fs (nI g) 8 ((fws (anyW e) 60).getD x 0)) (2 ^ (fws (anyW e) 60).length) 0 0 - sumE (fws (anyW e) 60) e.2.1 (fun x => eiC fs (nI g) 0 ((fws (anyW e) 60).getD x 0)) (2 ^ (fws (anyW e) 60).length) 0 0 else 0
/-- a call that weighs an answer and a fact -/
def wefV {α : Type} (no : α) (F : Ans → Nat → α × Int32) (i f : Int32) (V : Vt) : α × Vt := match aOf V i with
  | none => (no, stV V 1)
  | some e => match fOf V f with
    | none => (no, stV V 1)
    | some _ => if 16 < (bits (anyW e)).length then (no, stV V 6) else ((F e (ix f)).1, stV V (F e (ix f)).2)
def shaV (i f : Int32) (V : Vt) : Int64 × Vt := wefV (-1) (fun e g => (shaF V.1.2.1 e g, 0)) i f V
theorem C_share {V : Vt} (h : Sh ad ct σ) (R : RC ad ct σ V) (W : WFv V) (i f : Int32) {Q : Int64 → St → Prop} (hQ : ∀ σ', Fr ct SC σ σ' → RC ad ct σ' (shaV i f V).2 → Q (shaV i f V).1 σ') : wX11_share (ad 12 0 0) i f σ Q := by
  have hl : V.1.2.1.length ≤ 60 := W.1.wf.2.2.1
  have no : shaV i f V = (-1, stV V 1) → wX11_share_22 Q (ad 12 0 0) σ := fun e => ⟨k12 h, C_ref h R 1 (fun σ' f' R' => by rw [e] at hQ; exact hQ σ' f' R')⟩
  refine C_at h R i (fun e => ⟨fun _ => no (by unfold shaV wefV; rw [e]), fun a z => (by cases z)⟩) (fun n e j e1 e2 e3 e4 e5 e6 e7 e8 => ⟨fun z => (by cases z), fun a z => ?_⟩)
  cases z
  refine ⟨k12 h, _, p704 h, k7 h, C_isFact h R hl f (fun ef => ⟨fun z => absurd rfl z, fun _ => no (by unfold shaV wefV; rw [e4, ef])⟩) (fun g x hg eg hx ef => ⟨fun _ => ⟨k12 h, ?_⟩, fun z => absurd z (by decide)⟩)⟩
  subst eg
  have hg60 : g < 60 := by omega
  unfold shaV wefV at hQ
  rw [e4, ef] at hQ
  refine C_wei h R i (fun z => absurd z (by rw [e4]; exact fun y => (by cases y))) (fun e' e4' big σ' f' R' => ⟨fun _ => ?_, fun a z => (by cases z)⟩) (fun n' e' j' e1' e2' e3' e4' e5' e6' σ' f' R' q' => ⟨fun z => (by cases z), fun a z => ?_⟩)
  · have ee : e' = e := Option.some.inj (e4'.symm.trans e4)
    subst ee
    simp only [if_pos big] at hQ
    exact hQ σ' f' R'
  · have ee : e' = e := Option.some.inj (e4'.symm.trans e4)
    subst ee
    cases z
    simp only [if_neg e5', show ix (nI g) = g from nI_clamp (by omega)] at hQ
    have h' := h.frC f'
    have hb : (fws (anyW e') 60).length ≤ 16 := by rw [← bits_fws W e3']; omega
    unfold shaF at hQ
    refine ⟨k3 h' (by decide) e6', A_any h' (by decide) e6' q' ⟨fun z => ⟨fun y => absurd rfl y, fun _ => ?_⟩, fun z => ⟨fun _ => ⟨k12 h', _, p710 h', _, p704 h', k6 h', ?_⟩, fun y => absurd y (by decide)⟩⟩⟩
    · have z : bt (anyW e') g = false := (has_bt (anyW e') (by omega)).mp z
      rw [if_neg (by rw [z]; decide)] at hQ
      exact hQ σ' f' R'
    · have z : bt (anyW e') g = true := by
        cases y : bt (anyW e') g with
        | true => rfl
        | false => exact absurd ((has_bt (anyW e') (by omega)).mpr y) z
      rw [if_pos z] at hQ
      refine C_chanceOf (V := stV V 0) h' R' W e3' e6' q' hb (nI g) 8 (fun σ2 f2 => ?_)
      have h2 := h'.frC (f2.mono SW_SC)
      refine ⟨k12 h2, _, p710 h2, _, p704 h2, k6 h2, C_chanceOf (V := stV V 0) h2 (rcW h' R' f2) W e3' e6' (q'.w h' e6' f2) hb (nI g) 0 (fun σ3 f3 => ?_)⟩
      have a1 : chC (stV V 0).1.2.1 e' (nI g) 8 = _ := chC_sum (V := V) W e3' hb (nI g) 8 ⟨8, by decide, rfl⟩
      have a2 : chC (stV V 0).1.2.1 e' (nI g) 0 = _ := chC_sum (V := V) W e3' hb (nI g) 0 ⟨0, by decide, rfl⟩
      rw [a1, a2]
      exact hQ σ3 ((f'.tr1 (f2.mono SW_SC)).tr1 (f3.mono SW_SC)) (rcW h2 (rcW h' R' f2) f3)
end KX
