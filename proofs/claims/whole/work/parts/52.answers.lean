/-! answers and the asker are made -/
theorem Sp.arr {v : Nat} {o o1 : Ow} {τ τ1 : St} (h : Sp v o τ o1 τ1) {r : Nat} (hr : zK τ r = 0) (i : Nat) (w : Option Nat) : Sp v o τ o1 (uAr τ1 r i w) :=
  ⟨fun x hxv hx => (h.1 x hxv hx).tr (sX_uAr _ _ _ _ (fun z : x = r => hx (by rw [z]; exact hr))), h.2.1, h.2.2.1, h.2.2.2⟩
theorem Sp.own {r : Nat} {o : Ow} {τ : St} (h : okO o τ) (i : Nat) (w : Option Nat) : Sp r o τ o (uAr τ r i w) :=
  ⟨fun x hxr _ => sX_uAr _ _ _ _ hxr, fun _ _ => rfl, h, rfl⟩
theorem Sp.fld {r : Nat} {o : Ow} {τ : St} (h : okO o τ) (g : Nat) (w : Option Nat) : Sp r o τ o (uFr τ g r w) :=
  ⟨fun x hxr _ => sX_uFr _ _ _ _ hxr, fun _ _ => rfl, h, rfl⟩
def ANS (o : Ow) (τ : St) (s y : Nat) : Prop := o y = some (4, s, 0) ∧ zK τ y = 4 ∧ (∀ g, zFi τ g y = 0) ∧ ∃ (r : Nat) (fa : Nat → Nat), zFr τ 192 y = some r ∧ o r = some (192, s, 0) ∧ zK τ r = 25 ∧ zL τ r = room s ∧ ∀ j, j < room s → zAr τ r j = some (fa j) ∧ Obj o τ (3, s, j) 3 lX2 (fa j)
theorem lX2_n {a : Nat} (h : a ≠ 128 ∧ a ≠ 129) : ∀ q ∈ lX2, q.1 ≠ a := by
  intro q hq
  simp only [lX2, List.mem_cons, List.not_mem_nil, or_false] at hq
  rcases hq with rfl | rfl
  · exact h.2.symm
  · exact h.1.symm
theorem ANS.keep {o o' : Ow} {τ τ' : St} {s y v : Nat} (h : ANS o τ s y) (p : Sp v o τ o' τ') {nv : Nat × Nat × Nat} (hv : o v = some nv) (hn : (nv.1 ≠ 4 ∧ nv.1 ≠ 192 ∧ nv.1 ≠ 3 ∧ nv.1 ≠ 128 ∧ nv.1 ≠ 129) ∨ (nv.2.1 ≠ s ∧ nv.1 ≠ 128 ∧ nv.1 ≠ 129)) : ANS o' τ' s y := by
  obtain ⟨h1, h2, h3, r, fa, h4, h5, h6, h7, h8⟩ := h
  have ne : ∀ {x : Nat} {nm : Nat × Nat × Nat}, o x = some nm → nv ≠ nm → x ≠ v := fun e n z => by rw [z, hv] at e; exact n (Option.some.inj e)
  have n4 : nv ≠ (4, s, 0) := fun z => by rw [z] at hn; exact hn.elim (fun w => w.1 rfl) (fun w => w.1 rfl)
  have n192 : nv ≠ (192, s, 0) := fun z => by rw [z] at hn; exact hn.elim (fun w => w.2.1 rfl) (fun w => w.1 rfl)
  have y0 : zK τ y ≠ 0 := by rw [h2]; decide
  have r0 : zK τ r ≠ 0 := by rw [h6]; decide
  have sy := p.1 y (ne h1 n4) y0
  have sr := p.1 r (ne h5 n192) r0
  refine ⟨(p.2.1 y y0).trans h1, sy.1.trans h2, fun g => (sy.2.2.2.1 g).trans (h3 g), r, fa, (sy.2.2.1 _).trans h4, (p.2.1 r r0).trans h5, sr.1.trans h6, sr.2.1.trans h7, fun j hj => ⟨(sr.2.2.2.2.2.2.2.2 j).trans (h8 j hj).1, (h8 j hj).2.keep p hv (fun z => ?_) (lX2_n ?_)⟩⟩
  · rw [z] at hn; exact hn.elim (fun w => w.2.2.1 rfl) (fun w => w.1 rfl)
  · exact hn.elim (fun w => ⟨w.2.2.2.1, w.2.2.2.2⟩) (fun w => w.2)
set_option maxHeartbeats 1000000 in
theorem I_3 {σ : St} {o : Ow} {v s : Nat} (h0 : okO o σ) (hv : o v = some (4, s, 0)) (kv : zK σ v = 4) (hz : ∀ g, zFi σ g v = 0) {mc ms : Nat} (hm : 1 + 3 * room s ≤ mc) (hs : 29 * room s ≤ ms) {Q : St → Prop} (hQ : ∀ o' τ, Sp v o σ o' τ → ANS o' τ s v → Q τ) : wX3_init mc ms v (nI (room s)) σ Q := by
  have hr := room_le s
  have ir : ix (nI (room s)) = room s := nI_clamp (by omega)
  refine ⟨nI_pos (by omega), by rw [ir]; omega, by omega, by rw [ir]; omega, fun r hr0 => ?_⟩
  rw [ir]
  have B0 : Bld 4 s 0 v σ o o σ [] := Bld.start kv (by decide) h0
  obtain ⟨o1, B1, v1, e1⟩ := B0.row ⟨_, hv, by simp⟩ (by simp) (g := 192) (κ := 25) (len := room s) hr0 (by decide) (by simp) rfl
  rw [← e1]
  have er : zFr (uFr (nA σ r 25 (room s)) 192 v (some r)) 192 v = some r := by simp only [yK_uFi, yL_uFi, yFj_uFi, yFr_uFi, yAi_uFi, yAj_uFi, yAd_uFi, yAr_uFi, yFi_uFi, yK_uFj, yL_uFj, yFi_uFj, yFr_uFj, yAi_uFj, yAj_uFj, yAd_uFj, yAr_uFj, yFj_uFj, yK_uFr, yL_uFr, yFi_uFr, yFj_uFr, yAi_uFr, yAj_uFr, yAd_uFr, yAr_uFr, yFr_uFr, yK_uAi, yL_uAi, yFi_uAi, yFj_uAi, yFr_uAi, yAj_uAi, yAd_uAi, yAr_uAi, yAi_uAi, yK_uAj, yL_uAj, yFi_uAj, yFj_uAj, yFr_uAj, yAi_uAj, yAd_uAj, yAr_uAj, yAj_uAj, yK_uAd, yL_uAd, yFi_uAd, yFj_uAd, yFr_uAd, yAi_uAd, yAj_uAd, yAr_uAd, yAd_uAd, yK_uAr, yL_uAr, yFi_uAr, yFj_uAr, yFr_uAr, yAi_uAr, yAj_uAr, yAd_uAr, yAr_uAr, yK_uCi, yL_uCi, yFi_uCi, yFj_uCi, yFr_uCi, yAj_uCi, yAd_uCi, yAr_uCi, yK_uCj, yL_uCj, yFi_uCj, yFj_uCj, yFr_uCj, yAi_uCj, yAd_uCj, yAr_uCj, yK_uCx, yL_uCx, yFi_uCx, yFj_uCx, yFr_uCx, yAi_uCx, yAd_uCx, yAr_uCx, yK_nO, yL_nO, yFi_nO, yFj_nO, yFr_nO, yAi_nO, yAj_nO, yAd_nO, yAr_nO, yK_nA, yL_nA, yFi_nA, yFj_nA, yFr_nA, yAi_nA, yAj_nA, yAd_nA, yAr_nA, yK_nC, yL_nC, yFi_nC, yFj_nC, yFr_nC, yAi_nC, yAj_nC, yAd_nC, yAr_nC, yu2, yAi_uCi', yAj_uCj', yAj_uCx', Option.some.injEq, exists_eq_left', true_and, and_true, not_false_eq_true, forall_const, false_and, and_false, reduceIte, Nat.reduceEqDiff, ne_eq]
  refine ⟨B1.1, room s + 1, ?_⟩
  generalize uFr (nA σ r 25 (room s)) 192 v (some r) = τ1 at B1 e1 er
  obtain ⟨r', r1, r2, r3, r4, r5⟩ := B1.2.2.2.2.2.1 (192, 25, room s) List.mem_cons_self
  cases er.symm.trans r1
  have S1 := B1.stp kv
  have key : ∀ (d i k n : Nat) (o2 : Ow) (τ : St), i + d = room s → k ≤ 1 + 3 * i → n ≤ room s + 28 * i → Sp v o σ o2 τ → o2 v = some (4, s, 0) → (∀ g, zFi τ g v = 0) → zFr τ 192 v = some r → o2 r = some (192, s, 0) → zK τ r = 25 → zL τ r = room s → (∃ fa : Nat → Nat, ∀ j, j < i → zAr τ r j = some (fa j) ∧ Obj o2 τ (3, s, j) 3 lX2 (fa j)) → lX3_init_14 mc ms Q (d + 1) k n v (nI (room s)) (nI i) τ := by
    intro d
    induction d with
    | zero =>
      intro i k n o2 τ hi hk hn S ov zv g1 g2 g3 g4 g5
      have hi : i = room s := by omega
      obtain ⟨fa, hfa⟩ := g5
      refine ⟨fun _ => ⟨by omega, by omega, hQ o2 τ S ⟨ov, S.2.2.2.trans kv, zv, r, fa, g1, g2, g3, g4, fun j hj => hfa j (by omega)⟩⟩, fun c => absurd (nI_le (by omega) (by omega)) c⟩
    | succ d ih =>
      intro i k n o2 τ hi hk hn S ov zv g1 g2 g3 g4 g5
      obtain ⟨fa, hfa⟩ := g5
      have kvτ : zK τ v = 4 := S.2.2.2.trans kv
      refine ⟨fun c => absurd c (nI_ge (by omega) (by omega)), fun _ => ⟨kvτ, r, g1, by omega, by omega, fun b hb => ⟨2, 22, by omega, by omega, ?_⟩⟩⟩
      have hvb : v ≠ b := fun z => by rw [← z, kvτ] at hb; cases hb
      have hrb : r ≠ b := fun z => by rw [← z, g3] at hb; cases hb
      have Sb := Sp.new S.2.2.1 (by rw [kvτ]; decide) (v := v) hb (by decide : (3 : Nat) ≠ 0) (3, s, i)
      refine I_2 Sb.2.2.1 (s := s) (j := i) (if_pos rfl) (by rw [yK_nO, if_pos rfl]) (fun g => by rw [yFi_nO, if_pos rfl]) (fun o3 τ3 S3 ob => ?_)
      have Sv := Sb.sub hb hvb (by rw [kvτ]; decide) S3
      have er3 : zK τ3 r = 25 ∧ zL τ3 r = room s ∧ (∀ j, zAr τ3 r j = zAr τ r j) ∧ o3 r = some (192, s, 0) := by
        have r0 : zK τ r ≠ 0 := by rw [g3]; decide
        have rv : r ≠ v := fun z => by rw [z, kvτ] at g3; cases g3
        have sx := Sv.1 r rv r0
        exact ⟨sx.1.trans g3, sx.2.1.trans g4, sx.2.2.2.2.2.2.2.2, (Sv.2.1 r r0).trans g2⟩
      refine ⟨er3.1, by rw [er3.2.1]; exact vp_in_nI (by omega) (by omega), ob.2.1, ?_⟩
      rw [nI_1, show ix (nI i) = i from nI_clamp (by omega)]
      have So := Sp.own Sv.2.2.1 (r := r) i (some b)
      have v0 : zK τ v ≠ 0 := by rw [kvτ]; decide
      have ov3 : o3 v = some (4, s, 0) := (Sv.2.1 v v0).trans ov
      have hb0 := S.fresh hb
      have rσ : zK σ r = 0 := hr0
      have Sn : Sp v o σ o3 τ3 := (S.tr Sb).sub hb0 hvb (by rw [kv]; decide) S3
      have zv3 : ∀ g, zFi τ3 g v = zFi τ g v := fun g => by
        have := (S3.1 v hvb (by rw [yK_nO, if_neg hvb]; exact v0)).2.2.2.1 g
        rw [this, yFi_nO, if_neg hvb]
      have zr3 : ∀ g, zFr τ3 g v = zFr τ g v := fun g => by
        have := (S3.1 v hvb (by rw [yK_nO, if_neg hvb]; exact v0)).2.2.1 g
        rw [this, yFr_nO, if_neg hvb]
      refine ih (i + 1) _ _ o3 _ (by omega) (by omega) (by omega) (Sn.arr rσ i (some b)) ov3 (fun g => (zv3 g).trans (zv g)) ((zr3 192).trans g1) er3.2.2.2 er3.1 er3.2.1 ⟨fun j => if j = i then b else fa j, fun j hj => ?_⟩
      have ear : zAr (uAr τ3 r i (some b)) r j = if j = i then some b else zAr τ3 r j := by simp only [yK_uFi, yL_uFi, yFj_uFi, yFr_uFi, yAi_uFi, yAj_uFi, yAd_uFi, yAr_uFi, yFi_uFi, yK_uFj, yL_uFj, yFi_uFj, yFr_uFj, yAi_uFj, yAj_uFj, yAd_uFj, yAr_uFj, yFj_uFj, yK_uFr, yL_uFr, yFi_uFr, yFj_uFr, yAi_uFr, yAj_uFr, yAd_uFr, yAr_uFr, yFr_uFr, yK_uAi, yL_uAi, yFi_uAi, yFj_uAi, yFr_uAi, yAj_uAi, yAd_uAi, yAr_uAi, yAi_uAi, yK_uAj, yL_uAj, yFi_uAj, yFj_uAj, yFr_uAj, yAi_uAj, yAd_uAj, yAr_uAj, yAj_uAj, yK_uAd, yL_uAd, yFi_uAd, yFj_uAd, yFr_uAd, yAi_uAd, yAj_uAd, yAr_uAd, yAd_uAd, yK_uAr, yL_uAr, yFi_uAr, yFj_uAr, yFr_uAr, yAi_uAr, yAj_uAr, yAd_uAr, yAr_uAr, yK_uCi, yL_uCi, yFi_uCi, yFj_uCi, yFr_uCi, yAj_uCi, yAd_uCi, yAr_uCi, yK_uCj, yL_uCj, yFi_uCj, yFj_uCj, yFr_uCj, yAi_uCj, yAd_uCj, yAr_uCj, yK_uCx, yL_uCx, yFi_uCx, yFj_uCx, yFr_uCx, yAi_uCx, yAd_uCx, yAr_uCx, yK_nO, yL_nO, yFi_nO, yFj_nO, yFr_nO, yAi_nO, yAj_nO, yAd_nO, yAr_nO, yK_nA, yL_nA, yFi_nA, yFj_nA, yFr_nA, yAi_nA, yAj_nA, yAd_nA, yAr_nA, yK_nC, yL_nC, yFi_nC, yFj_nC, yFr_nC, yAi_nC, yAj_nC, yAd_nC, yAr_nC, yu2, yAi_uCi', yAj_uCj', yAj_uCx', Option.some.injEq, exists_eq_left', true_and, and_true, not_false_eq_true, forall_const, false_and, and_false, reduceIte, Nat.reduceEqDiff, ne_eq]
      show zAr (uAr τ3 r i (some b)) r j = some (if j = i then b else fa j) ∧ Obj o3 (uAr τ3 r i (some b)) (3, s, j) 3 lX2 (if j = i then b else fa j)
      by_cases c : j = i
      · rw [ear, if_pos c, if_pos c, c]
        exact ⟨rfl, ob.keep So er3.2.2.2 (by simp) (lX2_n (a := 192) (by decide))⟩
      · rw [ear, if_neg c, if_neg c, er3.2.2.1 j]
        obtain ⟨f1, f2⟩ := hfa j (by omega)
        refine ⟨f1, ?_⟩
        have k1 := f2.keep Sb (nv := (4, s, 0)) ov (by simp) (lX2_n (a := 4) (by decide))
        have k2 := k1.keep S3 (nv := (3, s, i)) (if_pos rfl) (by simp; omega) (lX2_n (a := 3) (by decide))
        exact k2.keep So er3.2.2.2 (by simp) (lX2_n (a := 192) (by decide))
  rw [Nat.zero_add, Nat.zero_add]
  exact key (room s) 0 1 (room s) o1 τ1 (by omega) (by omega) (by omega) S1 (v1.trans hv) (fun g => (B1.2.2.2.2.2.2 g).trans (hz g)) er r2 r3 r4 ⟨fun _ => 0, fun j hj => absurd hj (Nat.not_lt_zero j)⟩
