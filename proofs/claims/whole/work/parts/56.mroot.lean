/-! the reference's object is made -/
theorem I_13 {σ : St} {o : Ow} {v : Nat} (h0 : okO o σ) (hv : o v = some (14, 0, 0)) (kv : zK σ v = 14) (hz : ∀ g, zFi σ g v = 0) {Q : St → Prop} (hQ : ∀ o' τ, Sp v o σ o' τ → Obj o' τ (14, 0, 0) 14 [] v → Q τ) : wX13_init v σ Q := by
  refine ⟨kv, fun o2 o3 => ⟨fun _ => ?_, fun c => absurd rfl c⟩⟩
  have S0 : Sp v o σ o σ := Sp.rf h0
  have S1 := S0.set 832 (some v)
  have S2 := S1.set 833 o2
  have S3 := S2.set 834 o3
  have S4 := S3.set 833 none
  have k4 := S4.2.2.2.trans kv
  have z4 : ∀ g, zFi (uFr (uFr (uFr (uFr σ 832 v (some v)) 833 v o2) 834 v o3) 833 v none) g v = 0 := fun g => by simp only [yK_uFi, yL_uFi, yFj_uFi, yFr_uFi, yAi_uFi, yAj_uFi, yAd_uFi, yAr_uFi, yFi_uFi, yK_uFj, yL_uFj, yFi_uFj, yFr_uFj, yAi_uFj, yAj_uFj, yAd_uFj, yAr_uFj, yFj_uFj, yK_uFr, yL_uFr, yFi_uFr, yFj_uFr, yAi_uFr, yAj_uFr, yAd_uFr, yAr_uFr, yFr_uFr, yK_uAi, yL_uAi, yFi_uAi, yFj_uAi, yFr_uAi, yAj_uAi, yAd_uAi, yAr_uAi, yAi_uAi, yK_uAj, yL_uAj, yFi_uAj, yFj_uAj, yFr_uAj, yAi_uAj, yAd_uAj, yAr_uAj, yAj_uAj, yK_uAd, yL_uAd, yFi_uAd, yFj_uAd, yFr_uAd, yAi_uAd, yAj_uAd, yAr_uAd, yAd_uAd, yK_uAr, yL_uAr, yFi_uAr, yFj_uAr, yFr_uAr, yAi_uAr, yAj_uAr, yAd_uAr, yAr_uAr, yK_uCi, yL_uCi, yFi_uCi, yFj_uCi, yFr_uCi, yAj_uCi, yAd_uCi, yAr_uCi, yK_uCj, yL_uCj, yFi_uCj, yFj_uCj, yFr_uCj, yAi_uCj, yAd_uCj, yAr_uCj, yK_uCx, yL_uCx, yFi_uCx, yFj_uCx, yFr_uCx, yAi_uCx, yAd_uCx, yAr_uCx, yK_nO, yL_nO, yFi_nO, yFj_nO, yFr_nO, yAi_nO, yAj_nO, yAd_nO, yAr_nO, yK_nA, yL_nA, yFi_nA, yFj_nA, yFr_nA, yAi_nA, yAj_nA, yAd_nA, yAr_nA, yK_nC, yL_nC, yFi_nC, yFj_nC, yFr_nC, yAi_nC, yAj_nC, yAd_nC, yAr_nC, yu2, yAi_uCi', yAj_uCj', yAj_uCx']; exact hz g
  generalize uFr (uFr (uFr (uFr σ 832 v (some v)) 833 v o2) 834 v o3) 833 v none = τ at S4 k4 z4 ⊢
  refine ⟨k4, fun c => absurd rfl c, fun _ => ?_⟩
  have S5 := S4.set 835 none
  have S6 := S5.set 832 none
  have S7 := S6.set 834 none
  have z7 : ∀ g, zFi (uFr (uFr (uFr τ 835 v none) 832 v none) 834 v none) g v = 0 := fun g => by simp only [yK_uFi, yL_uFi, yFj_uFi, yFr_uFi, yAi_uFi, yAj_uFi, yAd_uFi, yAr_uFi, yFi_uFi, yK_uFj, yL_uFj, yFi_uFj, yFr_uFj, yAi_uFj, yAj_uFj, yAd_uFj, yAr_uFj, yFj_uFj, yK_uFr, yL_uFr, yFi_uFr, yFj_uFr, yAi_uFr, yAj_uFr, yAd_uFr, yAr_uFr, yFr_uFr, yK_uAi, yL_uAi, yFi_uAi, yFj_uAi, yFr_uAi, yAj_uAi, yAd_uAi, yAr_uAi, yAi_uAi, yK_uAj, yL_uAj, yFi_uAj, yFj_uAj, yFr_uAj, yAi_uAj, yAd_uAj, yAr_uAj, yAj_uAj, yK_uAd, yL_uAd, yFi_uAd, yFj_uAd, yFr_uAd, yAi_uAd, yAj_uAd, yAr_uAd, yAd_uAd, yK_uAr, yL_uAr, yFi_uAr, yFj_uAr, yFr_uAr, yAi_uAr, yAj_uAr, yAd_uAr, yAr_uAr, yK_uCi, yL_uCi, yFi_uCi, yFj_uCi, yFr_uCi, yAj_uCi, yAd_uCi, yAr_uCi, yK_uCj, yL_uCj, yFi_uCj, yFj_uCj, yFr_uCj, yAi_uCj, yAd_uCj, yAr_uCj, yK_uCx, yL_uCx, yFi_uCx, yFj_uCx, yFr_uCx, yAi_uCx, yAd_uCx, yAr_uCx, yK_nO, yL_nO, yFi_nO, yFj_nO, yFr_nO, yAi_nO, yAj_nO, yAd_nO, yAr_nO, yK_nA, yL_nA, yFi_nA, yFj_nA, yFr_nA, yAi_nA, yAj_nA, yAd_nA, yAr_nA, yK_nC, yL_nC, yFi_nC, yFj_nC, yFr_nC, yAi_nC, yAj_nC, yAd_nC, yAr_nC, yu2, yAi_uCi', yAj_uCj', yAj_uCx']; exact z4 g
  exact hQ o _ S7 ⟨hv, S7.2.2.2.trans kv, by decide, fun q hq => absurd hq List.not_mem_nil, by simp, z7⟩
def MAC (o : Ow) (τ : St) (i x : Nat) : Prop := o x = some (13, i, 0) ∧ zK τ x = 13 ∧ ∃ t, zFr τ 772 x = some t ∧ Obj o τ (16, i, 0) 16 lX15 t
theorem lX15_n {a : Nat} (h : a ≠ 963 ∧ a ≠ 964) : ∀ q ∈ lX15, q.1 ≠ a := by
  intro q hq
  simp only [lX15, List.mem_cons, List.not_mem_nil, or_false] at hq
  rcases hq with rfl | rfl
  · exact h.2.symm
  · exact h.1.symm
theorem lX14_n {a : Nat} (h : a < 898 ∨ 903 < a) : ∀ q ∈ lX14, q.1 ≠ a := by
  intro q hq
  simp only [lX14, List.mem_cons, List.not_mem_nil, or_false] at hq
  rcases hq with rfl | rfl | rfl | rfl | rfl | rfl <;> (show _ ≠ a; omega)
theorem MAC.keep {o o' : Ow} {τ τ' : St} {i x v : Nat} (h : MAC o τ i x) (S : Sp v o τ o' τ') {nv : Nat × Nat × Nat} (hv : o v = some nv) (hn : nv.1 = 17 ∨ nv.1 = 1026 ∨ nv.1 = 1049 ∨ nv.1 = 1052) : MAC o' τ' i x := by
  obtain ⟨h1, h2, t, h3, h4⟩ := h
  have x0 : zK τ x ≠ 0 := by rw [h2]; decide
  have xv : x ≠ v := fun z => by rw [z, hv] at h1; have := Option.some.inj h1; rw [this] at hn; exact absurd (show (13 : Nat) = 17 ∨ (13 : Nat) = 1026 ∨ (13 : Nat) = 1049 ∨ (13 : Nat) = 1052 from hn) (by decide)
  have sx := S.1 x xv x0
  exact ⟨(S.2.1 x x0).trans h1, sx.1.trans h2, t, (sx.2.2.1 _).trans h3, h4.keep S hv (fun z => by rw [z] at hn; exact absurd (show (16 : Nat) = 17 ∨ (16 : Nat) = 1026 ∨ (16 : Nat) = 1049 ∨ (16 : Nat) = 1052 from hn) (by decide)) (lX15_n (by omega))⟩
theorem I_12 {σ : St} {o : Ow} {v i : Nat} (h0 : okO o σ) (hv : o v = some (13, i, 0)) (kv : zK σ v = 13) (hz : ∀ g, zFi σ g v = 0) {Q : St → Prop} (hQ : ∀ o' τ, Sp v o σ o' τ → MAC o' τ i v → Q τ) : wX12_init 3 27 v σ Q := by
  have kz : zK σ v ≠ 0 := by rw [kv]; decide
  refine ⟨by decide, by decide, fun b hb => ⟨2, 22, by decide, by decide, ?_⟩⟩
  have Sb := Sp.new h0 kz hb (by decide : (16 : Nat) ≠ 0) (16, i, 0)
  refine I_15 Sb.2.2.1 (if_pos rfl) (by rw [yK_nO, if_pos rfl]) (fun g => by rw [yFi_nO, if_pos rfl]) (fun o3 τ3 T ob => ?_)
  obtain ⟨S, ov, P, pr, zi, E, sf⟩ := subT h0 kz hb (by decide) T (g := 772) rfl
  have ob := ob.keep sf (ov.trans hv) (by simp) (lX15_n (a := 13) (by decide))
  exact ⟨by rw [← E]; exact S.2.2.2.trans kv, by decide, by decide, hQ o3 _ S ⟨ov.trans hv, S.2.2.2.trans kv, b, P, ob⟩⟩
def lM : List (Nat × Nat × Nat) := [(1031, 20, 10), (1032, 20, 60), (1033, 20, 240), (1034, 20, 60), (1035, 20, 60), (1036, 20, 60), (1037, 22, 60), (1038, 23, 60), (1039, 20, 40), (1040, 20, 40), (1041, 20, 40), (1042, 20, 40), (1043, 20, 40), (1044, 20, 40), (1045, 20, 40), (1046, 20, 40), (1047, 23, 40), (1053, 21, 8208), (1055, 20, 6), (1056, 20, 32), (1058, 23, 40), (1059, 23, 32), (1060, 20, 16), (1061, 20, 16), (1063, 20, 16)]
def RWs (o : Ow) (τ : St) (v : Nat) : Prop := ∀ q ∈ lM, ∃ b, AFb o τ v 0 0 q.1 q.2.1 q.2.2 b
theorem RWs.keep {o o' : Ow} {τ τ' : St} {v x : Nat} (h : RWs o τ v) (S : Sp x o τ o' τ') {nx : Nat × Nat × Nat} (hx : o x = some nx) (hn : nx.1 = 17 ∨ nx.1 = 1026 ∨ nx.1 = 1049 ∨ nx.1 = 1052) (e : ∀ g, zFr τ' g v = zFr τ g v) : RWs o' τ' v := by
  have hl : ∀ q ∈ lM, q.2.1 ≠ 0 ∧ q.1 ≠ 17 ∧ q.1 ≠ 1026 ∧ q.1 ≠ 1049 ∧ q.1 ≠ 1052 := by decide
  intro q hq
  obtain ⟨b, hb⟩ := h q hq
  obtain ⟨l1, l2, l3, l4, l5⟩ := hl q hq
  exact ⟨b, hb.keep2 S l1 hx (by omega) (e _)⟩
/-- what is made of the reference but for its three rows of objects -/
def MR0 (o : Ow) (τ : St) (v w1 w2 w3 : Nat) : Prop := o v = some (17, 0, 0) ∧ zK τ v = 17 ∧ (∀ g, zFi τ g v = 0) ∧ RWs o τ v ∧ (∃ m, zFr τ 1048 v = some m ∧ Obj o τ (14, 0, 0) 14 [] m) ∧ (∃ t, zFr τ 1050 v = some t ∧ Obj o τ (15, 40, 0) 15 lX14 t) ∧ (∃ t, zFr τ 1051 v = some t ∧ Obj o τ (15, 41, 0) 15 lX14 t) ∧ (zFr τ 1026 v = some w1 ∧ o w1 = some (1026, 0, 0) ∧ zK τ w1 = 29 ∧ zL τ w1 = 100) ∧ (zFr τ 1049 v = some w2 ∧ o w2 = some (1049, 0, 0) ∧ zK τ w2 = 30 ∧ zL τ w2 = 40) ∧ (zFr τ 1052 v = some w3 ∧ o w3 = some (1052, 0, 0) ∧ zK τ w3 = 31 ∧ zL τ w3 = 20)
theorem MR0.keepv {o o' : Ow} {τ τ' : St} {v w1 w2 w3 : Nat} (h : MR0 o τ v w1 w2 w3) (S : Sp v o τ o' τ') (e : ∀ g, zFr τ' g v = zFr τ g v) (z : ∀ g, zFi τ' g v = zFi τ g v) : MR0 o' τ' v w1 w2 w3 := by
  obtain ⟨h1, h2, h3, h4, ⟨m, m1, m2⟩, ⟨t, t1, t2⟩, ⟨u, u1, u2⟩, ⟨a1, a2, a3, a4⟩, ⟨b1, b2, b3, b4⟩, ⟨c1, c2, c3, c4⟩⟩ := h
  have v0 : zK τ v ≠ 0 := by rw [h2]; decide
  have ne : ∀ {x : Nat} {nm : Nat × Nat × Nat}, o x = some nm → (17, 0, 0) ≠ nm → x ≠ v := fun e n z => by rw [z, h1] at e; exact n (Option.some.inj e)
  have sa := S.1 w1 (ne a2 (by decide)) (by rw [a3]; decide)
  have sb := S.1 w2 (ne b2 (by decide)) (by rw [b3]; decide)
  have sc := S.1 w3 (ne c2 (by decide)) (by rw [c3]; decide)
  exact ⟨(S.2.1 v v0).trans h1, S.2.2.2.trans h2, fun g => (z g).trans (h3 g), h4.keep S h1 (Or.inl rfl) e, ⟨m, (e _).trans m1, m2.keep S h1 (by decide) (by decide)⟩, ⟨t, (e _).trans t1, t2.keep S h1 (by decide) (by decide)⟩, ⟨u, (e _).trans u1, u2.keep S h1 (by decide) (by decide)⟩, ⟨(e _).trans a1, (S.2.1 w1 (by rw [a3]; decide)).trans a2, sa.1.trans a3, sa.2.1.trans a4⟩, ⟨(e _).trans b1, (S.2.1 w2 (by rw [b3]; decide)).trans b2, sb.1.trans b3, sb.2.1.trans b4⟩, ⟨(e _).trans c1, (S.2.1 w3 (by rw [c3]; decide)).trans c2, sc.1.trans c3, sc.2.1.trans c4⟩⟩
theorem MR0.keepw {o : Ow} {τ : St} {v w1 w2 w3 w : Nat} (h : MR0 o τ v w1 w2 w3) (ok : okO o τ) {nx : Nat × Nat × Nat} (hw : o w = some nx) (hn : nx.1 = 1026 ∨ nx.1 = 1049 ∨ nx.1 = 1052) (i : Nat) (y : Option Nat) : MR0 o (uAr τ w i y) v w1 w2 w3 := by
  obtain ⟨h1, h2, h3, h4, ⟨m, m1, m2⟩, ⟨t, t1, t2⟩, ⟨u, u1, u2⟩, a, b, c⟩ := h
  have S := Sp.own ok (r := w) i y
  have N : ∀ {nm : Nat × Nat × Nat}, nm.1 ≠ 1026 ∧ nm.1 ≠ 1049 ∧ nm.1 ≠ 1052 → nx ≠ nm := fun h e => by rw [e] at hn; omega
  exact ⟨h1, h2, h3, h4.keep S hw (by omega) (fun _ => rfl), ⟨m, m1, m2.keep S hw (N (by decide)) (by simp)⟩, ⟨t, t1, t2.keep S hw (N (by decide)) (lX14_n (by omega))⟩, ⟨u, u1, u2.keep S hw (N (by decide)) (lX14_n (by omega))⟩, a, b, c⟩
def MRT (o : Ow) (τ : St) (v : Nat) : Prop := ∃ w1 w2 w3, MR0 o τ v w1 w2 w3 ∧ (∃ ys : Nat → Nat, ∀ j, j < 100 → zAr τ w1 j = some (ys j) ∧ MAC o τ j (ys j)) ∧ (∃ ys : Nat → Nat, ∀ j, j < 40 → zAr τ w2 j = some (ys j) ∧ Obj o τ (15, j, 0) 15 lX14 (ys j)) ∧ ∃ ys : Nat → Nat, ∀ j, j < 20 → zAr τ w3 j = some (ys j) ∧ Obj o τ (16, 100 + j, 0) 16 lX15 (ys j)
set_option maxHeartbeats 1000000 in
theorem I_16t {σ : St} {o : Ow} {v : Nat} (kv : zK σ v = 17) {Q : St → Prop} {w1 w2 w3 : Nat} (hw : zK σ w3 = 0) (hQ : ∀ (k n : Nat) (p : Ow) (τ : St), k ≤ 900 + 4 * (20) → n ≤ 60000 + 30 * (20) → Sp v o σ p τ → MR0 p τ v w1 w2 w3 → (∃ ys : Nat → Nat, ∀ j, j < 100 → zAr τ w1 j = some (ys j) ∧ MAC p τ j (ys j)) → (∃ ys : Nat → Nat, ∀ j, j < 40 → zAr τ w2 j = some (ys j) ∧ Obj p τ (15, j, 0) 15 lX14 (ys j)) → (∃ ys : Nat → Nat, ∀ j, j < 20 → zAr τ w3 j = some (ys j) ∧ Obj p τ (16, 100 + j, 0) 16 lX15 (ys j)) → k ≤ 3000 ∧ n ≤ 100000 ∧ Q τ) :
    ∀ (d i k n : Nat) (p : Ow) (τ : St), i + d = 20 → k ≤ 900 + 4 * (i) → n ≤ 60000 + 30 * (i) → Sp v o σ p τ → MR0 p τ v w1 w2 w3 → (∃ ys : Nat → Nat, ∀ j, j < 100 → zAr τ w1 j = some (ys j) ∧ MAC p τ j (ys j)) → (∃ ys : Nat → Nat, ∀ j, j < 40 → zAr τ w2 j = some (ys j) ∧ Obj p τ (15, j, 0) 15 lX14 (ys j)) → (∃ ys : Nat → Nat, ∀ j, j < i → zAr τ w3 j = some (ys j) ∧ Obj p τ (16, 100 + j, 0) 16 lX15 (ys j)) → lX16_init_322 3000 100000 Q (d + 1) k n v (nI i) τ := by
  intro d
  induction d with
  | zero =>
    intro i k n p τ hi hk hn S M gp0 gp1 g
    have hi : i = 20 := by omega
    subst hi
    exact ⟨fun _ => hQ k n p τ hk hn S M gp0 gp1 g, fun c => absurd (nI_le (b := 20) (Nat.le_refl _) (by decide)) c⟩
  | succ d ih =>
    intro i k n p τ hi hk hn S M gp0 gp1 g
    obtain ⟨ys, hys⟩ := g
    have kvτ : zK τ v = 17 := M.2.1
    have kz : zK τ v ≠ 0 := by rw [kvτ]; decide
    have W := M.2.2.2.2.2.2.2.2.2
    refine pk_le 20 i (fun c => absurd c (by omega)) (fun c => ⟨kvτ, w3, W.1, by omega, by omega, fun b hb => ⟨2, 22, by omega, by omega, ?_⟩⟩)
    have hvb : v ≠ b := fun z => kz (by rw [z]; exact hb)
    have Sb := Sp.new S.2.2.1 kz hb (by decide : (16 : Nat) ≠ 0) (16, 100 + i, 0)
    refine I_15 (s := 100 + i) Sb.2.2.1 (if_pos rfl) (by rw [yK_nO, if_pos rfl]) (fun g => by rw [yFi_nO, if_pos rfl]) (fun p3 τ3 T3 ob => ?_)
    have Sv := Sb.sub hb hvb kz T3
    have svv := T3.1 v hvb (by rw [yK_nO, if_neg hvb]; exact kz)
    have ev : ∀ g, zFr τ3 g v = zFr τ g v := fun g => by rw [svv.2.2.1 g, yFr_nO, if_neg hvb]
    have zv : ∀ g, zFi τ3 g v = zFi τ g v := fun g => by rw [svv.2.2.2.1 g, yFi_nO, if_neg hvb]
    have M3 := M.keepv Sv ev zv
    have W3 := M3.2.2.2.2.2.2.2.2.2
    have wv : w3 ≠ v := fun z => by have := W.2.1; rw [z, M.1] at this; exact absurd this (by decide)
    have So := Sp.own Sv.2.2.1 (r := w3) i (some b)
    refine ⟨W3.2.2.1, by rw [W3.2.2.2]; exact vp_in_nI (by omega) (by decide), ob.2.1, ?_⟩
    rw [nI_1, show ix (nI i) = i from nI_clamp (by omega)]
    have gp0 : ∃ ys : Nat → Nat, ∀ j, j < 100 → zAr (uAr τ3 w3 i (some b)) w1 j = some (ys j) ∧ MAC p3 (uAr τ3 w3 i (some b)) j (ys j) := by
      obtain ⟨zs, hzs⟩ := gp0
      refine ⟨zs, fun j hj => ⟨?_, ?_⟩⟩
      · have q0 := M.2.2.2.2.2.2.2.1
        have nw : w1 ≠ w3 := fun z => by have := q0.2.1; rw [z, W.2.1] at this; exact absurd this (by decide)
        have qv : w1 ≠ v := fun z => by have := q0.2.1; rw [z, M.1] at this; exact absurd this (by decide)
        rw [(sX_uAr τ3 w3 i (some b) nw).2.2.2.2.2.2.2.2 j, (Sv.1 w1 qv (by rw [q0.2.2.1]; decide)).2.2.2.2.2.2.2.2 j]
        exact (hzs j hj).1
      · exact ((hzs j hj).2.keep Sv M.1 (by decide)).keep So W3.2.1 (by decide)
    have gp1 : ∃ ys : Nat → Nat, ∀ j, j < 40 → zAr (uAr τ3 w3 i (some b)) w2 j = some (ys j) ∧ Obj p3 (uAr τ3 w3 i (some b)) (15, j, 0) 15 lX14 (ys j) := by
      obtain ⟨zs, hzs⟩ := gp1
      refine ⟨zs, fun j hj => ⟨?_, ?_⟩⟩
      · have q0 := M.2.2.2.2.2.2.2.2.1
        have nw : w2 ≠ w3 := fun z => by have := q0.2.1; rw [z, W.2.1] at this; exact absurd this (by decide)
        have qv : w2 ≠ v := fun z => by have := q0.2.1; rw [z, M.1] at this; exact absurd this (by decide)
        rw [(sX_uAr τ3 w3 i (some b) nw).2.2.2.2.2.2.2.2 j, (Sv.1 w2 qv (by rw [q0.2.2.1]; decide)).2.2.2.2.2.2.2.2 j]
        exact (hzs j hj).1
      · exact ((hzs j hj).2.keep Sv M.1 (by simp) (lX14_n (by decide))).keep So W3.2.1 (by simp) (lX14_n (by decide))
    refine ih (i + 1) _ _ p3 _ (by omega) (by omega) (by omega) (((S.tr Sb).sub (S.fresh hb) hvb (by rw [kv]; decide) T3).arr hw i (some b)) (M3.keepw Sv.2.2.1 W3.2.1 (by decide) i (some b)) gp0 gp1 ⟨fun j => if j = i then b else ys j, fun j hj => ?_⟩
    have ear : zAr (uAr τ3 w3 i (some b)) w3 j = if j = i then some b else zAr τ3 w3 j := by simp only [yK_uFi, yL_uFi, yFj_uFi, yFr_uFi, yAi_uFi, yAj_uFi, yAd_uFi, yAr_uFi, yFi_uFi, yK_uFj, yL_uFj, yFi_uFj, yFr_uFj, yAi_uFj, yAj_uFj, yAd_uFj, yAr_uFj, yFj_uFj, yK_uFr, yL_uFr, yFi_uFr, yFj_uFr, yAi_uFr, yAj_uFr, yAd_uFr, yAr_uFr, yFr_uFr, yK_uAi, yL_uAi, yFi_uAi, yFj_uAi, yFr_uAi, yAj_uAi, yAd_uAi, yAr_uAi, yAi_uAi, yK_uAj, yL_uAj, yFi_uAj, yFj_uAj, yFr_uAj, yAi_uAj, yAd_uAj, yAr_uAj, yAj_uAj, yK_uAd, yL_uAd, yFi_uAd, yFj_uAd, yFr_uAd, yAi_uAd, yAj_uAd, yAr_uAd, yAd_uAd, yK_uAr, yL_uAr, yFi_uAr, yFj_uAr, yFr_uAr, yAi_uAr, yAj_uAr, yAd_uAr, yAr_uAr, yK_uCi, yL_uCi, yFi_uCi, yFj_uCi, yFr_uCi, yAj_uCi, yAd_uCi, yAr_uCi, yK_uCj, yL_uCj, yFi_uCj, yFj_uCj, yFr_uCj, yAi_uCj, yAd_uCj, yAr_uCj, yK_uCx, yL_uCx, yFi_uCx, yFj_uCx, yFr_uCx, yAi_uCx, yAd_uCx, yAr_uCx, yK_nO, yL_nO, yFi_nO, yFj_nO, yFr_nO, yAi_nO, yAj_nO, yAd_nO, yAr_nO, yK_nA, yL_nA, yFi_nA, yFj_nA, yFr_nA, yAi_nA, yAj_nA, yAd_nA, yAr_nA, yK_nC, yL_nC, yFi_nC, yFj_nC, yFr_nC, yAi_nC, yAj_nC, yAd_nC, yAr_nC, yu2, yAi_uCi', yAj_uCj', yAj_uCx', Option.some.injEq, exists_eq_left', true_and, and_true, not_false_eq_true, forall_const, false_and, and_false, reduceIte, Nat.reduceEqDiff, ne_eq]
    show zAr (uAr τ3 w3 i (some b)) w3 j = some (if j = i then b else ys j) ∧ Obj p3 (uAr τ3 w3 i (some b)) (16, 100 + j, 0) 16 lX15 (if j = i then b else ys j)
    by_cases c : j = i
    · rw [ear, if_pos c, if_pos c, c]
      exact ⟨rfl, ob.keep So W3.2.1 (by simp) (lX15_n (by decide))⟩
    · rw [ear, if_neg c, if_neg c, (Sv.1 w3 wv (by rw [W.2.2.1]; decide)).2.2.2.2.2.2.2.2 j]
      exact ⟨(hys j (by omega)).1, ((hys j (by omega)).2.keep Sv M.1 (by simp) (lX15_n (by decide))).keep So W3.2.1 (by simp) (lX15_n (by decide))⟩
set_option maxHeartbeats 1000000 in
theorem I_16s {σ : St} {o : Ow} {v : Nat} (kv : zK σ v = 17) {Q : St → Prop} {w1 w2 w3 : Nat} (hw : zK σ w2 = 0) (hQ : ∀ (k n : Nat) (p : Ow) (τ : St), k ≤ 600 + 7 * (40) → n ≤ 20000 + 900 * (40) → Sp v o σ p τ → MR0 p τ v w1 w2 w3 → (∃ ys : Nat → Nat, ∀ j, j < 100 → zAr τ w1 j = some (ys j) ∧ MAC p τ j (ys j)) → (∃ ys : Nat → Nat, ∀ j, j < 40 → zAr τ w2 j = some (ys j) ∧ Obj p τ (15, j, 0) 15 lX14 (ys j)) → ∃ f, lX16_init_322 3000 100000 Q f k n v 0 τ) :
    ∀ (d i k n : Nat) (p : Ow) (τ : St), i + d = 40 → k ≤ 600 + 7 * (i) → n ≤ 20000 + 900 * (i) → Sp v o σ p τ → MR0 p τ v w1 w2 w3 → (∃ ys : Nat → Nat, ∀ j, j < 100 → zAr τ w1 j = some (ys j) ∧ MAC p τ j (ys j)) → (∃ ys : Nat → Nat, ∀ j, j < i → zAr τ w2 j = some (ys j) ∧ Obj p τ (15, j, 0) 15 lX14 (ys j)) → lX16_init_295 3000 100000 Q (d + 1) k n v (nI i) τ := by
  intro d
  induction d with
  | zero =>
    intro i k n p τ hi hk hn S M gp0 g
    have hi : i = 40 := by omega
    subst hi
    exact ⟨fun _ => hQ k n p τ hk hn S M gp0 g, fun c => absurd (nI_le (b := 40) (Nat.le_refl _) (by decide)) c⟩
  | succ d ih =>
    intro i k n p τ hi hk hn S M gp0 g
    obtain ⟨ys, hys⟩ := g
    have kvτ : zK τ v = 17 := M.2.1
    have kz : zK τ v ≠ 0 := by rw [kvτ]; decide
    have W := M.2.2.2.2.2.2.2.2.1
    refine pk_le 40 i (fun c => absurd c (by omega)) (fun c => ⟨kvτ, w2, W.1, by omega, by omega, fun b hb => ⟨6, 832, by omega, by omega, ?_⟩⟩)
    have hvb : v ≠ b := fun z => kz (by rw [z]; exact hb)
    have Sb := Sp.new S.2.2.1 kz hb (by decide : (15 : Nat) ≠ 0) (15, i, 0)
    refine I_14 (s := i) Sb.2.2.1 (if_pos rfl) (by rw [yK_nO, if_pos rfl]) (fun g => by rw [yFi_nO, if_pos rfl]) (fun p3 τ3 T3 ob => ?_)
    have Sv := Sb.sub hb hvb kz T3
    have svv := T3.1 v hvb (by rw [yK_nO, if_neg hvb]; exact kz)
    have ev : ∀ g, zFr τ3 g v = zFr τ g v := fun g => by rw [svv.2.2.1 g, yFr_nO, if_neg hvb]
    have zv : ∀ g, zFi τ3 g v = zFi τ g v := fun g => by rw [svv.2.2.2.1 g, yFi_nO, if_neg hvb]
    have M3 := M.keepv Sv ev zv
    have W3 := M3.2.2.2.2.2.2.2.2.1
    have wv : w2 ≠ v := fun z => by have := W.2.1; rw [z, M.1] at this; exact absurd this (by decide)
    have So := Sp.own Sv.2.2.1 (r := w2) i (some b)
    refine ⟨W3.2.2.1, by rw [W3.2.2.2]; exact vp_in_nI (by omega) (by decide), ob.2.1, ?_⟩
    rw [nI_1, show ix (nI i) = i from nI_clamp (by omega)]
    have gp0 : ∃ ys : Nat → Nat, ∀ j, j < 100 → zAr (uAr τ3 w2 i (some b)) w1 j = some (ys j) ∧ MAC p3 (uAr τ3 w2 i (some b)) j (ys j) := by
      obtain ⟨zs, hzs⟩ := gp0
      refine ⟨zs, fun j hj => ⟨?_, ?_⟩⟩
      · have q0 := M.2.2.2.2.2.2.2.1
        have nw : w1 ≠ w2 := fun z => by have := q0.2.1; rw [z, W.2.1] at this; exact absurd this (by decide)
        have qv : w1 ≠ v := fun z => by have := q0.2.1; rw [z, M.1] at this; exact absurd this (by decide)
        rw [(sX_uAr τ3 w2 i (some b) nw).2.2.2.2.2.2.2.2 j, (Sv.1 w1 qv (by rw [q0.2.2.1]; decide)).2.2.2.2.2.2.2.2 j]
        exact (hzs j hj).1
      · exact ((hzs j hj).2.keep Sv M.1 (by decide)).keep So W3.2.1 (by decide)
    refine ih (i + 1) _ _ p3 _ (by omega) (by omega) (by omega) (((S.tr Sb).sub (S.fresh hb) hvb (by rw [kv]; decide) T3).arr hw i (some b)) (M3.keepw Sv.2.2.1 W3.2.1 (by decide) i (some b)) gp0 ⟨fun j => if j = i then b else ys j, fun j hj => ?_⟩
    have ear : zAr (uAr τ3 w2 i (some b)) w2 j = if j = i then some b else zAr τ3 w2 j := by simp only [yK_uFi, yL_uFi, yFj_uFi, yFr_uFi, yAi_uFi, yAj_uFi, yAd_uFi, yAr_uFi, yFi_uFi, yK_uFj, yL_uFj, yFi_uFj, yFr_uFj, yAi_uFj, yAj_uFj, yAd_uFj, yAr_uFj, yFj_uFj, yK_uFr, yL_uFr, yFi_uFr, yFj_uFr, yAi_uFr, yAj_uFr, yAd_uFr, yAr_uFr, yFr_uFr, yK_uAi, yL_uAi, yFi_uAi, yFj_uAi, yFr_uAi, yAj_uAi, yAd_uAi, yAr_uAi, yAi_uAi, yK_uAj, yL_uAj, yFi_uAj, yFj_uAj, yFr_uAj, yAi_uAj, yAd_uAj, yAr_uAj, yAj_uAj, yK_uAd, yL_uAd, yFi_uAd, yFj_uAd, yFr_uAd, yAi_uAd, yAj_uAd, yAr_uAd, yAd_uAd, yK_uAr, yL_uAr, yFi_uAr, yFj_uAr, yFr_uAr, yAi_uAr, yAj_uAr, yAd_uAr, yAr_uAr, yK_uCi, yL_uCi, yFi_uCi, yFj_uCi, yFr_uCi, yAj_uCi, yAd_uCi, yAr_uCi, yK_uCj, yL_uCj, yFi_uCj, yFj_uCj, yFr_uCj, yAi_uCj, yAd_uCj, yAr_uCj, yK_uCx, yL_uCx, yFi_uCx, yFj_uCx, yFr_uCx, yAi_uCx, yAd_uCx, yAr_uCx, yK_nO, yL_nO, yFi_nO, yFj_nO, yFr_nO, yAi_nO, yAj_nO, yAd_nO, yAr_nO, yK_nA, yL_nA, yFi_nA, yFj_nA, yFr_nA, yAi_nA, yAj_nA, yAd_nA, yAr_nA, yK_nC, yL_nC, yFi_nC, yFj_nC, yFr_nC, yAi_nC, yAj_nC, yAd_nC, yAr_nC, yu2, yAi_uCi', yAj_uCj', yAj_uCx', Option.some.injEq, exists_eq_left', true_and, and_true, not_false_eq_true, forall_const, false_and, and_false, reduceIte, Nat.reduceEqDiff, ne_eq]
    show zAr (uAr τ3 w2 i (some b)) w2 j = some (if j = i then b else ys j) ∧ Obj p3 (uAr τ3 w2 i (some b)) (15, j, 0) 15 lX14 (if j = i then b else ys j)
    by_cases c : j = i
    · rw [ear, if_pos c, if_pos c, c]
      exact ⟨rfl, ob.keep So W3.2.1 (by simp) (lX14_n (by decide))⟩
    · rw [ear, if_neg c, if_neg c, (Sv.1 w2 wv (by rw [W.2.2.1]; decide)).2.2.2.2.2.2.2.2 j]
      exact ⟨(hys j (by omega)).1, ((hys j (by omega)).2.keep Sv M.1 (by simp) (lX14_n (by decide))).keep So W3.2.1 (by simp) (lX14_n (by decide))⟩
set_option maxHeartbeats 1000000 in
theorem I_16a {σ : St} {o : Ow} {v : Nat} (kv : zK σ v = 17) {Q : St → Prop} {w1 w2 w3 : Nat} (hw : zK σ w1 = 0) (hQ : ∀ (k n : Nat) (p : Ow) (τ : St), k ≤ 100 + 4 * (100) → n ≤ 12000 + 40 * (100) → Sp v o σ p τ → MR0 p τ v w1 w2 w3 → (∃ ys : Nat → Nat, ∀ j, j < 100 → zAr τ w1 j = some (ys j) ∧ MAC p τ j (ys j)) → ∃ f, lX16_init_295 3000 100000 Q f k n v 0 τ) :
    ∀ (d i k n : Nat) (p : Ow) (τ : St), i + d = 100 → k ≤ 100 + 4 * (i) → n ≤ 12000 + 40 * (i) → Sp v o σ p τ → MR0 p τ v w1 w2 w3 → (∃ ys : Nat → Nat, ∀ j, j < i → zAr τ w1 j = some (ys j) ∧ MAC p τ j (ys j)) → lX16_init_268 3000 100000 Q (d + 1) k n v (nI i) τ := by
  intro d
  induction d with
  | zero =>
    intro i k n p τ hi hk hn S M  g
    have hi : i = 100 := by omega
    subst hi
    exact ⟨fun _ => hQ k n p τ hk hn S M  g, fun c => absurd (nI_le (b := 100) (Nat.le_refl _) (by decide)) c⟩
  | succ d ih =>
    intro i k n p τ hi hk hn S M  g
    obtain ⟨ys, hys⟩ := g
    have kvτ : zK τ v = 17 := M.2.1
    have kz : zK τ v ≠ 0 := by rw [kvτ]; decide
    have W := M.2.2.2.2.2.2.2.1
    refine pk_le 100 i (fun c => absurd c (by omega)) (fun c => ⟨kvτ, w1, W.1, by omega, by omega, fun b hb => ⟨3, 27, by omega, by omega, ?_⟩⟩)
    have hvb : v ≠ b := fun z => kz (by rw [z]; exact hb)
    have Sb := Sp.new S.2.2.1 kz hb (by decide : (13 : Nat) ≠ 0) (13, i, 0)
    refine I_12 (i := i) Sb.2.2.1 (if_pos rfl) (by rw [yK_nO, if_pos rfl]) (fun g => by rw [yFi_nO, if_pos rfl]) (fun p3 τ3 T3 ob => ?_)
    have Sv := Sb.sub hb hvb kz T3
    have svv := T3.1 v hvb (by rw [yK_nO, if_neg hvb]; exact kz)
    have ev : ∀ g, zFr τ3 g v = zFr τ g v := fun g => by rw [svv.2.2.1 g, yFr_nO, if_neg hvb]
    have zv : ∀ g, zFi τ3 g v = zFi τ g v := fun g => by rw [svv.2.2.2.1 g, yFi_nO, if_neg hvb]
    have M3 := M.keepv Sv ev zv
    have W3 := M3.2.2.2.2.2.2.2.1
    have wv : w1 ≠ v := fun z => by have := W.2.1; rw [z, M.1] at this; exact absurd this (by decide)
    have So := Sp.own Sv.2.2.1 (r := w1) i (some b)
    refine ⟨W3.2.2.1, by rw [W3.2.2.2]; exact vp_in_nI (by omega) (by decide), ob.2.1, ?_⟩
    rw [nI_1, show ix (nI i) = i from nI_clamp (by omega)]
    refine ih (i + 1) _ _ p3 _ (by omega) (by omega) (by omega) (((S.tr Sb).sub (S.fresh hb) hvb (by rw [kv]; decide) T3).arr hw i (some b)) (M3.keepw Sv.2.2.1 W3.2.1 (by decide) i (some b))  ⟨fun j => if j = i then b else ys j, fun j hj => ?_⟩
    have ear : zAr (uAr τ3 w1 i (some b)) w1 j = if j = i then some b else zAr τ3 w1 j := by simp only [yK_uFi, yL_uFi, yFj_uFi, yFr_uFi, yAi_uFi, yAj_uFi, yAd_uFi, yAr_uFi, yFi_uFi, yK_uFj, yL_uFj, yFi_uFj, yFr_uFj, yAi_uFj, yAj_uFj, yAd_uFj, yAr_uFj, yFj_uFj, yK_uFr, yL_uFr, yFi_uFr, yFj_uFr, yAi_uFr, yAj_uFr, yAd_uFr, yAr_uFr, yFr_uFr, yK_uAi, yL_uAi, yFi_uAi, yFj_uAi, yFr_uAi, yAj_uAi, yAd_uAi, yAr_uAi, yAi_uAi, yK_uAj, yL_uAj, yFi_uAj, yFj_uAj, yFr_uAj, yAi_uAj, yAd_uAj, yAr_uAj, yAj_uAj, yK_uAd, yL_uAd, yFi_uAd, yFj_uAd, yFr_uAd, yAi_uAd, yAj_uAd, yAr_uAd, yAd_uAd, yK_uAr, yL_uAr, yFi_uAr, yFj_uAr, yFr_uAr, yAi_uAr, yAj_uAr, yAd_uAr, yAr_uAr, yK_uCi, yL_uCi, yFi_uCi, yFj_uCi, yFr_uCi, yAj_uCi, yAd_uCi, yAr_uCi, yK_uCj, yL_uCj, yFi_uCj, yFj_uCj, yFr_uCj, yAi_uCj, yAd_uCj, yAr_uCj, yK_uCx, yL_uCx, yFi_uCx, yFj_uCx, yFr_uCx, yAi_uCx, yAd_uCx, yAr_uCx, yK_nO, yL_nO, yFi_nO, yFj_nO, yFr_nO, yAi_nO, yAj_nO, yAd_nO, yAr_nO, yK_nA, yL_nA, yFi_nA, yFj_nA, yFr_nA, yAi_nA, yAj_nA, yAd_nA, yAr_nA, yK_nC, yL_nC, yFi_nC, yFj_nC, yFr_nC, yAi_nC, yAj_nC, yAd_nC, yAr_nC, yu2, yAi_uCi', yAj_uCj', yAj_uCx', Option.some.injEq, exists_eq_left', true_and, and_true, not_false_eq_true, forall_const, false_and, and_false, reduceIte, Nat.reduceEqDiff, ne_eq]
    show zAr (uAr τ3 w1 i (some b)) w1 j = some (if j = i then b else ys j) ∧ MAC p3 (uAr τ3 w1 i (some b)) j (if j = i then b else ys j)
    by_cases c : j = i
    · rw [ear, if_pos c, if_pos c, c]
      exact ⟨rfl, ob.keep So W3.2.1 (by decide)⟩
    · rw [ear, if_neg c, if_neg c, (Sv.1 w1 wv (by rw [W.2.2.1]; decide)).2.2.2.2.2.2.2.2 j]
      exact ⟨(hys j (by omega)).1, ((hys j (by omega)).2.keep Sv M.1 (by decide)).keep So W3.2.1 (by decide)⟩
