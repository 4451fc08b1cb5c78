/-! the names, from what the constructors made; the shape and the first value -/
def gR (x : Option Nat) : Nat := x.getD 0
theorem gR_some {x : Option Nat} {y : Nat} (h : x = some y) : gR x = y := by rw [h]; rfl
def d4 (τ : St) (v s : Nat) : Nat := if s < 40 then gR (zAr τ (gR (zFr τ 258 (gR (zFr τ 707 v)))) s) else if s = 40 then gR (zFr τ 260 (gR (zFr τ 707 v))) else if s = 41 then gR (zFr τ 261 (gR (zFr τ 707 v))) else gR (zFr τ 708 v)
def d3 (τ : St) (v s j : Nat) : Nat := gR (zAr τ (gR (zFr τ 192 (d4 τ v s))) j)
def d13 (τ : St) (u i : Nat) : Nat := gR (zAr τ (gR (zFr τ 1026 u)) i)
def d16 (τ : St) (u i : Nat) : Nat := if i < 100 then gR (zFr τ 772 (d13 τ u i)) else gR (zAr τ (gR (zFr τ 1052 u)) (i - 100))
def d15 (τ : St) (u s : Nat) : Nat := if s < 40 then gR (zAr τ (gR (zFr τ 1049 u)) s) else if s = 40 then gR (zFr τ 1050 u) else gR (zFr τ 1051 u)
def dob (τ : St) (v u c i j : Nat) : Nat := if c = 12 then v else if c = 17 then u else if c = 7 then gR (zFr τ 704 v) else if c = 5 then gR (zFr τ 707 v) else if c = 8 then gR (zFr τ 259 (gR (zFr τ 707 v))) else if c = 6 then gR (zFr τ 710 v) else if c = 9 then gR (zFr τ 711 v) else if c = 2 then gR (zFr τ 713 v) else if c = 14 then gR (zFr τ 1048 u) else if c = 4 then d4 τ v i else if c = 3 then d3 τ v i j else if c = 13 then d13 τ u i else if c = 16 then d16 τ u i else d15 τ u i
def wob (c : Nat) : Nat := if 1026 ≤ c then 17 else if 960 ≤ c then 16 else if 896 ≤ c then 15 else if 704 ≤ c then 12 else if 512 ≤ c then 9 else if 448 ≤ c then 8 else if 384 ≤ c then 7 else if 320 ≤ c then 6 else if 256 ≤ c then 5 else if 192 ≤ c then 4 else if 128 ≤ c then 3 else 2
def adD (τ : St) (v u : Nat) : Ad := fun c i j => if c < 20 then dob τ v u c i j else gR (zFr τ c (dob τ v u (wob c) i j))
def ctO (o : Ow) : Ct := fun x => match o x with | some (c, i, _) => (c, i) | none => (0, 0)
theorem ctO_some {o : Ow} {x c i j : Nat} (h : o x = some (c, i, j)) : ctO o x = (c, i) := by unfold ctO; rw [h]
theorem ctO_none {o : Ow} {x : Nat} (h : o x = none) : ctO o x = (0, 0) := by unfold ctO; rw [h]
theorem adD_row {τ : St} {v u g c i j : Nat} (h1 : ¬ g < 20) (h2 : wob g = c) (h3 : c < 20) : adD τ v u g i j = gR (zFr τ g (adD τ v u c i j)) := by
  show (if g < 20 then _ else _) = gR (zFr τ g (if c < 20 then _ else _))
  rw [if_neg h1, if_pos h3, h2]
theorem AF.at {o : Ow} {τ : St} {x i j g κ len a : Nat} (h : AF o τ x i j g κ len) (e : a = gR (zFr τ g x)) : (zFr τ g x = some a ∧ zK τ a = κ ∧ zL τ a = len ∧ ctO o a = (g, i)) ∧ (∀ k, zAr τ a k = none) ∧ o a = some (g, i, j) := by
  obtain ⟨b, b1, b2, b3, b4, b5⟩ := h
  have : a = b := e.trans (gR_some b1)
  rw [this]
  exact ⟨⟨b1, b3, b4, ctO_some b2⟩, b5, b2⟩
theorem AFb.af {o : Ow} {τ : St} {v i j g κ len b : Nat} (h : AFb o τ v i j g κ len b) : AF o τ v i j g κ len := ⟨b, h⟩
theorem ao12 (τ : St) (v u : Nat) : adD τ v u 12 0 0 = v := of_eq_true (eq_self _)
theorem ao17 (τ : St) (v u : Nat) : adD τ v u 17 0 0 = u := of_eq_true (eq_self _)
theorem ao7 (τ : St) (v u : Nat) : adD τ v u 7 0 0 = gR (zFr τ 704 v) := of_eq_true (eq_self _)
theorem ao5 (τ : St) (v u : Nat) : adD τ v u 5 0 0 = gR (zFr τ 707 v) := of_eq_true (eq_self _)
theorem ao8 (τ : St) (v u : Nat) : adD τ v u 8 0 0 = gR (zFr τ 259 (gR (zFr τ 707 v))) := of_eq_true (eq_self _)
theorem ao6 (τ : St) (v u : Nat) : adD τ v u 6 0 0 = gR (zFr τ 710 v) := of_eq_true (eq_self _)
theorem ao9 (τ : St) (v u : Nat) : adD τ v u 9 0 0 = gR (zFr τ 711 v) := of_eq_true (eq_self _)
theorem ao2 (τ : St) (v u : Nat) : adD τ v u 2 0 0 = gR (zFr τ 713 v) := of_eq_true (eq_self _)
theorem ao14 (τ : St) (v u : Nat) : adD τ v u 14 0 0 = gR (zFr τ 1048 u) := of_eq_true (eq_self _)
theorem ao4 (τ : St) (v u i : Nat) : adD τ v u 4 i 0 = d4 τ v i := of_eq_true (eq_self _)
theorem ao13 (τ : St) (v u i : Nat) : adD τ v u 13 i 0 = d13 τ u i := of_eq_true (eq_self _)
theorem ao16 (τ : St) (v u i : Nat) : adD τ v u 16 i 0 = d16 τ u i := of_eq_true (eq_self _)
theorem ao15 (τ : St) (v u i : Nat) : adD τ v u 15 i 0 = d15 τ u i := of_eq_true (eq_self _)
theorem ao3 (τ : St) (v u i j : Nat) : adD τ v u 3 i j = d3 τ v i j := of_eq_true (eq_self _)
def V0 : Vt := (([], [], [], fun _ => (0, [])), [], ([], 0, false), 0)
/-! what holds of the names -/
set_option maxRecDepth 8000 in
set_option maxHeartbeats 4000000 in
theorem start_all {o : Ow} {τ : St} {v u : Nat} (ok : okO o τ) (C : CRT o τ v) (M : MRT o τ u) : ∃ (ad : Ad) (ct : Ct), ad 12 0 0 = v ∧ ad 17 0 0 = u ∧ Sh ad ct τ ∧ RC ad ct τ V0 ∧ RM ad τ V0 := by
  obtain ⟨v1, v2, v3, f, q, k, y, c, h', a, ⟨f1, f2⟩, q1, ⟨k1, k2⟩, ⟨y1, y2⟩, ⟨c1, c2⟩, ⟨i1, i2⟩, ⟨s, s1⟩, ⟨a1, a2⟩⟩ := C
  obtain ⟨n1, n2, n3, n4, ⟨w, ys, w1, w2, w3, w4, w5⟩, ⟨g, g1, g2⟩, ⟨y40, x1, x2⟩, ⟨y41, z1, z2⟩, ⟨b62, m1⟩, ⟨b63, m2⟩⟩ := k2
  obtain ⟨r1, r2, r3, ⟨u1, u2, u3, u4, ⟨m, m3, m4⟩, ⟨t40, t1, t2⟩, ⟨t41, t3, t4⟩, ⟨p1, p2, p3, p4⟩, ⟨p5, p6, p7, p8⟩, ⟨p9, p10, p11, p12⟩⟩, ⟨ya, ya1⟩, ⟨yb, yb1⟩, ⟨yc, yc1⟩⟩ := M
  have e12 := ao12 τ v u
  have e17 := ao17 τ v u
  have e7 : adD τ v u 7 0 0 = f := (ao7 τ v u).trans (gR_some f1)
  have e5 : adD τ v u 5 0 0 = k := (ao5 τ v u).trans (gR_some k1)
  have e8 : adD τ v u 8 0 0 = g := (ao8 τ v u).trans (by rw [gR_some k1]; exact gR_some g1)
  have e6 : adD τ v u 6 0 0 = c := (ao6 τ v u).trans (gR_some c1)
  have e9 : adD τ v u 9 0 0 = h' := (ao9 τ v u).trans (gR_some i1)
  have e2 : adD τ v u 2 0 0 = a := (ao2 τ v u).trans (gR_some a1)
  have e14 : adD τ v u 14 0 0 = m := (ao14 τ v u).trans (gR_some m3)
  have A4 : ∀ s, s < 43 → ANS o τ s (adD τ v u 4 s 0) := fun s hs => by
    rw [ao4]; unfold d4
    by_cases q1 : s < 40
    · rw [if_pos q1, gR_some k1, gR_some w1, gR_some (w5 s q1).1]; exact (w5 s q1).2
    · rw [if_neg q1]
      by_cases q2 : s = 40
      · rw [if_pos q2, gR_some k1, gR_some x1, q2]; exact x2
      · rw [if_neg q2]
        by_cases q3 : s = 41
        · rw [if_pos q3, gR_some k1, gR_some z1, q3]; exact z2
        · rw [if_neg q3, gR_some y1]
          have : s = 42 := by omega
          rw [this]; exact y2
  have e440 : adD τ v u 4 40 0 = y40 := (ao4 τ v u 40).trans (by unfold d4; rw [if_neg (show ¬ 40 < 40 by decide), if_pos rfl, gR_some k1]; exact gR_some x1)
  have e441 : adD τ v u 4 41 0 = y41 := (ao4 τ v u 41).trans (by unfold d4; rw [if_neg (show ¬ 41 < 40 by decide), if_neg (show ¬ 41 = 40 by decide), if_pos rfl, gR_some k1]; exact gR_some z1)
  have e442 : adD τ v u 4 42 0 = y := (ao4 τ v u 42).trans (by unfold d4; rw [if_neg (show ¬ 42 < 40 by decide), if_neg (show ¬ 42 = 40 by decide), if_neg (show ¬ 42 = 41 by decide)]; exact gR_some y1)
  have A192 : ∀ s, s < 43 → (zFr τ 192 (adD τ v u 4 s 0) = some (adD τ v u 192 s 0) ∧ zK τ (adD τ v u 192 s 0) = 25 ∧ zL τ (adD τ v u 192 s 0) = room s ∧ ctO o (adD τ v u 192 s 0) = (192, s)) ∧ ∀ j, j < room s → zAr τ (adD τ v u 192 s 0) j = some (adD τ v u 3 s j) ∧ Obj o τ (3, s, j) 3 lX2 (adD τ v u 3 s j) := fun s hs => by
    obtain ⟨j1, j2, j3, r, fa, j4, j5, j6, j7, j8⟩ := A4 s hs
    have er : adD τ v u 192 s 0 = r := (adD_row (by decide) (by decide) (by decide)).trans (gR_some j4)
    refine ⟨⟨by rw [er]; exact j4, by rw [er]; exact j6, by rw [er]; exact j7, by rw [er]; exact ctO_some j5⟩, fun j hj => ?_⟩
    have e3 : adD τ v u 3 s j = fa j := by
      rw [ao3]; unfold d3
      rw [ao4] at j4
      rw [gR_some j4]; exact gR_some (j8 j hj).1
    rw [er, e3]; exact j8 j hj
  have A3 : ∀ s, s < 43 → ∀ j, j < room s → Obj o τ (3, s, j) 3 lX2 (adD τ v u 3 s j) := fun s hs j hj => ((A192 s hs).2 j hj).2
  have A128 : ∀ s, s < 43 → ∀ j, j < room s → (zFr τ 128 (adD τ v u 3 s j) = some (adD τ v u 128 s j) ∧ zK τ (adD τ v u 128 s j) = 20 ∧ zL τ (adD τ v u 128 s j) = 6 ∧ ctO o (adD τ v u 128 s j) = (128, s)) ∧ (∀ k, zAr τ (adD τ v u 128 s j) k = none) ∧ o (adD τ v u 128 s j) = some (128, s, j) := fun s hs j hj => ((A3 s hs j hj).2.2.2.1 (128, 20, 6) (by decide)).at (adD_row (by decide) (by decide) (by decide))
  have A129 : ∀ s, s < 43 → ∀ j, j < room s → (zFr τ 129 (adD τ v u 3 s j) = some (adD τ v u 129 s j) ∧ zK τ (adD τ v u 129 s j) = 21 ∧ zL τ (adD τ v u 129 s j) = 16 ∧ ctO o (adD τ v u 129 s j) = (129, s)) ∧ (∀ k, zAr τ (adD τ v u 129 s j) k = none) ∧ o (adD τ v u 129 s j) = some (129, s, j) := fun s hs j hj => ((A3 s hs j hj).2.2.2.1 (129, 21, 16) (by decide)).at (adD_row (by decide) (by decide) (by decide))
  have e1026 : adD τ v u 1026 0 0 = r1 := (adD_row (c := 17) (by decide) (by decide) (by decide)).trans (by rw [e17]; exact gR_some p1)
  have e1049 : adD τ v u 1049 0 0 = r2 := (adD_row (c := 17) (by decide) (by decide) (by decide)).trans (by rw [e17]; exact gR_some p5)
  have e1052 : adD τ v u 1052 0 0 = r3 := (adD_row (c := 17) (by decide) (by decide) (by decide)).trans (by rw [e17]; exact gR_some p9)
  have e258 : adD τ v u 258 0 0 = w := (adD_row (c := 5) (by decide) (by decide) (by decide)).trans (by rw [e5]; exact gR_some w1)
  have e13 : ∀ i, i < 100 → adD τ v u 13 i 0 = ya i := fun i hi => by rw [ao13]; unfold d13; rw [gR_some p1]; exact gR_some (ya1 i hi).1
  have A13 : ∀ i, i < 100 → MAC o τ i (adD τ v u 13 i 0) := fun i hi => by rw [e13 i hi]; exact (ya1 i hi).2
  have e772 : ∀ i, i < 100 → zFr τ 772 (adD τ v u 13 i 0) = some (adD τ v u 16 i 0) := fun i hi => by
    obtain ⟨j1, j2, t, j3, j4⟩ := A13 i hi
    have : adD τ v u 16 i 0 = t := by rw [ao16]; unfold d16; rw [if_pos hi, ← ao13 τ v u]; exact gR_some j3
    rw [this]; exact j3
  have A16 : ∀ i, i < 120 → Obj o τ (16, i, 0) 16 lX15 (adD τ v u 16 i 0) := fun i hi => by
    by_cases q1 : i < 100
    · obtain ⟨j1, j2, t, j3, j4⟩ := A13 i q1
      have : adD τ v u 16 i 0 = t := by rw [ao16]; unfold d16; rw [if_pos q1, ← ao13 τ v u]; exact gR_some j3
      rw [this]; exact j4
    · have : adD τ v u 16 i 0 = yc (i - 100) := by rw [ao16]; unfold d16; rw [if_neg q1, gR_some p9]; exact gR_some (yc1 (i - 100) (by omega)).1
      rw [this]
      have t := (yc1 (i - 100) (by omega)).2
      have e : 100 + (i - 100) = i := by omega
      rw [e] at t
      exact t
  have A15 : ∀ s, s < 42 → Obj o τ (15, s, 0) 15 lX14 (adD τ v u 15 s 0) := fun s hs => by
    rw [ao15]; unfold d15
    by_cases q1 : s < 40
    · rw [if_pos q1, gR_some p5, gR_some (yb1 s q1).1]; exact (yb1 s q1).2
    · rw [if_neg q1]
      by_cases q2 : s = 40
      · rw [if_pos q2, gR_some t1, q2]; exact t2
      · rw [if_neg q2, gR_some t3]
        have : s = 41 := by omega
        rw [this]; exact t4
  have e1540 : adD τ v u 15 40 0 = t40 := (ao15 τ v u 40).trans (by unfold d15; rw [if_neg (show ¬ 40 < 40 by decide), if_pos rfl]; exact gR_some t1)
  have e1541 : adD τ v u 15 41 0 = t41 := (ao15 τ v u 41).trans (by unfold d15; rw [if_neg (show ¬ 41 < 40 by decide), if_neg (show ¬ 41 = 40 by decide)]; exact gR_some t3)
  have RW : ∀ q ∈ lM, AF o τ (adD τ v u 17 0 0) 0 0 q.1 q.2.1 q.2.2 := fun q hq => by rw [e17]; obtain ⟨b, hb⟩ := u4 q hq; exact hb.af
  have B705 : (zFr τ 705 (adD τ v u 12 0 0) = some (adD τ v u 705 0 0) ∧ zK τ (adD τ v u 705 0 0) = 27 ∧ zL τ (adD τ v u 705 0 0) = 40 ∧ ctO o (adD τ v u 705 0 0) = (705, 0)) ∧ (∀ k, zAr τ (adD τ v u 705 0 0) k = none) ∧ o (adD τ v u 705 0 0) = some (705, 0, 0) := (show AF o τ (adD τ v u 12 0 0) 0 0 705 27 40 by rw [e12]; exact q1.af).at (adD_row (by decide) (by decide) (by decide))
  have B712 : (zFr τ 712 (adD τ v u 12 0 0) = some (adD τ v u 712 0 0) ∧ zK τ (adD τ v u 712 0 0) = 28 ∧ zL τ (adD τ v u 712 0 0) = 20 ∧ ctO o (adD τ v u 712 0 0) = (712, 0)) ∧ (∀ k, zAr τ (adD τ v u 712 0 0) k = none) ∧ o (adD τ v u 712 0 0) = some (712, 0, 0) := (show AF o τ (adD τ v u 12 0 0) 0 0 712 28 20 by rw [e12]; exact s1.af).at (adD_row (by decide) (by decide) (by decide))
  have B384 : (zFr τ 384 (adD τ v u 7 0 0) = some (adD τ v u 384 0 0) ∧ zK τ (adD τ v u 384 0 0) = 20 ∧ zL τ (adD τ v u 384 0 0) = 10 ∧ ctO o (adD τ v u 384 0 0) = (384, 0)) ∧ (∀ k, zAr τ (adD τ v u 384 0 0) k = none) ∧ o (adD τ v u 384 0 0) = some (384, 0, 0) := (show AF o τ (adD τ v u 7 0 0) 0 0 384 20 10 by rw [e7]; exact f2.2.2.2.1 (384, 20, 10) (by decide)).at (adD_row (by decide) (by decide) (by decide))
  have B386 : (zFr τ 386 (adD τ v u 7 0 0) = some (adD τ v u 386 0 0) ∧ zK τ (adD τ v u 386 0 0) = 20 ∧ zL τ (adD τ v u 386 0 0) = 60 ∧ ctO o (adD τ v u 386 0 0) = (386, 0)) ∧ (∀ k, zAr τ (adD τ v u 386 0 0) k = none) ∧ o (adD τ v u 386 0 0) = some (386, 0, 0) := (show AF o τ (adD τ v u 7 0 0) 0 0 386 20 60 by rw [e7]; exact f2.2.2.2.1 (386, 20, 60) (by decide)).at (adD_row (by decide) (by decide) (by decide))
  have B387 : (zFr τ 387 (adD τ v u 7 0 0) = some (adD τ v u 387 0 0) ∧ zK τ (adD τ v u 387 0 0) = 20 ∧ zL τ (adD τ v u 387 0 0) = 240 ∧ ctO o (adD τ v u 387 0 0) = (387, 0)) ∧ (∀ k, zAr τ (adD τ v u 387 0 0) k = none) ∧ o (adD τ v u 387 0 0) = some (387, 0, 0) := (show AF o τ (adD τ v u 7 0 0) 0 0 387 20 240 by rw [e7]; exact f2.2.2.2.1 (387, 20, 240) (by decide)).at (adD_row (by decide) (by decide) (by decide))
  have B388 : (zFr τ 388 (adD τ v u 7 0 0) = some (adD τ v u 388 0 0) ∧ zK τ (adD τ v u 388 0 0) = 21 ∧ zL τ (adD τ v u 388 0 0) = 240 ∧ ctO o (adD τ v u 388 0 0) = (388, 0)) ∧ (∀ k, zAr τ (adD τ v u 388 0 0) k = none) ∧ o (adD τ v u 388 0 0) = some (388, 0, 0) := (show AF o τ (adD τ v u 7 0 0) 0 0 388 21 240 by rw [e7]; exact f2.2.2.2.1 (388, 21, 240) (by decide)).at (adD_row (by decide) (by decide) (by decide))
  have B262 : (zFr τ 262 (adD τ v u 5 0 0) = some (adD τ v u 262 0 0) ∧ zK τ (adD τ v u 262 0 0) = 20 ∧ zL τ (adD τ v u 262 0 0) = 64 ∧ ctO o (adD τ v u 262 0 0) = (262, 0)) ∧ (∀ k, zAr τ (adD τ v u 262 0 0) k = none) ∧ o (adD τ v u 262 0 0) = some (262, 0, 0) := (show AF o τ (adD τ v u 5 0 0) 0 0 262 20 64 by rw [e5]; exact m1.af).at (adD_row (by decide) (by decide) (by decide))
  have B263 : (zFr τ 263 (adD τ v u 5 0 0) = some (adD τ v u 263 0 0) ∧ zK τ (adD τ v u 263 0 0) = 20 ∧ zL τ (adD τ v u 263 0 0) = 6 ∧ ctO o (adD τ v u 263 0 0) = (263, 0)) ∧ (∀ k, zAr τ (adD τ v u 263 0 0) k = none) ∧ o (adD τ v u 263 0 0) = some (263, 0, 0) := (show AF o τ (adD τ v u 5 0 0) 0 0 263 20 6 by rw [e5]; exact m2.af).at (adD_row (by decide) (by decide) (by decide))
  have B448 : (zFr τ 448 (adD τ v u 8 0 0) = some (adD τ v u 448 0 0) ∧ zK τ (adD τ v u 448 0 0) = 21 ∧ zL τ (adD τ v u 448 0 0) = 8208 ∧ ctO o (adD τ v u 448 0 0) = (448, 0)) ∧ (∀ k, zAr τ (adD τ v u 448 0 0) k = none) ∧ o (adD τ v u 448 0 0) = some (448, 0, 0) := (show AF o τ (adD τ v u 8 0 0) 0 0 448 21 8208 by rw [e8]; exact g2.2.2.2.1 (448, 21, 8208) (by decide)).at (adD_row (by decide) (by decide) (by decide))
  have B320 : (zFr τ 320 (adD τ v u 6 0 0) = some (adD τ v u 320 0 0) ∧ zK τ (adD τ v u 320 0 0) = 20 ∧ zL τ (adD τ v u 320 0 0) = 16 ∧ ctO o (adD τ v u 320 0 0) = (320, 0)) ∧ (∀ k, zAr τ (adD τ v u 320 0 0) k = none) ∧ o (adD τ v u 320 0 0) = some (320, 0, 0) := (show AF o τ (adD τ v u 6 0 0) 0 0 320 20 16 by rw [e6]; exact c2.2.2.2.1 (320, 20, 16) (by decide)).at (adD_row (by decide) (by decide) (by decide))
  have B321 : (zFr τ 321 (adD τ v u 6 0 0) = some (adD τ v u 321 0 0) ∧ zK τ (adD τ v u 321 0 0) = 20 ∧ zL τ (adD τ v u 321 0 0) = 16 ∧ ctO o (adD τ v u 321 0 0) = (321, 0)) ∧ (∀ k, zAr τ (adD τ v u 321 0 0) k = none) ∧ o (adD τ v u 321 0 0) = some (321, 0, 0) := (show AF o τ (adD τ v u 6 0 0) 0 0 321 20 16 by rw [e6]; exact c2.2.2.2.1 (321, 20, 16) (by decide)).at (adD_row (by decide) (by decide) (by decide))
  have B322 : (zFr τ 322 (adD τ v u 6 0 0) = some (adD τ v u 322 0 0) ∧ zK τ (adD τ v u 322 0 0) = 20 ∧ zL τ (adD τ v u 322 0 0) = 17 ∧ ctO o (adD τ v u 322 0 0) = (322, 0)) ∧ (∀ k, zAr τ (adD τ v u 322 0 0) k = none) ∧ o (adD τ v u 322 0 0) = some (322, 0, 0) := (show AF o τ (adD τ v u 6 0 0) 0 0 322 20 17 by rw [e6]; exact c2.2.2.2.1 (322, 20, 17) (by decide)).at (adD_row (by decide) (by decide) (by decide))
  have B512 : (zFr τ 512 (adD τ v u 9 0 0) = some (adD τ v u 512 0 0) ∧ zK τ (adD τ v u 512 0 0) = 21 ∧ zL τ (adD τ v u 512 0 0) = 16 ∧ ctO o (adD τ v u 512 0 0) = (512, 0)) ∧ (∀ k, zAr τ (adD τ v u 512 0 0) k = none) ∧ o (adD τ v u 512 0 0) = some (512, 0, 0) := (show AF o τ (adD τ v u 9 0 0) 0 0 512 21 16 by rw [e9]; exact i2.2.2.2.1 (512, 21, 16) (by decide)).at (adD_row (by decide) (by decide) (by decide))
  have B64 : (zFr τ 64 (adD τ v u 2 0 0) = some (adD τ v u 64 0 0) ∧ zK τ (adD τ v u 64 0 0) = 24 ∧ zL τ (adD τ v u 64 0 0) = 100 ∧ ctO o (adD τ v u 64 0 0) = (64, 0)) ∧ (∀ k, zAr τ (adD τ v u 64 0 0) k = none) ∧ o (adD τ v u 64 0 0) = some (64, 0, 0) := (show AF o τ (adD τ v u 2 0 0) 0 0 64 24 100 by rw [e2]; exact a2.2.2.2.1 (64, 24, 100) (by decide)).at (adD_row (by decide) (by decide) (by decide))
  have B1031 : (zFr τ 1031 (adD τ v u 17 0 0) = some (adD τ v u 1031 0 0) ∧ zK τ (adD τ v u 1031 0 0) = 20 ∧ zL τ (adD τ v u 1031 0 0) = 10 ∧ ctO o (adD τ v u 1031 0 0) = (1031, 0)) ∧ (∀ k, zAr τ (adD τ v u 1031 0 0) k = none) ∧ o (adD τ v u 1031 0 0) = some (1031, 0, 0) := (RW (1031, 20, 10) (by decide)).at (adD_row (by decide) (by decide) (by decide))
  have B1032 : (zFr τ 1032 (adD τ v u 17 0 0) = some (adD τ v u 1032 0 0) ∧ zK τ (adD τ v u 1032 0 0) = 20 ∧ zL τ (adD τ v u 1032 0 0) = 60 ∧ ctO o (adD τ v u 1032 0 0) = (1032, 0)) ∧ (∀ k, zAr τ (adD τ v u 1032 0 0) k = none) ∧ o (adD τ v u 1032 0 0) = some (1032, 0, 0) := (RW (1032, 20, 60) (by decide)).at (adD_row (by decide) (by decide) (by decide))
  have B1033 : (zFr τ 1033 (adD τ v u 17 0 0) = some (adD τ v u 1033 0 0) ∧ zK τ (adD τ v u 1033 0 0) = 20 ∧ zL τ (adD τ v u 1033 0 0) = 240 ∧ ctO o (adD τ v u 1033 0 0) = (1033, 0)) ∧ (∀ k, zAr τ (adD τ v u 1033 0 0) k = none) ∧ o (adD τ v u 1033 0 0) = some (1033, 0, 0) := (RW (1033, 20, 240) (by decide)).at (adD_row (by decide) (by decide) (by decide))
  have B1034 : (zFr τ 1034 (adD τ v u 17 0 0) = some (adD τ v u 1034 0 0) ∧ zK τ (adD τ v u 1034 0 0) = 20 ∧ zL τ (adD τ v u 1034 0 0) = 60 ∧ ctO o (adD τ v u 1034 0 0) = (1034, 0)) ∧ (∀ k, zAr τ (adD τ v u 1034 0 0) k = none) ∧ o (adD τ v u 1034 0 0) = some (1034, 0, 0) := (RW (1034, 20, 60) (by decide)).at (adD_row (by decide) (by decide) (by decide))
  have B1035 : (zFr τ 1035 (adD τ v u 17 0 0) = some (adD τ v u 1035 0 0) ∧ zK τ (adD τ v u 1035 0 0) = 20 ∧ zL τ (adD τ v u 1035 0 0) = 60 ∧ ctO o (adD τ v u 1035 0 0) = (1035, 0)) ∧ (∀ k, zAr τ (adD τ v u 1035 0 0) k = none) ∧ o (adD τ v u 1035 0 0) = some (1035, 0, 0) := (RW (1035, 20, 60) (by decide)).at (adD_row (by decide) (by decide) (by decide))
  have B1036 : (zFr τ 1036 (adD τ v u 17 0 0) = some (adD τ v u 1036 0 0) ∧ zK τ (adD τ v u 1036 0 0) = 20 ∧ zL τ (adD τ v u 1036 0 0) = 60 ∧ ctO o (adD τ v u 1036 0 0) = (1036, 0)) ∧ (∀ k, zAr τ (adD τ v u 1036 0 0) k = none) ∧ o (adD τ v u 1036 0 0) = some (1036, 0, 0) := (RW (1036, 20, 60) (by decide)).at (adD_row (by decide) (by decide) (by decide))
  have B1037 : (zFr τ 1037 (adD τ v u 17 0 0) = some (adD τ v u 1037 0 0) ∧ zK τ (adD τ v u 1037 0 0) = 22 ∧ zL τ (adD τ v u 1037 0 0) = 60 ∧ ctO o (adD τ v u 1037 0 0) = (1037, 0)) ∧ (∀ k, zAr τ (adD τ v u 1037 0 0) k = none) ∧ o (adD τ v u 1037 0 0) = some (1037, 0, 0) := (RW (1037, 22, 60) (by decide)).at (adD_row (by decide) (by decide) (by decide))
  have B1038 : (zFr τ 1038 (adD τ v u 17 0 0) = some (adD τ v u 1038 0 0) ∧ zK τ (adD τ v u 1038 0 0) = 23 ∧ zL τ (adD τ v u 1038 0 0) = 60 ∧ ctO o (adD τ v u 1038 0 0) = (1038, 0)) ∧ (∀ k, zAr τ (adD τ v u 1038 0 0) k = none) ∧ o (adD τ v u 1038 0 0) = some (1038, 0, 0) := (RW (1038, 23, 60) (by decide)).at (adD_row (by decide) (by decide) (by decide))
  have B1039 : (zFr τ 1039 (adD τ v u 17 0 0) = some (adD τ v u 1039 0 0) ∧ zK τ (adD τ v u 1039 0 0) = 20 ∧ zL τ (adD τ v u 1039 0 0) = 40 ∧ ctO o (adD τ v u 1039 0 0) = (1039, 0)) ∧ (∀ k, zAr τ (adD τ v u 1039 0 0) k = none) ∧ o (adD τ v u 1039 0 0) = some (1039, 0, 0) := (RW (1039, 20, 40) (by decide)).at (adD_row (by decide) (by decide) (by decide))
  have B1040 : (zFr τ 1040 (adD τ v u 17 0 0) = some (adD τ v u 1040 0 0) ∧ zK τ (adD τ v u 1040 0 0) = 20 ∧ zL τ (adD τ v u 1040 0 0) = 40 ∧ ctO o (adD τ v u 1040 0 0) = (1040, 0)) ∧ (∀ k, zAr τ (adD τ v u 1040 0 0) k = none) ∧ o (adD τ v u 1040 0 0) = some (1040, 0, 0) := (RW (1040, 20, 40) (by decide)).at (adD_row (by decide) (by decide) (by decide))
  have B1041 : (zFr τ 1041 (adD τ v u 17 0 0) = some (adD τ v u 1041 0 0) ∧ zK τ (adD τ v u 1041 0 0) = 20 ∧ zL τ (adD τ v u 1041 0 0) = 40 ∧ ctO o (adD τ v u 1041 0 0) = (1041, 0)) ∧ (∀ k, zAr τ (adD τ v u 1041 0 0) k = none) ∧ o (adD τ v u 1041 0 0) = some (1041, 0, 0) := (RW (1041, 20, 40) (by decide)).at (adD_row (by decide) (by decide) (by decide))
  have B1042 : (zFr τ 1042 (adD τ v u 17 0 0) = some (adD τ v u 1042 0 0) ∧ zK τ (adD τ v u 1042 0 0) = 20 ∧ zL τ (adD τ v u 1042 0 0) = 40 ∧ ctO o (adD τ v u 1042 0 0) = (1042, 0)) ∧ (∀ k, zAr τ (adD τ v u 1042 0 0) k = none) ∧ o (adD τ v u 1042 0 0) = some (1042, 0, 0) := (RW (1042, 20, 40) (by decide)).at (adD_row (by decide) (by decide) (by decide))
  have B1043 : (zFr τ 1043 (adD τ v u 17 0 0) = some (adD τ v u 1043 0 0) ∧ zK τ (adD τ v u 1043 0 0) = 20 ∧ zL τ (adD τ v u 1043 0 0) = 40 ∧ ctO o (adD τ v u 1043 0 0) = (1043, 0)) ∧ (∀ k, zAr τ (adD τ v u 1043 0 0) k = none) ∧ o (adD τ v u 1043 0 0) = some (1043, 0, 0) := (RW (1043, 20, 40) (by decide)).at (adD_row (by decide) (by decide) (by decide))
  have B1044 : (zFr τ 1044 (adD τ v u 17 0 0) = some (adD τ v u 1044 0 0) ∧ zK τ (adD τ v u 1044 0 0) = 20 ∧ zL τ (adD τ v u 1044 0 0) = 40 ∧ ctO o (adD τ v u 1044 0 0) = (1044, 0)) ∧ (∀ k, zAr τ (adD τ v u 1044 0 0) k = none) ∧ o (adD τ v u 1044 0 0) = some (1044, 0, 0) := (RW (1044, 20, 40) (by decide)).at (adD_row (by decide) (by decide) (by decide))
  have B1045 : (zFr τ 1045 (adD τ v u 17 0 0) = some (adD τ v u 1045 0 0) ∧ zK τ (adD τ v u 1045 0 0) = 20 ∧ zL τ (adD τ v u 1045 0 0) = 40 ∧ ctO o (adD τ v u 1045 0 0) = (1045, 0)) ∧ (∀ k, zAr τ (adD τ v u 1045 0 0) k = none) ∧ o (adD τ v u 1045 0 0) = some (1045, 0, 0) := (RW (1045, 20, 40) (by decide)).at (adD_row (by decide) (by decide) (by decide))
  have B1046 : (zFr τ 1046 (adD τ v u 17 0 0) = some (adD τ v u 1046 0 0) ∧ zK τ (adD τ v u 1046 0 0) = 20 ∧ zL τ (adD τ v u 1046 0 0) = 40 ∧ ctO o (adD τ v u 1046 0 0) = (1046, 0)) ∧ (∀ k, zAr τ (adD τ v u 1046 0 0) k = none) ∧ o (adD τ v u 1046 0 0) = some (1046, 0, 0) := (RW (1046, 20, 40) (by decide)).at (adD_row (by decide) (by decide) (by decide))
  have B1047 : (zFr τ 1047 (adD τ v u 17 0 0) = some (adD τ v u 1047 0 0) ∧ zK τ (adD τ v u 1047 0 0) = 23 ∧ zL τ (adD τ v u 1047 0 0) = 40 ∧ ctO o (adD τ v u 1047 0 0) = (1047, 0)) ∧ (∀ k, zAr τ (adD τ v u 1047 0 0) k = none) ∧ o (adD τ v u 1047 0 0) = some (1047, 0, 0) := (RW (1047, 23, 40) (by decide)).at (adD_row (by decide) (by decide) (by decide))
  have B1053 : (zFr τ 1053 (adD τ v u 17 0 0) = some (adD τ v u 1053 0 0) ∧ zK τ (adD τ v u 1053 0 0) = 21 ∧ zL τ (adD τ v u 1053 0 0) = 8208 ∧ ctO o (adD τ v u 1053 0 0) = (1053, 0)) ∧ (∀ k, zAr τ (adD τ v u 1053 0 0) k = none) ∧ o (adD τ v u 1053 0 0) = some (1053, 0, 0) := (RW (1053, 21, 8208) (by decide)).at (adD_row (by decide) (by decide) (by decide))
  have B1055 : (zFr τ 1055 (adD τ v u 17 0 0) = some (adD τ v u 1055 0 0) ∧ zK τ (adD τ v u 1055 0 0) = 20 ∧ zL τ (adD τ v u 1055 0 0) = 6 ∧ ctO o (adD τ v u 1055 0 0) = (1055, 0)) ∧ (∀ k, zAr τ (adD τ v u 1055 0 0) k = none) ∧ o (adD τ v u 1055 0 0) = some (1055, 0, 0) := (RW (1055, 20, 6) (by decide)).at (adD_row (by decide) (by decide) (by decide))
  have B1056 : (zFr τ 1056 (adD τ v u 17 0 0) = some (adD τ v u 1056 0 0) ∧ zK τ (adD τ v u 1056 0 0) = 20 ∧ zL τ (adD τ v u 1056 0 0) = 32 ∧ ctO o (adD τ v u 1056 0 0) = (1056, 0)) ∧ (∀ k, zAr τ (adD τ v u 1056 0 0) k = none) ∧ o (adD τ v u 1056 0 0) = some (1056, 0, 0) := (RW (1056, 20, 32) (by decide)).at (adD_row (by decide) (by decide) (by decide))
  have B1058 : (zFr τ 1058 (adD τ v u 17 0 0) = some (adD τ v u 1058 0 0) ∧ zK τ (adD τ v u 1058 0 0) = 23 ∧ zL τ (adD τ v u 1058 0 0) = 40 ∧ ctO o (adD τ v u 1058 0 0) = (1058, 0)) ∧ (∀ k, zAr τ (adD τ v u 1058 0 0) k = none) ∧ o (adD τ v u 1058 0 0) = some (1058, 0, 0) := (RW (1058, 23, 40) (by decide)).at (adD_row (by decide) (by decide) (by decide))
  have B1059 : (zFr τ 1059 (adD τ v u 17 0 0) = some (adD τ v u 1059 0 0) ∧ zK τ (adD τ v u 1059 0 0) = 23 ∧ zL τ (adD τ v u 1059 0 0) = 32 ∧ ctO o (adD τ v u 1059 0 0) = (1059, 0)) ∧ (∀ k, zAr τ (adD τ v u 1059 0 0) k = none) ∧ o (adD τ v u 1059 0 0) = some (1059, 0, 0) := (RW (1059, 23, 32) (by decide)).at (adD_row (by decide) (by decide) (by decide))
  have B1060 : (zFr τ 1060 (adD τ v u 17 0 0) = some (adD τ v u 1060 0 0) ∧ zK τ (adD τ v u 1060 0 0) = 20 ∧ zL τ (adD τ v u 1060 0 0) = 16 ∧ ctO o (adD τ v u 1060 0 0) = (1060, 0)) ∧ (∀ k, zAr τ (adD τ v u 1060 0 0) k = none) ∧ o (adD τ v u 1060 0 0) = some (1060, 0, 0) := (RW (1060, 20, 16) (by decide)).at (adD_row (by decide) (by decide) (by decide))
  have B1061 : (zFr τ 1061 (adD τ v u 17 0 0) = some (adD τ v u 1061 0 0) ∧ zK τ (adD τ v u 1061 0 0) = 20 ∧ zL τ (adD τ v u 1061 0 0) = 16 ∧ ctO o (adD τ v u 1061 0 0) = (1061, 0)) ∧ (∀ k, zAr τ (adD τ v u 1061 0 0) k = none) ∧ o (adD τ v u 1061 0 0) = some (1061, 0, 0) := (RW (1061, 20, 16) (by decide)).at (adD_row (by decide) (by decide) (by decide))
  have B1063 : (zFr τ 1063 (adD τ v u 17 0 0) = some (adD τ v u 1063 0 0) ∧ zK τ (adD τ v u 1063 0 0) = 20 ∧ zL τ (adD τ v u 1063 0 0) = 16 ∧ ctO o (adD τ v u 1063 0 0) = (1063, 0)) ∧ (∀ k, zAr τ (adD τ v u 1063 0 0) k = none) ∧ o (adD τ v u 1063 0 0) = some (1063, 0, 0) := (RW (1063, 20, 16) (by decide)).at (adD_row (by decide) (by decide) (by decide))
  have e705 : adD τ v u 705 0 0 = q := by have t := B705.1.1; rw [e12] at t; exact Option.some.inj (t.symm.trans q1.1)
  refine ⟨adD τ v u, ctO o, e12, e17, ?_, ?_, ?_⟩
  · exact ⟨⟨by rw [e12]; exact v2, by rw [e12]; exact ctO_some v1⟩,
      ⟨by rw [e7]; exact f2.2.1, by rw [e7]; exact ctO_some f2.1⟩,
      ⟨by rw [e5]; exact n2, by rw [e5]; exact ctO_some n1⟩,
      ⟨by rw [e8]; exact g2.2.1, by rw [e8]; exact ctO_some g2.1⟩,
      ⟨by rw [e6]; exact c2.2.1, by rw [e6]; exact ctO_some c2.1⟩,
      ⟨by rw [e9]; exact i2.2.1, by rw [e9]; exact ctO_some i2.1⟩,
      ⟨by rw [e2]; exact a2.2.1, by rw [e2]; exact ctO_some a2.1⟩,
      ⟨by rw [e17]; exact u2, by rw [e17]; exact ctO_some u1⟩,
      ⟨by rw [e14]; exact m4.2.1, by rw [e14]; exact ctO_some m4.1⟩,
      by rw [e12, e7]; exact f1,
      by rw [e12, e5]; exact k1,
      by rw [e12, e442]; exact y1,
      by rw [e12, e6]; exact c1,
      by rw [e12, e9]; exact i1,
      by rw [e12, e2]; exact a1,
      by rw [e5, e7]; exact n3,
      by rw [e5, e705]; exact n4,
      by rw [e5, e8]; exact g1,
      by rw [e5, e440]; exact x1,
      by rw [e5, e441]; exact z1,
      by rw [e17, e14]; exact m3,
      by rw [e17, e1540]; exact t1,
      by rw [e17, e1541]; exact t3,
      B705.1,
      B712.1,
      B384.1,
      B386.1,
      B387.1,
      B388.1,
      ⟨by rw [e5, e258]; exact w1, by rw [e258]; exact w3, by rw [e258]; exact w4, by rw [e258]; exact ctO_some w2⟩,
      B262.1,
      B263.1,
      B448.1,
      B320.1,
      B321.1,
      B322.1,
      B512.1,
      B64.1,
      ⟨by rw [e17, e1026]; exact p1, by rw [e1026]; exact p3, by rw [e1026]; exact p4, by rw [e1026]; exact ctO_some p2⟩,
      B1031.1,
      B1032.1,
      B1033.1,
      B1034.1,
      B1035.1,
      B1036.1,
      B1037.1,
      B1038.1,
      B1039.1,
      B1040.1,
      B1041.1,
      B1042.1,
      B1043.1,
      B1044.1,
      B1045.1,
      B1046.1,
      B1047.1,
      ⟨by rw [e17, e1049]; exact p5, by rw [e1049]; exact p7, by rw [e1049]; exact p8, by rw [e1049]; exact ctO_some p6⟩,
      ⟨by rw [e17, e1052]; exact p9, by rw [e1052]; exact p11, by rw [e1052]; exact p12, by rw [e1052]; exact ctO_some p10⟩,
      B1053.1,
      B1055.1,
      B1056.1,
      B1058.1,
      B1059.1,
      B1060.1,
      B1061.1,
      B1063.1,
      fun i hi => ⟨(A4 i hi).2.1, ctO_some (A4 i hi).1⟩,
      fun i hi j hj => ⟨(A3 i hi j hj).2.1, ctO_some (A3 i hi j hj).1⟩,
      fun i hi => ⟨(A13 i hi).2.1, ctO_some (A13 i hi).1⟩,
      fun i hi => ⟨(A16 i hi).2.1, ctO_some (A16 i hi).1⟩,
      fun i hi => ⟨(A15 i hi).2.1, ctO_some (A15 i hi).1⟩,
      fun i hi => (A192 i hi).1,
      fun i hi j hj => (A128 i hi j hj).1,
      fun i hi j hj => (A129 i hi j hj).1,
      fun i hi => (((A16 i hi).2.2.2.1 (963, 20, 6) (by decide)).at (adD_row (by decide) (by decide) (by decide))).1,
      fun i hi => (((A16 i hi).2.2.2.1 (964, 21, 16) (by decide)).at (adD_row (by decide) (by decide) (by decide))).1,
      fun i hi => (((A15 i hi).2.2.2.1 (898, 20, 192) (by decide)).at (adD_row (by decide) (by decide) (by decide))).1,
      fun i hi => (((A15 i hi).2.2.2.1 (899, 20, 32) (by decide)).at (adD_row (by decide) (by decide) (by decide))).1,
      fun i hi => (((A15 i hi).2.2.2.1 (900, 20, 32) (by decide)).at (adD_row (by decide) (by decide) (by decide))).1,
      fun i hi => (((A15 i hi).2.2.2.1 (901, 21, 512) (by decide)).at (adD_row (by decide) (by decide) (by decide))).1,
      fun i hi => (((A15 i hi).2.2.2.1 (902, 21, 32) (by decide)).at (adD_row (by decide) (by decide) (by decide))).1,
      fun i hi => (((A15 i hi).2.2.2.1 (903, 22, 32) (by decide)).at (adD_row (by decide) (by decide) (by decide))).1,
      e772,
      fun i hi => by rw [e258, ao4]; unfold d4; rw [if_pos hi, gR_some k1, gR_some w1, gR_some (w5 i hi).1]; exact (w5 i hi).1,
      fun i hi => by rw [e1049, ao15]; unfold d15; rw [if_pos hi, gR_some p5, gR_some (yb1 i hi).1]; exact (yb1 i hi).1,
      fun i hi => by rw [e1052, ao16]; unfold d16; rw [if_neg (by omega), gR_some p9, show 100 + i - 100 = i by omega, gR_some (yc1 i hi).1]; exact (yc1 i hi).1,
      fun i j j2 hi hj hj2 => ⟨fun e => by have t := (A3 i hi j2 hj2).1; rw [← e] at t; have z := Option.some.inj ((A3 i hi j hj).1.symm.trans t); injection z with _ z; injection z, fun e => by have t := (A128 i hi j2 hj2).2.2; rw [← e] at t; have z := Option.some.inj ((A128 i hi j hj).2.2.symm.trans t); injection z with _ z; injection z, fun e => by have t := (A129 i hi j2 hj2).2.2; rw [← e] at t; have z := Option.some.inj ((A129 i hi j hj).2.2.symm.trans t); injection z with _ z; injection z⟩,
      fun x hx => ctO_none (by cases z : o x with | none => rfl | some nm => exact absurd hx (ok x (by rw [z]; exact fun z => by cases z)))⟩
  · have nil : ∀ {α : Type} (i : Nat) (A : α), ([] : List α)[i]? = some A → False := fun i A h => by rw [List.getElem?_nil] at h; cases h
    refine ⟨⟨?_, fun i A h => (nil i A h).elim⟩, ⟨?_, fun i A h => (nil i A h).elim⟩, ⟨?_, fun i A h => (nil i A h).elim⟩, fun k hk => Or.inl ⟨B712.2.1 k, rfl⟩, ⟨?_, 0, by decide, ?_, fun i A h => (nil i A h).elim⟩, ⟨0, ⟨?_, ?_, by decide, by decide, fun i A h => (nil i A h).elim⟩, fun z => absurd rfl z⟩, ?_, fun s hs => ⟨id, fun j hj => ⟨hj, ((A192 s hs).2 j hj).1⟩, fun i j h1 h2 z => absurd z (by show i ≠ j; omega)⟩⟩
    · rw [e7]; exact f2.2.2.2.2.2 _
    · rw [e7]; exact f2.2.2.2.2.2 _
    · rw [e12]; exact v3 _
    · rw [e2]; exact a2.2.2.2.2.2 _
    · rw [e2]; exact a2.2.2.2.2.2 _
    · exact (A4 42 (by decide)).2.2.1 _
    · exact (A4 42 (by decide)).2.2.1 _
    · rw [e12]; exact v3 _
  · have nil : ∀ {α : Type} (i : Nat) (A : α), ([] : List α)[i]? = some A → False := fun i A h => by rw [List.getElem?_nil] at h; cases h
    refine ⟨⟨?_, fun i A h => (nil i A h).elim⟩, ⟨?_, fun i A h => (nil i A h).elim⟩, ⟨?_, fun i A h => (nil i A h).elim⟩, fun k hk => ⟨?_, show 0 < 5 by decide, fun _ => rfl, fun z => (by rcases z with z | z <;> cases z), fun z => (by cases z), fun z => (by cases z)⟩, ⟨?_, id, fun i hi => ⟨hi, by rw [e1026]; show _ = some (adD τ v u 13 i 0); rw [e13 i hi]; exact (ya1 i hi).1⟩, fun i j h1 h2 z => absurd z (by show i ≠ j; omega), fun i A h => (nil i A h).elim⟩, ⟨0, ⟨?_, ?_, by decide, by decide, fun i A h => (nil i A h).elim⟩, fun z => absurd rfl z⟩, ?_⟩
    · rw [e17]; exact u3 _
    · rw [e17]; exact u3 _
    · rw [e17]; exact u3 _
    · exact (A16 (100 + k) (by omega)).2.2.2.2.2 _
    · rw [e17]; exact u3 _
    · exact (A15 40 (by decide)).2.2.2.2.2 _
    · exact (A15 40 (by decide)).2.2.2.2.2 _
    · rw [e17]; exact u3 _
