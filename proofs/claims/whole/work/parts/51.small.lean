/-! the small constructors -/
def lX6 : List (Nat × Nat × Nat) := [(388, 21, 240), (387, 20, 240), (386, 20, 60), (384, 20, 10)]
theorem I_6 {σ : St} {o : Ow} {v : Nat} (h0 : okO o σ) (hv : o v = some (7, 0, 0)) (kv : zK σ v = 7) (hz : ∀ g, zFi σ g v = 0) {Q : St → Prop} (hQ : ∀ o' τ, Sp v o σ o' τ → Obj o' τ (7, 0, 0) 7 lX6 v → Q τ) : wX6_init 4 550 v σ Q := by
  have B0 : Bld 7 0 0 v σ o o σ [] := Bld.start kv (by decide) h0
  have w0 := hv
  refine ⟨by decide, by decide, fun b1 hb1 => ?_⟩
  obtain ⟨o1, B1, v1, e1⟩ := B0.row ⟨_, w0, by simp⟩ (by simp) (g := 384) (κ := 20) (len := 10) hb1 (by decide) (by simp) rfl
  have w1 := v1.trans w0
  rw [← e1]
  refine ⟨B1.1, by decide, by decide, fun b2 hb2 => ?_⟩
  rw [← e1] at hb2
  generalize uFr (nA σ b1 20 10) 384 v (some b1) = τ1 at B1 e1 hb2 ⊢
  obtain ⟨o2, B2, v2, e2⟩ := B1.row ⟨_, w1, by simp⟩ (by simp) (g := 386) (κ := 20) (len := 60) hb2 (by decide) (by simp) rfl
  have w2 := v2.trans w1
  rw [← e2]
  refine ⟨B2.1, by decide, by decide, fun b3 hb3 => ?_⟩
  rw [← e2] at hb3
  generalize uFr (nA τ1 b2 20 60) 386 v (some b2) = τ2 at B2 e2 hb3 ⊢
  obtain ⟨o3, B3, v3, e3⟩ := B2.row ⟨_, w2, by simp⟩ (by simp) (g := 387) (κ := 20) (len := 240) hb3 (by decide) (by simp) rfl
  have w3 := v3.trans w2
  rw [← e3]
  refine ⟨B3.1, by decide, by decide, fun b4 hb4 => ?_⟩
  rw [← e3] at hb4
  generalize uFr (nA τ2 b3 20 240) 387 v (some b3) = τ3 at B3 e3 hb4 ⊢
  obtain ⟨o4, B4, v4, e4⟩ := B3.row ⟨_, w3, by simp⟩ (by simp) (g := 388) (κ := 21) (len := 240) hb4 (by decide) (by simp) rfl
  have w4 := v4.trans w3
  rw [← e4]
  exact ⟨B4.1, by decide, by decide, hQ o4 _ (B4.stp kv) ⟨w4, B4.1, by decide, B4.2.2.2.2.2.1, by decide, fun g => (B4.2.2.2.2.2.2 g).trans (hz g)⟩⟩
def lX7 : List (Nat × Nat × Nat) := [(448, 21, 8208)]
theorem I_7 {σ : St} {o : Ow} {v : Nat} (h0 : okO o σ) (hv : o v = some (8, 0, 0)) (kv : zK σ v = 8) (hz : ∀ g, zFi σ g v = 0) {Q : St → Prop} (hQ : ∀ o' τ, Sp v o σ o' τ → Obj o' τ (8, 0, 0) 8 lX7 v → Q τ) : wX7_init 1 8208 v σ Q := by
  have B0 : Bld 8 0 0 v σ o o σ [] := Bld.start kv (by decide) h0
  have w0 := hv
  refine ⟨by decide, by decide, fun b1 hb1 => ?_⟩
  obtain ⟨o1, B1, v1, e1⟩ := B0.row ⟨_, w0, by simp⟩ (by simp) (g := 448) (κ := 21) (len := 8208) hb1 (by decide) (by simp) rfl
  have w1 := v1.trans w0
  rw [← e1]
  exact ⟨B1.1, by decide, by decide, hQ o1 _ (B1.stp kv) ⟨w1, B1.1, by decide, B1.2.2.2.2.2.1, by decide, fun g => (B1.2.2.2.2.2.2 g).trans (hz g)⟩⟩
def lX5 : List (Nat × Nat × Nat) := [(322, 20, 17), (321, 20, 16), (320, 20, 16)]
theorem I_5 {σ : St} {o : Ow} {v : Nat} (h0 : okO o σ) (hv : o v = some (6, 0, 0)) (kv : zK σ v = 6) (hz : ∀ g, zFi σ g v = 0) {Q : St → Prop} (hQ : ∀ o' τ, Sp v o σ o' τ → Obj o' τ (6, 0, 0) 6 lX5 v → Q τ) : wX5_init 3 49 v σ Q := by
  have B0 : Bld 6 0 0 v σ o o σ [] := Bld.start kv (by decide) h0
  have w0 := hv
  refine ⟨by decide, by decide, fun b1 hb1 => ?_⟩
  obtain ⟨o1, B1, v1, e1⟩ := B0.row ⟨_, w0, by simp⟩ (by simp) (g := 320) (κ := 20) (len := 16) hb1 (by decide) (by simp) rfl
  have w1 := v1.trans w0
  rw [← e1]
  refine ⟨B1.1, by decide, by decide, fun b2 hb2 => ?_⟩
  rw [← e1] at hb2
  generalize uFr (nA σ b1 20 16) 320 v (some b1) = τ1 at B1 e1 hb2 ⊢
  obtain ⟨o2, B2, v2, e2⟩ := B1.row ⟨_, w1, by simp⟩ (by simp) (g := 321) (κ := 20) (len := 16) hb2 (by decide) (by simp) rfl
  have w2 := v2.trans w1
  rw [← e2]
  refine ⟨B2.1, by decide, by decide, fun b3 hb3 => ?_⟩
  rw [← e2] at hb3
  generalize uFr (nA τ1 b2 20 16) 321 v (some b2) = τ2 at B2 e2 hb3 ⊢
  obtain ⟨o3, B3, v3, e3⟩ := B2.row ⟨_, w2, by simp⟩ (by simp) (g := 322) (κ := 20) (len := 17) hb3 (by decide) (by simp) rfl
  have w3 := v3.trans w2
  rw [← e3]
  exact ⟨B3.1, by decide, by decide, hQ o3 _ (B3.stp kv) ⟨w3, B3.1, by decide, B3.2.2.2.2.2.1, by decide, fun g => (B3.2.2.2.2.2.2 g).trans (hz g)⟩⟩
def lX8 : List (Nat × Nat × Nat) := [(512, 21, 16)]
theorem I_8 {σ : St} {o : Ow} {v : Nat} (h0 : okO o σ) (hv : o v = some (9, 0, 0)) (kv : zK σ v = 9) (hz : ∀ g, zFi σ g v = 0) {Q : St → Prop} (hQ : ∀ o' τ, Sp v o σ o' τ → Obj o' τ (9, 0, 0) 9 lX8 v → Q τ) : wX8_init 1 16 v σ Q := by
  have B0 : Bld 9 0 0 v σ o o σ [] := Bld.start kv (by decide) h0
  have w0 := hv
  refine ⟨by decide, by decide, fun b1 hb1 => ?_⟩
  obtain ⟨o1, B1, v1, e1⟩ := B0.row ⟨_, w0, by simp⟩ (by simp) (g := 512) (κ := 21) (len := 16) hb1 (by decide) (by simp) rfl
  have w1 := v1.trans w0
  rw [← e1]
  exact ⟨B1.1, by decide, by decide, hQ o1 _ (B1.stp kv) ⟨w1, B1.1, by decide, B1.2.2.2.2.2.1, by decide, fun g => (B1.2.2.2.2.2.2 g).trans (hz g)⟩⟩
def lX1 : List (Nat × Nat × Nat) := [(64, 24, 100)]
theorem I_1 {σ : St} {o : Ow} {v : Nat} (h0 : okO o σ) (hv : o v = some (2, 0, 0)) (kv : zK σ v = 2) (hz : ∀ g, zFi σ g v = 0) {Q : St → Prop} (hQ : ∀ o' τ, Sp v o σ o' τ → Obj o' τ (2, 0, 0) 2 lX1 v → Q τ) : wX1_init 1 100 v σ Q := by
  have B0 : Bld 2 0 0 v σ o o σ [] := Bld.start kv (by decide) h0
  have w0 := hv
  refine ⟨by decide, by decide, fun b1 hb1 => ?_⟩
  obtain ⟨o1, B1, v1, e1⟩ := B0.row ⟨_, w0, by simp⟩ (by simp) (g := 64) (κ := 24) (len := 100) hb1 (by decide) (by simp) rfl
  have w1 := v1.trans w0
  rw [← e1]
  exact ⟨B1.1, by decide, by decide, hQ o1 _ (B1.stp kv) ⟨w1, B1.1, by decide, B1.2.2.2.2.2.1, by decide, fun g => (B1.2.2.2.2.2.2 g).trans (hz g)⟩⟩
def lX14 : List (Nat × Nat × Nat) := [(903, 22, 32), (902, 21, 32), (901, 21, 512), (900, 20, 32), (899, 20, 32), (898, 20, 192)]
theorem I_14 {σ : St} {o : Ow} {v s : Nat} (h0 : okO o σ) (hv : o v = some (15, s, 0)) (kv : zK σ v = 15) (hz : ∀ g, zFi σ g v = 0) {Q : St → Prop} (hQ : ∀ o' τ, Sp v o σ o' τ → Obj o' τ (15, s, 0) 15 lX14 v → Q τ) : wX14_init 6 832 v σ Q := by
  have B0 : Bld 15 s 0 v σ o o σ [] := Bld.start kv (by decide) h0
  have w0 := hv
  refine ⟨by decide, by decide, fun b1 hb1 => ?_⟩
  obtain ⟨o1, B1, v1, e1⟩ := B0.row ⟨_, w0, by simp⟩ (by simp) (g := 898) (κ := 20) (len := 192) hb1 (by decide) (by simp) rfl
  have w1 := v1.trans w0
  rw [← e1]
  refine ⟨B1.1, by decide, by decide, fun b2 hb2 => ?_⟩
  rw [← e1] at hb2
  generalize uFr (nA σ b1 20 192) 898 v (some b1) = τ1 at B1 e1 hb2 ⊢
  obtain ⟨o2, B2, v2, e2⟩ := B1.row ⟨_, w1, by simp⟩ (by simp) (g := 899) (κ := 20) (len := 32) hb2 (by decide) (by simp) rfl
  have w2 := v2.trans w1
  rw [← e2]
  refine ⟨B2.1, by decide, by decide, fun b3 hb3 => ?_⟩
  rw [← e2] at hb3
  generalize uFr (nA τ1 b2 20 32) 899 v (some b2) = τ2 at B2 e2 hb3 ⊢
  obtain ⟨o3, B3, v3, e3⟩ := B2.row ⟨_, w2, by simp⟩ (by simp) (g := 900) (κ := 20) (len := 32) hb3 (by decide) (by simp) rfl
  have w3 := v3.trans w2
  rw [← e3]
  refine ⟨B3.1, by decide, by decide, fun b4 hb4 => ?_⟩
  rw [← e3] at hb4
  generalize uFr (nA τ2 b3 20 32) 900 v (some b3) = τ3 at B3 e3 hb4 ⊢
  obtain ⟨o4, B4, v4, e4⟩ := B3.row ⟨_, w3, by simp⟩ (by simp) (g := 901) (κ := 21) (len := 512) hb4 (by decide) (by simp) rfl
  have w4 := v4.trans w3
  rw [← e4]
  refine ⟨B4.1, by decide, by decide, fun b5 hb5 => ?_⟩
  rw [← e4] at hb5
  generalize uFr (nA τ3 b4 21 512) 901 v (some b4) = τ4 at B4 e4 hb5 ⊢
  obtain ⟨o5, B5, v5, e5⟩ := B4.row ⟨_, w4, by simp⟩ (by simp) (g := 902) (κ := 21) (len := 32) hb5 (by decide) (by simp) rfl
  have w5 := v5.trans w4
  rw [← e5]
  refine ⟨B5.1, by decide, by decide, fun b6 hb6 => ?_⟩
  rw [← e5] at hb6
  generalize uFr (nA τ4 b5 21 32) 902 v (some b5) = τ5 at B5 e5 hb6 ⊢
  obtain ⟨o6, B6, v6, e6⟩ := B5.row ⟨_, w5, by simp⟩ (by simp) (g := 903) (κ := 22) (len := 32) hb6 (by decide) (by simp) rfl
  have w6 := v6.trans w5
  rw [← e6]
  exact ⟨B6.1, by decide, by decide, hQ o6 _ (B6.stp kv) ⟨w6, B6.1, by decide, B6.2.2.2.2.2.1, by decide, fun g => (B6.2.2.2.2.2.2 g).trans (hz g)⟩⟩
def lX15 : List (Nat × Nat × Nat) := [(964, 21, 16), (963, 20, 6)]
theorem I_15 {σ : St} {o : Ow} {v s : Nat} (h0 : okO o σ) (hv : o v = some (16, s, 0)) (kv : zK σ v = 16) (hz : ∀ g, zFi σ g v = 0) {Q : St → Prop} (hQ : ∀ o' τ, Sp v o σ o' τ → Obj o' τ (16, s, 0) 16 lX15 v → Q τ) : wX15_init 2 22 v σ Q := by
  have B0 : Bld 16 s 0 v σ o o σ [] := Bld.start kv (by decide) h0
  have w0 := hv
  refine ⟨by decide, by decide, fun b1 hb1 => ?_⟩
  obtain ⟨o1, B1, v1, e1⟩ := B0.row ⟨_, w0, by simp⟩ (by simp) (g := 963) (κ := 20) (len := 6) hb1 (by decide) (by simp) rfl
  have w1 := v1.trans w0
  rw [← e1]
  refine ⟨B1.1, by decide, by decide, fun b2 hb2 => ?_⟩
  rw [← e1] at hb2
  generalize uFr (nA σ b1 20 6) 963 v (some b1) = τ1 at B1 e1 hb2 ⊢
  obtain ⟨o2, B2, v2, e2⟩ := B1.row ⟨_, w1, by simp⟩ (by simp) (g := 964) (κ := 21) (len := 16) hb2 (by decide) (by simp) rfl
  have w2 := v2.trans w1
  rw [← e2]
  exact ⟨B2.1, by decide, by decide, hQ o2 _ (B2.stp kv) ⟨w2, B2.1, by decide, B2.2.2.2.2.2.1, by decide, fun g => (B2.2.2.2.2.2.2 g).trans (hz g)⟩⟩
def lX2 : List (Nat × Nat × Nat) := [(129, 21, 16), (128, 20, 6)]
theorem I_2 {σ : St} {o : Ow} {v s j : Nat} (h0 : okO o σ) (hv : o v = some (3, s, j)) (kv : zK σ v = 3) (hz : ∀ g, zFi σ g v = 0) {Q : St → Prop} (hQ : ∀ o' τ, Sp v o σ o' τ → Obj o' τ (3, s, j) 3 lX2 v → Q τ) : wX2_init 2 22 v σ Q := by
  have B0 : Bld 3 s j v σ o o σ [] := Bld.start kv (by decide) h0
  have w0 := hv
  refine ⟨by decide, by decide, fun b1 hb1 => ?_⟩
  obtain ⟨o1, B1, v1, e1⟩ := B0.row ⟨_, w0, by simp⟩ (by simp) (g := 128) (κ := 20) (len := 6) hb1 (by decide) (by simp) rfl
  have w1 := v1.trans w0
  rw [← e1]
  refine ⟨B1.1, by decide, by decide, fun b2 hb2 => ?_⟩
  rw [← e1] at hb2
  generalize uFr (nA σ b1 20 6) 128 v (some b1) = τ1 at B1 e1 hb2 ⊢
  obtain ⟨o2, B2, v2, e2⟩ := B1.row ⟨_, w1, by simp⟩ (by simp) (g := 129) (κ := 21) (len := 16) hb2 (by decide) (by simp) rfl
  have w2 := v2.trans w1
  rw [← e2]
  exact ⟨B2.1, by decide, by decide, hQ o2 _ (B2.stp kv) ⟨w2, B2.1, by decide, B2.2.2.2.2.2.1, by decide, fun g => (B2.2.2.2.2.2.2 g).trans (hz g)⟩⟩
