/-! the reference: is a way within the set -/
section KO
variable {ad : Ad} {ct : Ct} {σ : St}
/-- some way's mask lies within the set -/
def whl (F : List Nat) (ws : List Int64) (s : Int32) : Bool := ws.any (fun w => decide (mkN F w F.length &&& (s ^^^ (-1)) = 0))
theorem M_whole (h : Sh ad ct σ) {F : List Nat} {ws : List Int64} (hm : ∀ m w, ws[m]? = some w → zAi σ (ad 1061 0 0) m = mkN F w F.length) (hl : ws.length ≤ 16) (s : Int32) {Q : Int32 → St → Prop} (hQ : Q (zB (whl F ws s)) σ) : wX16_isWhole (ad 17 0 0) s (nI ws.length) σ Q := by
  have key : ∀ (l : List Int64) (k : Nat) (b : Bool), k + l.length = ws.length → (∀ m v, l[m]? = some v → zAi σ (ad 1061 0 0) (k + m) = mkN F v F.length) → Q (zB (b || whl F l s)) σ → lX16_isWhole_5 Q (l.length + 1) (ad 17 0 0) s (nI ws.length) (zB b) (nI k) σ := by
    intro l
    induction l with
    | nil =>
      intro k b hk ha hq
      have hk : k = ws.length := by simpa using hk
      refine ⟨fun _ => ⟨by cases b <;> simp [zB], by simpa [whl] using hq⟩, fun c => absurd ?_ c⟩
      rw [hk]; exact nI_le (Nat.le_refl _) (by omega)
    | cons a l ih =>
      intro k b hk ha hq
      rw [List.length_cons] at hk
      have ek : ix (nI k) = k := nI_clamp (by omega)
      have ha2 : ∀ m v, l[m]? = some v → zAi σ (ad 1061 0 0) (k + 1 + m) = mkN F v F.length := fun m v hv => by rw [show k + 1 + m = k + (m + 1) by omega]; exact ha (m + 1) v hv
      refine ⟨fun c => absurd c (nI_ge (by omega) (by omega)), fun _ => ⟨fun z => ⟨by cases b <;> simp [zB], ?_⟩, fun z => ⟨k17 h, _, p1061 h, k1061 h, by rw [l1061 h]; exact vp_in_nI (by omega) (by decide), ?_⟩⟩⟩
      · cases b with
        | false => exact absurd rfl z
        | true => rw [Bool.true_or] at hq; exact hq
      · cases b with
        | true => exact absurd z (by decide)
        | false =>
          rw [ek, show zAi σ (ad 1061 0 0) k = mkN F a F.length from ha 0 a rfl, nI_1]
          rw [Bool.false_or] at hq
          unfold whl at hq
          rw [List.any_cons] at hq
          refine ⟨fun c => ih (k + 1) false (by omega) ha2 ?_, fun c => ih (k + 1) true (by omega) ha2 ?_⟩
          · rw [decide_eq_false c, Bool.false_or] at hq; rw [Bool.false_or]; exact hq
          · rw [decide_eq_true c, Bool.true_or] at hq; rw [Bool.true_or]; exact hq
  exact ⟨_, key ws 0 false (by omega) (fun m v hv => by rw [Nat.zero_add]; exact hm m v hv) (by simpa using hQ)⟩
end KO
