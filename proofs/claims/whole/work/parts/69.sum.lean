/-! the reference: the chance as a sum over all sets -/
section KS
variable {ad : Ad} {ct : Ct} {σ : St}
theorem sh_pow : ∀ n, n < 17 → (1 : Int32) <<< (nI n &&& 31) = nI (2 ^ n) := by decide +kernel
def bsE (n : Nat) : Int64 := (1 : Int64) <<< (Int32.toInt64 (3 * (16 - nI n)) &&& 63)
def sumE (F : List Nat) (ws : List Int64) (E : Nat → Int32) : Nat → Nat → Int64 → Int64
  | 0, _, a => a
  | d + 1, t, a => sumE F ws E d (t + 1) (if whl F ws (nI t) = true then a + ptE E (nI t) F.length 0 (bsE F.length) else a)
theorem M_sum (h : Sh ad ct σ) {F : List Nat} {ws : List Int64} (hn : F.length ≤ 16) (hl : ws.length ≤ 16) (e1 : zFi σ 1062 (ad 17 0 0) = nI F.length) (hm : ∀ m w, ws[m]? = some w → zAi σ (ad 1061 0 0) m = mkN F w F.length) {E : Nat → Int32} (hE : ∀ x, x < F.length → zAi σ (ad 1063 0 0) x = E x) {Q : Int64 → St → Prop} : ∀ (d t : Nat) (a : Int64), t + d = 2 ^ F.length → Q (sumE F ws E d t a) σ → lX16_chances_5 Q (d + 1) (ad 17 0 0) (nI ws.length) a (nI t) σ
  | 0, t, a, ht, hq => by
    have h2 : 2 ^ F.length ≤ 2 ^ 16 := Nat.pow_le_pow_right (by decide) hn
    refine ⟨k17 h, fun _ => hq, fun c => absurd ?_ c⟩
    rw [e1, sh_pow _ (by omega)]
    exact nI_le (by omega) (by omega)
  | d + 1, t, a, ht, hq => by
    have h2 : 2 ^ F.length ≤ 2 ^ 16 := Nat.pow_le_pow_right (by decide) hn
    have es : nI t + 1 = nI (t + 1) := (nI_succ t).symm
    have hq : Q (sumE F ws E d (t + 1) (if whl F ws (nI t) = true then a + ptE E (nI t) F.length 0 (bsE F.length) else a)) σ := hq
    refine ⟨k17 h, fun c => absurd c (by rw [e1, sh_pow _ (by omega)]; exact nI_ge (by omega) (by omega)), fun _ => M_whole h hm hl (nI t) ⟨fun z => ⟨k17 h, F.length + 1, ?_⟩, fun z => ?_⟩⟩
    · have hb : whl F ws (nI t) = true := by
        cases c : whl F ws (nI t) with
        | true => rfl
        | false => rw [c] at z; exact absurd rfl z
      rw [if_pos hb] at hq
      rw [e1]
      refine M_part h hn e1 hE F.length 0 _ (by omega) ?_
      rw [es]
      exact M_sum h hn hl e1 hm hE d (t + 1) _ (by omega) hq
    · have hb : ¬ whl F ws (nI t) = true := fun c => by rw [c] at z; exact absurd z (by decide)
      rw [if_neg hb] at hq
      rw [es]
      exact M_sum h hn hl e1 hm hE d (t + 1) a (by omega) hq
theorem M_chances (h : Sh ad ct σ) {F : List Nat} {ws : List Int64} (hn : F.length ≤ 16) (hl : ws.length ≤ 16) (e1 : zFi σ 1062 (ad 17 0 0) = nI F.length) (hm : ∀ m w, ws[m]? = some w → zAi σ (ad 1061 0 0) m = mkN F w F.length) {E : Nat → Int32} (hE : ∀ x, x < F.length → zAi σ (ad 1063 0 0) x = E x) {Q : Int64 → St → Prop} (hQ : Q (sumE F ws E (2 ^ F.length) 0 0) σ) : wX16_chances (ad 17 0 0) (nI ws.length) σ Q :=
  ⟨_, M_sum h hn hl e1 hm hE (2 ^ F.length) 0 0 (by omega) hQ⟩
end KS
