/-! the class: the parts from a fact on, as a function -/
section KQ
variable {ad : Ad} {ct : Ct} {σ : St}
/-- n facts, their eighths E, their holders H, the ways that end En; d: the depth left -/
def pF (n : Nat) (E H En : Nat → Int32) : Nat → Nat → Int32 → Int64
  | 0, _, _ => 0
  | d + 1, f, al =>
    if al = 0 then 0 else if ¬ al &&& En f = 0 ∨ f = n then (1 : Int64) <<< (Int32.toInt64 (3 * (16 - nI f)) &&& 63)
    else if al &&& H f = 0 then 8 * pF n E H En d (f + 1) al
    else (if E f ≤ 0 then 0 else 0 + Int32.toInt64 (E f) * pF n E H En d (f + 1) al) + (if 8 ≤ E f then 0 else Int32.toInt64 (8 - E f) * pF n E H En d (f + 1) (al &&& (H f ^^^ (-1))))
theorem C_parts (h : Sh ad ct σ) {n : Nat} (hn : n ≤ 16) (e1 : zFi σ 323 (ad 6 0 0) = nI n) {E H En : Nat → Int32} (hE : ∀ x, x < n → zAi σ (ad 320 0 0) x = E x) (hH : ∀ x, x < n → zAi σ (ad 321 0 0) x = H x) (hD : ∀ x, x ≤ n → zAi σ (ad 322 0 0) x = En x) : ∀ (d f : Nat) (al : Int32) (Q : Int64 → St → Prop), f ≤ n → n < f + d → Q (pF n E H En d f al) σ → wX5_partsFrom d (ad 6 0 0) (nI f) al σ Q
  | 0, f, al, Q, h1, h2, hq => absurd h2 (by omega)
  | d + 1, f, al, Q, h1, h2, hq => by
    have ef : ix (nI f) = f := nI_clamp (by omega)
    have es : nI f + 1 = nI (f + 1) := (nI_succ f).symm
    have ih := C_parts h hn e1 hE hH hD d (f + 1)
    have hq : Q (if al = 0 then 0 else if ¬ al &&& En f = 0 ∨ f = n then (1 : Int64) <<< (Int32.toInt64 (3 * (16 - nI f)) &&& 63) else if al &&& H f = 0 then 8 * pF n E H En d (f + 1) al else (if E f ≤ 0 then 0 else 0 + Int32.toInt64 (E f) * pF n E H En d (f + 1) al) + (if 8 ≤ E f then 0 else Int32.toInt64 (8 - E f) * pF n E H En d (f + 1) (al &&& (H f ^^^ (-1))))) σ := hq
    show wX5_partsFrom_0 (wX5_partsFrom d) Q (ad 6 0 0) (nI f) al σ
    refine ⟨fun c => by rw [if_pos c] at hq; exact hq, fun c => ⟨k6 h, fun _ => ⟨_, p322 h, k322 h, by rw [l322 h]; exact vp_in_nI (by omega) (by decide), ?_⟩, fun c2 => absurd (by rw [e1]; exact nI_le h1 (by omega)) c2⟩⟩
    rw [if_neg c] at hq
    rw [ef, hD f h1, e1]
    refine ⟨fun c2 => by rw [if_pos (Or.inl c2)] at hq; exact hq, fun c2 => ⟨fun c3 => ?_, fun c3 => ?_⟩⟩
    · have hfn : f ≠ n := fun z => c3 (by rw [z])
      rw [if_neg (fun z => z.elim (fun z => z c2) hfn)] at hq
      refine ⟨_, p321 h, k321 h, by rw [l321 h]; exact vp_in_nI (by omega) (by decide), ?_⟩
      rw [hH f (by omega), es]
      have k96 : ∀ (p : Int64), Q (p + (if 8 ≤ E f then 0 else Int32.toInt64 (8 - E f) * pF n E H En d (f + 1) (al &&& (H f ^^^ (-1))))) σ → wX5_partsFrom_96 (wX5_partsFrom d) Q (ad 6 0 0) (nI f) al p σ := fun p hp => by
        refine ⟨k6 h, _, p320 h, k320 h, by rw [l320 h]; exact vp_in_nI (by omega) (by decide), ?_⟩
        rw [ef, hE f (by omega)]
        refine ⟨fun c4 => by rw [if_pos c4, Int64.add_zero] at hp; exact hp, fun c4 => ⟨_, p321 h, k321 h, by rw [l321 h]; exact vp_in_nI (by omega) (by decide), ?_⟩⟩
        rw [if_neg c4] at hp
        rw [hH f (by omega), es]
        exact ih _ _ (by omega) (by omega) hp
      refine ⟨fun c4 => ⟨_, p320 h, k320 h, by rw [l320 h]; exact vp_in_nI (by omega) (by decide), ?_⟩, fun c4 => ?_⟩
      · rw [if_neg c4] at hq
        rw [hE f (by omega)]
        refine ⟨fun c5 => k96 0 (by rw [if_pos c5] at hq; exact hq), fun c5 => ih _ _ (by omega) (by omega) (k96 _ (by rw [if_neg c5] at hq; exact hq))⟩
      · rw [if_pos c4] at hq
        exact ih _ _ (by omega) (by omega) hq
    · have hfn : f = n := by
        have e := congrArg Int32.toInt c3
        rw [nI_toInt (by omega), nI_toInt (by omega)] at e
        omega
      rw [if_pos (Or.inr hfn)] at hq
      exact hq
end KQ
