/-! the reference: one set's part of the chance -/
theorem shri_sm : ∀ j, j < 32 → ((nI j &&& 31).toBitVec.smod 32).toNat = j := by decide +kernel
theorem shri_bt1 (w : Int32) {j : Nat} (hj : j < 32) : ((w >>> (nI j &&& 31)) &&& 1) = (1 : Int32) ↔ bi w j = true := by
  have e : (w >>> (nI j &&& 31)).toBitVec = w.toBitVec.sshiftRight j := by
    show w.toBitVec.sshiftRight' (((nI j &&& 31).toBitVec).smod 32) = _
    rw [BitVec.sshiftRight_eq', shri_sm j hj]
  rw [← Int32.toBitVec_inj, Int32.toBitVec_and, e]
  show w.toBitVec.sshiftRight j &&& 1#32 = 1#32 ↔ _
  unfold bi
  have b0 : (w.toBitVec.sshiftRight j).getLsbD 0 = w.toBitVec.getLsbD j := by
    rw [BitVec.getLsbD_sshiftRight]
    simp [hj]
  constructor
  · intro h
    have t := congrArg (fun x => x.getLsbD 0) h
    simp only [BitVec.getLsbD_and, b0] at t
    simpa using t
  · intro h
    apply BitVec.eq_of_getLsbD_eq
    intro i hi
    rw [BitVec.getLsbD_and]
    cases i with
    | zero => rw [b0, h]; simp
    | succ i => simp
section KP
variable {ad : Ad} {ct : Ct} {σ : St}
/-- from the fact x on, d facts: the part p times the eighths of the set s -/
def ptE (E : Nat → Int32) (s : Int32) : Nat → Nat → Int64 → Int64
  | 0, _, p => p
  | d + 1, x, p => ptE E s d (x + 1) (p * Int32.toInt64 (if bi s x = true then E x else 8 - E x))
theorem M_part (h : Sh ad ct σ) {n : Nat} (hn : n ≤ 16) (e1 : zFi σ 1062 (ad 17 0 0) = nI n) {E : Nat → Int32} (hE : ∀ x, x < n → zAi σ (ad 1063 0 0) x = E x) {v1 : Int32} {v2 : Int64} {s : Int32} {Q : Int64 → St → Prop} {r5 : Nat → Int32 → Int64 → Int32 → St → Prop} : ∀ (d x : Nat) (p : Int64), x + d = n → r5 (ad 17 0 0) v1 (v2 + ptE E s d x p) (s + 1) σ → lX16_chances_45 Q r5 (d + 1) (ad 17 0 0) v1 v2 s p (nI x) σ
  | 0, x, p, hx, hr => by
    have hx : x = n := by omega
    refine ⟨k17 h, fun _ => hr, fun c => absurd ?_ c⟩
    rw [e1, hx]; exact nI_le (Nat.le_refl _) (by omega)
  | d + 1, x, p, hx, hr => by
    have ex : ix (nI x) = x := nI_clamp (by omega)
    have es : nI x + 1 = nI (x + 1) := (nI_succ x).symm
    have hr : r5 (ad 17 0 0) v1 (v2 + ptE E s d (x + 1) (p * Int32.toInt64 (if bi s x = true then E x else 8 - E x))) (s + 1) σ := hr
    refine ⟨k17 h, fun c => absurd c (by rw [e1]; exact nI_ge (by omega) (by omega)), fun _ => ⟨fun c => ⟨_, p1063 h, k1063 h, by rw [l1063 h]; exact vp_in_nI (by omega) (by decide), ?_⟩, fun c => ⟨_, p1063 h, k1063 h, by rw [l1063 h]; exact vp_in_nI (by omega) (by decide), ?_⟩⟩⟩
    · have hb : ¬ bi s x = true := fun z => c ((shri_bt1 s (by omega)).mpr z)
      rw [if_neg hb] at hr
      rw [ex, es, hE x (by omega)]
      exact M_part h hn e1 hE d (x + 1) _ (by omega) hr
    · have hb : bi s x = true := (shri_bt1 s (by omega)).mp c
      rw [if_pos hb] at hr
      rw [ex, es, hE x (by omega)]
      exact M_part h hn e1 hE d (x + 1) _ (by omega) hr
end KP
