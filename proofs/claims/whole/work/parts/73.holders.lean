/-! the class: the ways that hold a fact -/
section KH
variable {ad : Ad} {ct : Ct} {σ : St}
def hoN (ws : List Int64) (f : Nat) : Nat → Int32
  | 0 => 0
  | n + 1 => if bt (ws.getD n 0) f = true then hoN ws f n ||| ((1 : Int32) <<< (nI n &&& 31)) else hoN ws f n
theorem bi_hoN (ws : List Int64) (f : Nat) : ∀ (n : Nat), n ≤ 32 → ∀ x, bi (hoN ws f n) x = (decide (x < n) && bt (ws.getD x 0) f)
  | 0, _, x => by rw [show decide (x < 0) = false from decide_eq_false (Nat.not_lt_zero _), Bool.false_and]; exact bi_0 x
  | n + 1, hn, x => by
    have ih := bi_hoN ws f n (by omega) x
    show bi (if bt (ws.getD n 0) f = true then hoN ws f n ||| ((1 : Int32) <<< (nI n &&& 31)) else hoN ws f n) x = _
    by_cases c : bt (ws.getD n 0) f = true
    · rw [if_pos c, bi_or, ih, bi_sh1 (by omega)]
      by_cases z : x = n
      · rw [z, c]; simp
      · rw [decide_eq_false z, Bool.or_false]
        congr 1
        exact decide_eq_decide.mpr (by omega)
    · rw [if_neg c, ih]
      have c : bt (ws.getD n 0) f = false := by cases q : bt (ws.getD n 0) f with | true => exact absurd q c | false => rfl
      by_cases z : x = n
      · rw [z, c]; simp
      · congr 1
        exact decide_eq_decide.mpr (by omega)
theorem C_hold (h : Sh ad ct σ) {s j w : Nat} {cl : Bool} {e : Ans} (hs : s < 43) (hj : j < room s) (q : AnsAt ad σ s j w cl e) {f : Nat} (hf : f < 64) {Q : Int32 → St → Prop} (hQ : Q (hoN e.2.1 f e.2.1.length) σ) : wX5_holdersOf (ad 3 s j) (nI f) σ Q := by
  obtain ⟨q1, q2, q3, q4, q5, -⟩ := q
  have key : ∀ (d k : Nat), k + d = e.2.1.length → lX5_holdersOf_4 Q (d + 1) (ad 3 s j) (nI f) (hoN e.2.1 f k) (nI k) σ := by
    intro d
    induction d with
    | zero =>
      intro k hk
      have hk : k = e.2.1.length := by omega
      refine ⟨k3 h hs hj, fun _ => by rw [hk]; exact hQ, fun c => absurd ?_ c⟩
      rw [q4, hk]; exact nI_le (Nat.le_refl _) (by omega)
    | succ d ih =>
      intro k hk
      obtain ⟨u, hu⟩ : ∃ u, e.2.1[k]? = some u := ⟨_, List.getElem?_eq_getElem (by omega)⟩
      have eg : e.2.1.getD k 0 = u := by rw [List.getD_eq_getElem?_getD, hu]; rfl
      have es : nI k + 1 = nI (k + 1) := (nI_succ k).symm
      have hr := ih (k + 1) (by omega)
      rw [show hoN e.2.1 f (k + 1) = if bt (e.2.1.getD k 0) f = true then hoN e.2.1 f k ||| ((1 : Int32) <<< (nI k &&& 31)) else hoN e.2.1 f k from rfl, eg] at hr
      refine ⟨k3 h hs hj, fun c => absurd c (by rw [q4]; exact nI_ge (by omega) (by omega)), fun _ => ⟨_, p129 h hs hj, k129 h hs hj, by rw [l129 h hs hj]; exact vp_in_nI (by omega) (by decide), ?_⟩⟩
      rw [show ix (nI k) = k from nI_clamp (by omega), q5 k u hu, es]
      refine ⟨fun c => ⟨fun _ => ?_, fun z => absurd rfl z⟩, fun c => ⟨fun z => absurd z (by decide), fun _ => ?_⟩⟩
      · rw [if_neg (by rw [(has_bt u hf).mp c]; decide)] at hr
        exact hr
      · have hb : bt u f = true := by
          cases z : bt u f with
          | true => rfl
          | false => exact absurd ((has_bt u hf).mpr z) c
        rw [if_pos hb] at hr
        exact hr
  exact ⟨_, key e.2.1.length 0 (by omega)⟩
end KH
