/-! the reference's sum over all sets, and both at once -/
section KV
theorem bi_nI (t : Nat) {x : Nat} (hx : x < 32) : bi (nI t) x = decide (t / 2 ^ x % 2 = 1) := by
  unfold bi
  show (BitVec.ofNat 32 t).getLsbD x = _
  rw [BitVec.getLsbD_ofNat, Nat.testBit_eq_decide_div_mod_eq, decide_eq_true hx, Bool.true_and]
theorem dv2 (t x : Nat) : t / 2 ^ x / 2 = t / 2 ^ (x + 1) := by rw [Nat.div_div_eq_div_mul, Nat.pow_succ]
theorem inE_bi (hh : Nat → Nat → Bool) (k t : Nat) {n : Nat} (hn : n ≤ 16) : ∀ (d x : Nat), x + d = n → (inE hh k d x (t / 2 ^ x) = true ↔ ∀ y, x ≤ y → y < n → hh k y = true → bi (nI t) y = true)
  | 0, x, hx => by
    constructor
    · intro _ y h1 h2; omega
    · intro _; rfl
  | d + 1, x, hx => by
    show ((!hh k x || decide (t / 2 ^ x % 2 = 1)) && inE hh k d (x + 1) (t / 2 ^ x / 2)) = true ↔ _
    rw [dv2, Bool.and_eq_true, inE_bi hh k t hn d (x + 1) (by omega), ← bi_nI t (by omega)]
    constructor
    · intro h y h1 h2 h3
      by_cases z : y = x
      · subst z
        have := h.1
        rw [h3] at this
        simpa using this
      · exact h.2 y (by omega) h2 h3
    · intro h
      refine ⟨?_, fun y h1 h2 h3 => h y (by omega) h2 h3⟩
      cases c : hh k x with
      | false => rfl
      | true => rw [h x (Nat.le_refl _) (by omega) c]; rfl
theorem ptE_pr (E : Nat → Int32) (t : Nat) : ∀ (d x : Nat) (p : Int64), x + d ≤ 32 → ptE E (nI t) d x p = p * prE (fun x => Int32.toInt64 (E x)) (fun x => Int32.toInt64 (8 - E x)) d x (t / 2 ^ x)
  | 0, x, p, _ => by
    show p = p * 1
    rw [Int64.mul_one]
  | d + 1, x, p, hx => by
    show ptE E (nI t) d (x + 1) (p * Int32.toInt64 (if bi (nI t) x = true then E x else 8 - E x)) = p * ((if t / 2 ^ x % 2 = 1 then Int32.toInt64 (E x) else Int32.toInt64 (8 - E x)) * prE (fun x => Int32.toInt64 (E x)) (fun x => Int32.toInt64 (8 - E x)) d (x + 1) (t / 2 ^ x / 2))
    rw [ptE_pr E t d (x + 1) _ (by omega), dv2, bi_nI t (by omega), Int64.mul_assoc]
    by_cases c : t / 2 ^ x % 2 = 1
    · rw [decide_eq_true c, if_pos rfl, if_pos c]
    · rw [decide_eq_false c, if_neg (by decide), if_neg c]
theorem sumE_sm (F : List Nat) (ws : List Int64) (E : Nat → Int32) : ∀ (d t : Nat), sumE F ws E d t (smE (fun t => if whl F ws (nI t) = true then ptE E (nI t) F.length 0 (bsE F.length) else 0) t) = smE (fun t => if whl F ws (nI t) = true then ptE E (nI t) F.length 0 (bsE F.length) else 0) (t + d)
  | 0, t => rfl
  | d + 1, t => by
    rw [show t + (d + 1) = t + 1 + d by omega, ← sumE_sm F ws E d (t + 1)]
    show sumE F ws E d (t + 1) (if whl F ws (nI t) = true then _ + ptE E (nI t) F.length 0 (bsE F.length) else _) = sumE F ws E d (t + 1) (smE _ t + (if whl F ws (nI t) = true then ptE E (nI t) F.length 0 (bsE F.length) else 0))
    by_cases c : whl F ws (nI t) = true
    · rw [if_pos c, if_pos c]
    · rw [if_neg c, if_neg c, Int64.add_zero]
theorem sumE_gE (F : List Nat) (ws : List Int64) (E : Nat → Int32) (hn : F.length ≤ 16) : sumE F ws E (2 ^ F.length) 0 0 = gE (fun x => Int32.toInt64 (E x)) (fun x => Int32.toInt64 (8 - E x)) (fun k x => bt (ws.getD k 0) (F.getD x 0)) (bsE F.length) F.length 0 (List.range ws.length) := by
  have e := sumE_sm F ws E (2 ^ F.length) 0
  rw [Nat.zero_add] at e
  refine Eq.trans e ?_
  rw [← gE_sum]
  refine smE_cg (fun t ht => ?_)
  have w : whl F ws (nI t) = (List.range ws.length).any (fun k => inE (fun k x => bt (ws.getD k 0) (F.getD x 0)) k F.length 0 t) := by
    rw [Bool.eq_iff_iff]
    unfold whl
    rw [List.any_eq_true, List.any_eq_true]
    have iff : ∀ k, inE (fun k x => bt (ws.getD k 0) (F.getD x 0)) k F.length 0 t = true ↔ ∀ x, x < F.length → bt (ws.getD k 0) (F.getD x 0) = true → bi (nI t) x = true := fun k => by
      have := inE_bi (fun k x => bt (ws.getD k 0) (F.getD x 0)) k t hn F.length 0 (by omega)
      rw [Nat.pow_zero, Nat.div_one] at this
      rw [this]
      exact ⟨fun h x hx => h x (Nat.zero_le _) hx, fun h x _ hx => h x hx⟩
    constructor
    · rintro ⟨u, hu, hd⟩
      obtain ⟨k, hk, rfl⟩ := List.mem_iff_getElem.mp hu
      refine ⟨k, List.mem_range.mpr hk, (iff k).mpr ?_⟩
      have eg : ws.getD k 0 = ws[k] := by rw [List.getD_eq_getElem?_getD, List.getElem?_eq_getElem hk]; rfl
      rw [eg]
      exact (mk_in F _ hn _).mp (of_decide_eq_true hd)
    · rintro ⟨k, hk, hd⟩
      have hk := List.mem_range.mp hk
      have eg : ws.getD k 0 = ws[k] := by rw [List.getD_eq_getElem?_getD, List.getElem?_eq_getElem hk]; rfl
      refine ⟨ws[k], List.getElem_mem hk, decide_eq_true ((mk_in F _ hn _).mpr ?_)⟩
      rw [← eg]
      exact (iff k).mp hd
  show (if whl F ws (nI t) = true then ptE E (nI t) F.length 0 (bsE F.length) else 0) = _
  rw [w, ptE_pr E t F.length 0 _ (by omega), Nat.pow_zero, Nat.div_one]
theorem opn_bi (n : Nat) (H : Nat → Int32) (k : Nat) : ∀ (d : Nat), d ≤ n → bi (opn n H d) k = false → ∀ y, n - d ≤ y → y < n → bi (H y) k = false
  | 0, _, _, y, h1, h2 => by omega
  | d + 1, hd, e, y, h1, h2 => by
    have e : bi (opn n H d ||| H (n - (d + 1))) k = false := e
    rw [bi_or, Bool.or_eq_false_iff] at e
    by_cases z : y = n - (d + 1)
    · rw [z]; exact e.2
    · exact opn_bi n H k d (by omega) e.1 y (by omega) h2
theorem all_bi : ∀ m, m < 17 → ∀ k, k < 32 → bi (((1 : Int32) <<< (nI m &&& 31)) - 1) k = decide (k < m) := by decide +kernel
theorem eiF_9 {V : Vt} (W : WFv V) {f : Nat} (hf : f < V.1.2.1.length) : ∃ k, k < 9 ∧ eiF V.1.2.1 f = nI k := by
  have hw := (W.1.wf.2.2.2.1 f _ (List.getElem?_eq_getElem hf)).2 3 (by decide)
  unfold eiF
  rw [List.getElem?_eq_getElem hf]
  show ∃ k, k < 9 ∧ ((V.1.2.1[f]).2.2.1 3).toInt32 = nI k
  generalize (V.1.2.1[f]).2.2.1 3 = v at hw
  have h2 : v ≤ 8 := hw.2
  have h1 := hw.1
  rw [Int64.lt_iff_toInt_lt] at h1
  rw [Int64.le_iff_toInt_le] at h2
  have h1 : ¬ v.toInt < 0 := h1
  have h2 : v.toInt ≤ 8 := h2
  refine ⟨v.toInt.toNat, by omega, ?_⟩
  apply Int32.toInt_inj.mp
  rw [nI_toInt (by omega), Int64.toInt_toInt32, Int.toNat_of_nonneg (by omega)]
  exact Int.bmod_eq_of_le (by omega) (by omega)
/-- the class's chance is the reference's sum -/
theorem chC_sum {V : Vt} (W : WFv V) {n : Nat} {e : Ans} (he : V.2.2.1.1[n]? = some e) (hb : (fws (anyW e) 60).length ≤ 16) (ch oe : Int32) (hoe : ∃ k, k < 9 ∧ oe = nI k) : chC V.1.2.1 e ch oe = sumE (fws (anyW e) 60) e.2.1 (fun x => eiC V.1.2.1 ch oe ((fws (anyW e) 60).getD x 0)) (2 ^ (fws (anyW e) 60).length) 0 0 := by
  have hm : e.2.1.length ≤ 16 := (W.2.2.2.2.2 e (List.mem_of_getElem? he)).2.1
  rw [sumE_gE _ _ _ hb]
  unfold chC
  have hl : liv e.2.1.length (((1 : Int32) <<< (nI e.2.1.length &&& 31)) - 1) = List.range e.2.1.length := by
    unfold liv
    rw [List.filter_eq_self]
    intro k hk
    rw [List.mem_range] at hk
    rw [all_bi _ (by omega) k (by omega), decide_eq_true hk]
  rw [← hl]
  refine pF_gE (hh := fun k x => bt (e.2.1.getD k 0) ((fws (anyW e) 60).getD x 0)) hb hm (fun x hx => ?_) (fun x hx k => bi_hoN _ _ _ (by omega) k) (fun x hx k hk h0 y h1 h2 => ?_) _ 0 18 _ (by omega) (by omega) (fun k hk => ?_)
  · show ∃ k, k < 9 ∧ eiC V.1.2.1 ch oe ((fws (anyW e) 60).getD x 0) = nI k
    unfold eiC
    by_cases c : nI ((fws (anyW e) 60).getD x 0) = ch
    · rw [if_pos c]; exact hoe
    · rw [if_neg c]
      refine eiF_9 W (fws_fs W he ?_)
      rw [List.getD_eq_getElem?_getD, List.getElem?_eq_getElem hx]
      exact List.getElem_mem hx
  · have h0 : bi (opn _ (fun x => hoN e.2.1 ((fws (anyW e) 60).getD x 0) e.2.1.length) ((fws (anyW e) 60).length - x) ^^^ (-1)) k = true := h0
    rw [bi_not _ hk, Bool.not_eq_true'] at h0
    exact opn_bi _ _ k _ (by omega) h0 y (by omega) h2
  · by_cases z : k < 32
    · rw [all_bi _ (by omega) k z] at hk
      exact of_decide_eq_true hk
    · rw [bi_big (by omega)] at hk; cases hk
end KV
