/-! the reference: few facts, all told -/
section KN
variable {ad : Ad} {ct : Ct} {σ : St}
theorem fws_60 {all : Int64} {t f : Nat} (h : f ∈ fws all t) : f < t ∧ bt all f = true := by
  unfold fws at h
  rw [List.mem_filter, List.mem_range] at h
  exact h
theorem F_out (h : Sh ad ct σ) {r wd : Nat} {cl : Bool} {e : Ans} (hr : r < 32) (q : RowAt ad σ 40 r wd cl e) {F : List Nat} (hF : ∀ f ∈ F, f < 60) {Q : Int32 → St → Prop} (hgo : ∀ σ', FewM ad ct σ σ' F e.2.1 e.2.1.length → Q 1 σ') : ∀ (d k : Nat) (σ' : St), k + d = e.2.1.length → FewM ad ct σ σ' F e.2.1 k → lX16_isFew_113 Q (d + 1) (ad 17 0 0) (nI r) (nI k) σ'
  | 0, k, σ', hk, M => by
    have h' := h.fr6 M.1.1
    have hk : k = e.2.1.length := by omega
    have h16 := q.2.2.1
    have er : ix (nI r) = r := nI_clamp (by omega)
    refine ⟨k17 h', _, p1050 h', k15 h' (by decide), _, p899 h' (by decide), k899 h' (by decide), by rw [l899 h' (by decide)]; exact vp_in_nI hr (by decide), fun _ => hgo σ' (by rw [← hk]; exact M), fun c => absurd ?_ c⟩
    rw [er, rd899 h M.1.1, q.2.2.2.1, hk]; exact nI_le (Nat.le_refl _) (by omega)
  | d + 1, k, σ', hk, M => by
    have h' := h.fr6 M.1.1
    have h16 := q.2.2.1
    have er : ix (nI r) = r := nI_clamp (by omega)
    have ek : ix (nI k) = k := nI_clamp (by omega)
    obtain ⟨w, hw⟩ : ∃ w, e.2.1[k]? = some w := ⟨_, List.getElem?_eq_getElem (by omega)⟩
    refine ⟨k17 h', _, p1050 h', k15 h' (by decide), _, p899 h' (by decide), k899 h' (by decide), by rw [l899 h' (by decide)]; exact vp_in_nI hr (by decide), fun c => absurd c (by rw [er, rd899 h M.1.1, q.2.2.2.1]; exact nI_ge (by omega) (by omega)), fun _ => ⟨_, p1061 h', k1061 h', by rw [l1061 h']; exact vp_in_nI (by omega) (by decide), F.length + 1, ?_⟩⟩
    rw [ek]
    refine F_in h hr q hF hw (fun σ2 M2 => F_out h hr q hF hgo d (k + 1) σ2 (by omega) M2) F.length 0 _ (by omega) ⟨M.1.m h' _ _ (n6061 h'), fun m u hm hu => ?_⟩ ?_
    · rw [yAi_uAi, yu2, if_neg (fun z => by have := z.2; omega)]; exact M.2 m u hm hu
    · rw [yAi_uAi, yu2, if_pos ⟨rfl, rfl⟩]; rfl
theorem M_few (h : Sh ad ct σ) {r wd : Nat} {cl : Bool} {e : Ans} (hr : r < 32) (q : RowAt ad σ 40 r wd cl e) {Q : Int32 → St → Prop} (hno : ∀ σ', Fr ct S6 σ σ' → (∀ g, g ≠ 1062 → zFi σ' g (ad 17 0 0) = zFi σ g (ad 17 0 0)) → 16 < (fws (anyW e) 60).length → Q 0 σ') (hgo : ∀ σ', FewM ad ct σ σ' (fws (anyW e) 60) e.2.1 e.2.1.length → Q 1 σ') : wX16_isFew (ad 17 0 0) (nI r) σ Q := by
  have q' := q
  obtain ⟨q1, q2, q3, q4, q5, -⟩ := q
  have er : ix (nI r) = r := nI_clamp (by omega)
  have fin : ∃ f, lX16_isFew_51 Q f (ad 17 0 0) (nI r) (anyW e) 0 (uFi σ 1062 (ad 17 0 0) 0) := by
    refine ⟨61, F_col h (anyW e) (fun σ' t I z => hno σ' I.1 I.2.1 z) (fun σ' I => ⟨e.2.1.length + 1, F_out h hr q' (fun f hf => (fws_60 hf).1) hgo e.2.1.length 0 σ' (by omega) ⟨I, fun m w hm => absurd hm (Nat.not_lt_zero _)⟩⟩) 60 0 _ (by decide) ⟨Fr.rf.uFi _ _ _ (Or.inl (by rw [c17 h]; decide)), fun g hg => ?_, ?_, Nat.zero_le _, fun x f hx => ?_⟩⟩
    · rw [yFi_uFi, yu2, if_neg (fun z => hg z.1)]
    · rw [yFi_uFi, yu2, if_pos ⟨rfl, rfl⟩]; rfl
    · rw [show fws (anyW e) 0 = [] from rfl, List.getElem?_nil] at hx; cases hx
  have key : ∀ (l : List Int64) (k : Nat) (x : Int64), k + l.length = e.2.1.length → (∀ m v, l[m]? = some v → zAj σ (ad 901 40 0) (16 * r + (k + m)) = v) → l.foldl (fun x y => x ||| y) x = anyW e → lX16_isFew_5 Q (l.length + 1) (ad 17 0 0) (nI r) x (nI k) σ := by
    intro l
    induction l with
    | nil =>
      intro k x hk ha hq
      have hk : k = e.2.1.length := by simpa using hk
      have hq : x = anyW e := hq
      refine ⟨k17 h, _, p1050 h, k15 h (by decide), _, p899 h (by decide), k899 h (by decide), by rw [l899 h (by decide)]; exact vp_in_nI hr (by decide), fun _ => by rw [hq]; exact fin, fun c => absurd ?_ c⟩
      rw [er, q4, hk]; exact nI_le (Nat.le_refl _) (by omega)
    | cons a l ih =>
      intro k x hk ha hq
      rw [List.length_cons] at hk
      refine ⟨k17 h, _, p1050 h, k15 h (by decide), _, p899 h (by decide), k899 h (by decide), by rw [l899 h (by decide)]; exact vp_in_nI hr (by decide), fun c => absurd c (by rw [er, q4]; exact nI_ge (by omega) (by omega)), fun _ => ⟨_, p901 h (by decide), k901 h (by decide), ?_, ?_⟩⟩
      · rw [l901 h (by decide), show (16 : Int32) = nI 16 from rfl, pk_mul, nI_add]; exact vp_in_nI (by omega) (by decide)
      · rw [show (16 : Int32) * nI r + nI k = nI (16 * r + k) by rw [show (16 : Int32) = nI 16 from rfl, pk_mul, nI_add], show ix (nI (16 * r + k)) = 16 * r + k from nI_clamp (by omega), nI_1, show zAj σ (ad 901 40 0) (16 * r + k) = a from ha 0 a rfl]
        refine ih (k + 1) _ (by omega) (fun m v hv => ?_) hq
        rw [show k + 1 + m = k + (m + 1) by omega]; exact ha (m + 1) v hv
  exact ⟨_, key e.2.1 0 0 (by omega) (fun m v hv => by rw [Nat.zero_add]; exact q5 m v hv) rfl⟩
/-- the ways of a told answer hold facts below 60 alone: both sides count the same facts -/
theorem anyW_bt : ∀ (l : List Int64) (x : Int64) (i : Nat), bt (l.foldl (fun x y => x ||| y) x) i = (bt x i || l.any (fun w => bt w i))
  | [], x, i => by simp
  | a :: l, x, i => by
    show bt (l.foldl (fun x y => x ||| y) (x ||| a)) i = _
    rw [anyW_bt l (x ||| a) i, bt_or, List.any_cons, Bool.or_assoc]
theorem bits_fws {V : Vt} (W : WFv V) {n : Nat} {e : Ans} (he : V.2.2.1.1[n]? = some e) : bits (anyW e) = fws (anyW e) 60 := by
  have hl : V.1.2.1.length ≤ 60 := W.1.wf.2.2.1
  have hw := (W.2.2.2.2.2 e (List.mem_of_getElem? he)).2.2.2.2.2.1
  unfold bits fws
  rw [show (64 : Nat) = 60 + 4 from rfl, List.range_add, List.filter_append]
  have : List.filter (fun i => bt (anyW e) i) (List.map (fun x => 60 + x) (List.range 4)) = [] := by
    rw [List.filter_eq_nil_iff]
    intro i hi
    obtain ⟨j, _, rfl⟩ := List.mem_map.mp hi
    unfold anyW
    rw [anyW_bt, bt_0, Bool.false_or]
    intro z
    obtain ⟨w, w1, w2⟩ := List.any_eq_true.mp z
    rw [hw w w1 (60 + j) (by omega)] at w2
    cases w2
  rw [this, List.append_nil]
end KN
