/-! the reference: the ways of an answer among its few facts -/
section KM
variable {ad : Ad} {ct : Ct} {σ : St}
theorem bt_1 : ∀ i, i < 64 → bt 1 i = decide (i = 0) := by decide +kernel
theorem one_or (y : Int64) : y &&& 1 = 0 ∨ y &&& 1 = 1 := by
  cases c : bt y 0 with
  | false =>
    refine Or.inl (bt_ext (fun i hi => ?_))
    rw [bt_and, bt_0, bt_1 i hi]
    by_cases z : i = 0
    · rw [z, c]; rfl
    · rw [decide_eq_false z, Bool.and_false]
  | true =>
    refine Or.inr (bt_ext (fun i hi => ?_))
    rw [bt_and, bt_1 i hi]
    by_cases z : i = 0
    · rw [z, c]; rfl
    · rw [decide_eq_false z, Bool.and_false]
theorem shr_bt1 (w : Int64) {j : Nat} (hj : j < 64) : ((w >>> ((nI j).toInt64 &&& 63)) &&& 1) = 1 ↔ bt w j = true := by
  constructor
  · intro e
    cases c : bt w j with
    | true => rfl
    | false => rw [(shr_bt w hj).mpr c] at e; exact absurd e (by decide)
  · intro e
    rcases one_or (w >>> ((nI j).toInt64 &&& 63)) with z | z
    · rw [(shr_bt w hj).mp z] at e; cases e
    · exact z
def mkN (F : List Nat) (w : Int64) : Nat → Int32
  | 0 => 0
  | n + 1 => if bt w (F.getD n 0) = true then mkN F w n ||| ((1 : Int32) <<< (nI n &&& 31)) else mkN F w n
def FewM (ad : Ad) (ct : Ct) (σ σ' : St) (F : List Nat) (ws : List Int64) (K : Nat) : Prop := FewI ad ct σ σ' F ∧ ∀ m w, m < K → ws[m]? = some w → zAi σ' (ad 1061 0 0) m = mkN F w F.length
theorem FewI.m {σ' : St} (h' : Sh ad ct σ') {F : List Nat} (I : FewI ad ct σ σ' F) (i : Nat) (v : Int32) (n61 : ad 1060 0 0 ≠ ad 1061 0 0) : FewI ad ct σ (uAi σ' (ad 1061 0 0) i v) F := by
  obtain ⟨i1, i2, i3, i4, i5⟩ := I
  refine ⟨i1.uAi _ _ _ (Or.inl (by rw [c1061 h']; decide)), fun g hg => by rw [yFi_uAi]; exact i2 g hg, by rw [yFi_uAi]; exact i3, i4, fun x f hx => ?_⟩
  rw [yAi_uAi, yu2, if_neg (fun z => n61 z.1)]
  exact i5 x f hx
theorem n6061 (h : Sh ad ct σ) : ad 1060 0 0 ≠ ad 1061 0 0 := fun z => by
  have a := c1060 h
  rw [z, c1061 h] at a
  exact absurd a (by decide)
theorem rd901 (h : Sh ad ct σ) {σ' : St} (f : Fr ct S6 σ σ') (i : Nat) : zAj σ' (ad 901 40 0) i = zAj σ (ad 901 40 0) i := ((f _ (by rw [k901 h (by decide)]; decide)).2 (by rw [c901 h (by decide)]; decide)).2.2.2.1 i
theorem rd899 (h : Sh ad ct σ) {σ' : St} (f : Fr ct S6 σ σ') (i : Nat) : zAi σ' (ad 899 40 0) i = zAi σ (ad 899 40 0) i := ((f _ (by rw [k899 h (by decide)]; decide)).2 (by rw [c899 h (by decide)]; decide)).2.2.1 i
theorem F_in (h : Sh ad ct σ) {r wd : Nat} {cl : Bool} {e : Ans} (hr : r < 32) (q : RowAt ad σ 40 r wd cl e) {F : List Nat} (hF : ∀ f ∈ F, f < 60) {k : Nat} {w : Int64} (hw : e.2.1[k]? = some w) {r113 : Nat → Int32 → Int32 → St → Prop} {Q : Int32 → St → Prop} (hgo : ∀ σ', FewM ad ct σ σ' F e.2.1 (k + 1) → r113 (ad 17 0 0) (nI r) (nI (k + 1)) σ') : ∀ (d x : Nat) (σ' : St), x + d = F.length → FewM ad ct σ σ' F e.2.1 k → zAi σ' (ad 1061 0 0) k = mkN F w x → lX16_isFew_138 Q r113 (d + 1) (ad 17 0 0) (nI r) (nI k) (nI x) σ'
  | 0, x, σ', hx, M, e0 => by
    have h' := h.fr6 M.1.1
    have h16 := M.1.2.2.2.1
    have hx : x = F.length := by omega
    refine ⟨k17 h', fun _ => ?_, fun c => absurd ?_ c⟩
    · rw [show nI k + 1 = nI (k + 1) from (nI_succ k).symm]
      refine hgo σ' ⟨M.1, fun m u hm hu => ?_⟩
      by_cases z : m < k
      · exact M.2 m u z hu
      · have : m = k := by omega
        subst this
        rw [hw] at hu
        cases hu
        rw [e0, hx]
    · rw [M.1.2.2.1, hx]; exact nI_le (Nat.le_refl _) (by omega)
  | d + 1, x, σ', hx, M, e0 => by
    have h' := h.fr6 M.1.1
    have h16 := M.1.2.2.2.1
    have hk : k < e.2.1.length := (List.getElem?_eq_some_iff.mp hw).1
    have hk16 := q.2.2.1
    obtain ⟨f, hf⟩ : ∃ f, F[x]? = some f := ⟨_, List.getElem?_eq_getElem (by omega)⟩
    have hf60 : f < 60 := hF f (List.mem_of_getElem? hf)
    have ef := M.1.2.2.2.2 x f hf
    have eg : F.getD x 0 = f := by rw [List.getD_eq_getElem?_getD, hf]; rfl
    have ex : ix (nI x) = x := nI_clamp (by omega)
    have ek : ix (nI k) = k := nI_clamp (by omega)
    have es : nI x + 1 = nI (x + 1) := (nI_succ x).symm
    have ew : zAj σ' (ad 901 40 0) (16 * r + k) = w := (rd901 h M.1.1 _).trans (q.2.2.2.2.1 k w hw)
    have ei : (16 : Int32) * nI r + nI k = nI (16 * r + k) := by rw [show (16 : Int32) = nI 16 from rfl, pk_mul, nI_add]
    have ej : ix (nI (16 * r + k)) = 16 * r + k := nI_clamp (by omega)
    refine ⟨k17 h', fun c => absurd c (by rw [M.1.2.2.1]; exact nI_ge (by omega) (by omega)), fun _ => ⟨_, p1050 h', k15 h' (by decide), _, p901 h' (by decide), k901 h' (by decide), ?_, _, p1060 h', k1060 h', ?_, fun c => ?_, fun c => ⟨_, p1061 h', k1061 h', ?_, ?_⟩⟩⟩
    · rw [l901 h' (by decide), ei]; exact vp_in_nI (by omega) (by decide)
    · rw [l1060 h']; exact vp_in_nI (by omega) (by decide)
    · rw [ei, ej, ex, ew, ef] at c
      have hb : ¬ bt w f = true := fun z => c ((shr_bt1 w (by omega)).mpr z)
      rw [es]
      exact F_in h hr q hF hw hgo d (x + 1) σ' (by omega) M (by rw [e0]; show _ = if _ then _ else _; rw [eg, if_neg hb])
    · rw [l1061 h']; exact vp_in_nI (by omega) (by decide)
    · rw [ei, ej, ex, ew, ef] at c
      have hb : bt w f = true := (shr_bt1 w (by omega)).mp c
      rw [es, ek, e0]
      refine F_in h hr q hF hw hgo d (x + 1) _ (by omega) ⟨M.1.m h' _ _ (n6061 h'), fun m u hm hu => ?_⟩ ?_
      · rw [yAi_uAi, yu2, if_neg (fun z => by have := z.2; omega)]; exact M.2 m u hm hu
      · rw [yAi_uAi, yu2, if_pos ⟨rfl, rfl⟩]
        show _ = if _ then _ else _
        rw [eg, if_pos hb]
end KM
