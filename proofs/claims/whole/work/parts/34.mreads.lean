/-! the reference: sheets read -/
theorem shr_sm : ∀ j, j < 64 → ((((nI j).toInt64 &&& 63).toBitVec).smod 64).toNat = j := by decide +kernel
theorem shr_bt (w : Int64) {j : Nat} (hj : j < 64) : ((w >>> ((nI j).toInt64 &&& 63)) &&& 1) = 0 ↔ bt w j = false := by
  have e : (w >>> ((nI j).toInt64 &&& 63)).toBitVec = w.toBitVec.sshiftRight j := by
    show w.toBitVec.sshiftRight' ((((nI j).toInt64 &&& 63).toBitVec).smod 64) = _
    rw [BitVec.sshiftRight_eq', shr_sm j hj]
  rw [← Int64.toBitVec_inj, Int64.toBitVec_and, e]
  show w.toBitVec.sshiftRight j &&& 1#64 = 0#64 ↔ _
  unfold bt
  have b0 : (w.toBitVec.sshiftRight j).getLsbD 0 = w.toBitVec.getLsbD j := by
    rw [BitVec.getLsbD_sshiftRight]
    simp [hj]
  constructor
  · intro h
    have t := congrArg (fun x => x.getLsbD 0) h
    simp only [BitVec.getLsbD_and, b0] at t
    simpa using t
  · intro h
    apply BitVec.eq_of_getLsbD_eq
    intro i hi
    rw [BitVec.getLsbD_and]
    cases i with
    | zero => rw [b0, h]; simp
    | succ i => simp
section S1
variable {ad : Ad} {ct : Ct} {σ : St}
def MRr (ad : Ad) (σ : St) (s : Nat) (rs : List (List Int32)) (w : Nat) : Prop := zFi σ 896 (ad 15 s 0) = nI rs.length ∧ zFi σ 897 (ad 15 s 0) = nI w ∧ w ≤ 6 ∧ rs.length ≤ 32 ∧ ∀ i r, rs[i]? = some r → r.length = w ∧ ∀ k v, r[k]? = some v → zAi σ (ad 898 s 0) (6 * i + k) = v
theorem MR.rows {s w : Nat} {L : List Ans} {cl : Bool} (q : MR ad σ s L w cl) : MRr ad σ s (L.map (fun e => e.1)) w := by
  obtain ⟨h1, h2, h3, h4, h5⟩ := q
  refine ⟨by rw [List.length_map]; exact h1, h2, h3, by rw [List.length_map]; exact h4, fun i r hr => ?_⟩
  rw [List.getElem?_map] at hr
  cases e : L[i]? with
  | none => rw [e] at hr; cases hr
  | some x =>
    rw [e] at hr
    cases hr
    exact ⟨(h5 i x e).1, (h5 i x e).2.1⟩
theorem S_find (h : Sh ad ct σ) {s w x at_ : Nat} {rs : List (List Int32)} {r : List Int32} (hs : s < 42) (q : MRr ad σ s rs w) (lr : r.length = w) (kx : zK σ x = 20) (lx : at_ + w ≤ zL σ x) (lx2 : zL σ x < 2 ^ 31) (hx : ∀ k v, r[k]? = some v → zAi σ x (at_ + k) = v) {Q : Int32 → St → Prop}
    (h0 : (∀ i : Nat, rs[i]? ≠ some r) → Q (-1) σ) (h1 : ∀ i, i < rs.length → rs[i]? = some r → (∀ j, j < i → rs[j]? ≠ some r) → Q (nI i) σ) : wX14_find (ad 15 s 0) x (nI at_) σ Q := by
  obtain ⟨q1, q2, q3, q4, q5⟩ := q
  have inner : ∀ (r2 : Nat → Nat → Int32 → Int32 → St → Prop) (i : Nat), i < 32 → ∀ (s1 s2 : List Int32) (k : Nat), s1.length = s2.length → k + s1.length = w → (∀ m v, s1[m]? = some v → zAi σ (ad 898 s 0) (6 * i + (k + m)) = v) → (∀ m v, s2[m]? = some v → zAi σ x (at_ + (k + m)) = v) → (s1 = s2 → Q (nI i) σ) → (s1 ≠ s2 → r2 (ad 15 s 0) x (nI at_) (nI (i + 1)) σ) → lX14_find_16 Q r2 (s1.length + 2) (ad 15 s 0) x (nI at_) (nI i) 1 (nI k) σ := by
    intro r2 i hi s1
    induction s1 with
    | nil =>
      intro s2 k e hk b1 b2 g0 g1
      have e : s2 = [] := List.length_eq_zero_iff.mp e.symm
      have hk : k = w := by simpa using hk
      refine ⟨k15 h hs, fun _ => ⟨fun z => absurd z (by decide), fun _ => g0 e.symm⟩, fun c => absurd ?_ c⟩
      rw [q2, hk]
      exact nI_le (Nat.le_refl _) (by omega)
    | cons a s1 ih =>
      intro s2 k e hk b1 b2 g0 g1
      cases s2 with
      | nil => simp at e
      | cons b s2 =>
        rw [List.length_cons] at hk
        have e' : s1.length = s2.length := by simpa using e
        refine ⟨k15 h hs, fun c => absurd c ?_, fun c => ⟨fun z => absurd z (by decide), fun _ => ⟨_, p898 h hs, k898 h hs, ?_, kx, ?_, ?_⟩⟩⟩
        · rw [q2]; exact nI_ge (by omega) (by omega)
        · rw [l898 h hs, show (6 : Int32) = nI 6 from rfl, pk_mul, nI_add]; exact vp_in_nI (by omega) (by decide)
        · rw [nI_add]; exact vp_in_nI (by omega) lx2
        · rw [show (6 : Int32) * nI i + nI k = nI (6 * i + k) by rw [show (6 : Int32) = nI 6 from rfl, pk_mul, nI_add], nI_add, show ix (nI (6 * i + k)) = 6 * i + k from nI_clamp (by omega), show ix (nI (at_ + k)) = at_ + k from nI_clamp (by omega), nI_1, show zAi σ (ad 898 s 0) (6 * i + k) = a from b1 0 a rfl, show zAi σ x (at_ + k) = b from b2 0 b rfl]
          refine ⟨fun c => ?_, fun c => ?_⟩
          · have out : r2 (ad 15 s 0) x (nI at_) (nI (i + 1)) σ := g1 (fun z => c (by cases z; rfl))
            have o64 : wX14_find_64 Q r2 (ad 15 s 0) x (nI at_) (nI i) 0 σ := ⟨fun _ => by rw [nI_1]; exact out, fun z => absurd rfl z⟩
            exact ⟨k15 h hs, fun _ => o64, fun _ => ⟨fun _ => o64, fun z => absurd rfl z⟩⟩
          · subst c
            refine ih s2 (k + 1) e' (by omega) (fun m v hv => ?_) (fun m v hv => ?_) (fun z => g0 (by rw [z])) (fun z => g1 (fun y => z (by cases y; rfl)))
            · rw [show k + 1 + m = k + (m + 1) by omega]; exact b1 (m + 1) v hv
            · rw [show k + 1 + m = k + (m + 1) by omega]; exact b2 (m + 1) v hv
  have outer : ∀ (d i : Nat), i + d = rs.length → (∀ j, j < i → rs[j]? ≠ some r) → lX14_find_2 Q (d + 1) (ad 15 s 0) x (nI at_) (nI i) σ := by
    intro d
    induction d with
    | zero =>
      intro i hi g
      refine ⟨k15 h hs, fun _ => h0 (fun m hm => ?_), fun c => absurd ?_ c⟩
      · have := (List.getElem?_eq_some_iff.mp hm).1
        exact g m (by omega) hm
      · rw [q1]; exact nI_le (by omega) (by omega)
    | succ d ih =>
      intro i hi g
      refine ⟨k15 h hs, fun c => absurd c (by rw [q1]; exact nI_ge (by omega) (by omega)), fun _ => ?_⟩
      have hil : i < rs.length := by omega
      obtain ⟨e1, e2⟩ := q5 i _ (List.getElem?_eq_getElem hil)
      refine ⟨_, inner (lX14_find_2 Q (d + 1)) i (by omega) (rs[i]) r 0 (by omega) (by omega) (fun m v hv => by rw [Nat.zero_add]; exact e2 m v hv) (fun m v hv => by rw [Nat.zero_add]; exact hx m v hv) (fun z => h1 i hil (by rw [List.getElem?_eq_getElem hil, z]) g) (fun z => ih (i + 1) (by omega) (fun j hj => ?_))⟩
      by_cases c : j = i
      · subst c
        rw [List.getElem?_eq_getElem hil]
        exact fun y => z (Option.some.inj y)
      · exact g j (by omega)
  exact ⟨_, outer rs.length 0 (by omega) (fun j hj => absurd hj (Nat.not_lt_zero j))⟩
theorem S_isThere {V : Vt} (h : Sh ad ct σ) (R : Mfs ad σ V.1.2.1) (hl : V.1.2.1.length ≤ 60) (w : Int64) {Q : Int32 → St → Prop} (hQ : Q (zB (there V.1.2.1 w)) σ) : wX16_isThere (ad 17 0 0) w σ Q := by
  have key : ∀ (d k : Nat), k + d = V.1.2.1.length → lX16_isThere_5 Q (d + 1) (ad 17 0 0) w (zB ((List.range k).all (fun f => !bt w f || !drp V.1.2.1 f))) (nI k) σ := by
    intro d
    induction d with
    | zero =>
      intro k hk
      have hk : k = V.1.2.1.length := by simpa using hk
      refine ⟨k17 h, fun _ => ⟨?_, ?_⟩, fun c => absurd ?_ c⟩
      · cases (List.range k).all (fun f => !bt w f || !drp V.1.2.1 f) <;> simp [zB]
      · rw [hk]; exact hQ
      · rw [R.1, hk]; exact nI_le (Nat.le_refl _) (by omega)
    | succ d ih =>
      intro k hk
      have hkl : k < V.1.2.1.length := by omega
      have hn := ih (k + 1) (by omega)
      rw [List.range_succ, List.all_append] at hn
      have e7 := (R.2 k _ (List.getElem?_eq_getElem hkl)).2.2.2.2.2.2
      have ed : drp V.1.2.1 k = (V.1.2.1[k]).2.2.2 := by unfold drp; rw [List.getElem?_eq_getElem hkl]
      have e1 : ([k].all (fun f => !bt w f || !drp V.1.2.1 f)) = (!bt w k || !(V.1.2.1[k]).2.2.2) := by rw [← ed]; simp
      rw [e1] at hn
      refine ⟨k17 h, fun c => absurd c (by rw [R.1]; exact nI_ge (by omega) (by omega)), fun _ => ?_⟩
      rw [nI_1, shr_bt w (by omega), show ix (nI k) = k from nI_clamp (by omega)]
      cases hb : (List.range k).all (fun f => !bt w f || !drp V.1.2.1 f) with
      | false =>
        rw [hb] at hn
        exact ⟨fun _ => hn, fun z => absurd rfl z⟩
      | true =>
        rw [hb] at hn
        refine ⟨fun z => absurd z (by decide), fun _ => ⟨fun c => ?_, fun c => ⟨_, p1038 h, k1038 h, by rw [l1038 h]; exact vp_in_nI (by omega) (by decide), ?_⟩⟩⟩
        · rw [c] at hn; exact hn
        · have c : bt w k = true := by cases e : bt w k; exact absurd e c; rfl
          rw [e7]
          rw [c] at hn
          cases he : (V.1.2.1[k]).2.2.2 with
          | false => rw [he] at hn; exact ⟨fun z => absurd rfl z, fun _ => hn⟩
          | true => rw [he] at hn; exact ⟨fun _ => hn, fun z => absurd z (by decide)⟩
  exact ⟨_, key V.1.2.1.length 0 (by omega)⟩
theorem S_isTrue {V : Vt} (h : Sh ad ct σ) (R : Mfs ad σ V.1.2.1) (hl : V.1.2.1.length ≤ 60) {s r w : Nat} {cl : Bool} {e : Ans} (hs : s < 42) (hr : r < 32) (q : RowAt ad σ s r w cl e) {Q : Int32 → St → Prop} (hQ : Q (zB (e.2.1.any (there V.1.2.1))) σ) : wX16_isTrue (ad 17 0 0) (ad 15 s 0) (nI r) σ Q := by
  obtain ⟨q1, q2, q3, q4, q5, -⟩ := q
  have er : ix (nI r) = r := nI_clamp (by omega)
  have key : ∀ (l : List Int64) (k : Nat) (b : Bool), k + l.length = e.2.1.length → (∀ m v, l[m]? = some v → zAj σ (ad 901 s 0) (16 * r + (k + m)) = v) → Q (zB (b || l.any (there V.1.2.1))) σ → lX16_isTrue_5 Q (l.length + 1) (ad 17 0 0) (ad 15 s 0) (nI r) (zB b) (nI k) σ := by
    intro l
    induction l with
    | nil =>
      intro k b hk ha hq
      have hk : k = e.2.1.length := by simpa using hk
      refine ⟨k15 h hs, _, p899 h hs, k899 h hs, by rw [l899 h hs]; exact vp_in_nI hr (by decide), fun _ => ⟨by cases b <;> simp [zB], by simpa using hq⟩, fun c => absurd ?_ c⟩
      rw [er, q4, hk]; exact nI_le (Nat.le_refl _) (by omega)
    | cons a l ih =>
      intro k b hk ha hq
      rw [List.length_cons] at hk
      refine ⟨k15 h hs, _, p899 h hs, k899 h hs, by rw [l899 h hs]; exact vp_in_nI hr (by decide), fun c => absurd c (by rw [er, q4]; exact nI_ge (by omega) (by omega)), fun _ => ?_⟩
      cases b with
      | true => exact ⟨fun _ => ⟨Or.inr rfl, hq⟩, fun z => absurd z (by decide)⟩
      | false =>
        refine ⟨fun z => absurd rfl z, fun _ => ⟨_, p901 h hs, k901 h hs, ?_, k17 h, ?_⟩⟩
        · rw [l901 h hs, show (16 : Int32) = nI 16 from rfl, pk_mul, nI_add]; exact vp_in_nI (by omega) (by decide)
        · rw [show (16 : Int32) * nI r + nI k = nI (16 * r + k) by rw [show (16 : Int32) = nI 16 from rfl, pk_mul, nI_add], show ix (nI (16 * r + k)) = 16 * r + k from nI_clamp (by omega), nI_1, show zAj σ (ad 901 s 0) (16 * r + k) = a from ha 0 a rfl]
          refine S_isThere h R hl a (ih (k + 1) _ (by omega) (fun m v hv => ?_) ?_)
          · rw [show k + 1 + m = k + (m + 1) by omega]; exact ha (m + 1) v hv
          · rw [List.any_cons, Bool.false_or] at hq; exact hq
  exact ⟨_, key e.2.1 0 false (by omega) (fun m v hv => by rw [Nat.zero_add]; exact q5 m v hv) (by simpa using hQ)⟩
theorem M_isMade (h : Sh ad ct σ) {r w : Nat} {cl : Bool} {e : Ans} (hr : r < 32) (q : RowAt ad σ 40 r w cl e) (X : Int64) {Q : Int32 → St → Prop} (hQ : Q (zB (e.2.1.any (fun u => decide (sb u X)))) σ) : wX16_isMade (ad 17 0 0) (nI r) X σ Q := by
  obtain ⟨q1, q2, q3, q4, q5, -⟩ := q
  have hs : 40 < 42 := by decide
  have er : ix (nI r) = r := nI_clamp (by omega)
  have key : ∀ (l : List Int64) (k : Nat) (b : Bool), k + l.length = e.2.1.length → (∀ m v, l[m]? = some v → zAj σ (ad 901 40 0) (16 * r + (k + m)) = v) → Q (zB (b || l.any (fun u => decide (sb u X)))) σ → lX16_isMade_6 Q (l.length + 1) (ad 17 0 0) (nI r) X (zB b) (nI k) σ := by
    intro l
    induction l with
    | nil =>
      intro k b hk ha hq
      have hk : k = e.2.1.length := by simpa using hk
      refine ⟨k17 h, _, p1050 h, k15 h hs, _, p899 h hs, k899 h hs, by rw [l899 h hs]; exact vp_in_nI hr (by decide), fun _ => ⟨by cases b <;> simp [zB], by simpa using hq⟩, fun c => absurd ?_ c⟩
      rw [er, q4, hk]; exact nI_le (Nat.le_refl _) (by omega)
    | cons a l ih =>
      intro k b hk ha hq
      rw [List.length_cons] at hk
      have ha2 : ∀ m v, l[m]? = some v → zAj σ (ad 901 40 0) (16 * r + (k + 1 + m)) = v := fun m v hv => by rw [show k + 1 + m = k + (m + 1) by omega]; exact ha (m + 1) v hv
      refine ⟨k17 h, _, p1050 h, k15 h hs, _, p899 h hs, k899 h hs, by rw [l899 h hs]; exact vp_in_nI hr (by decide), fun c => absurd c (by rw [er, q4]; exact nI_ge (by omega) (by omega)), fun _ => ?_⟩
      rw [nI_1]
      cases b with
      | true => exact ⟨fun _ => ih (k + 1) true (by omega) ha2 hq, fun z => absurd z (by decide)⟩
      | false =>
        refine ⟨fun z => absurd rfl z, fun _ => ⟨_, p901 h hs, k901 h hs, ?_, ?_⟩⟩
        · rw [l901 h hs, show (16 : Int32) = nI 16 from rfl, pk_mul, nI_add]; exact vp_in_nI (by omega) (by decide)
        · rw [show (16 : Int32) * nI r + nI k = nI (16 * r + k) by rw [show (16 : Int32) = nI 16 from rfl, pk_mul, nI_add], show ix (nI (16 * r + k)) = 16 * r + k from nI_clamp (by omega), show zAj σ (ad 901 40 0) (16 * r + k) = a from ha 0 a rfl]
          rw [List.any_cons, Bool.false_or] at hq
          refine ⟨fun c => ih (k + 1) false (by omega) ha2 ?_, fun c => ih (k + 1) true (by omega) ha2 ?_⟩
          · rw [decide_eq_false c, Bool.false_or] at hq; rw [Bool.false_or]; exact hq
          · rw [decide_eq_true (show sb a X from c), Bool.true_or] at hq; rw [Bool.true_or]; exact hq
  exact ⟨_, key e.2.1 0 false (by omega) (fun m v hv => by rw [Nat.zero_add]; exact q5 m v hv) (by simpa using hQ)⟩
end S1
