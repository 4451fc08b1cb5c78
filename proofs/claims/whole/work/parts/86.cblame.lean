/-! the class: blame -/
section LF
variable {ad : Ad} {ct : Ct} {σ : St}
/-- of the ways without the fact g, what w does not hold -/
def oth (ws : List Int64) (g : Nat) (w : Int64) : List Int64 := (ws.filter (fun x => !bt x g)).map (fun x => x &&& (w ^^^ (-1)))
theorem oth_s (ws : List Int64) (g : Nat) (w : Int64) {k : Nat} {x : Int64} (hx : ws[k]? = some x) : oth (ws.take (k + 1)) g w = oth (ws.take k) g w ++ (if bt x g = true then [] else [x &&& (w ^^^ (-1))]) := by
  unfold oth
  rw [List.take_add_one, hx, List.filter_append, List.map_append]
  congr 1
  show ([x].filter (fun x => !bt x g)).map _ = _
  cases c : bt x g with
  | true => simp [c]
  | false => simp [c]
theorem oth_len (ws : List Int64) (g : Nat) (w : Int64) (k : Nat) : (oth (ws.take k) g w).length ≤ k := by
  unfold oth
  rw [List.length_map]
  have := List.length_filter_le (fun x => !bt x g) (ws.take k)
  rw [List.length_take] at this
  omega
theorem C_oth (h : Sh ad ct σ) {j w : Nat} {cl : Bool} {e : Ans} (hj : j < room 42) (q : AnsAt ad σ 42 j w cl e) {g : Nat} (hg : g < 60) (W : Int64) (h0 : ∀ s ∈ oth e.2.1 g W, s ≠ 0) (h60 : ∀ s ∈ oth e.2.1 g W, ∀ i, 60 ≤ i → bt s i = false) {Q : Int32 → St → Prop} (hQ : ∀ B σ2, Fr ct SW σ σ2 → Lst (oth e.2.1 g W) B → Q (nI (sz B)) σ2) : wX8_othersToGo (ad 9 0 0) (ad 3 42 j) (nI g) W σ Q := by
  have q3 := q.2.2.1
  have key : ∀ (d k : Nat) (σ' : St), k + d = e.2.1.length → HitI ad ct σ σ' (oth (e.2.1.take k) g W) → lX8_othersToGo_8 Q (d + 1) (ad 9 0 0) (ad 3 42 j) (nI g) W (nI k) σ' := by
    intro d
    induction d with
    | zero =>
      intro k σ' hk I
      have hk : k = e.2.1.length := by omega
      have h' := h.frC (I.1.mono SW_SC)
      have q' := q.w h hj I.1
      rw [hk, List.take_length] at I
      refine ⟨k3 h' (by decide) hj, fun _ => ⟨k9 h', C_small h h0 h60 I (fun B σ2 I2 L => pop_eq B (hQ B σ2 I2.1 L))⟩, fun c => absurd ?_ c⟩
      rw [q'.2.2.2.1, hk]; exact nI_le (Nat.le_refl _) (by omega)
    | succ d ih =>
      intro k σ' hk I
      have h' := h.frC (I.1.mono SW_SC)
      have q' := q.w h hj I.1
      obtain ⟨u, hu⟩ : ∃ u, e.2.1[k]? = some u := ⟨_, List.getElem?_eq_getElem (by omega)⟩
      have es := oth_s e.2.1 g W hu
      have ln := oth_len e.2.1 g W k
      have ek : ix (nI k) = k := nI_clamp (by omega)
      have eu := q'.2.2.2.2.1 k u hu
      refine ⟨k3 h' (by decide) hj, fun c => absurd c (by rw [q'.2.2.2.1]; exact nI_ge (by omega) (by omega)), fun _ => ⟨_, p129 h' (by decide) hj, k129 h' (by decide) hj, by rw [l129 h' (by decide) hj]; exact vp_in_nI (by omega) (by decide), ?_⟩⟩
      rw [ek, eu, nI_1]
      refine ⟨fun c => ⟨fun z => absurd rfl z, fun _ => ⟨k9 h', _, p512 h', k3 h' (by decide) hj, _, p129 h' (by decide) hj, k129 h' (by decide) hj, by rw [l129 h' (by decide) hj]; exact vp_in_nI (by omega) (by decide), k512 h', by rw [I.2.1, l512 h']; exact vp_in_nI (by omega) (by decide), ?_⟩⟩, fun c => ⟨fun _ => ?_, fun z => absurd z (by decide)⟩⟩
      · have hb := (has_bt u (by omega)).mp c
        rw [if_neg (by rw [hb]; decide)] at es
        rw [eu, I.2.1, show ix (nI (oth (e.2.1.take k) g W).length) = (oth (e.2.1.take k) g W).length from nI_clamp (by omega), nI_1]
        refine ih (k + 1) _ (by omega) ?_
        rw [es]
        refine ⟨(I.1.uAj _ _ _ (Or.inl (by rw [c512 h']; decide))).uFi _ _ _ (Or.inl (by rw [c9 h']; decide)), ?_, by rw [List.length_append, List.length_singleton]; omega, fun m s hm => ?_⟩
        · rw [yFi_uFi, yu2, if_pos ⟨rfl, rfl⟩, List.length_append, List.length_singleton]
        · rw [yAj_uFi, yAj_uAj, yu2]
          by_cases z : m = (oth (e.2.1.take k) g W).length
          · rw [if_pos ⟨rfl, z⟩]
            rw [z, List.getElem?_append_right (Nat.le_refl _), Nat.sub_self] at hm
            exact Option.some.inj hm
          · rw [if_neg (fun y => z y.2)]
            have hl := (List.getElem?_eq_some_iff.mp hm).1
            rw [List.length_append, List.length_singleton] at hl
            rw [List.getElem?_append_left (by omega)] at hm
            exact I.2.2.2 m s hm
      · have hb : bt u g = true := by
          cases y : bt u g with
          | true => rfl
          | false => exact absurd ((has_bt u (by omega)).mpr y) c
        rw [if_pos hb, List.append_nil] at es
        exact ih (k + 1) σ' (by omega) (by rw [es]; exact I)
  refine ⟨k9 h, _, key e.2.1.length 0 _ (by omega) ⟨Fr.rf.uFi _ _ _ (Or.inl (by rw [c9 h]; decide)), ?_, Nat.zero_le _, fun m s hm => ?_⟩⟩
  · rw [yFi_uFi, yu2, if_pos ⟨rfl, rfl⟩]; rfl
  · rw [show oth (e.2.1.take 0) g W = [] from rfl, List.getElem?_nil] at hm; cases hm
/-- the fewest that go, over these ways -/
def BlaI (ws l : List Int64) (g f : Nat) : Prop := f ≤ 60 ∧ (f = 60 ∨ ∃ w ∈ l, bt w g = true ∧ ∃ B, Lst (oth ws g w) B ∧ f = sz B) ∧ ∀ w ∈ l, bt w g = true → ∀ B, Lst (oth ws g w) B → f ≤ sz B
theorem C_blameOf (h : Sh ad ct σ) {j w : Nat} {cl : Bool} {e : Ans} (hj : j < room 42) (q : AnsAt ad σ 42 j w cl e) {g : Nat} (hg : g < 60) (h0 : ∀ w ∈ e.2.1, bt w g = true → ∀ s ∈ oth e.2.1 g w, s ≠ 0) (h60 : ∀ w ∈ e.2.1, ∀ s ∈ oth e.2.1 g w, ∀ i, 60 ≤ i → bt s i = false) {Q : Int32 → St → Prop} (hQ : ∀ f σ2, Fr ct SW σ σ2 → BlaI e.2.1 e.2.1 g f → Q (nI f) σ2) : wX8_blameOf (ad 9 0 0) (ad 3 42 j) (nI g) σ Q := by
  have q3 := q.2.2.1
  have key : ∀ (d k f : Nat) (σ' : St), k + d = e.2.1.length → Fr ct SW σ σ' → BlaI e.2.1 (e.2.1.take k) g f → lX8_blameOf_6 Q (d + 1) (ad 9 0 0) (ad 3 42 j) (nI g) (nI f) (nI k) σ' := by
    intro d
    induction d with
    | zero =>
      intro k f σ' hk F I
      have hk : k = e.2.1.length := by omega
      have h' := h.frC (F.mono SW_SC)
      have q' := q.w h hj F
      rw [hk, List.take_length] at I
      refine ⟨k3 h' (by decide) hj, fun _ => hQ f σ' F I, fun c => absurd ?_ c⟩
      rw [q'.2.2.2.1, hk]; exact nI_le (Nat.le_refl _) (by omega)
    | succ d ih =>
      intro k f σ' hk F I
      have h' := h.frC (F.mono SW_SC)
      have q' := q.w h hj F
      obtain ⟨u, hu⟩ : ∃ u, e.2.1[k]? = some u := ⟨_, List.getElem?_eq_getElem (by omega)⟩
      have hum := List.mem_of_getElem? hu
      have et : e.2.1.take (k + 1) = e.2.1.take k ++ [u] := by rw [List.take_add_one, hu]; rfl
      have ek : ix (nI k) = k := nI_clamp (by omega)
      have eu := q'.2.2.2.2.1 k u hu
      refine ⟨k3 h' (by decide) hj, fun c => absurd c (by rw [q'.2.2.2.1]; exact nI_ge (by omega) (by omega)), fun _ => ⟨_, p129 h' (by decide) hj, k129 h' (by decide) hj, by rw [l129 h' (by decide) hj]; exact vp_in_nI (by omega) (by decide), ?_⟩⟩
      rw [ek, eu, nI_1]
      refine ⟨fun c => ⟨fun _ => ?_, fun z => absurd rfl z⟩, fun c => ⟨fun z => absurd z (by decide), fun _ => ⟨k3 h' (by decide) hj, _, p129 h' (by decide) hj, k129 h' (by decide) hj, by rw [l129 h' (by decide) hj]; exact vp_in_nI (by omega) (by decide), k9 h', ?_⟩⟩⟩
      · have hb := (has_bt u (by omega)).mp c
        refine ih (k + 1) f σ' (by omega) F ?_
        rw [et]
        refine ⟨I.1, I.2.1.elim Or.inl (fun ⟨w, hw, r⟩ => Or.inr ⟨w, List.mem_append_left _ hw, r⟩), fun w hw hwg => ?_⟩
        rcases List.mem_append.mp hw with z | z
        · exact I.2.2 w z hwg
        · rw [List.mem_singleton.mp z, hb] at hwg; cases hwg
      · have hb : bt u g = true := by
          cases y : bt u g with
          | true => rfl
          | false => exact absurd ((has_bt u (by omega)).mpr y) c
        rw [eu]
        refine C_oth h' hj q' hg u (h0 u hum hb) (h60 u hum) (fun B σ2 F2 L => ?_)
        have hB : sz B ≤ 64 := bits_le64 B
        have hf := I.1
        have em : (if nI (sz B) < nI f then nI (sz B) else nI f) = nI (if sz B < f then sz B else f) := by
          by_cases y : sz B < f
          · rw [if_pos y, if_pos]
            rw [Int32.lt_iff_toInt_lt, nI_toInt (by omega), nI_toInt (by omega)]; omega
          · rw [if_neg y, if_neg]
            rw [Int32.lt_iff_toInt_lt, nI_toInt (by omega), nI_toInt (by omega)]; omega
        rw [em]
        refine ih (k + 1) _ σ2 (by omega) (F.tr1 F2) ?_
        rw [et]
        refine ⟨by split <;> omega, ?_, fun w hw hwg C hC => ?_⟩
        · by_cases y : sz B < f
          · rw [if_pos y]
            exact Or.inr ⟨u, List.mem_append_right _ (List.mem_singleton_self _), hb, B, L, rfl⟩
          · rw [if_neg y]
            exact I.2.1.elim Or.inl (fun ⟨w, hw, r⟩ => Or.inr ⟨w, List.mem_append_left _ hw, r⟩)
        · rcases List.mem_append.mp hw with z | z
          · have := I.2.2 w z hwg C hC
            split <;> omega
          · rw [List.mem_singleton.mp z] at hC
            rw [hC.one L]
            split <;> omega
  exact ⟨_, key e.2.1.length 0 60 σ (by omega) Fr.rf ⟨Nat.le_refl _, Or.inl rfl, fun w hw => absurd hw List.not_mem_nil⟩⟩
end LF
