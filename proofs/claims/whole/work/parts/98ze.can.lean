/-! ask: every answer is as the latest answers must be -/
section NP
def CanA (n w : Nat) (e : Ans) : Prop := e.1.length = w ∧ e.2.1.length ≤ 16 ∧ e.2.1 ≠ [] ∧ e.2.1.Pairwise (fun a b => a < b) ∧ e.2.1.Pairwise (fun a b => ¬ sb a b ∧ ¬ sb b a) ∧ (∀ w ∈ e.2.1, ∀ i, n ≤ i → bt w i = false) ∧ ¬ e.2.2.2.1 < 0 ∧ e.2.2.2.1 ≤ 1000000000 ∧ ¬ e.2.2.2.2 < 0 ∧ e.2.2.2.2 ≤ 4607182418800017408 ∧ ∀ w ∈ e.2.1, w ≠ 0
def wGd (n : Nat) (w : Int64) : Prop := (∀ i, n ≤ i → bt w i = false) ∧ w ≠ 0
def RawA (n w : Nat) (x : Ans) : Prop := x.1.length = w ∧ x.2.1 ≠ [] ∧ (∀ v ∈ x.2.1, wGd n v) ∧ cOk x.2.2.2.1 ∧ tru x.2.2.2.2
theorem CanA.raw {n w : Nat} {e : Ans} (h : CanA n w e) : RawA n w e := ⟨h.1, h.2.2.1, fun v hv => ⟨h.2.2.2.2.2.1 v hv, h.2.2.2.2.2.2.2.2.2.2 v hv⟩, ⟨h.2.2.2.2.2.2.1, h.2.2.2.2.2.2.2.1⟩, ⟨h.2.2.2.2.2.2.2.2.1, h.2.2.2.2.2.2.2.2.2.1⟩⟩
theorem CanA.cn {n w : Nat} {e : Ans} (h : CanA n w e) : CnE e := ⟨h.2.1, h.2.2.2.1, h.2.2.2.2.1, h.2.2.2.2.2.2.1, h.2.2.2.2.2.2.2.1, h.2.2.2.2.2.2.2.2.1, h.2.2.2.2.2.2.2.2.2.1⟩
theorem CanA.mk {n w : Nat} {e : Ans} (h1 : e.1.length = w) (h2 : e.2.1.length ≤ 16) (h3 : e.2.1 ≠ []) {G : List Int64} (h4 : CW e.2.1 G) (h5 : ∀ v ∈ e.2.1, wGd n v) (h6 : cOk e.2.2.2.1) (h7 : tru e.2.2.2.2) : CanA n w e := ⟨h1, h2, h3, h4.1, h4.2.1, fun v hv => (h5 v hv).1, h6.1, h6.2, h7.1, h7.2, fun v hv => (h5 v hv).2⟩
theorem mn_ok : ∀ (l : List Ans) (a : Int32), cOk a → (∀ x ∈ l, cOk x.2.2.2.1) → cOk (l.foldl (fun a x => if x.2.2.2.1 < a then x.2.2.2.1 else a) a)
  | [], _, h, _ => h
  | x :: l, a, h, k => mn_ok l _ (by
      have kx := k x List.mem_cons_self
      dsimp only
      split <;> assumption) (fun y hy => k y (List.mem_cons_of_mem _ hy))
theorem mx_ok : ∀ (l : List Ans) (a : Int64), tru a → (∀ x ∈ l, tru x.2.2.2.2) → tru (l.foldl (fun a x => if x.2.2.2.2 < a then a else x.2.2.2.2) a)
  | [], _, h, _ => h
  | x :: l, a, h, k => mx_ok l _ (by
      have kx := k x List.mem_cons_self
      dsimp only
      split <;> assumption) (fun y hy => k y (List.mem_cons_of_mem _ hy))
theorem nempty {l G : List Int64} (h : ∀ X, Upw l X ↔ Upw G X) {g : Int64} (hg : g ∈ G) : l ≠ [] := fun z => by
  obtain ⟨w, hw, _⟩ := (h g).mpr ⟨g, hg, sb_rf g⟩
  rw [z] at hw
  cases hw
theorem can_of {n w : Nat} {raw R : List Ans} (h : OKr raw R) (k : ∀ x ∈ raw, RawA n w x) : ∀ e ∈ R, CanA n w e := fun e he => by
  obtain ⟨m1, m2, m3, m4, m5⟩ := h.2.2.2 e he
  obtain ⟨x, hx, ex⟩ := (h.2.2.1 e.1).mp ⟨e, he, rfl⟩
  have kx := k x hx
  refine CanA.mk (by rw [← ex]; exact kx.1) m1 ?_ m2 (fun v hv => ?_) ?_ ?_
  · cases hc : x.2.1 with
    | nil => exact absurd hc kx.2.1
    | cons u t => exact nempty m2.2.2 (gath_mem.mpr ⟨x, hx, ex, by rw [hc]; exact List.mem_cons_self⟩)
  · obtain ⟨y, hy, _, hv2⟩ := gath_mem.mp (m2.sub hv)
    exact (k y hy).2.2.1 v hv2
  · rw [m4]
    exact mn_ok _ _ (by unfold cOk; decide) (fun x hx => (k x (sel_sub hx).1).2.2.2.1)
  · rw [m5]
    exact mx_ok _ _ tru_0 (fun x hx => (k x (sel_sub hx).1).2.2.2.2)
theorem wGd_or {n : Nat} {u v : Int64} (hu : wGd n u) (hv : wGd n v) : wGd n (u ||| v) := by
  refine ⟨fun i hi => by rw [bt_or, hu.1 i hi, hv.1 i hi]; rfl, fun z => hu.2 (bt_ext (fun i hi => ?_))⟩
  have := congrArg (fun x => bt x i) z
  simp only [bt_or, bt_0, Bool.or_eq_false_iff] at this
  rw [this.1, bt_0]
theorem uni_gd {n : Nat} {a b : List Int64} (ha : ∀ v ∈ a, wGd n v) (hb : ∀ v ∈ b, wGd n v) : ∀ v ∈ uni a b, wGd n v := fun v hv => by
  obtain ⟨x, hx, y, hy, rfl⟩ := uni_mem.mp hv
  exact wGd_or (ha x hx) (hb y hy)
theorem uni_ne {a b : List Int64} (ha : a ≠ []) (hb : b ≠ []) : uni a b ≠ [] := fun z => by
  cases a with
  | nil => exact ha rfl
  | cons u t => cases b with
    | nil => exact hb rfl
    | cons v s =>
      have : (u ||| v) ∈ uni (u :: t) (v :: s) := uni_mem.mpr ⟨u, List.mem_cons_self, v, List.mem_cons_self, rfl⟩
      rw [z] at this
      cases this
theorem fac_raw {c : Co} (W : WF c) {w i : Nat} {f : Fct} (hf : c.2.1[i]? = some f) : RawA c.2.1.length w (facA w i f) := by
  have hi := (List.getElem?_eq_some_iff.mp hf).1
  have h60 := W.2.2.1
  have ww := (W.2.2.2.1 i f hf).2
  refine ⟨rowF_len _ _, fun z => (by cases z), fun v hv => ?_, ?_, ?_⟩
  · rw [List.mem_singleton.mp (show v ∈ [bit1 i] from hv)]
    refine ⟨fun j hj => ?_, fun z => ?_⟩
    · rw [bt_bit1 (by omega)]
      exact decide_eq_false (by omega)
    · have := congrArg (fun x => bt x i) z
      simp only [bt_bit1 (show i < 64 by omega), bt_0] at this
      simp at this
  · have h1 := ww 1 (by decide)
    obtain ⟨m, hm, em⟩ := pk_lOf h1.1
    have le : f.2.2.1 1 ≤ 1000 := h1.2
    rw [em] at le
    have hm2 : m ≤ 1000 := (pk_lLE (b := 1000) hm (by decide)).mp le
    show cOk (f.2.2.1 1).toInt32
    rw [em]
    have e : (lN m).toInt32 = nI m := by
      apply Int32.toBitVec_inj.mp
      apply BitVec.eq_of_toNat_eq
      show ((lN m).toBitVec.signExtend 32).toNat = (nI m).toBitVec.toNat
      have e1 : (lN m).toBitVec = BitVec.ofNat 64 m := rfl
      have e2 : (nI m).toBitVec = BitVec.ofNat 32 m := rfl
      rw [e1, e2, BitVec.signExtend_eq_setWidth_of_le _ (by decide), BitVec.toNat_setWidth, BitVec.toNat_ofNat, BitVec.toNat_ofNat]
      omega
    rw [e]
    exact ⟨nI_pos (by omega), nI_le (b := 1000000000) (by omega) (by decide)⟩
  · have h1 := ww 2 (by decide)
    exact ⟨h1.1, h1.2⟩
theorem Seqv.wd {n : Nat} {A : List Ans} (gA : ∀ a ∈ A, ∀ v ∈ a.2.1, wGd n v) : ∀ {m : Nat} {K : List Ans}, Seqv A m K → ∀ a ∈ K, ∀ v ∈ a.2.1, wGd n v
  | 0, _, h => fun a ha => by
    rw [show _ = A.map bare from h] at ha
    obtain ⟨x, hx, rfl⟩ := List.mem_map.mp ha
    exact gA x hx
  | m + 1, _, ⟨K0, h, o⟩ => fun a ha v hv => by
    have := Seqv.wd gA h
    obtain ⟨y, hy, _, hv2⟩ := gath_mem.mp ((o.2.2.2 a ha).2.2.sub hv)
    rcases rndR_mem.mp hy with z | ⟨c, hc, s, hs, _, rfl⟩
    · exact this y z v hv2
    · exact uni_gd (this c hc) (gA s hs) v hv2
theorem Bst.ok {V : Type} {O : RdO V} {A : List Ans} (hA : okA O A) {x y : Int32} {v : V} (h : Bst O A x y v) : O.ok v := by
  rcases h.2 with z | ⟨T, w⟩
  · rw [z]; exact O.tk
  · exact w.ok hA
theorem clo_can {n : Nat} {A R : List Ans} (cA : ∀ a ∈ A, CanA n 2 a) (h : Clov A (R.map bare)) (w : Wgh A R) : ∀ e ∈ R, CanA n 2 e := fun e he => by
  obtain ⟨m, h1, h2⟩ := h
  have gA : gdK A := fun a ha => ⟨(cA a ha).1, (cA a ha).2.2.1⟩
  have hC : okA rdC A := fun a ha => (cA a ha).raw.2.2.2.1
  have hT : okA rdT A := fun a ha => (cA a ha).raw.2.2.2.2
  have hb : bare e ∈ R.map bare := List.mem_map.mpr ⟨e, he, rfl⟩
  have me := h2.2.2.2 _ hb
  have gd := Seqv.gd gA h1 _ hb
  exact CanA.mk gd.1 me.2.1 gd.2 me.2.2 (Seqv.wd (fun a ha => (cA a ha).raw.2.2.1) h1 (bare e) hb) ((w e he).2.1.ok hC) ((w e he).2.2.ok hT)
theorem Wkr.can {c : Co} (W : WF c) {q : Qst} (h8 : q.1 < 8) {A B R : List Ans} {w1 w2 : Nat} (cA : q.1 ≠ 0 → ∀ a ∈ A, CanA c.2.1.length w1 a) (cB : q.1 = 4 ∨ q.1 = 5 → ∀ b ∈ B, CanA c.2.1.length w2 b) (e1 : q.1 = 1 ∨ q.1 = 2 ∨ q.1 = 7 ∨ q.1 = 5 → q.2.1 = w1) (e5 : q.1 = 5 → w2 = w1) (e4 : q.1 = 4 → q.2.1 = w1 + w2) (e6 : q.1 = 6 → q.2.1 = 2 ∧ w1 = 2) (h : Wkr c.2.1 q A B R) : ∀ e ∈ R, CanA c.2.1.length q.2.1 e := by
  have cs : q.1 = 0 ∨ (q.1 = 1 ∨ q.1 = 2 ∨ q.1 = 7) ∨ q.1 = 3 ∨ q.1 = 4 ∨ q.1 = 5 ∨ q.1 = 6 := by omega
  rcases cs with z | z | z | z | z | z
  · refine can_of (h.1 z) (fun x hx => ?_)
    obtain ⟨i, f, _, hf, _, rfl⟩ := basR_get hx
    exact fac_raw W hf
  · intro e he
    rw [e1 (by omega)]
    exact cA (by omega) e (List.mem_filter.mp ((h.2.1 z).mem_iff.mp he)).1
  · refine can_of (h.2.2.1 z) (fun x hx => ?_)
    obtain ⟨a, ha, rfl⟩ := List.mem_map.mp hx
    have r := (cA (by omega) a ha).raw
    exact ⟨rowF_len _ _, r.2⟩
  · refine can_of (h.2.2.2.1 z) (fun x hx => ?_)
    unfold paiR at hx
    obtain ⟨a, ha, hx⟩ := List.mem_flatMap.mp hx
    obtain ⟨b, hb, rfl⟩ := List.mem_map.mp hx
    have ra := (cA (by omega) a ha).raw
    have rb := (cB (by omega) b (List.mem_filter.mp hb).1).raw
    refine ⟨?_, uni_ne ra.2.1 rb.2.1, uni_gd ra.2.2.1 rb.2.2.1, rdC.oo ra.2.2.2.1 rb.2.2.2.1, mnT_tru ra.2.2.2.2 rb.2.2.2.2⟩
    show (a.1 ++ b.1).length = _
    rw [List.length_append, ra.1, rb.1, e4 z]
  · refine can_of (h.2.2.2.2.1 z) (fun x hx => ?_)
    rw [e1 (by omega)]
    rcases List.mem_append.mp hx with u | u
    · exact (cA (by omega) x u).raw
    · have := (cB (by omega) x u).raw
      rw [e5 z] at this
      exact this
  · obtain ⟨a1, _, a3⟩ := h.2.2.2.2.2 z
    obtain ⟨w, w1e⟩ := e6 z
    rw [w]
    exact clo_can (fun a ha => by have := cA (by omega) a ha; rw [w1e] at this; exact this) a1 a3
end NP
