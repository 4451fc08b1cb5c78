/-! the reference: a row is copied -/
section MR_
variable {ad : Ad} {ct : Ct} {σ : St}
/-- the ways of a row are laid -/
theorem LyR.mr (h : Sh ad ct σ) {s n w : Nat} {cl : Bool} {L : List Ans} {e : Ans} (hs : s < 42) (q : MR ad σ s L w cl) (he : L[n]? = some e) {σ' : St} {k : List Int64} (hk : k.length ≤ 16) (y : LyR ad ct σ σ' s n k) : MR ad σ' s (L.set n (e.1, k, e.2.2)) w cl := by
  have hn := (List.getElem?_eq_some_iff.mp he).1
  obtain ⟨b1, b2, b3, b4, b5, b6, b7, b8⟩ := q.2.2.2.2 n e he
  obtain ⟨f, y1, y2, y3⟩ := y
  have e15 := f.fi (k15 h hs) (by decide) (c15 h hs) (by simp)
  have e98 := f.ai (k898 h hs) (by decide) (c898 h hs) (by simp)
  have e00 := f.ai (k900 h hs) (by decide) (c900 h hs) (by simp)
  have e02 := f.aj (k902 h hs) (by decide) (c902 h hs) (by simp)
  have e03 := f.adb (k903 h hs) (by decide) (c903 h hs) (by simp)
  refine q.set hn (e15 _) (e15 _) ⟨fun i _ => e98 i, fun i hi => by rw [y1 i, if_neg hi], fun i hi => y3 i hi, fun i _ => e02 i, fun i _ => e00 i, fun i _ => e03 i⟩ ⟨b1, fun u v hv => (e98 _).trans (b2 u v hv), hk, by rw [y1 n, if_pos rfl], y2, fun z => (e02 _).trans (b6 z), (e00 _).trans b7, (e03 _).trans b8⟩
theorem MR.ss (h : Sh ad ct σ) {S : Nat × Nat → Prop} {σ' : St} (f : Fr ct S σ σ') {s w : Nat} {cl : Bool} {L : List Ans} (hs : s < 42) (n : ∀ g, (g = 15 ∨ 898 ≤ g ∧ g ≤ 903) → ¬ S (g, s)) (q : MR ad σ s L w cl) : MR ad σ' s L w cl := q.cg h f hs (n _ (by decide)) (fun g g1 g2 => n g (Or.inr ⟨g1, g2⟩))
theorem set_last {α : Type} (L : List α) (a b : α) : (L ++ [a]).set L.length b = L ++ [b] := by simp
/-- an answer as it is told: its ways in order, its readings within bounds -/
def CnE (e : Ans) : Prop := e.2.1.length ≤ 16 ∧ e.2.1.Pairwise (fun a b => a < b) ∧ Anti e.2.1 ∧ ¬ e.2.2.2.1 < 0 ∧ e.2.2.2.1 ≤ 1000000000 ∧ tru e.2.2.2.2
theorem CnE.cw {e : Ans} (h : CnE e) : CW e.2.1 e.2.1 := ⟨h.2.1, h.2.2.1, fun _ => Iff.rfl⟩
theorem tru_0 : tru 0 := ⟨by decide, by decide⟩
theorem up0 (ws : List Int64) : ∀ X, Upw (addA [] ws) X ↔ Upw ws X := fun X => by
  rw [addA_up]
  exact ⟨fun z => z.elim (fun ⟨w, hw, _⟩ => absurd hw List.not_mem_nil) id, Or.inr⟩
theorem rd0 {e : Ans} (h : CnE e) (r : List Int32) (k : List Int64) (c : Int64) : rdA (r, k, 0, 1000000000, 0) c e.2.2.2.1 e.2.2.2.2 = (r, k, c, e.2.2.2.1, e.2.2.2.2) := by
  unfold rdA
  show (r, k, 0 + c, (if e.2.2.2.1 < 1000000000 then e.2.2.2.1 else 1000000000), (if e.2.2.2.2 < 0 then 0 else e.2.2.2.2)) = _
  rw [Int64.zero_add, if_neg h.2.2.2.2.2.1]
  by_cases c : e.2.2.2.1 < 1000000000
  · rw [if_pos c]
  · rw [if_neg c, Int32.le_antisymm h.2.2.2.2.1 (Int32.not_lt.mp c)]
abbrev SQ (k : Nat) : Nat × Nat → Prop := fun p => SS k p ∨ p = (17, 0) ∨ p = (1053, 0)
theorem SQ_SM (k : Nat) : ∀ p, SQ k p → SM p := fun p q => by
  rcases q with q | q | q
  · exact SS_SM k p q
  · subst q; decide
  · subst q; decide
/-- the reference's work on the sheet k: nothing else of its object but the pile's height -/
def WkF (ad : Ad) (ct : Ct) (σ σ' : St) (k : Nat) : Prop := Fr ct (SQ k) σ σ' ∧ ∀ g, g ≠ 1054 → zFi σ' g (ad 17 0 0) = zFi σ g (ad 17 0 0)
theorem WkF.rf {k : Nat} : WkF ad ct σ σ k := ⟨Fr.rf, fun _ _ => rfl⟩
theorem WkF.tr {k : Nat} {σ1 σ2 : St} (a : WkF ad ct σ σ1 k) (b : WkF ad ct σ1 σ2 k) : WkF ad ct σ σ2 k := ⟨a.1.tr1 b.1, fun g hg => (b.2 g hg).trans (a.2 g hg)⟩
theorem WkF.ss (h : Sh ad ct σ) {k : Nat} {σ1 : St} (f : Fr ct (SS k) σ σ1) : WkF ad ct σ σ1 k := ⟨f.mono (fun p q => Or.inl q), fun g _ => f.fi (k17 h) (by decide) (c17 h) (by simp) g⟩
theorem WkF.sl (h : Sh ad ct σ) {k : Nat} {σ1 : St} (f : Fr ct (SL k) σ σ1) : WkF ad ct σ σ1 k := ⟨f.mono (fun p q => by rcases q with q | q | q <;> simp [SQ, SS, q]), fun g _ => f.fi (k17 h) (by decide) (c17 h) (by simp) g⟩
theorem WkF.pi {k : Nat} {σ1 : St} {l : List Int64} (I : PiI ad ct σ σ1 l) : WkF ad ct σ σ1 k := ⟨I.1.mono (fun p q => Or.inr q), I.2.1⟩
theorem WkF.mr (h : Sh ad ct σ) {k : Nat} {σ1 : St} (f : WkF ad ct σ σ1 k) {s w : Nat} {cl : Bool} {L : List Ans} (hs : s < 42) (n : s ≠ k) (q : MR ad σ s L w cl) : MR ad σ1 s L w cl := q.ss h f.1 hs (fun g hg z => by
  simp only [SQ, SS, Prod.mk.injEq] at z
  omega)
theorem PiI.mr (h : Sh ad ct σ) {σ1 : St} {l : List Int64} (f : PiI ad ct σ σ1 l) {s w : Nat} {cl : Bool} {L : List Ans} (hs : s < 42) (q : MR ad σ s L w cl) : MR ad σ1 s L w cl := q.ss h f.1 hs (fun g hg z => by
  simp only [SP, Prod.mk.injEq] at z
  omega)
theorem Sh.wk {k : Nat} {σ1 : St} (h : Sh ad ct σ) (f : WkF ad ct σ σ1 k) : Sh ad ct σ1 := h.frM (f.1.mono (SQ_SM k))
theorem n898 (h : Sh ad ct σ) {s t : Nat} (hs : s < 42) (ht : t < 42) (n : s ≠ t) : ad 898 s 0 ≠ ad 898 t 0 := fun z => by
  have b := c898 h hs
  rw [z, c898 h ht] at b
  cases b
  exact n rfl
theorem M_copies (h : Sh ad ct σ) {s r t w : Nat} {cl cl1 : Bool} {L A : List Ans} {e : Ans} (hs : s < 42) (ht : t < 42) (n : s ≠ t) (q : MR ad σ s A w cl1) (he : A[r]? = some e) (ce : CnE e) (hc : cl1 = true → cl = true) (qt : MR ad σ t L w cl) {Q : St → Prop} {E : St → Prop} (h0 : L.length = 32 → E σ) (h1 : ∀ σ', L.length < 32 → WkF ad ct σ σ' t → MR ad σ' t (L ++ [e]) w cl → Q σ') : wX16_copies (ad 17 0 0) (ad 15 s 0) (nI r) (ad 15 t 0) σ Q E := by
  have hr := (List.getElem?_eq_some_iff.mp he).1
  have h32 := q.2.2.2.1
  have row := q.2.2.2.2 r e he
  have xr : ix (nI r) = r := nI_clamp (by omega)
  have e6 : (6 : Int32) * nI r = nI (6 * r) := by rw [show (6 : Int32) = nI 6 from rfl, pk_mul]
  refine ⟨k15 h hs, _, p898 h hs, k17 h, ?_⟩
  rw [e6]
  refine M_adds h ht qt (k898 h hs) (by rw [l898 h hs]; have := q.2.2.1; omega) (by rw [l898 h hs]; decide) (n898 h hs ht n) row.1 row.2.1 h0 (fun σ1 hl F1 q1 => ?_)
  have W1 := WkF.ss h F1
  have h1' := h.wk W1
  have qs1 := W1.mr h hs n q
  have I0 := pi_0 h1'
  refine ⟨k17 h1', M_pilesAll h1' hs (by omega) (qs1.2.2.2.2 r e he) (by rw [List.length_nil]; have := ce.1; omega) I0 (fun σ2 I2 => ?_)⟩
  have W2 := W1.tr (WkF.pi (k := t) I2)
  have h2 := h.wk W2
  have q2 := I2.mr h1' ht q1
  have hl0 : (L ++ [(e.1, ([] : List Int64), (0 : Int64), (1000000000 : Int32), (0 : Int64))])[L.length]? = some (e.1, [], 0, 1000000000, 0) := by simp
  have row2 := q2.2.2.2.2 _ _ hl0
  have ln := addA_len e.2.1 []
  rw [List.length_nil] at ln
  have l16 := ce.1
  refine ⟨k17 h2, M_lays h2 ht hl (o := []) (by omega) I2.2.2.1 I2.2.2.2 (Nat.zero_le _) row2.2.2.2.1 row2.2.2.2.2.1 (fun z => by omega) (fun _ k σ3 kp ks Y => ?_)⟩
  have ek : k = e.2.1 := (CW.of (addA_anti e.2.1 List.Pairwise.nil) (up0 e.2.1) kp ks).one ce.cw (fun _ => Iff.rfl)
  have W3 := W2.tr (WkF.sl h2 Y.1)
  have h3 := h.wk W3
  have q3 := Y.mr h2 ht q2 hl0 (by rw [ek]; exact l16)
  rw [set_last] at q3
  have qs3 := W3.mr h hs n q
  have row3 := qs3.2.2.2.2 r e he
  refine ⟨k15 h3 hs, _, p902 h3 hs, k902 h3 hs, by rw [l902 h3 hs]; exact vp_in_nI (by omega) (by decide), _, p900 h3 hs, k900 h3 hs, by rw [l900 h3 hs]; exact vp_in_nI (by omega) (by decide), _, p903 h3 hs, k903 h3 hs, by rw [l903 h3 hs]; exact vp_in_nI (by omega) (by decide), ?_⟩
  rw [xr, row3.2.2.2.2.2.2.1, row3.2.2.2.2.2.2.2]
  have hl3 : (L ++ [(e.1, k, (0 : Int64), (1000000000 : Int32), (0 : Int64))])[L.length]? = some (e.1, k, 0, 1000000000, 0) := by simp
  refine M_wgh h3 ht q3 hl3 (c := e.2.2.1) (t := e.2.2.2.2) tru_0 ce.2.2.2.2.2 (fun z => row3.2.2.2.2.2.1 (by cases cl1 with | false => rfl | true => rw [hc rfl] at z; cases z)) (fun σ4 F4 q4 => h1 σ4 hl (W3.tr (WkF.ss h3 F4)) ?_)
  rw [set_last, rd0 ce, ek] at q4
  exact q4
end MR_
