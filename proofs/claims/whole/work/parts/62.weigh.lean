/-! the class: an answer that can be weighed -/
section KW
variable {ad : Ad} {ct : Ct} {σ : St}
def anyW (e : Ans) : Int64 := e.2.1.foldl (fun x y => x ||| y) 0
/-- a call that weighs: refused for no answer (1), for too many facts (6), else what f tells -/
def weiV {α : Type} (no : α) (f : Ans → α) (i : Int32) (V : Vt) : α × Vt := match aOf V i with
  | none => (no, stV V 1)
  | some e => if 16 < (bits (anyW e)).length then (no, stV V 6) else (f e, stV V 0)
theorem AnsAt.st (h : Sh ad ct σ) {j w : Nat} {cl : Bool} {e : Ans} (hj : j < room 42) (q : AnsAt ad σ 42 j w cl e) {σ' : St} (f : Fr ct (fun p => p = (12, 0)) σ σ') : AnsAt ad σ' 42 j w cl e := by
  obtain ⟨q1, q2, q3, q4, q5, q6, q7, q8⟩ := q
  have d3 := (f _ (by rw [k3 h (by decide) hj]; decide)).2 (by rw [c3 h (by decide) hj]; decide)
  have d128 := (f _ (by rw [k128 h (by decide) hj]; decide)).2 (by rw [c128 h (by decide) hj]; decide)
  have d129 := (f _ (by rw [k129 h (by decide) hj]; decide)).2 (by rw [c129 h (by decide) hj]; decide)
  exact ⟨q1, fun k v e => (d128.2.2.1 k).trans (q2 k v e), q3, (d3.1 _).trans q4, fun k v e => (d129.2.2.2.1 k).trans (q5 k v e), fun c => (d3.2.1 _).trans (q6 c), (d3.1 _).trans q7, (d3.2.1 _).trans q8⟩
theorem bits_le64 (x : Int64) : (bits x).length ≤ 64 := by
  have := List.length_filter_le (fun i => bt x i) (List.range 64)
  rw [List.length_range] at this
  exact this
theorem C_wei {V : Vt} (h : Sh ad ct σ) (R : RC ad ct σ V) (i : Int32) {Q : Option Nat → St → Prop} (h0 : aOf V i = none → ∀ σ', Fr ct SC σ σ' → RC ad ct σ' (stV V 1) → Q none σ') (h6 : ∀ e, aOf V i = some e → 16 < (bits (anyW e)).length → ∀ σ', Fr ct SC σ σ' → RC ad ct σ' (stV V 6) → Q none σ') (h1 : ∀ n e j, i = nI n → n < V.2.2.1.1.length → V.2.2.1.1[n]? = some e → aOf V i = some e → ¬ 16 < (bits (anyW e)).length → j < room 42 → ∀ σ', Fr ct SC σ σ' → RC ad ct σ' (stV V 0) → AnsAt ad σ' 42 j V.2.2.1.2.1 V.2.2.1.2.2 e → Q (some (ad 3 42 j)) σ') : wX11_weighable (ad 12 0 0) i σ Q := by
  refine C_at h R i (fun e => ⟨fun _ => ⟨k12 h, h0 e _ (frst h 1) (rcst h R 1)⟩, fun a z => (by cases z)⟩) (fun n e j e1 e2 e3 e4 e5 e6 e7 e8 => ⟨fun z => (by cases z), fun a z => ?_⟩)
  cases z
  refine ⟨k3 h (by decide) e5, A_any h (by decide) e5 e6 (pop_eq _ ⟨fun c => ⟨k12 h, ?_⟩, fun c => ⟨k12 h, ?_⟩⟩)⟩
  · have hb : (bits (anyW e)).length ≤ 64 := bits_le64 _
    have c : nI (bits (anyW e)).length ≤ nI 16 := c
    have : ¬ 16 < (bits (anyW e)).length := fun z => nI_ge z (by omega) c
    exact h1 n e j e1 e2 e3 e4 this e5 _ (frst h 0) (rcst h R 0) (e6.st h e5 (Fr.rf.uFi _ _ _ (Or.inl (c12 h))))
  · have c : ¬ nI (bits (anyW e)).length ≤ nI 16 := c
    have : 16 < (bits (anyW e)).length := by
      by_cases z : 16 < (bits (anyW e)).length
      · exact z
      · exact absurd (nI_le (by omega) (by decide)) c
    exact h6 e e4 this _ (frst h 6) (rcst h R 6)
end KW
