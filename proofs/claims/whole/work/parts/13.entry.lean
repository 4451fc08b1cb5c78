def R_law : String := "WhereFromLaw"
def lw_P (b : Addr) (xs : List Int32) (args : Array Value) (s : State) : Prop := args = #[.ref b] ∧ s.IntsAt b xs ∧ xs.length ≤ 3584 ∧ (Jvm.Cond.and given_1 narrow_1).before args s = true
/-- what a walk over the start with the record d0 says of its end, said of the start itself -/
theorem lw_closed {s t : State} {o : Outcome} {d0 : Drawn} {L : List Loc} {k n : Nat} (hd0 : s.drawn.sameBut d0 lw_cs) (hv : ∃ v, o = .returned v) (hW : (s.setDrawn d0).WarmedH t.vm) (hs : (s.setDrawn d0).sameButNew ({ t with vm := s.vm } : State) L k n) : State.butDraws s t lw_cs (fun t1 => Framed s o t1 L k n) := by
  have h2 : t.drawn = d0 := congrArg State.drawn hs.1
  refine ⟨⟨hv, hW, State.sameButNew.setDrawn hs s.drawn⟩, ?_, by decide⟩
  rw [h2]
  exact hd0
def lw_Q (_ : Array Value) (s : State) (o : Outcome) (t : State) : Prop := o = .returned (some (.int 1)) ∧ State.butDraws s t lw_cs (fun t1 => Framed s o t1 [] 601024 7293034)
def lw_Z (below : List Frame) (a : Array Value) (s : State) : State → Prop := fun t => ∃ o, t.status = .running ∧ Ended t below o ∧ lw_Q a s o t
def lw_At (p : Program) (s : State) (m : MethodId) (meth : Method) (c : Code) (b L : Nat) (xs : Nat → Int32) : Prop :=
  p.tables.exec = Jvm.exec ∧ c.code = code ∧ meth.sig.returnType = ret ∧ c.maxLocals = 4 ∧ s.vm.findClass R_law = some m.cls ∧ (∀ w ∈ lw_tbl, w.before #[Value.ref b] s = true) ∧ va_X b L xs s s.heap ∧ b < s.heap.size ∧ meth.locks = false ∧ (Jvm.Cond.and given_1 narrow_1).before #[Value.ref b] s = true
/-! the law's entry: from the given start to the predicate of the law's walk at the empty state -/
def kTy : List FieldType := [.int, .long, .double, .boolean, .object RX0, .object RX2, .object RX3, .object RX9, .object RX10, .object RX12, .object RX14, .object RX15]
theorem en_prim {ty : FieldType} {s : State} (h : (Cond.arrayClass ty).before #[] s = true) (hp : ∀ C, ty ≠ .object C) : ∃ cA : ClassId, ArrOfT s cA ty ∧ va_RA s cA ty := by
  obtain ⟨c, k, comp, h1, h2, h3⟩ := Cond.arrayClass_spec h
  refine ⟨c, fun n z => ⟨fun k h => (by cases h), k, h2, comp, h3⟩, ?_⟩
  cases ty with
  | object C => exact absurd rfl (hp C)
  | _ => exact h1
theorem en_obj {C : String} {s : State} (h : va_AO C s) : ∃ cA : ClassId, ArrOfT s cA (.object C) ∧ va_RA s cA (.object C) := by
  obtain ⟨comp, c, k, h1, h2, h3, h4, h5⟩ := Cond.arrayOver_spec (va_AO.use (A := #[]) h)
  exact ⟨c, fun n z => ⟨fun k h => (by cases h), k, h3, comp, h4⟩, k, comp, h3, h4, h1, h5⟩
theorem en_arr {s : State} (hg : ∀ w ∈ tbG, w.before #[] s = true) (ho : ∀ C ∈ zAO, va_AO C s) (k : Nat) : ∃ cA : ClassId, ∀ ty, kTy[k]? = some ty → ArrOfT s cA ty ∧ va_RA s cA ty := by
  have P : ∀ ty : FieldType, (∃ cA : ClassId, ArrOfT s cA ty ∧ va_RA s cA ty) → ∃ cA : ClassId, ∀ ty', some ty = some ty' → ArrOfT s cA ty' ∧ va_RA s cA ty' := fun ty ⟨cA, h⟩ => ⟨cA, fun ty' e => by cases e; exact h⟩
  match k with
  | 0 => exact P .int (en_prim (hg _ wd_139) (fun C h => by cases h))
  | 1 => exact P .long (en_prim (hg _ wd_140) (fun C h => by cases h))
  | 2 => exact P .double (en_prim (hg _ wd_1178) (fun C h => by cases h))
  | 3 => exact P .boolean (en_prim (hg _ wd_1179) (fun C h => by cases h))
  | 4 => exact P (.object RX0) (en_obj (ho _ (by simp [zAO])))
  | 5 => exact P (.object RX2) (en_obj (ho _ (by simp [zAO])))
  | 6 => exact P (.object RX3) (en_obj (ho _ (by simp [zAO])))
  | 7 => exact P (.object RX9) (en_obj (ho _ (by simp [zAO])))
  | 8 => exact P (.object RX10) (en_obj (ho _ (by simp [zAO])))
  | 9 => exact P (.object RX12) (en_obj (ho _ (by simp [zAO])))
  | 10 => exact P (.object RX14) (en_obj (ho _ (by simp [zAO])))
  | 11 => exact P (.object RX15) (en_obj (ho _ (by simp [zAO])))
  | n + 12 => exact ⟨0, fun ty h => by simp [kTy] at h⟩
theorem en_ty (cy : Nat → ClassId) (k : Nat) : (zTys cy)[k]? = (kTy[k]?).map (fun ty => (cy (20 + k), ty)) := by
  match k with
  | 0 => rfl
  | 1 => rfl
  | 2 => rfl
  | 3 => rfl
  | 4 => rfl
  | 5 => rfl
  | 6 => rfl
  | 7 => rfl
  | 8 => rfl
  | 9 => rfl
  | 10 => rfl
  | 11 => rfl
  | n + 12 => simp [zTys, kTy]
theorem en_kn1 {s : State} (hg : ∀ w ∈ tbG, w.before #[] s = true) {ci n : Nat} {C : String} {T : u_T} {N : Nat} (Z : zC ci) (e : vwCl[ci]? = some (C, T, N)) (hi : Cond.instantiable C n ∈ tbG) : ∃ p : ClassId × (Nat → Nat), ∀ q, vwCl[ci]? = some q → u_Kn s q.1 q.2.1 q.2.2 p.1 p.2 := by
  obtain ⟨-, C', T', N', ty, e', -, hw, -⟩ := Z
  rw [e] at e'
  cases e'
  obtain ⟨cC, iS, h⟩ := u_known hg hw (hg _ hi)
  exact ⟨(cC, iS), fun q hq => by rw [e] at hq; cases hq; exact h⟩
theorem en_kn {s : State} (hg : ∀ w ∈ tbG, w.before #[] s = true) (ci : Nat) : ∃ p : ClassId × (Nat → Nat), ∀ q, vwCl[ci]? = some q → u_Kn s q.1 q.2.1 q.2.2 p.1 p.2 := by
  match ci with
  | 0 => exact en_kn1 hg zc_0 rfl wd_366
  | 1 => exact en_kn1 hg zc_1 rfl wd_305
  | 2 => exact en_kn1 hg zc_2 rfl wd_180
  | 3 => exact en_kn1 hg zc_3 rfl wd_173
  | 4 => exact en_kn1 hg zc_4 rfl wd_144
  | 5 => exact en_kn1 hg zc_5 rfl wd_268
  | 6 => exact en_kn1 hg zc_6 rfl wd_104
  | 7 => exact en_kn1 hg zc_7 rfl wd_152
  | 8 => exact en_kn1 hg zc_8 rfl wd_287
  | 9 => exact en_kn1 hg zc_9 rfl wd_476
  | 10 => exact en_kn1 hg zc_10 rfl wd_908
  | 11 => exact en_kn1 hg zc_11 rfl wd_96
  | 12 => exact en_kn1 hg zc_12 rfl wd_1222
  | 13 => exact en_kn1 hg zc_13 rfl wd_1115
  | 14 => exact en_kn1 hg zc_14 rfl wd_1182
  | 15 => exact en_kn1 hg zc_15 rfl wd_1228
  | 16 => exact en_kn1 hg zc_16 rfl wd_992
  | n + 17 => exact ⟨(0, fun _ => 0), fun q h => by simp [vwCl] at h⟩
theorem en_nest {w : Cond} (h : zNest w = true) {A : Array Value} {s : State} (hw : w.before A s = true) : va_Nw w s := by
  cases w <;> first | (simp [zNest] at h; done) | exact hw
theorem en_fw {s : State} {A : Array Value} {B : Nat → Prop} {n : String} {v : Nat → Value} {x0 x1 x2 x3 : Int64} (hA : ∀ a : Nat, a < s.heap.size → ¬ B a) (hv : ∀ j, v j = match j with | 0 => .long x0 | 1 => .long x1 | 2 => .long x2 | _ => .long x3)
    (hl : (Cond.laysStatic "WhereFrom" n "[J").before A s = true) (hi : (Cond.initialized "WhereFrom").before A s = true) (ha : (Cond.arrayOf (.static "WhereFrom" n "[J") .long).before A s = true) (hn : (Cond.eq (.length (.static "WhereFrom" n "[J")) (.int 4)).before A s = true)
    (h0 : (Cond.eq (.elem (.static "WhereFrom" n "[J") (.int 0)) (.long x0)).before A s = true) (h1 : (Cond.eq (.elem (.static "WhereFrom" n "[J") (.int 1)) (.long x1)).before A s = true) (h2 : (Cond.eq (.elem (.static "WhereFrom" n "[J") (.int 2)) (.long x2)).before A s = true) (h3 : (Cond.eq (.elem (.static "WhereFrom" n "[J") (.int 3)) (.long x3)).before A s = true) :
    ∃ t : Nat, va_Z "WhereFrom" n "[J" (.ref t) B s s.heap ∧ va_T .long t 4 v B s s.heap := by
  obtain ⟨t, e, h⟩ := va_Tof (N := 4) (f := v) (by decide) ha (va_eqt hn) (fun j hj => by
    rw [hv]
    match j, hj with
    | 0, _ => exact va_eqtl h0
    | 1, _ => exact va_eqtl h1
    | 2, _ => exact va_eqtl h2
    | 3, _ => exact va_eqtl h3) hA
  exact ⟨t, va_Zof hl hi e hA, h⟩
/-- the state before anything is made -/
def σ0 : St := (fun _ => 0, fun _ => 0, fun _ _ => 0, fun _ _ => 0, fun _ _ => none, fun _ _ => 0, fun _ _ => 0, fun _ _ => 0, fun _ _ => none)
theorem en_hR (G : GB) (H : Heap) : hR G H σ0 := ⟨[], fun a => ⟨fun h => absurd h List.not_mem_nil, fun h => absurd rfl h⟩, fun k q h => by simp [va_pl] at h, fun i j p q h => by simp [va_pl] at h, fun k q h => by simp [va_pl] at h⟩
theorem en_ao {s : State} {A : Array Value} (hts : ∀ w ∈ lw_tbl, w.before A s = true) : ∀ C ∈ zAO, va_AO C s := by
  intro C hC
  refine va_AO.of (A := A) (hts _ ?_)
  simp only [zAO, List.mem_cons, List.not_mem_nil, or_false] at hC
  rcases hC with rfl | rfl | rfl | rfl | rfl | rfl | rfl | rfl <;> decide +kernel
theorem en_hX {s : State} {b : Nat} (hts : ∀ w ∈ lw_tbl, w.before #[Value.ref b] s = true) (hgv : (Jvm.Cond.and given_1 narrow_1).before #[Value.ref b] s = true) : ∃ G : GB, G.2.2.1 = s.heap.size ∧ hX G s := by
  have hg : ∀ w ∈ tbG, w.before #[] s = true := fun w hw => by
    unfold tbG at hw
    exact word_at (State.WarmedH.refl s) (good_of_word (List.mem_filter.mp hw).2) (hts w (List.mem_filter.mp hw).1)
  have hn : ∀ w ∈ tbN, va_Nw w s := fun w hw => by
    unfold tbN at hw
    exact en_nest (List.mem_filter.mp hw).2 (hts w (List.mem_filter.mp hw).1)
  have ho := en_ao hts
  have hs := flat_of_before _ hgv
  have hA : ∀ a : Nat, a < s.heap.size → ¬ (s.heap.size ≤ a) := fun a h => Nat.not_le.mpr h
  have hiW : (Cond.initialized "WhereFrom").before #[Value.ref b] s = true := hts _ (by decide +kernel)
  have hiT : (Cond.initialized "java/lang/Throwable").before #[Value.ref b] s = true := hts _ (by decide +kernel)
  have hiM : (Cond.initialized "java/lang/Math").before #[Value.ref b] s = true := hts _ (by decide +kernel)
  obtain ⟨tF, f1, f2⟩ := en_fw (B := fun q => s.heap.size ≤ q) (n := "FIRST_WEIGHT") (v := fwV) (x0 := 1) (x1 := 1) (x2 := 4607182418800017408) (x3 := 4) hA (fun j => by match j with | 0 => rfl | 1 => rfl | 2 => rfl | n + 3 => rfl) (hts _ (by decide +kernel)) hiW (hs _ (by decide +kernel)) (hs _ (by decide +kernel)) (hs _ (by decide +kernel)) (hs _ (by decide +kernel)) (hs _ (by decide +kernel)) (hs _ (by decide +kernel))
  obtain ⟨tM, m1, m2⟩ := en_fw (B := fun q => s.heap.size ≤ q) (n := "MOST_WEIGHT") (v := mwV) (x0 := 9) (x1 := 1000) (x2 := 4607182418800017408) (x3 := 8) hA (fun j => by match j with | 0 => rfl | 1 => rfl | 2 => rfl | n + 3 => rfl) (hts _ (by decide +kernel)) hiW (hs _ (by decide +kernel)) (hs _ (by decide +kernel)) (hs _ (by decide +kernel)) (hs _ (by decide +kernel)) (hs _ (by decide +kernel)) (hs _ (by decide +kernel))
  have hk := en_kn hg
  have ha := en_arr hg ho
  let dC : Nat → ClassId × (Nat → Nat) := fun c => Classical.choose (hk c)
  let cA : Nat → ClassId := fun κ => Classical.choose (ha (κ - 20))
  refine ⟨((fun c => (dC c).1, fun c => (dC c).2), cA, s.heap.size, tF, tM), rfl, hg, hn, ho, ⟨fun c q hq => Classical.choose_spec (hk c) q hq, fun k q hq => ?_⟩, ⟨f1, f2⟩, ⟨m1, m2⟩, ?_, ?_, ?_⟩
  · rw [en_ty] at hq
    cases e : kTy[k]? with
    | none => rw [e] at hq; cases hq
    | some ty =>
      rw [e] at hq
      cases hq
      have h := Classical.choose_spec (ha (20 + k - 20)) ty (by rw [Nat.add_sub_cancel_left]; exact e)
      exact h
  · exact va_Zof (hts _ (by decide +kernel)) hiM (va_eql (hs _ (by decide +kernel))) hA
  · exact va_Zqof (hts _ (by decide +kernel)) hiT (hs _ (by decide +kernel)) hA
  · exact va_Zqof (hts _ (by decide +kernel)) hiT (hs _ (by decide +kernel)) hA
theorem en_end {s t : State} {b : Nat} {below : List Frame} {G : GB} (hG : G.2.2.1 = s.heap.size) (h : mQX below (hQc G (oI (fun r _ => r = 1))) #[Value.ref b] s 601024 7293034 G.A t) : lw_Z below #[Value.ref b] s t := by
  obtain ⟨o, h1, h2, ⟨⟨σ, ⟨r, rfl, hr⟩, -⟩, -⟩, L, ⟨hW, hs⟩, hL⟩ := h
  have hr' : r = 1 := hr
  subst hr'
  have e : s.setDrawn s.drawn = s := rfl
  refine ⟨_, h1, h2, rfl, lw_closed (d0 := s.drawn) (Drawn.sameBut.refl s.drawn lw_cs) ⟨_, rfl⟩ (by rw [e]; exact hW) ?_⟩
  rw [e]
  refine hs.weaken (fun y hy hlt => ?_) (Nat.le_refl _) (Nat.le_refl _)
  have h3 : G.2.2.1 ≤ y.base := hL y hy
  rw [hG] at h3
  exact absurd hlt (Nat.not_lt.mpr h3)
theorem whole_from {p : Program} {e : Env} {s : State} {m : MethodId} {below : List Frame} {meth : Method} {c : Code} (l : Launch) {b L : Nat} {xs : Nat → Int32} (C0 : lw_At p s m meth c b L xs) (hb : wL_law_0 601024 7293034 (fun r _ => r = 1) L xs 0 0 σ0) : W p l e room_1 s m #[Value.ref b] below meth c s.heap [] 0 0 (lw_Z below #[Value.ref b] s) (entryFrame m ([Value.ref b] : List Value).toArray 4) := by
  obtain ⟨c1, c2, c3, c4, c5, c6, c7, c8, c9, c10⟩ := C0
  obtain ⟨G, hG, hX0⟩ := en_hX c6 c10
  have hAll : ∀ q : Nat, s.heap.size ≤ q → G.A q := fun q h => by show G.2.2.1 ≤ q; rw [hG]; exact h
  have hw := kwL_law_0 (Γ := (p, l, e, room_1, s, m, #[Value.ref b], below, meth, c, G, 4, 601024, 7293034, oI (fun r _ => r = 1))) (nm := meth.name) ⟨c1, c2, c4, c5, hX0, hAll, c9, c3, rfl, rfl⟩ rfl (b0 := b) (Ln := L) (xs := xs) ⟨c7, c8, fun h => absurd c8 (Nat.not_lt.mpr (by have h2 : G.2.2.1 ≤ b := h; rw [hG] at h2; exact h2))⟩ 0 0 σ0 hb
  have hl2 := lv_entry [Value.ref b] (n := 4) (show 1 ≤ 4 by decide)
  have hw2 := hw s.heap [] _ (en_hR G s.heap) va_S.rf hl2
  rw [← lg_entry_eq] at hw2
  exact W.mono (fun t ht => en_end hG ht) hw2
