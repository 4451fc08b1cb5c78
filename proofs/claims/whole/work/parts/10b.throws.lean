/-! throws, copies out of the weights' row, clone -/
def hNE (Γ : hCT) : Prop := Γ.2.2.2.2.2.2.2.2.2.1.exceptionTable.isEmpty = true
theorem hM_ofX {y : MethodName} {cc : ByteArray} {maxL : Nat} {ret : Option FieldType} {fr lo mc ms : Nat} {av : List Value} {σ : St} {Q : Outcome → St → Prop} (hy : plainName y.cls = true) (hl : (lg_sl av).length ≤ maxL)
    (body : ∀ Γ : hCT, Γ.2.2.2.2.2.2.2.2.2.2.2 = (maxL, mc, ms, Q) → hC Γ y.cls cc ret y.name fr lo → hNE Γ → hW Γ 0 0 0 (lv_args 0 av) [] σ) : hM y cc maxL ret fr lo mc ms av σ Q := by
  intro l G
  refine MetFree.of_bodyS (code := cc) (maxLocals := maxL) (ret := ret) hy ?_ ?_
  · intro args s m h hn
    obtain ⟨meth, c, h1, h2, h3, h4, h5, h6, -, -⟩ := Cond.code_spec hn (atoms_spec (ws := [Cond.code y cc maxL ret]) h _ (List.mem_cons_self))
    exact ⟨meth, c, h1, h2, h3, h4, h5, h6⟩
  · intro p e s m args below meth c s₁ B hml hP _
    have hh0 : s₁.heap = s.heap := by rw [B.state]; rfl
    obtain ⟨rfl, hX0, hR0, hb0⟩ := hP
    have hcw := atoms_spec (ws := [Cond.code y cc maxL ret]) B.pre _ List.mem_cons_self
    have hml2 : c.maxLocals = maxL := B.maxLocals_eq hcw
    have hw := body (p, l, e, { frames := fr, cells := mc, slots := ms, locals := lo }, s, m, av.toArray, below, meth, c, G, maxL, mc, ms, Q) rfl ⟨B.exec, B.bytes, hml2, findClass_of_methodNamed B.named, hX0, fun q h => Nat.le_trans hb0 h, B.notSynchronized, B.returns, (name_of_methodNamed B.named B.method).1, rfl⟩ (B.noHandlers hcw)
    have hl2 := lv_entry av (n := maxL) hl
    have hw2 := hw s.heap [] _ hR0 va_S.rf hl2
    rw [← lg_entry_eq] at hw2
    obtain ⟨t, a1, o, b1, b2, b3⟩ := hw2 s₁ hh0 (Stand.of_body B)
    exact ⟨t, o, a1, b1, b2, ⟨b3.1, b3.2⟩⟩
theorem no_cover {c : Code} (h : c.exceptionTable.isEmpty = true) (pc : Nat) : ∀ x ∈ c.exceptionTable.toList, covers x pc = false := by
  intro x hx
  rw [Array.isEmpty_iff.mp h] at hx
  cases hx
/-- a call's outcome: it returned, or the exception stands over the caller's frame -/
theorem after_call {p : Program} {l : Launch} {e : Env} {R : Room} {s : State} {m : MethodId} {sargs : Array Value} {below : List Frame} {meth : Method} {c : Code} {U : State} {Ls : List Loc} {c0 s0 : Nat} {y : MethodName} {bytes : ByteArray} {maxL fr lo mc ms : Nat} {rt : Option FieldType} {G : GB} {av : List Value} {σ : St} {Q : Outcome → St → Prop}
    (X : Stand p l e R s m sargs below meth c U Ls c0 s0) (M : hM y bytes maxL rt fr lo mc ms av σ Q) {g : JFrame} {ig : Instr} {mk : MethodId} (hg : g.method = m) (hsize : g.locals.size = c.maxLocals) (hdg : decode c.code g.pc = .ok (ig, 3)) (h8 : 2 * g.monitorRoom + (g.stack.map fun v => v.category).sum ≤ 8) (hn : U.methodNamed? y = some mk)
    (hcode : (Cond.code y bytes maxL rt).before av.toArray U = true) (hini : (Cond.initialized y.cls).before av.toArray U = true) (hfr : fr + 1 ≤ R.frames) (hlo : 8 + (maxL + 11) + lo ≤ R.locals) (hc : c0 + mc ≤ R.cells) (hs : s0 + ms ≤ R.slots) (hP : hPc G av σ av.toArray U) :
    ∃ (o : Outcome) (σ' : St) (T' : State) (L : List Loc), Q o σ' ∧ hR G T'.heap σ' ∧ (U.heap.size ≤ T'.heap.size ∧ ∀ q : Nat, q < U.heap.size → ¬ G.A q → T'.heap[q]? = U.heap[q]?) ∧ (∀ q ∈ L, G.A q.base) ∧ Stand p l e R s m sargs below meth c T' (Ls ++ L) (c0 + mc) (s0 + ms) ∧
      ((∃ v, o = .returned v ∧ Steps p.tables e below (doInvoke e (U.setTop g) [] mk av.toArray).1 (T'.setTop { g with pc := g.pc + 3, stack := v.toList ++ g.stack })) ∨ ∃ x, o = .threw x ∧ Steps p.tables e below (doInvoke e (U.setTop g) [] mk av.toArray).1 ((T'.setTop g).pushFrame (.throwing x))) := by
  obtain ⟨methY, cY, hmY, hcY, -, hlY, -, -, -, -⟩ := Cond.code_spec hn hcode
  obtain ⟨kY, hkY, -⟩ := className_of_methodNamed hn
  have hinitY : kY.init = .initialized := Cond.initialized_spec (findClass_of_methodNamed hn) hkY hini
  have h : At U g.method c below := by rw [hg]; exact X.here
  have h1 : (allAtoms [Cond.code y bytes maxL rt]).before av.toArray U = true := atoms_intro (fun w hw => by cases List.mem_singleton.mp hw; exact hcode)
  have happ : (headSpec [Cond.code y bytes maxL rt] { frames := fr, cells := mc, slots := ms, locals := lo }).appliesLoose y e.platform (U.calling g mk av.toArray) = true :=
    Spec.appliesLoose_calling (g := g) h hdg hn hkY hinitY (X.room_calling (g := g) (R' := { frames := fr, cells := mc, slots := ms, locals := lo }) hsize hmY hcY hfr (by rw [hlY]; show _ + (maxL + 11) + lo ≤ _; omega) hc hs) h1
  obtain ⟨g₀, hr0⟩ := X.frames_eq
  have hfr2 : (U.setTop g).frames = [.java g] ++ below := by rw [State.frames_setTop _ hr0]; rfl
  obtain ⟨o, s₂, hsteps, -, hend, hq⟩ := Steps.callFree (M l G) p X.admits X.cas X.clock (acts := []) hfr2 happ (hPc_blind av.toArray U g mk hP) trivial
  rw [hfr2] at hend
  obtain ⟨⟨⟨σ', hq1, hr⟩, hF⟩, L, ⟨hW, hsame⟩, hL⟩ := hq
  cases o with
  | returned v =>
    obtain ⟨T', X', -, -, rfl⟩ := X.outOf hg hdg hend hW hsame
    exact ⟨.returned v, σ', T', L, hq1, hr, hF, hL, X', Or.inl ⟨v, rfl, hsteps⟩⟩
  | threw x =>
    obtain ⟨T', X', -, -, rfl⟩ := X.outOfThrown hg hend hW hsame
    exact ⟨.threw x, σ', T', L, hq1, hr, hF, hL, X', Or.inr ⟨x, rfl, hsteps⟩⟩
section R11
variable {Γ : hCT} {own : String} {cc : ByteArray} {ret : Option FieldType} {nm : String} {fr lo k n pc : Nat} {lv : List (Nat × Value)} {st : List Value} {σ : St}
theorem g_athrow {x mc ms nL : Nat} {Q : Outcome → St → Prop} (C : hC Γ own cc ret nm fr lo) (hne : hNE Γ) (hΓ : Γ.2.2.2.2.2.2.2.2.2.2.2 = (nL, mc, ms, Q)) (hk : k ≤ mc) (hn : n ≤ ms) (d : decode cc pc = .ok (.athrow, 1)) (q : Q (.threw x) σ) : hW Γ k n pc lv (.ref x :: st) σ := by
  obtain ⟨p, l, e, R, s, m, args, below, meth, c, G, nL', mc', ms', Q'⟩ := Γ
  cases hΓ
  intro H locs ls hr hs hl T hT X
  obtain ⟨c1, c2, c3, c4, c5, c6, c7, c8, c9, c10⟩ := C
  subst c2
  obtain ⟨a1, a2, a3, a4, a5⟩ := X.athrowLeaves c1 (g := F0 m pc ls (.ref x :: st)) rfl rfl rfl (no_cover hne pc) rfl d c7
  refine ⟨_, a1, .threw x, a2, a3, ⟨⟨σ, q, ?_⟩, ?_⟩, locs, ⟨a4, a5.mono hk hn⟩, hs.2.2⟩
  · show hR G T.heap σ
    rw [hT]; exact hr
  · exact hs.F (t := T.setFrames _) hT
theorem inv_on {p : Program} {l : Launch} {e : Env} {R : Room} {s : State} {m : MethodId} {args : Array Value} {below : List Frame} {meth : Method} {c : Code} {G : GB} {mc ms mc' ms' : Nat} {Q : Outcome → St → Prop} {H : Heap} {locs : List Loc} {ls : Array Slot} {rest : List Value} {T : State} {v1 : Vm} {g0 : JFrame} {mk : MethodId} {av : Array Value} {L : List Loc} {T' : State} {σ' : St} {o : Outcome}
    (hne : c.exceptionTable.isEmpty = true) (hlocks : meth.locks = false) (hk : k + mc' ≤ mc) (hn : n + ms' ≤ ms) (hT : T.heap = H) (hs : va_S G.A s.heap H locs)
    (hst : ∀ target, Steps p.tables e below (doInvoke e ((T.setVm v1).setTop (F0 m pc ls rest)) [] mk av).1 target → Steps p.tables e below (T.setTop g0) target)
    (hr : hR G T'.heap σ') (hF : (T.setVm v1).heap.size ≤ T'.heap.size ∧ ∀ q : Nat, q < (T.setVm v1).heap.size → ¬ G.A q → T'.heap[q]? = (T.setVm v1).heap[q]?) (hL : ∀ q ∈ L, G.A q.base) (X' : Stand p l e R s m args below meth c T' (locs ++ L) (k + mc') (n + ms'))
    (ho : (∃ v, o = .returned v ∧ Steps p.tables e below (doInvoke e ((T.setVm v1).setTop (F0 m pc ls rest)) [] mk av).1 (T'.setTop { F0 m pc ls rest with pc := pc + 3, stack := v.toList ++ rest })) ∨ ∃ x, o = .threw x ∧ Steps p.tables e below (doInvoke e ((T.setVm v1).setTop (F0 m pc ls rest)) [] mk av).1 ((T'.setTop (F0 m pc ls rest)).pushFrame (.throwing x)))
    (kk : (∃ v, o = .returned v ∧ ∀ (H1 : Heap) (locs1 : List Loc), hR G H1 σ' → va_S G.A s.heap H1 locs1 → W p l e R s m args below meth c H1 locs1 (k + mc') (n + ms') (mQX below (hQc G Q) args s mc ms G.A) (F0 m (pc + 3) ls (v.toList ++ rest))) ∨ ∃ x, o = .threw x ∧ Q (.threw x) σ') :
    ∃ t, Steps p.tables e below (T.setTop g0) t ∧ mQX below (hQc G Q) args s mc ms G.A t := by
  have hh : (T.setVm v1).heap = H := hT
  rw [hh] at hF
  have hs1 : va_S G.A s.heap T'.heap (locs ++ L) := by
    refine ⟨Nat.le_trans hs.1 hF.1, fun a ha hn => ?_, fun q hq => ?_⟩
    · rw [hF.2 a (Nat.lt_of_lt_of_le ha hs.1) hn]
      exact hs.2.1 a ha hn
    · rcases List.mem_append.mp hq with h | h
      · exact hs.2.2 q h
      · exact hL q h
  rcases kk with ⟨v, rfl, kk⟩ | ⟨x, rfl, q⟩
  · rcases ho with ⟨v', hv, st⟩ | ⟨x, hx, -⟩
    · cases hv
      obtain ⟨t2, a1, b1⟩ := kk T'.heap (locs ++ L) hr hs1 T' rfl X'
      exact ⟨t2, hst t2 (st.trans a1), b1⟩
    · cases hx
  · rcases ho with ⟨v', hv, -⟩ | ⟨x', hx, st⟩
    · cases hv
    · cases hx
      obtain ⟨a1, a2, a3, a4, a5⟩ := X'.leaveThrown x (g := F0 m pc ls rest) rfl rfl rfl (no_cover hne pc) hlocks
      exact ⟨_, hst _ (st.trans a1), .threw x, a2, a3, ⟨⟨σ', q, hr⟩, hs1.F (t := T'.setFrames _) rfl⟩, locs ++ L, ⟨a4, a5.mono hk hn⟩, hs1.2.2⟩
theorem g_invXV {y : MethodName} {bytes : ByteArray} {maxL na fr' lo' mc' ms' idx b ci mc ms nL : Nat} {rt : Option FieldType} {RC : String} {Q Q' : Outcome → St → Prop} (As rest : List Value) (Y : zY y bytes maxL rt na) (w : Cond.methodLink own idx y ∈ tbG) (w2 : Cond.instanceMethod y ∈ tbG) (w3 : Cond.selects RC y y ∈ tbG) (hRC : ∃ T N, vwCl[ci]? = some (RC, T, N)) (hci : ci < 17) (C : hC Γ own cc ret nm fr lo) (d : decode cc pc = .ok (.invokevirtual idx, 3)) (hfr : fr' + 1 ≤ fr) (hlo : 8 + (maxL + 11) + lo' ≤ lo) (h8 : (rest.map fun v => v.category).sum ≤ 8) (hk : k + mc' ≤ hMc Γ) (hn : n + ms' ≤ hMs Γ) (hna : As.length = na) (hst : st = As.reverse ++ .ref b :: rest) (hb : zK σ b = ci + 1)
    (hΓ : Γ.2.2.2.2.2.2.2.2.2.2.2 = (nL, mc, ms, Q)) (hne : hNE Γ) (M : hM y bytes maxL rt fr' lo' mc' ms' (.ref b :: As) σ Q') (kk : ∀ o σ', Q' o σ' → (∃ v, o = .returned v ∧ hW Γ (k + mc') (n + ms') (pc + 3) lv (v.toList ++ rest) σ') ∨ ∃ x, o = .threw x ∧ Q (.threw x) σ') : hW Γ k n pc lv st σ := by
  obtain ⟨p, l, e, R, s, m, args, below, meth, c, G, nL', mc'', ms'', Q''⟩ := Γ
  cases hΓ
  intro H locs ls hr hs hl T hT X
  obtain ⟨c1, c2, c3, c4, c5, c6, c7, c8, c9, c10⟩ := C
  subst c2
  obtain ⟨y1, y2, y3, y4⟩ := Y
  obtain ⟨T0, N, hT0⟩ := hRC
  obtain ⟨cellB, hcB, hoB, hclB⟩ := va_recv c5.2.2.2.1 (hR_rd hr (by rw [hb]; omega) (zCe_obj hb hci)) (q0 := 0) hT0 rfl
  have hf : k + mc' ≤ R.cells ∧ n + ms' ≤ R.slots := by rw [c10]; exact ⟨hk, hn⟩
  obtain ⟨mk, methM, hnamed, hmethM, hstM, habM⟩ := Cond.instanceMethod_spec (tb_word c5 w2 args)
  obtain ⟨methM', cM, hmethM', -, -, -, -, -, -, hsigM⟩ := Cond.code_spec hnamed (tb_word c5 y1 args)
  cases hmethM.symm.trans hmethM'
  obtain ⟨c2', r2, m2, q1, q2, q3, q4, kP, hkP, hkPi⟩ := Cond.selects_spec (tb_word c5 w3 args)
  cases hclB.symm.trans q1
  cases (State.methodFound?_of_named hnamed y3).symm.trans q2
  cases hnamed.symm.trans q3
  have hselP : selectMethod e.platform s.vm cellB.cls mk = .method mk := by rw [Launch.admits_selectMethod X.admits]; exact q4
  have hlen : As.length = methM.sig.parameters.length := by
    rw [hsigM] at y4
    exact hna.trans (Option.some.inj y4).symm
  obtain ⟨vm₁, X₁, hstep₁⟩ := X.invokevirtual c1 c4 (tb_word c5 w args) hnamed hmethM hstM hkP hkPi y3 (a := b) (cell := cellB) (by rw [hT]; exact hcB)
    (fun z h => by rw [h] at hoB; cases hoB) hselP hmethM habM hkP hkPi (g := F0 m pc ls st) rfl (argsL := As) (rest := rest) hlen hst d
  have hW₁ := X₁.warmed
  obtain ⟨o, σ', T', L, hq, hr', hF, hL, X', ho⟩ := after_call (G := G) (av := .ref b :: As) (g := F0 m pc ls rest) (ig := .invokevirtual idx) X₁ M rfl (hl.1.trans c3.symm) d (by show 2 * 0 + (rest.map fun v => v.category).sum ≤ 8; omega) (X₁.named hnamed) (tb_warm hW₁ y1 (c5.1 _ y1) _) (tb_warm hW₁ y2 (c5.1 _ y2) _) (by rw [c10]; exact hfr) (by rw [c10]; exact hlo) hf.1 hf.2 (pre_of c5 c6 hr hs (T.setVm vm₁) hT hW₁)
  refine inv_on (G := G) (v1 := vm₁) (mk := mk) (rest := rest) (o := o) (σ' := σ') hne c7 hk hn hT hs (fun target h => hstep₁ _ fun acts => by rw [doInvoke_state]; exact h) hr' hF hL X' ho ?_
  rcases kk o σ' hq with ⟨v, hv, h2⟩ | h2
  · exact Or.inl ⟨v, hv, fun H1 locs1 hr1 hs1 => h2 H1 locs1 ls hr1 hs1 hl⟩
  · exact Or.inr h2
theorem g_thrown {mc ms nL x : Nat} {P : Outcome → St → Prop} {E : St → Prop} (hΓ : Γ.2.2.2.2.2.2.2.2.2.2.2 = (nL, mc, ms, oT P E)) (hx : zK σ x = 14) (hb : E σ) : oT P E (.threw x) σ := Or.inr ⟨x, rfl, hx, hb⟩
end R11
section R12
variable {Γ : hCT} {own : String} {cc : ByteArray} {ret : Option FieldType} {nm : String} {fr lo k n pc : Nat} {lv : List (Nat × Value)} {st : List Value} {σ : St}
/-- a new long[] like that at a -/
def nC (σ : St) (q a : Nat) : St := (va_up (zK σ) q 21, va_up (zL σ) q (zL σ a), zFi σ, zFj σ, zFr σ, zAi σ, (fun x i => if x = q then zAj σ a i else zAj σ x i), zAd σ, zAr σ)
theorem nC_K {σ : St} {q a : Nat} : zK (nC σ q a) q = 21 := if_pos rfl
theorem g_clone {a idx : Nat} (w1 : Cond.methodLink own idx ⟨"[J", "clone", "()Ljava/lang/Object;"⟩ ∈ tbG) (w2 : Cond.sameMethod "[J" "java/lang/Object" "clone" "()Ljava/lang/Object;" ∈ tbG) (w3 : Cond.native ⟨"java/lang/Object", "clone", "()Ljava/lang/Object;"⟩ ∈ tbG) (w4 : Cond.instanceMethod ⟨"java/lang/Object", "clone", "()Ljava/lang/Object;"⟩ ∈ tbG) (w5 : Cond.selects "[J" ⟨"[J", "clone", "()Ljava/lang/Object;"⟩ ⟨"java/lang/Object", "clone", "()Ljava/lang/Object;"⟩ ∈ tbG) (w6 : Cond.castable "[J" "java/lang/Cloneable" ∈ tbN)
    (C : hC Γ own cc ret nm fr lo) (hfr : 1 ≤ fr) (hlo : (st.map fun v => v.category).sum + 14 ≤ lo) (d : decode cc pc = .ok (.invokevirtual idx, 3)) (ha : zK σ a = 21) (hk : k + 1 ≤ hMc Γ) (hn : n + zL σ a ≤ hMs Γ) (kk : ∀ q, zK σ q = 0 → hW Γ (k + 1) (n + zL σ a) (pc + 3) lv (.ref q :: st) (nC σ q a)) : hW Γ k n pc lv (.ref a :: st) σ := by
  obtain ⟨p, l, e, R, s, m, args, below, meth, c, G, nL, mc, ms, Q⟩ := Γ
  intro H locs ls hr hs hl
  obtain ⟨c1, c2, c3, c4, c5, c6, c7, c8, c9, rfl⟩ := C
  obtain ⟨L, hL, hP, hD⟩ := hr
  obtain ⟨q0, hq0⟩ := va_pl_get (X := []) (f := zCe G.cy σ) ((hL a).mpr (by rw [ha]; decide))
  have hq0 : (va_pl L (zCe G.cy σ))[q0]? = some (a, zCe G.cy σ a) := hq0
  rw [zCe_j ha] at hq0
  have hRA := (c5.2.2.2.1.2 1 (G.cy 21, .long) rfl).2
  exact va_clone c1 c2 (c3.trans hl.1.symm) c4 (tb_word c5 w1 args) (tb_word c5 w2 args) (tb_word c5 w3 args) (tb_word c5 w4 args) (tb_word c5 w5 args) (c5.2.1 _ w6) c5.2.2.2.1 hP hD hs c6 q0 1 hq0 rfl hRA (fun i v hv => by
      have : ∃ x : Int64, v = .long x := by
        have h2 : (arrV (G.cy 21) (zL σ a) (fun j => Value.long (zAj σ a j))).slots[i]? = some v := hv
        obtain ⟨h3, h4⟩ := Array.getElem?_eq_some_iff.mp h2
        simp only [arrV, Array.getElem_ofFn] at h4
        exact ⟨_, h4.symm⟩
      obtain ⟨x, rfl⟩ := this
      rfl) hfr hlo hk hn d (fun q H1 _ hP1 hD1 hs1 => by
    have hq : q ∉ L := fresh_of hD1
    refine kk q (Classical.byContradiction fun h => hq ((hL q).mpr h)) H1 locs ls (hR_new (κ := 21) (H := H) hL hq (by decide) hP1 hD1 (cell_new (σ' := nC σ q a) (fun b hb => if_neg hb) (fun b hb => if_neg hb) (fun _ _ _ _ => rfl) ?_ (fun _ _ => rfl) (fun b hb => funext fun _ => if_neg hb) (fun _ _ => rfl) (fun _ _ => rfl)) (fun _ => rfl)) hs1 hl
    rw [zCe_j nC_K]
    rw [show zL (nC σ q a) q = zL σ a from if_pos rfl, show zAj (nC σ q a) q = zAj σ a from funext fun _ => if_pos rfl])
theorem g_castJ {a idx : Nat} (w : Cond.classLink own idx "[J" ∈ tbG) (C : hC Γ own cc ret nm fr lo) (d : decode cc pc = .ok (.checkcast idx, 3)) (ha : zK σ a = 21) (kk : hW Γ k n (pc + 3) lv (.ref a :: st) σ) : hW Γ k n pc lv (.ref a :: st) σ := by
  obtain ⟨p, l, e, R, s, m, args, below, meth, c, G, nL, mc, ms, Q⟩ := Γ
  intro H locs ls hr hs hl
  obtain ⟨c1, c2, c3, c4, c5, c6, c7, c8, c9, rfl⟩ := C
  exact va_castA c1 c2 c4 (tb_word c5 w args) (hR_rd hr (by rw [ha]; decide) (zCe_j ha)) 0 rfl (c5.2.2.2.1.2 1 (G.cy 21, .long) rfl).2 d (kk H locs ls hr hs hl)
/-- statics of Throwable's: a reference or null, which nobody knows -/
theorem g_getsT {idx : Nat} {nme ds : String} (h : ∀ (G : GB) (U : State), hX G U → va_Zq "java/lang/Throwable" nme ds G.A U U.heap) (C : hC Γ own cc ret nm fr lo) (w : Cond.fieldLink own idx "java/lang/Throwable" nme ds ∈ tbG) (d : decode cc pc = .ok (.getstatic idx, 3)) (kk : ∀ o : Option Nat, hW Γ k n (pc + 3) lv (va_rf o :: st) σ) : hW Γ k n pc lv st σ := by
  obtain ⟨p, l, e, R, s, m, args, below, meth, c, G, nL, mc, ms, Q⟩ := Γ
  intro H locs ls hr hs hl
  have hX := C.2.2.2.2.1
  rcases h G s hX with h | ⟨t, h⟩
  · exact va_gets C.1 C.2.1 h hs C.2.2.2.1 (tb_word hX w args) (fun _ h => h) d (kk none H locs ls hr hs hl)
  · exact va_gets C.1 C.2.1 h hs C.2.2.2.1 (tb_word hX w args) (fun _ h => h) d (kk (some t) H locs ls hr hs hl)
theorem tq_1 (G : GB) (U : State) (h : hX G U) : va_Zq "java/lang/Throwable" "UNASSIGNED_STACK" "[Ljava/lang/StackTraceElement;" G.A U U.heap := h.2.2.2.2.2.2.2.1
theorem tq_2 (G : GB) (U : State) (h : hX G U) : va_Zq "java/lang/Throwable" "SUPPRESSED_SENTINEL" "Ljava/util/List;" G.A U U.heap := h.2.2.2.2.2.2.2.2
theorem wd_930 : Cond.sameMethod "[J" "java/lang/Object" "clone" "()Ljava/lang/Object;" ∈ tbG := mem_tb 930 (by decide +kernel) (by decide +kernel)
end R12
