/-! a throw that is caught in the method itself; a method with a table of handlers -/
theorem hdl_go {Q : Handler → Pre} {E : CtlPost} {e : Env} {d : Bool} {acts : List Action} {s : State} {f : JFrame} {a : Addr} {x : ExceptionTableEntry} {t : List ExceptionTableEntry} {c : ClassId} {cell : Cell} (hx : covers x f.pc = true) (h0 : x.catchType ≠ 0) (hl : s.vm.ClassLinks e.platform f.method.cls x.catchType c) (hcell : s.heap[a]? = some cell) (hobj : ∀ k, cell.vm ≠ .statics k)
    (hk : ∃ k, s.vm.classes[cell.cls]? = some k) (hc : ∃ k, s.vm.classes[c]? = some k) (hfit : s.vm.assignable cell.cls c = true) :
    wp (findHandler.go f a (x :: t)) Q E e d acts s ↔ Q (.found x.handlerPc) d acts (s.setVm (s.vm.noted f.method.cls x.catchType (.cls c))) := by
  unfold covers at hx
  have hop := (resolveClass_links e.toSetting hl).op (op := VmOp.resolveClass f.method.cls x.catchType) rfl
  have al : s.vm.Alike (s.vm.noted f.method.cls x.catchType (.cls c)) := (Vm.Alike.refl s.vm).noted _ _ _
  obtain ⟨u1, g1⟩ := hk
  obtain ⟨u2, g2⟩ := hc
  obtain ⟨v1, w1, -⟩ := al.2.2 _ _ g1
  obtain ⟨v2, w2, -⟩ := al.2.2 _ _ g2
  have hf : (s.vm.noted f.method.cls x.catchType (.cls c)).assignable cell.cls c = true := by rw [al.assignable]; exact hfit
  simp [findHandler.go, hx, h0, hop.1, hop.2, hcell, hobj, w1, w2, hf, VmOp.dirties, VmOp.acts]
theorem caught_here {p : Program} {l : Launch} {e : Env} {R : Room} {s : State} {m : MethodId} {args : Array Value} {below : List Frame} {meth : Method} {c : Code} {T : State} {locs : List Loc} {cells slots : Nat} (X : Stand p l e R s m args below meth c T locs cells slots) (a : Addr) {g : JFrame} (hg : g.method = m) {own name : String} (hown : s.vm.findClass own = some m.cls)
    {x : ExceptionTableEntry} (htab : c.exceptionTable.toList = [x]) (hx : covers x g.pc = true) (h0 : x.catchType ≠ 0) (hlink : (Cond.classLink own x.catchType name).before args s = true) {cT : ClassId} {cell : Cell} (hcT : s.vm.findClass name = some cT) (hcell : T.heap[a]? = some cell) (hobj : cell.vm.isStatics = false) (hfit : s.vm.assignable cell.cls cT = true) :
    ∃ vm', Stand p l e R s m args below meth c (T.setVm vm') locs cells slots ∧ ∀ target, Steps p.tables e below ((T.setVm vm').setTop { g with pc := x.handlerPc, stack := [.ref a] }) target → Steps p.tables e below ((T.setTop g).pushFrame (.throwing a)) target := by
  have hpl : e.platform.magicAccessors = ({} : Platform).magicAccessors := by rw [X.admits.platform]
  obtain ⟨c', hc', hcl⟩ := Cond.classLink_spec hown hlink e.platform hpl
  cases hcT.symm.trans hc'
  obtain ⟨dk, _, _, kt, hd, _, _, _, _, hkt, _, hop⟩ := hcl.here
  have hcl0 := X.warmed.classLinks hcl
  have hW' : s.WarmedH (T.vm.noted m.cls x.catchType (.cls cT)) := X.warmed.noted hd hop (State.rightAt_cls hcl)
  have hal := X.warmed.alike
  obtain ⟨kt', hkt', -⟩ := hal.2.2 _ _ hkt
  have hfit' : T.vm.assignable cell.cls cT = true := by rw [hal.assignable]; exact hfit
  refine ⟨_, X.noted hW', fun target hrest => ?_⟩
  subst hg
  have hAt := X.here
  have hvm : ((T.setTop g).pushFrame (.throwing a)).vm = T.vm := by simp [State.pushFrame, State.setFrames, State.setTop, State.modifyTopJava]
  have hhp : ((T.setTop g).pushFrame (.throwing a)).heap = T.heap := by simp [State.pushFrame, State.setFrames, State.setTop, State.modifyTopJava]
  have hfind : ∀ (Q : Handler → Pre) (E : CtlPost) (d : Bool) (acts : List Action), wp (findHandler g a) Q E e d acts ((T.setTop g).pushFrame (.throwing a)) ↔ Q (.found x.handlerPc) d acts (((T.setTop g).pushFrame (.throwing a)).setVm (T.vm.noted g.method.cls x.catchType (.cls cT))) := by
    intro Q E d acts
    rw [W.findHandler_eq (meth := meth) (code := c) (by rw [hvm]; exact X.method') X.code, htab]
    have h := hdl_go (Q := Q) (E := E) (e := e) (d := d) (acts := acts) (s := (T.setTop g).pushFrame (.throwing a)) (f := g) (a := a) (t := []) (c := cT) (cell := cell) hx h0 (by rw [hvm]; exact hcl0) (by rw [hhp]; exact hcell) (fun k hk => by rw [hk] at hobj; cases hobj) (by rw [hvm]; exact Vm.classAt_of_assignable hfit' ⟨kt', hkt'⟩) (by rw [hvm]; exact ⟨kt', hkt'⟩) (by rw [hvm]; exact hfit')
    rw [hvm] at h
    exact h
  obtain ⟨hgo, hw⟩ := hAt.throwing a
  refine Steps.head hgo hw ?_
  have hst : (stepThrowing e ((T.setTop g).pushFrame (.throwing a)) a (.java g :: T.frames.tail)).Is ((((T.setTop g).pushFrame (.throwing a)).setVm (T.vm.noted g.method.cls x.catchType (.cls cT))).setFrames (.java { g with pc := x.handlerPc, stack := [.ref a] } :: T.frames.tail)) [] := by
    simp only [stepThrowing, searchFrame, vmDo]
    generalize hr : Sem.go _ e false [] ((T.setTop g).pushFrame (.throwing a)) = res
    obtain ⟨as, rfl, ha⟩ := Sem.eq_ok_of hr (a := Handler.found x.handlerPc) (s' := ((T.setTop g).pushFrame (.throwing a)).setVm (T.vm.noted g.method.cls x.catchType (.cls cT))) (acts' := []) (by simp [hfind _ _ _ _])
    exact ⟨rfl, ha⟩
  rw [stepThread_throwing (frames_entered hAt.top _), hst.1]
  obtain ⟨g₀, hr⟩ := X.frames_eq
  have hr' : (T.setVm (T.vm.noted g.method.cls x.catchType (.cls cT))).frames = .java g₀ :: below := hr
  rw [State.setTop_of_frames _ hr'] at hrest
  have e1 : ((T.setTop g).pushFrame (.throwing a)).setVm (T.vm.noted g.method.cls x.catchType (.cls cT)) = (T.setVm (T.vm.noted g.method.cls x.catchType (.cls cT))).setFrames (((T.setTop g).pushFrame (.throwing a)).frames) := by
    rw [State.pushFrame, State.setTop_of_frames _ hr, State.setFrames_setFrames]
    have hcur : T.cur < T.threads.size := State.cur_lt_of_frames hr
    rw [State.frames_setFrames _ hcur, State.frames_setFrames _ hcur]
    rfl
  rw [e1, State.setFrames_setFrames, hr, List.tail_cons]
  exact hrest
/-- the class has one handler -/
def hEX (Γ : hCT) (q : Nat × Nat × Nat × Nat) : Prop := ∃ x : ExceptionTableEntry, Γ.2.2.2.2.2.2.2.2.2.1.exceptionTable.toList = [x] ∧ (x.startPc, x.endPc, x.handlerPc, x.catchType) = q
section R16
variable {Γ : hCT} {own : String} {cc : ByteArray} {ret : Option FieldType} {nm : String} {fr lo k n pc : Nat} {lv : List (Nat × Value)} {st : List Value} {σ : St}
/-- a call whose throw (of Many's alone) is caught here -/
theorem g_invCV {y : MethodName} {bytes : ByteArray} {maxL na fr' lo' mc' ms' idx b ci p1 p2 p3 p4 : Nat} {rt : Option FieldType} {RC : String} {Q' : Outcome → St → Prop} (As rest : List Value) (Y : zY y bytes maxL rt na) (w : Cond.methodLink own idx y ∈ tbG) (w2 : Cond.instanceMethod y ∈ tbG) (w3 : Cond.selects RC y y ∈ tbG) (hRC : ∃ T N, vwCl[ci]? = some (RC, T, N)) (hci : ci < 17) (C : hC Γ own cc ret nm fr lo) (d : decode cc pc = .ok (.invokevirtual idx, 3)) (hfr : fr' + 1 ≤ fr) (hlo : 8 + (maxL + 11) + lo' ≤ lo) (h8 : (rest.map fun v => v.category).sum ≤ 8) (hk : k + mc' ≤ hMc Γ) (hn : n + ms' ≤ hMs Γ) (hna : As.length = na) (hst : st = As.reverse ++ .ref b :: rest) (hb : zK σ b = ci + 1)
    (hex : hEX Γ (p1, p2, p3, p4)) (hp1 : p1 ≤ pc) (hp2 : pc < p2) (hp4 : p4 ≠ 0) (wc : Cond.classLink own p4 RX13 ∈ tbG) (wk : Cond.castable RX13 RX13 ∈ tbN) (M : hM y bytes maxL rt fr' lo' mc' ms' (.ref b :: As) σ Q') (kk : ∀ o σ', Q' o σ' → (∃ v, o = .returned v ∧ hW Γ (k + mc') (n + ms') (pc + 3) lv (v.toList ++ rest) σ') ∨ ∃ x, o = .threw x ∧ zK σ' x = 14 ∧ hW Γ (k + mc') (n + ms') p3 lv [.ref x] σ') : hW Γ k n pc lv st σ := by
  obtain ⟨p, l, e, R, s, m, args, below, meth, c, G, nL, mc, ms, Q⟩ := Γ
  intro H locs ls hr hs hl T hT X
  obtain ⟨c1, c2, c3, c4, c5, c6, c7, c8, c9, c10⟩ := C
  subst c2
  obtain ⟨y1, y2, y3, y4⟩ := Y
  obtain ⟨T0, N, hT0⟩ := hRC
  obtain ⟨cellB, hcB, hoB, hclB⟩ := va_recv c5.2.2.2.1 (hR_rd hr (by rw [hb]; omega) (zCe_obj hb hci)) (q0 := 0) hT0 rfl
  have hf : k + mc' ≤ R.cells ∧ n + ms' ≤ R.slots := by rw [c10]; exact ⟨hk, hn⟩
  obtain ⟨mk, methM, hnamed, hmethM, hstM, habM⟩ := Cond.instanceMethod_spec (tb_word c5 w2 args)
  obtain ⟨methM', cM, hmethM', -, -, -, -, -, -, hsigM⟩ := Cond.code_spec hnamed (tb_word c5 y1 args)
  cases hmethM.symm.trans hmethM'
  obtain ⟨c2', r2, m2, q1, q2, q3, q4, kP, hkP, hkPi⟩ := Cond.selects_spec (tb_word c5 w3 args)
  cases hclB.symm.trans q1
  cases (State.methodFound?_of_named hnamed y3).symm.trans q2
  cases hnamed.symm.trans q3
  have hselP : selectMethod e.platform s.vm cellB.cls mk = .method mk := by rw [Launch.admits_selectMethod X.admits]; exact q4
  have hlen : As.length = methM.sig.parameters.length := by
    rw [hsigM] at y4
    exact hna.trans (Option.some.inj y4).symm
  obtain ⟨vm₁, X₁, hstep₁⟩ := X.invokevirtual c1 c4 (tb_word c5 w args) hnamed hmethM hstM hkP hkPi y3 (a := b) (cell := cellB) (by rw [hT]; exact hcB)
    (fun z h => by rw [h] at hoB; cases hoB) hselP hmethM habM hkP hkPi (g := F0 m pc ls st) rfl (argsL := As) (rest := rest) hlen hst d
  have hW₁ := X₁.warmed
  obtain ⟨o, σ', T', L, hq, hr', hF, hL, X', ho⟩ := after_call (G := G) (av := .ref b :: As) (g := F0 m pc ls rest) (ig := .invokevirtual idx) X₁ M rfl (hl.1.trans c3.symm) d (by show 2 * 0 + (rest.map fun v => v.category).sum ≤ 8; omega) (X₁.named hnamed) (tb_warm hW₁ y1 (c5.1 _ y1) _) (tb_warm hW₁ y2 (c5.1 _ y2) _) (by rw [c10]; exact hfr) (by rw [c10]; exact hlo) hf.1 hf.2 (pre_of c5 c6 hr hs (T.setVm vm₁) hT hW₁)
  have hh : (T.setVm vm₁).heap = H := hT
  rw [hh] at hF
  have hs1 : va_S G.A s.heap T'.heap (locs ++ L) := by
    refine ⟨Nat.le_trans hs.1 hF.1, fun a ha hn => ?_, fun q hq => ?_⟩
    · rw [hF.2 a (Nat.lt_of_lt_of_le ha hs.1) hn]
      exact hs.2.1 a ha hn
    · rcases List.mem_append.mp hq with h | h
      · exact hs.2.2 q h
      · exact hL q h
  have go : ∀ target, Steps p.tables e below (doInvoke e ((T.setVm vm₁).setTop (F0 m pc ls rest)) [] mk (Value.ref b :: As).toArray).1 target → Steps p.tables e below (T.setTop (F0 m pc ls st)) target := fun target h => hstep₁ _ fun acts => by rw [doInvoke_state]; exact h
  rcases kk o σ' hq with ⟨v, rfl, h2⟩ | ⟨x, rfl, hxk, h2⟩
  · rcases ho with ⟨v', hv, st1⟩ | ⟨x, hx, -⟩
    · cases hv
      obtain ⟨t2, a1, b1⟩ := h2 T'.heap (locs ++ L) ls hr' hs1 hl T' rfl X'
      exact ⟨t2, go t2 (st1.trans a1), b1⟩
    · cases hx
  · rcases ho with ⟨v', hv, -⟩ | ⟨x', hx, st1⟩
    · cases hv
    · cases hx
      obtain ⟨en, hen, henq⟩ := hex
      simp only [Prod.mk.injEq] at henq
      obtain ⟨rfl, rfl, rfl, rfl⟩ := henq
      obtain ⟨cellX, hcX, hoX, hclX⟩ := va_recv c5.2.2.2.1 (hR_rd hr' (by rw [hxk]; decide) (zCe_obj (ci := 13) hxk (by decide))) (q0 := 0) (q := (RX13, TX13, 6)) rfl rfl
      obtain ⟨k1, k2, hk1, hk2, has⟩ := Cond.castable_spec (va_Nw.use (A := args) rfl (c5.2.1 _ wk))
      have hclX' : s.vm.findClass RX13 = some cellX.cls := hclX
      cases hclX'.symm.trans hk1
      obtain ⟨vm', XV, stV⟩ := caught_here X' x (g := F0 m pc ls rest) rfl c4 hen (by unfold covers; simp; omega) hp4 (tb_word c5 wc args) hk2 hcX hoX has
      obtain ⟨t2, a1, b1⟩ := h2 T'.heap (locs ++ L) ls hr' hs1 hl (T'.setVm vm') rfl XV
      exact ⟨t2, go t2 (st1.trans (stV t2 a1)), b1⟩
end R16
/-- what a method with handlers does -/
def hMW (y : MethodName) (cc : ByteArray) (maxL : Nat) (ret : Option FieldType) (hh : List (Nat × Nat × Nat × Nat)) (fr lo mc ms : Nat) (av : List Value) (σ : St) (Q : Outcome → St → Prop) : Prop := ∀ (l : Launch) (G : GB),
  MetFree l y (headSpec [Cond.codeWith y cc maxL ret hh] { frames := fr, cells := mc, slots := ms, locals := lo }) (hPc G av σ) (fun _ _ _ _ _ => True) (fun a st o t => hQc G Q a st o t ∧ ∃ L, fEX st t L mc ms ∧ ∀ q ∈ L, G.A q.base)
theorem hMW_of {y : MethodName} {cc : ByteArray} {maxL : Nat} {ret : Option FieldType} {q : Nat × Nat × Nat × Nat} {fr lo mc ms : Nat} {av : List Value} {σ : St} {Q : Outcome → St → Prop} (hy : plainName y.cls = true) (hl : (lg_sl av).length ≤ maxL)
    (body : ∀ Γ : hCT, Γ.2.2.2.2.2.2.2.2.2.2.2 = (maxL, mc, ms, Q) → hC Γ y.cls cc ret y.name fr lo → hEX Γ q → hW Γ 0 0 0 (lv_args 0 av) [] σ) : hMW y cc maxL ret [q] fr lo mc ms av σ Q := by
  intro l G
  refine MetFree.of_bodyS (code := cc) (maxLocals := maxL) (ret := ret) hy ?_ ?_
  · intro args s m h hn
    obtain ⟨m9, meth, c, hn9, h1, h2, h3, h4, -, h5, h6, -⟩ := Cond.codeWith_spec (atoms_spec (ws := [Cond.codeWith y cc maxL ret [q]]) h _ (List.mem_cons_self))
    cases hn9.symm.trans hn
    exact ⟨meth, c, h1, h2, h3, h4, h5, h6⟩
  · intro p e s m args below meth c s₁ B hml hP _
    have hh0 : s₁.heap = s.heap := by rw [B.state]; rfl
    obtain ⟨rfl, hX0, hR0, hb0⟩ := hP
    obtain ⟨m9, meth9, c9, hn9, g1, g2, g3, g4, g5, -⟩ := Cond.codeWith_spec (atoms_spec (ws := [Cond.codeWith y cc maxL ret [q]]) B.pre _ List.mem_cons_self)
    cases hn9.symm.trans B.named
    cases g1.symm.trans B.method
    cases g2.symm.trans (Stand.of_body B).code
    have hex : ∃ x : ExceptionTableEntry, c.exceptionTable.toList = [x] ∧ (x.startPc, x.endPc, x.handlerPc, x.catchType) = q := by
      match hc : c.exceptionTable.toList, g5 with
      | [x], g5 => exact ⟨x, rfl, (List.cons.inj g5).1⟩
      | [], g5 => cases g5
      | x :: z :: r, g5 => cases (List.cons.inj g5).2
    have hw := body (p, l, e, { frames := fr, cells := mc, slots := ms, locals := lo }, s, m, av.toArray, below, meth, c, G, maxL, mc, ms, Q) rfl ⟨B.exec, B.bytes, g4, findClass_of_methodNamed B.named, hX0, fun q h => Nat.le_trans hb0 h, B.notSynchronized, B.returns, (name_of_methodNamed B.named B.method).1, rfl⟩ hex
    have hl2 := lv_entry av (n := maxL) hl
    have hw2 := hw s.heap [] _ hR0 va_S.rf hl2
    rw [← lg_entry_eq] at hw2
    obtain ⟨t, a1, o, b1, b2, b3⟩ := hw2 s₁ hh0 (Stand.of_body B)
    exact ⟨t, o, a1, b1, b2, ⟨b3.1, b3.2⟩⟩
