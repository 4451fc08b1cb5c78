/-! Math.max and Math.min of doubles: the machine runs an entry of its own in the place of their bytes -/
def pkD (gr : Bool) (x y : UInt64) : UInt64 := Native.java_lang_Math.nans.pick64 gr x y
def mmNm (gr : Bool) : String := if gr then "max" else "min"
def mmRow (gr : Bool) : NativeRow := match NativeRow.find? Native.java_lang_Math.nans.rows "java/lang/Math" (mmNm gr) "(DD)D" with
  | some r => r
  | none => { cls := "", name := "", desc := "", sem := fun _ => Pure.pure none }
set_option maxRecDepth 100000 in
theorem mm_find (p : Program) (gr : Bool) : NativeRow.find? p.tables.natives "java/lang/Math" (mmNm gr) "(DD)D" = some (mmRow gr) := by
  cases p <;> cases gr <;> rfl
theorem mm_run (gr : Bool) {a b : UInt64} (ha : FP.dIsNaN a = false) (hb : FP.dIsNaN b = false) (e : Env) (S : State) : ∃ acts, ((mmRow gr).sem #[.double a, .double b]).run e S = .ok (some (.double (pkD gr a b))) S acts := by
  have hw : wpRun ((mmRow gr).sem #[.double a, .double b]) (fun v s₂ _ => v = some (.double (pkD gr a b)) ∧ s₂ = S) (fun _ _ _ => False) e S := by
    cases gr
    · rw [show (mmRow false).sem #[.double a, .double b] = (do
        let r ← if FP.dIsNaN a then anyNaN64 a else if FP.dIsNaN b then anyNaN64 b else Pure.pure (Native.java_lang_Math.nans.pick64 false a b)
        mark "nat.java_lang_Math.min"
        Pure.pure (some (.double r))) from rfl]
      simp [jvm, wpRun, ha, hb, pkD]
    · rw [show (mmRow true).sem #[.double a, .double b] = (do
        let r ← if FP.dIsNaN a then anyNaN64 a else if FP.dIsNaN b then anyNaN64 b else Pure.pure (Native.java_lang_Math.nans.pick64 true a b)
        mark "nat.java_lang_Math.max"
        Pure.pure (some (.double r))) from rfl]
      simp [jvm, wpRun, ha, hb, pkD]
  have hw2 := (wpRun_iff_run _ _ _ _ _).mp hw
  cases hr : ((mmRow gr).sem #[.double a, .double b]).run e S with
  | ok v s₂ as => rw [hr] at hw2; obtain ⟨rfl, rfl⟩ := hw2; exact ⟨_, rfl⟩
  | ctl x s₂ as => rw [hr] at hw2; cases x <;> exact hw2.elim
theorem mm_over {tb : Tables} {e : Env} {s : State} {f : JFrame} {k : Class} {x : Method} {row : NativeRow} (h0 : f.pc = 0) (hk : s.vm.classes[f.method.cls]? = some k) (hin : k.name ∈ overriddenIn) (hboot : k.loader = none) (hx : k.methods[f.method.idx]? = some x) (hrow : NativeRow.find? tb.natives k.name x.name x.desc = some row) : overridden tb e s f = some row := by
  unfold overridden
  simp [h0, hk, hboot, hx, hrow]
  exact fun h => absurd hin h
/-- the call, behind the instruction's own step -/
theorem mm_steps (gr : Bool) {p : Program} {l : Launch} {e : Env} {R : Room} {s0 : State} {m0 : MethodId} {sargs : Array Value} {below : List Frame} {meth0 : Method} {c : Code} {s : State} {Ls : List Loc} {c0 n0 : Nat} (X : Stand p l e R s0 m0 sargs below meth0 c s Ls c0 n0) {g : JFrame} (hg : g.method = m0) (hsize : g.locals.size = c.maxLocals) {ig : Instr} (hdg : decode c.code g.pc = .ok (ig, 3)) (h8 : 2 * g.monitorRoom + (g.stack.map fun v => v.category).sum + 15 ≤ R.locals) (hfr : 1 ≤ R.frames) (hc0 : c0 ≤ R.cells) (hn0 : n0 ≤ R.slots)
    {y : MethodName} {bytes : ByteArray} {m : MethodId} (hy : y = ⟨"java/lang/Math", mmNm gr, "(DD)D"⟩) (hn : s.methodNamed? y = some m) (hcode : (Cond.code y bytes 4 (some .double)).before sargs s = true) {a b : UInt64} (ha : FP.dIsNaN a = false) (hb : FP.dIsNaN b = false) :
    Steps p.tables e below (doInvoke e (s.setTop g) [] m #[.double a, .double b]).1 (s.setTop { g with pc := g.pc + 3, stack := .double (pkD gr a b) :: g.stack }) := by
  obtain ⟨meth, cm, hm, hc, -, hml, -, hl, -, hsig⟩ := Cond.code_spec hn hcode
  obtain ⟨k, hk, hkn⟩ := className_of_methodNamed hn
  obtain ⟨hmn, hmd⟩ := name_of_methodNamed hn hm
  have hx : k.methods[m.idx]? = some meth := by simpa [Vm.method?, hk] using hm
  have hboot : k.loader = none := Vm.bootOf_findClass (findClass_of_methodNamed hn) hk
  subst hy
  obtain ⟨g₀, hr⟩ := X.frames_eq
  have htopS := X.here.top
  have hcur : s.cur < s.threads.size := State.cur_lt_of_frames hr
  have htop : s.setTop g = s.setFrames (.java g :: below) := State.setTop_of_frames _ hr
  have hroom : (s.calling g m #[.double a, .double b]).hasRoom e.platform {} = true := X.room_calling (g := g) (R' := {}) hsize hm hc (by show 0 + 1 ≤ R.frames; omega) (by rw [hml]; show _ + (4 + 11) + 0 ≤ R.locals; omega) (by show c0 + 0 ≤ R.cells; omega) (by show n0 + 0 ≤ R.slots; omega)
  have hfull : e.platform.stackFull (s.setTop g).me (s.setTop g).frames cm.maxLocals = false := by
    have hfc := State.frames_calling htopS g m #[.double a, .double b]
    obtain ⟨-, r2, -, r4⟩ := State.hasRoom_stack hroom
    rw [State.localsInUse_invoking hfc (meth := meth) (c := cm) hm hc] at r4
    rw [hfc, X.tail] at r2
    rw [X.tail] at r4
    have hw := stackUse_le_stackWeight (.java g :: below)
    rw [State.calling_eq htopS, State.stackLimits_setFrames] at r2 r4
    rw [htop, State.frames_setFrames _ hcur]
    refine Platform.stackFull_eq_false (by rw [State.stackLimits_setFrames]; simp only [List.length_cons] at r2 ⊢; have : ({} : Room).frames = 0 := rfl; omega) (by rw [State.stackLimits_setFrames]; have : ({} : Room).locals = 0 := rfl; omega)
  rw [(doInvoke_java (s := s.setTop g) (e := e) (acts := []) (args := #[.double a, .double b]) (meth := meth) (code := cm) hm hc hl hfull).1, hml]
  have hU : (s.setTop g).pushFrame (.java { method := m, pc := 0, locals := argsToLocals #[.double a, .double b] 4, stack := [], locked := none }) = s.setFrames (.java (entryFrame m #[.double a, .double b] 4) :: .java g :: below) := by
    rw [State.pushFrame, State.frames_setTop _ hr, htop, State.setFrames_setFrames]
    rfl
  rw [hU]
  have hf1 : (s.setFrames (.java (entryFrame m #[.double a, .double b] 4) :: .java g :: below)).frames = .java (entryFrame m #[.double a, .double b] 4) :: .java g :: below := State.frames_setFrames _ hcur
  have hov : overridden p.tables e (s.setFrames (.java (entryFrame m #[.double a, .double b] 4) :: .java g :: below)) (entryFrame m #[.double a, .double b] 4) = some (mmRow gr) :=
    mm_over (k := k) (x := meth) rfl hk (by rw [hkn]; show "java/lang/Math" ∈ overriddenIn; decide) hboot hx (by rw [hkn, hmn, hmd]; exact mm_find p gr)
  have hb2 : ∀ F : List Frame, ((s.setFrames F).vm.classes[m.cls]?.bind fun y => y.methods[m.idx]?) = some meth := by
    intro F
    show (s.vm.classes[m.cls]?.bind fun y => y.methods[m.idx]?) = some meth
    simp [hk, hx]
  have hsig2 : parseMethodDescriptor "(DD)D" = some { parameters := [.double, .double], returnType := some .double } := by decide +kernel
  have hparams : meth.sig.parameters.length = 2 := by
    have h3 : parseMethodDescriptor "(DD)D" = some meth.sig := hsig
    rw [hsig2] at h3
    rw [← Option.some.inj h3]
    rfl
  have htake : ∀ n : Nat, List.take (2 + n) [Value.double a, Value.double b] = [Value.double a, Value.double b] := fun n => List.take_of_length_le (Nat.le_add_right 2 n)
  obtain ⟨as2, hr2⟩ := mm_run gr ha hb e (s.setFrames (.native { method := m, args := #[.double a, .double b] } :: .java g :: below))
  have hcodeG : s.code? g.method = some c := by rw [hg]; exact X.here.code
  have hcode2 : ∀ F : List Frame, (s.setFrames F).code? g.method = some c := by
    intro F
    rw [State.code?_eq] at hcodeG ⊢
    simpa [State.setFrames] using hcodeG
  have hfs : handOver (s.setFrames (.native { method := m, args := #[.double a, .double b] } :: .java g :: below)) (some (.double (pkD gr a b))) (.java g :: below)
      = some (.java { g with pc := g.pc + 3, stack := .double (pkD gr a b) :: g.stack } :: below) := by
    simp [handOver, hcode2, hdg, Except.toOption]
  have hstep : (stepThread p.tables e (s.setFrames (.java (entryFrame m #[.double a, .double b] 4) :: .java g :: below))).1 = s.setTop { g with pc := g.pc + 3, stack := .double (pkD gr a b) :: g.stack } := by
    unfold stepThread
    simp only [hf1, hov]
    have hb3 : (s.vm.classes[m.cls]?.bind fun y => y.methods[m.idx]?) = some meth := hb2 []
    simp [entryFrame, argsToLocals, Value.category, argCount, hb3, hparams, htake, hr2, afterNative]
    rw [doReturn_native (f := { method := m, args := #[.double a, .double b] }) (below := .java g :: below) (State.frames_setFrames _ hcur) rfl hfs, State.setFrames_setFrames, ← State.setTop_of_frames _ hr]
  refine Steps.head ⟨X.here.running, by simpa using X.here.runnable, by simpa using X.here.alone⟩ ⟨[.java (entryFrame m #[.double a, .double b] 4), .java g], by rw [hf1]; rfl, by simp, by simp⟩ ?_
  rw [hstep]
  exact Steps.refl _
section R14
variable {Γ : hCT} {own : String} {cc : ByteArray} {ret : Option FieldType} {nm : String} {fr lo k n pc : Nat} {lv : List (Nat × Value)} {st : List Value} {σ : St}
theorem g_mmD (gr : Bool) {idx : Nat} {x y : UInt64} {Y : MethodName} {bytes : ByteArray} (hY : Y = ⟨"java/lang/Math", mmNm gr, "(DD)D"⟩) (w1 : Cond.methodLink own idx Y ∈ tbG) (w2 : Cond.static Y ∈ tbG) (w3 : Cond.initialized "java/lang/Math" ∈ tbG) (w4 : Cond.code Y bytes 4 (some .double) ∈ tbG) (C : hC Γ own cc ret nm fr lo) (hfr : 1 ≤ fr) (hlo : (st.map fun v => v.category).sum + 15 ≤ lo) (hk : k ≤ hMc Γ) (hn : n ≤ hMs Γ) (d : decode cc pc = .ok (.invokestatic idx, 3)) (hx : FP.dIsNaN x = false) (hy : FP.dIsNaN y = false) (kk : hW Γ k n (pc + 3) lv (.double (pkD gr x y) :: st) σ) : hW Γ k n pc lv (.double y :: .double x :: st) σ := by
  obtain ⟨p, l, e, R, s, m, args, below, meth, c, G, nL, mc, ms, Q⟩ := Γ
  intro H locs ls hr hs hl T hT X
  obtain ⟨c1, c2, c3, c4, c5, c6, c7, c8, c9, c10⟩ := C
  subst c2
  have hcode := tb_word c5 w4 args
  obtain ⟨mk, hnamed⟩ := Cond.code_named hcode
  obtain ⟨methM, cM, hmethM, -, -, -, -, -, -, hsigM⟩ := Cond.code_spec hnamed hcode
  have hstatic : methM.isStatic = true := Cond.static_spec hnamed hmethM (tb_word c5 w2 args)
  obtain ⟨kP, hkP, -⟩ := className_of_methodNamed hnamed
  have hinitP : kP.init = .initialized := Cond.initialized_spec (by have h := findClass_of_methodNamed hnamed; rw [hY] at h; exact h) hkP (tb_word c5 w3 args)
  have hsig2 : parseMethodDescriptor "(DD)D" = some { parameters := [.double, .double], returnType := some .double } := by decide +kernel
  have hlen : [Value.double x, Value.double y].length = methM.sig.parameters.length := by
    rw [hY] at hsigM
    have h3 : parseMethodDescriptor "(DD)D" = some methM.sig := hsigM
    rw [hsig2] at h3
    rw [← Option.some.inj h3]
    rfl
  obtain ⟨vm₁, X₁, hstep₁⟩ := X.invokestatic c1 c4 (tb_word c5 w1 args) hnamed hmethM hstatic hkP hinitP (by rw [hY]; exact ⟨show "java/lang/Math" ≠ _ by decide, show "java/lang/Math" ≠ _ by decide⟩) (g := F0 m pc ls (.double y :: .double x :: st)) rfl (argsL := [.double x, .double y]) (rest := st) hlen rfl d
  have hW₁ := X₁.warmed
  have hst := mm_steps gr X₁ (g := F0 m pc ls st) rfl (hl.1.trans c3.symm) d (by rw [c10]; show 2 * 0 + (st.map fun v => v.category).sum + 15 ≤ lo; omega) (by rw [c10]; exact hfr) (by rw [c10]; exact hk) (by rw [c10]; exact hn) hY (X₁.named hnamed) (tb_warm hW₁ w4 (c5.1 _ w4) _) hx hy
  obtain ⟨t, a1, b1⟩ := kk H locs ls hr hs hl (T.setVm vm₁) hT X₁
  exact ⟨t, hstep₁ _ (fun acts => by rw [doInvoke_state]; exact hst.trans a1), b1⟩
theorem g_mmaxD {idx : Nat} {x y : UInt64} (w1 : Cond.methodLink own idx yJ9_max_eb370 ∈ tbG) (w2 : Cond.static yJ9_max_eb370 ∈ tbG) (w3 : Cond.initialized RJ9 ∈ tbG) (w4 : Cond.code yJ9_max_eb370 cJ9_max_eb370 4 (some .double) ∈ tbG) (C : hC Γ own cc ret nm fr lo) (hfr : 1 ≤ fr) (hlo : (st.map fun v => v.category).sum + 15 ≤ lo) (hk : k ≤ hMc Γ) (hn : n ≤ hMs Γ) (d : decode cc pc = .ok (.invokestatic idx, 3)) (hx : FP.dIsNaN x = false) (hy : FP.dIsNaN y = false) (kk : hW Γ k n (pc + 3) lv (.double (pkD true x y) :: st) σ) : hW Γ k n pc lv (.double y :: .double x :: st) σ := g_mmD true rfl w1 w2 w3 w4 C hfr hlo hk hn d hx hy kk
theorem g_mminD {idx : Nat} {x y : UInt64} (w1 : Cond.methodLink own idx yJ9_min_eb370 ∈ tbG) (w2 : Cond.static yJ9_min_eb370 ∈ tbG) (w3 : Cond.initialized RJ9 ∈ tbG) (w4 : Cond.code yJ9_min_eb370 cJ9_min_eb370 4 (some .double) ∈ tbG) (C : hC Γ own cc ret nm fr lo) (hfr : 1 ≤ fr) (hlo : (st.map fun v => v.category).sum + 15 ≤ lo) (hk : k ≤ hMc Γ) (hn : n ≤ hMs Γ) (d : decode cc pc = .ok (.invokestatic idx, 3)) (hx : FP.dIsNaN x = false) (hy : FP.dIsNaN y = false) (kk : hW Γ k n (pc + 3) lv (.double (pkD false x y) :: st) σ) : hW Γ k n pc lv (.double y :: .double x :: st) σ := g_mmD false rfl w1 w2 w3 w4 C hfr hlo hk hn d hx hy kk
end R14
