/-! the law's own rows: its script; a call of a method with handlers -/
def hSC (Γ : hCT) (b0 Ln : Nat) (xs : Nat → Int32) : Prop := match Γ with
  | (_p, _l, _e, _R, s, _m, _args, _below, _meth, _c, G, _nL, _mc, _ms, _Q) => va_X b0 Ln xs s s.heap ∧ b0 < s.heap.size ∧ ¬ G.A b0
theorem after_callW {p : Program} {l : Launch} {e : Env} {R : Room} {s : State} {m : MethodId} {sargs : Array Value} {below : List Frame} {meth : Method} {c : Code} {U : State} {Ls : List Loc} {c0 s0 : Nat} {y : MethodName} {bytes : ByteArray} {maxL fr lo mc ms : Nat} {rt : Option FieldType} {hh : List (Nat × Nat × Nat × Nat)} {G : GB} {av : List Value} {σ : St} {Q : Outcome → St → Prop}
    (X : Stand p l e R s m sargs below meth c U Ls c0 s0) (M : hMW y bytes maxL rt hh fr lo mc ms av σ Q) {g : JFrame} {ig : Instr} {mk : MethodId} (hg : g.method = m) (hsize : g.locals.size = c.maxLocals) (hdg : decode c.code g.pc = .ok (ig, 3)) (h8 : 2 * g.monitorRoom + (g.stack.map fun v => v.category).sum ≤ 8) (hn : U.methodNamed? y = some mk)
    (hcode : (Cond.codeWith y bytes maxL rt hh).before av.toArray U = true) (hini : (Cond.initialized y.cls).before av.toArray U = true) (hfr : fr + 1 ≤ R.frames) (hlo : 8 + (maxL + 11) + lo ≤ R.locals) (hc : c0 + mc ≤ R.cells) (hs : s0 + ms ≤ R.slots) (hP : hPc G av σ av.toArray U) (hv : ∀ o σ', Q o σ' → ∃ v, o = .returned v) :
    ∃ (v : Option Value) (σ' : St) (T' : State) (L : List Loc), Q (.returned v) σ' ∧ hR G T'.heap σ' ∧ (U.heap.size ≤ T'.heap.size ∧ ∀ q : Nat, q < U.heap.size → ¬ G.A q → T'.heap[q]? = U.heap[q]?) ∧ (∀ q ∈ L, G.A q.base) ∧ Stand p l e R s m sargs below meth c T' (Ls ++ L) (c0 + mc) (s0 + ms) ∧
      Steps p.tables e below (doInvoke e (U.setTop g) [] mk av.toArray).1 (T'.setTop { g with pc := g.pc + 3, stack := v.toList ++ g.stack }) := by
  obtain ⟨m9, methY, cY, hn9, hmY, hcY, -, hlY, -⟩ := Cond.codeWith_spec hcode
  cases hn9.symm.trans hn
  obtain ⟨kY, hkY, -⟩ := className_of_methodNamed hn
  have hinitY : kY.init = .initialized := Cond.initialized_spec (findClass_of_methodNamed hn) hkY hini
  have h : At U g.method c below := by rw [hg]; exact X.here
  have h1 : (allAtoms [Cond.codeWith y bytes maxL rt hh]).before av.toArray U = true := atoms_intro (fun w hw => by cases List.mem_singleton.mp hw; exact hcode)
  have happ : (headSpec [Cond.codeWith y bytes maxL rt hh] { frames := fr, cells := mc, slots := ms, locals := lo }).appliesLoose y e.platform (U.calling g mk av.toArray) = true :=
    Spec.appliesLoose_calling (g := g) h hdg hn hkY hinitY (X.room_calling (g := g) (R' := { frames := fr, cells := mc, slots := ms, locals := lo }) hsize hmY hcY hfr (by rw [hlY]; show _ + (maxL + 11) + lo ≤ _; omega) hc hs) h1
  obtain ⟨g₀, hr0⟩ := X.frames_eq
  have hfr2 : (U.setTop g).frames = [.java g] ++ below := by rw [State.frames_setTop _ hr0]; rfl
  obtain ⟨o, s₂, hsteps, -, hend, hq⟩ := Steps.callFree (M l G) p X.admits X.cas X.clock (acts := []) hfr2 happ (hPc_blind av.toArray U g mk hP) trivial
  rw [hfr2] at hend
  obtain ⟨⟨⟨σ', hq1, hr⟩, hF⟩, L, ⟨hW, hsame⟩, hL⟩ := hq
  obtain ⟨v, rfl⟩ := hv o σ' hq1
  obtain ⟨T', X', -, -, rfl⟩ := X.outOf hg hdg hend hW hsame
  exact ⟨v, σ', T', L, hq1, hr, hF, hL, X', hsteps⟩
section R17
variable {Γ : hCT} {own : String} {cc : ByteArray} {ret : Option FieldType} {nm : String} {fr lo k n pc : Nat} {lv : List (Nat × Value)} {st : List Value} {σ : St}
theorem g_sld {b0 Ln : Nat} {xs : Nat → Int32} {i : Int32} (hsc : hSC Γ b0 Ln xs) (C : hC Γ own cc ret nm fr lo) (d : decode cc pc = .ok (.iaload, 1)) (hi : vp_in i Ln) (kk : hW Γ k n (pc + 1) lv (.int (xs (ix i)) :: st) σ) : hW Γ k n pc lv (.int i :: .ref b0 :: st) σ := by
  obtain ⟨p, l, e, R, s, m, args, below, meth, c, G, nL, mc, ms, Q⟩ := Γ
  intro H locs ls hr hs hl
  exact va_sld C.1 C.2.1 hsc.1 hsc.2.1 hsc.2.2 hs hi d (kk H locs ls hr hs hl)
theorem g_slen {b0 Ln : Nat} {xs : Nat → Int32} (hsc : hSC Γ b0 Ln xs) (C : hC Γ own cc ret nm fr lo) (d : decode cc pc = .ok (.arraylength, 1)) (kk : hW Γ k n (pc + 1) lv (.int (Int32.ofNat Ln) :: st) σ) : hW Γ k n pc lv (.ref b0 :: st) σ := by
  obtain ⟨p, l, e, R, s, m, args, below, meth, c, G, nL, mc, ms, Q⟩ := Γ
  intro H locs ls hr hs hl
  exact va_slen C.1 C.2.1 hsc.1 hsc.2.1 hsc.2.2 hs d (kk H locs ls hr hs hl)
theorem g_invVW {y : MethodName} {bytes : ByteArray} {maxL na fr' lo' mc' ms' idx b ci : Nat} {rt : Option FieldType} {hh : List (Nat × Nat × Nat × Nat)} {RC : String} {Q' : Outcome → St → Prop} (As rest : List Value) (y1 : Cond.codeWith y bytes maxL rt hh ∈ tbG) (y2 : Cond.initialized y.cls ∈ tbG) (y3 : y.cls ≠ "java/lang/invoke/MethodHandle" ∧ y.cls ≠ "java/lang/invoke/VarHandle") (y4 : (parseMethodDescriptor y.desc).map (fun d => d.parameters.length) = some na) (w : Cond.methodLink own idx y ∈ tbG) (w2 : Cond.instanceMethod y ∈ tbG) (w3 : Cond.selects RC y y ∈ tbG) (hRC : ∃ T N, vwCl[ci]? = some (RC, T, N)) (hci : ci < 17) (C : hC Γ own cc ret nm fr lo) (d : decode cc pc = .ok (.invokevirtual idx, 3)) (hfr : fr' + 1 ≤ fr) (hlo : 8 + (maxL + 11) + lo' ≤ lo) (h8 : (rest.map fun v => v.category).sum ≤ 8) (hk : k + mc' ≤ hMc Γ) (hn : n + ms' ≤ hMs Γ) (hna : As.length = na) (hst : st = As.reverse ++ .ref b :: rest) (hb : zK σ b = ci + 1)
    (M : hMW y bytes maxL rt hh fr' lo' mc' ms' (.ref b :: As) σ Q') (kk : ∀ o σ', Q' o σ' → ∃ v, o = .returned v ∧ hW Γ (k + mc') (n + ms') (pc + 3) lv (v.toList ++ rest) σ') : hW Γ k n pc lv st σ := by
  obtain ⟨p, l, e, R, s, m, args, below, meth, c, G, nL, mc, ms, Q⟩ := Γ
  intro H locs ls hr hs hl T hT X
  obtain ⟨c1, c2, c3, c4, c5, c6, c7, c8, c9, c10⟩ := C
  subst c2
  obtain ⟨T0, N, hT0⟩ := hRC
  obtain ⟨cellB, hcB, hoB, hclB⟩ := va_recv c5.2.2.2.1 (hR_rd hr (by rw [hb]; omega) (zCe_obj hb hci)) (q0 := 0) hT0 rfl
  have hf : k + mc' ≤ R.cells ∧ n + ms' ≤ R.slots := by rw [c10]; exact ⟨hk, hn⟩
  obtain ⟨mk, methM, hnamed, hmethM, hstM, habM⟩ := Cond.instanceMethod_spec (tb_word c5 w2 args)
  obtain ⟨m9, methM', cM, hn9, hmethM', -, -, -, -, -, -, hsigM⟩ := Cond.codeWith_spec (tb_word c5 y1 args)
  cases hn9.symm.trans hnamed
  cases hmethM.symm.trans hmethM'
  obtain ⟨c2', r2, m2, q1, q2, q3, q4, kP, hkP, hkPi⟩ := Cond.selects_spec (tb_word c5 w3 args)
  cases hclB.symm.trans q1
  cases (State.methodFound?_of_named hnamed y3).symm.trans q2
  cases hnamed.symm.trans q3
  have hselP : selectMethod e.platform s.vm cellB.cls mk = .method mk := by rw [Launch.admits_selectMethod X.admits]; exact q4
  have hlen : As.length = methM.sig.parameters.length := by
    rw [hsigM] at y4
    exact hna.trans (Option.some.inj y4).symm
  obtain ⟨vm₁, X₁, hstep₁⟩ := X.invokevirtual c1 c4 (tb_word c5 w args) hnamed hmethM hstM hkP hkPi y3 (a := b) (cell := cellB) (by rw [hT]; exact hcB)
    (fun z h => by rw [h] at hoB; cases hoB) hselP hmethM habM hkP hkPi (g := F0 m pc ls st) rfl (argsL := As) (rest := rest) hlen hst d
  have hW₁ := X₁.warmed
  obtain ⟨v, σ', T', L, hq, hr', hF, hL, X', ho⟩ := after_callW (G := G) (av := .ref b :: As) (g := F0 m pc ls rest) (ig := .invokevirtual idx) X₁ M rfl (hl.1.trans c3.symm) d (by show 2 * 0 + (rest.map fun v => v.category).sum ≤ 8; omega) (X₁.named hnamed) (tb_warm hW₁ y1 (c5.1 _ y1) _) (tb_warm hW₁ y2 (c5.1 _ y2) _) (by rw [c10]; exact hfr) (by rw [c10]; exact hlo) hf.1 hf.2 (pre_of c5 c6 hr hs (T.setVm vm₁) hT hW₁) (fun o σ' h => (kk o σ' h).imp fun _ h => h.1)
  have hh2 : (T.setVm vm₁).heap = H := hT
  rw [hh2] at hF
  have hs1 : va_S G.A s.heap T'.heap (locs ++ L) := by
    refine ⟨Nat.le_trans hs.1 hF.1, fun a ha hn => ?_, fun q hq => ?_⟩
    · rw [hF.2 a (Nat.lt_of_lt_of_le ha hs.1) hn]
      exact hs.2.1 a ha hn
    · rcases List.mem_append.mp hq with h | h
      · exact hs.2.2 q h
      · exact hL q h
  obtain ⟨v', hv, h2⟩ := kk _ σ' hq
  cases hv
  obtain ⟨t2, a1, b1⟩ := h2 T'.heap (locs ++ L) ls hr' hs1 hl T' rfl X'
  exact ⟨t2, hstep₁ _ (fun acts => by rw [doInvoke_state]; exact ho.trans a1), b1⟩
end R17
theorem wd_1396 : Cond.codeWith yX16_ask cX16_ask 6 (Option.some FieldType.int) [(116, 143, 146, 181)] ∈ tbG := mem_tb 1396 (by decide +kernel) (by decide +kernel)
