theorem hM_ofF {y : MethodName} {cc : ByteArray} {maxL : Nat} {ret : Option FieldType} {fr lo mc ms : Nat} {av : List Value} {σ : St} {Q : Outcome → St → Prop} (hy : plainFor y = true) (hl : (lg_sl av).length ≤ maxL)
    (body : ∀ Γ : hCT, Γ.2.2.2.2.2.2.2.2.2.2.2 = (maxL, mc, ms, Q) → hC Γ y.cls cc ret y.name fr lo → hW Γ 0 0 0 (lv_args 0 av) [] σ) : hM y cc maxL ret fr lo mc ms av σ Q := by
  intro l G
  refine MetFree.of_bodySF (code := cc) (maxLocals := maxL) (ret := ret) hy ?_ ?_
  · intro args s m h hn
    obtain ⟨meth, c, h1, h2, h3, h4, h5, h6, -, -⟩ := Cond.code_spec hn (atoms_spec (ws := [Cond.code y cc maxL ret]) h _ (List.mem_cons_self))
    exact ⟨meth, c, h1, h2, h3, h4, h5, h6⟩
  · intro p e s m args below meth c s₁ B hml hP _
    have hh0 : s₁.heap = s.heap := by rw [B.state]; rfl
    obtain ⟨rfl, hX0, hR0, hb0⟩ := hP
    have hml2 : c.maxLocals = maxL := B.maxLocals_eq (atoms_spec (ws := [Cond.code y cc maxL ret]) B.pre _ List.mem_cons_self)
    have hw := body (p, l, e, { frames := fr, cells := mc, slots := ms, locals := lo }, s, m, av.toArray, below, meth, c, G, maxL, mc, ms, Q) rfl ⟨B.exec, B.bytes, hml2, findClass_of_methodNamed B.named, hX0, fun q h => Nat.le_trans hb0 h, B.notSynchronized, B.returns, (name_of_methodNamed B.named B.method).1, rfl⟩
    have hl2 := lv_entry av (n := maxL) hl
    have hw2 := hw s.heap [] _ hR0 va_S.rf hl2
    rw [← lg_entry_eq] at hw2
    obtain ⟨t, a1, o, b1, b2, b3⟩ := hw2 s₁ hh0 (Stand.of_body B)
    exact ⟨t, o, a1, b1, b2, ⟨b3.1, b3.2⟩⟩
