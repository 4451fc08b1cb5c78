/-! calls -/
/-- a method that can be called: its code, its class, how many arguments -/
def zY (y : MethodName) (bytes : ByteArray) (maxL : Nat) (rt : Option FieldType) (na : Nat) : Prop := Cond.code y bytes maxL rt ∈ tbG ∧ Cond.initialized y.cls ∈ tbG ∧ (y.cls ≠ "java/lang/invoke/MethodHandle" ∧ y.cls ≠ "java/lang/invoke/VarHandle") ∧ (parseMethodDescriptor y.desc).map (fun d => d.parameters.length) = some na
theorem hPc_blind {G : GB} {av : List Value} {σ : St} : FrameBlind (hPc G av σ) := by
  intro a U g mk h
  obtain ⟨h1, h2, h3, h4⟩ := h
  exact ⟨h1, hX_warm h2 (State.WarmedH.refl U) (fun _ _ _ => rfl), h3, h4⟩
theorem hM_met {y : MethodName} {bytes : ByteArray} {maxL : Nat} {rt : Option FieldType} {fr lo mc ms : Nat} {av : List Value} {σ : St} {Q : Outcome → St → Prop} (M : hM y bytes maxL rt fr lo mc ms av σ Q) (hv : ∀ o σ', Q o σ' → ∃ v, o = .returned v) (l : Launch) (G : GB) : Met l y [Cond.code y bytes maxL rt] { frames := fr, cells := mc, slots := ms, locals := lo } (hPc G av σ) (hQc G Q) mc ms G.A := by
  intro p e h1 h2 h3 s m args below h4 h5 h6 h7
  obtain ⟨n, o, a1, a2, a3, a4, L, a5, a6⟩ := M l G p e h1 h2 h3 s m args below h4 h5 h6 h7
  obtain ⟨⟨σ', q, hr⟩, hf⟩ := a4
  exact ⟨n, o, a1, a2, a3, ⟨⟨σ', q, hr⟩, hf⟩, L, ⟨hv o σ' q, a5.1, a5.2⟩, a6⟩
theorem cb_of {R : Room} {s : State} {args : Array Value} {own : String} {idx maxL mc ms na fr lo fr2 lo2 mc2 ms2 : Nat} {y : MethodName} {bytes : ByteArray} {rt : Option FieldType} {G : GB} (hX : hX G s) (Y : zY y bytes maxL rt na) (hfr : fr + 1 ≤ fr2) (hlo : 8 + (maxL + 11) + lo ≤ lo2) (hR : R = { frames := fr2, cells := mc2, slots := ms2, locals := lo2 }) (w : Cond.methodLink own idx y ∈ tbG) : CallB R s args own idx y bytes maxL rt [Cond.code y bytes maxL rt] { frames := fr, cells := mc, slots := ms, locals := lo } mc ms na := by
  subst hR
  obtain ⟨y1, y2, y3, y4⟩ := Y
  refine ⟨rfl, rfl, hfr, hlo, ?_, List.mem_cons_self, tb_word hX y1 args, tb_word hX y2 args, y3, ?_, tb_word hX w args⟩
  · intro w hw a' U hW
    cases List.mem_singleton.mp hw
    exact tb_warm hW y1 (hX.1 _ y1) a'
  · intro sig h
    rw [h] at y4
    exact (Option.some.inj y4).symm
theorem cn_of {R : Room} {s : State} {args : Array Value} {own host : String} {idx maxL mc ms na fr lo fr2 lo2 mc2 ms2 : Nat} {y : MethodName} {bytes : ByteArray} {rt : Option FieldType} {G : GB} (hX : hX G s) (Y : zY y bytes maxL rt na) (hfr : fr + 1 ≤ fr2) (hlo : 8 + (maxL + 11) + lo ≤ lo2) (hR : R = { frames := fr2, cells := mc2, slots := ms2, locals := lo2 }) (w : Cond.methodLinkNest own idx y host ∈ tbN) : va_CN R s args own idx y host bytes maxL rt [Cond.code y bytes maxL rt] { frames := fr, cells := mc, slots := ms, locals := lo } mc ms na := by
  subst hR
  obtain ⟨y1, y2, y3, y4⟩ := Y
  refine ⟨⟨rfl, rfl, hfr, hlo, ?_, List.mem_cons_self⟩, tb_word hX y1 args, tb_word hX y2 args, y3, ?_, va_Nw.use rfl (hX.2.1 _ w)⟩
  · intro w hw a' U hW
    cases List.mem_singleton.mp hw
    exact tb_warm hW y1 (hX.1 _ y1) a'
  · intro sig h
    rw [h] at y4
    exact (Option.some.inj y4).symm
theorem pre_of {G : GB} {s : State} {H : Heap} {locs : List Loc} {σ : St} {av : List Value} (hX0 : hX G s) (hA : ∀ q : Nat, s.heap.size ≤ q → G.A q) (hr : hR G H σ) (hs : va_S G.A s.heap H locs) (U : State) (hU : U.heap = H) (hW : s.WarmedH U.vm) : hPc G av σ av.toArray U := by
  refine ⟨rfl, hX_warm hX0 hW (fun a ha hn => by rw [hU]; exact hs.2.1 a ha hn), by rw [hU]; exact hr, ?_⟩
  rw [hU]
  exact Nat.le_trans (hA s.heap.size (Nat.le_refl _)) hs.1
theorem run_on {p : Program} {l : Launch} {e : Env} {R : Room} {s : State} {m : MethodId} {args : Array Value} {below : List Frame} {meth : Method} {c : Code} {G : GB} {mc ms k n mc' ms' pc : Nat} {Q Q' : Outcome → St → Prop} {H : Heap} {locs : List Loc} {ls : Array Slot} {st rest : List Value} {a : Array Value}
    (hrun : va_Run p l e R s m args below meth c H locs k n mc' ms' (F0 m pc ls st) rest (hQc G Q' a) G.A) (hs : va_S G.A s.heap H locs)
    (hE : ∀ o σ', Q' o σ' → ∃ v, o = .returned v ∧ ∀ (H1 : Heap) (locs1 : List Loc), hR G H1 σ' → va_S G.A s.heap H1 locs1 → W p l e R s m args below meth c H1 locs1 (k + mc') (n + ms') (mQX below (hQc G Q) args s mc ms G.A) (F0 m (pc + 3) ls (v.toList ++ rest))) : W p l e R s m args below meth c H locs k n (mQX below (hQc G Q) args s mc ms G.A) (F0 m pc ls st) := by
  intro T hT X
  obtain ⟨v, st0, t, T', L, h1, X', hL, h2, h3, ⟨⟨σ', q, hr⟩, hf⟩, go⟩ := hrun T hT X
  obtain ⟨v', hv, kk⟩ := hE _ σ' q
  cases hv
  have hs1 : va_S G.A s.heap t.heap (locs ++ L) := by
    refine ⟨Nat.le_trans hs.1 (by rw [← h1]; exact hf.1), fun a ha hn => ?_, fun q hq => ?_⟩
    · rw [hf.2 a (by rw [h1]; exact Nat.lt_of_lt_of_le ha hs.1) hn, h1]
      exact hs.2.1 a ha hn
    · rcases List.mem_append.mp hq with h | h
      · exact hs.2.2 q h
      · exact hL q h
  obtain ⟨t2, a1, b1⟩ := kk t.heap (locs ++ L) hr hs1 T' h2 X'
  exact ⟨t2, go t2 a1, b1⟩
section R9
variable {Γ : hCT} {own : String} {cc : ByteArray} {ret : Option FieldType} {nm : String} {fr lo k n pc : Nat} {lv : List (Nat × Value)} {st : List Value} {σ : St}
theorem g_invV {y : MethodName} {bytes : ByteArray} {maxL na fr' lo' mc' ms' idx b ci : Nat} {rt : Option FieldType} {RC : String} {Q' : Outcome → St → Prop} (As rest : List Value) (Y : zY y bytes maxL rt na) (w : Cond.methodLink own idx y ∈ tbG) (w2 : Cond.instanceMethod y ∈ tbG) (w3 : Cond.selects RC y y ∈ tbG) (hRC : ∃ T N, vwCl[ci]? = some (RC, T, N)) (hci : ci < 17) (C : hC Γ own cc ret nm fr lo) (d : decode cc pc = .ok (.invokevirtual idx, 3)) (hfr : fr' + 1 ≤ fr) (hlo : 8 + (maxL + 11) + lo' ≤ lo) (h8 : (rest.map fun v => v.category).sum ≤ 8) (hk : k + mc' ≤ hMc Γ) (hn : n + ms' ≤ hMs Γ) (hna : As.length = na) (hst : st = As.reverse ++ .ref b :: rest) (hb : zK σ b = ci + 1)
    (M : hM y bytes maxL rt fr' lo' mc' ms' (.ref b :: As) σ Q') (kk : ∀ o σ', Q' o σ' → ∃ v, o = .returned v ∧ hW Γ (k + mc') (n + ms') (pc + 3) lv (v.toList ++ rest) σ') : hW Γ k n pc lv st σ := by
  obtain ⟨p, l, e, R, s, m, args, below, meth, c, G, nL, mc, ms, Q⟩ := Γ
  intro H locs ls hr hs hl
  obtain ⟨c1, c2, c3, c4, c5, c6, c7, c8, c9, c10⟩ := C
  obtain ⟨T, N, hT⟩ := hRC
  have hrecv := va_recv c5.2.2.2.1 (hR_rd hr (by rw [hb]; omega) (zCe_obj hb hci)) (q0 := 0) hT rfl
  have hf : k + mc' ≤ R.cells ∧ n + ms' ≤ R.slots := by rw [c10]; exact ⟨hk, hn⟩
  refine run_on (va_runV (b := b) (As := As) (rest := rest) ⟨c1, c2, c3, c4, fun w hw => tb_word c5 hw args⟩ (hM_met M (fun o σ' h => (kk o σ' h).imp fun _ h => h.1) l G) ⟨cb_of c5 Y hfr hlo c10 w, tb_word c5 w2 args, tb_word c5 w3 args⟩ ⟨hPc_blind, hrecv, pre_of c5 c6 hr hs⟩ rfl hna hl.1 hst (by show 2 * 0 + _ ≤ 8; omega) d hf) hs (fun o σ' h => ?_)
  obtain ⟨v, hv, h2⟩ := kk o σ' h
  exact ⟨v, hv, fun H1 locs1 hr1 hs1 => h2 H1 locs1 ls hr1 hs1 hl⟩
theorem g_invVN {y : MethodName} {bytes : ByteArray} {maxL na fr' lo' mc' ms' idx b ci : Nat} {rt : Option FieldType} {RC host : String} {Q' : Outcome → St → Prop} (As rest : List Value) (Y : zY y bytes maxL rt na) (w : Cond.methodLinkNest own idx y host ∈ tbN) (w2 : Cond.instanceMethod y ∈ tbG) (w3 : Cond.selects RC y y ∈ tbG) (hRC : ∃ T N, vwCl[ci]? = some (RC, T, N)) (hci : ci < 17) (C : hC Γ own cc ret nm fr lo) (d : decode cc pc = .ok (.invokevirtual idx, 3)) (hfr : fr' + 1 ≤ fr) (hlo : 8 + (maxL + 11) + lo' ≤ lo) (h8 : (rest.map fun v => v.category).sum ≤ 8) (hk : k + mc' ≤ hMc Γ) (hn : n + ms' ≤ hMs Γ) (hna : As.length = na) (hst : st = As.reverse ++ .ref b :: rest) (hb : zK σ b = ci + 1)
    (M : hM y bytes maxL rt fr' lo' mc' ms' (.ref b :: As) σ Q') (kk : ∀ o σ', Q' o σ' → ∃ v, o = .returned v ∧ hW Γ (k + mc') (n + ms') (pc + 3) lv (v.toList ++ rest) σ') : hW Γ k n pc lv st σ := by
  obtain ⟨p, l, e, R, s, m, args, below, meth, c, G, nL, mc, ms, Q⟩ := Γ
  intro H locs ls hr hs hl
  obtain ⟨c1, c2, c3, c4, c5, c6, c7, c8, c9, c10⟩ := C
  obtain ⟨T, N, hT⟩ := hRC
  have hrecv := va_recv c5.2.2.2.1 (hR_rd hr (by rw [hb]; omega) (zCe_obj hb hci)) (q0 := 0) hT rfl
  have hf : k + mc' ≤ R.cells ∧ n + ms' ≤ R.slots := by rw [c10]; exact ⟨hk, hn⟩
  refine run_on (va_runVN (b := b) (As := As) (rest := rest) ⟨c1, c2, c3, c4, fun w hw => tb_word c5 hw args⟩ (hM_met M (fun o σ' h => (kk o σ' h).imp fun _ h => h.1) l G) ⟨cn_of c5 Y hfr hlo c10 w, tb_word c5 w2 args, tb_word c5 w3 args⟩ ⟨hPc_blind, hrecv, pre_of c5 c6 hr hs⟩ rfl hna hl.1 hst (by show 2 * 0 + _ ≤ 8; omega) d hf) hs (fun o σ' h => ?_)
  obtain ⟨v, hv, h2⟩ := kk o σ' h
  exact ⟨v, hv, fun H1 locs1 hr1 hs1 => h2 H1 locs1 ls hr1 hs1 hl⟩
theorem g_invS {y : MethodName} {bytes : ByteArray} {maxL na fr' lo' mc' ms' idx : Nat} {rt : Option FieldType} {Q' : Outcome → St → Prop} (As rest : List Value) (Y : zY y bytes maxL rt na) (w : Cond.methodLink own idx y ∈ tbG) (w2 : Cond.static y ∈ tbG) (C : hC Γ own cc ret nm fr lo) (d : decode cc pc = .ok (.invokestatic idx, 3)) (hfr : fr' + 1 ≤ fr) (hlo : 8 + (maxL + 11) + lo' ≤ lo) (h8 : (rest.map fun v => v.category).sum ≤ 8) (hk : k + mc' ≤ hMc Γ) (hn : n + ms' ≤ hMs Γ) (hna : As.length = na) (hst : st = As.reverse ++ rest)
    (M : hM y bytes maxL rt fr' lo' mc' ms' As σ Q') (kk : ∀ o σ', Q' o σ' → ∃ v, o = .returned v ∧ hW Γ (k + mc') (n + ms') (pc + 3) lv (v.toList ++ rest) σ') : hW Γ k n pc lv st σ := by
  obtain ⟨p, l, e, R, s, m, args, below, meth, c, G, nL, mc, ms, Q⟩ := Γ
  intro H locs ls hr hs hl
  obtain ⟨c1, c2, c3, c4, c5, c6, c7, c8, c9, c10⟩ := C
  have hf : k + mc' ≤ R.cells ∧ n + ms' ≤ R.slots := by rw [c10]; exact ⟨hk, hn⟩
  refine run_on (va_runS (As := As) (rest := rest) ⟨c1, c2, c3, c4, fun w hw => tb_word c5 hw args⟩ (hM_met M (fun o σ' h => (kk o σ' h).imp fun _ h => h.1) l G) ⟨cb_of c5 Y hfr hlo c10 w, tb_word c5 w2 args⟩ ⟨hPc_blind, pre_of c5 c6 hr hs⟩ rfl hna hl.1 hst (by show 2 * 0 + _ ≤ 8; omega) d hf) hs (fun o σ' h => ?_)
  obtain ⟨v, hv, h2⟩ := kk o σ' h
  exact ⟨v, hv, fun H1 locs1 hr1 hs1 => h2 H1 locs1 ls hr1 hs1 hl⟩
theorem g_invSN {y : MethodName} {bytes : ByteArray} {maxL na fr' lo' mc' ms' idx : Nat} {rt : Option FieldType} {host : String} {Q' : Outcome → St → Prop} (As rest : List Value) (Y : zY y bytes maxL rt na) (w : Cond.methodLinkNest own idx y host ∈ tbN) (w2 : Cond.static y ∈ tbG) (C : hC Γ own cc ret nm fr lo) (d : decode cc pc = .ok (.invokestatic idx, 3)) (hfr : fr' + 1 ≤ fr) (hlo : 8 + (maxL + 11) + lo' ≤ lo) (h8 : (rest.map fun v => v.category).sum ≤ 8) (hk : k + mc' ≤ hMc Γ) (hn : n + ms' ≤ hMs Γ) (hna : As.length = na) (hst : st = As.reverse ++ rest)
    (M : hM y bytes maxL rt fr' lo' mc' ms' As σ Q') (kk : ∀ o σ', Q' o σ' → ∃ v, o = .returned v ∧ hW Γ (k + mc') (n + ms') (pc + 3) lv (v.toList ++ rest) σ') : hW Γ k n pc lv st σ := by
  obtain ⟨p, l, e, R, s, m, args, below, meth, c, G, nL, mc, ms, Q⟩ := Γ
  intro H locs ls hr hs hl
  obtain ⟨c1, c2, c3, c4, c5, c6, c7, c8, c9, c10⟩ := C
  have hf : k + mc' ≤ R.cells ∧ n + ms' ≤ R.slots := by rw [c10]; exact ⟨hk, hn⟩
  refine run_on (va_runSN (As := As) (rest := rest) ⟨c1, c2, c3, c4, fun w hw => tb_word c5 hw args⟩ (hM_met M (fun o σ' h => (kk o σ' h).imp fun _ h => h.1) l G) ⟨cn_of c5 Y hfr hlo c10 w, tb_word c5 w2 args, trivial⟩ ⟨hPc_blind, pre_of c5 c6 hr hs⟩ rfl hna hl.1 hst (by show 2 * 0 + _ ≤ 8; omega) d hf) hs (fun o σ' h => ?_)
  obtain ⟨v, hv, h2⟩ := kk o σ' h
  exact ⟨v, hv, fun H1 locs1 hr1 hs1 => h2 H1 locs1 ls hr1 hs1 hl⟩
theorem g_invI {y : MethodName} {bytes : ByteArray} {maxL na fr' lo' mc' ms' idx b : Nat} {Q' : Outcome → St → Prop} (As rest : List Value) (Y : zY y bytes maxL none na) (w : Cond.methodLink own idx y ∈ tbG) (w2 : Cond.instanceMethod y ∈ tbG) (hy : y.name = "<init>") (C : hC Γ own cc ret nm fr lo) (d : decode cc pc = .ok (.invokespecial idx, 3)) (hfr : fr' + 1 ≤ fr) (hlo : 8 + (maxL + 11) + lo' ≤ lo) (h8 : (rest.map fun v => v.category).sum ≤ 8) (hk : k + mc' ≤ hMc Γ) (hn : n + ms' ≤ hMs Γ) (hna : As.length = na) (hst : st = As.reverse ++ .ref b :: rest)
    (M : hM y bytes maxL none fr' lo' mc' ms' (.ref b :: As) σ Q') (kk : ∀ o σ', Q' o σ' → ∃ v, o = .returned v ∧ hW Γ (k + mc') (n + ms') (pc + 3) lv (v.toList ++ rest) σ') : hW Γ k n pc lv st σ := by
  obtain ⟨p, l, e, R, s, m, args, below, meth, c, G, nL, mc, ms, Q⟩ := Γ
  intro H locs ls hr hs hl
  obtain ⟨c1, c2, c3, c4, c5, c6, c7, c8, c9, c10⟩ := C
  have hf : k + mc' ≤ R.cells ∧ n + ms' ≤ R.slots := by rw [c10]; exact ⟨hk, hn⟩
  refine run_on (va_runI (b := b) (As := As) (rest := rest) ⟨c1, c2, c3, c4, fun w hw => tb_word c5 hw args⟩ (hM_met M (fun o σ' h => (kk o σ' h).imp fun _ h => h.1) l G) ⟨cb_of c5 Y hfr hlo c10 w, hy, tb_word c5 w2 args⟩ ⟨hPc_blind, pre_of c5 c6 hr hs⟩ rfl hna hl.1 hst (by show 2 * 0 + _ ≤ 8; omega) d hf) hs (fun o σ' h => ?_)
  obtain ⟨v, hv, h2⟩ := kk o σ' h
  exact ⟨v, hv, fun H1 locs1 hr1 hs1 => h2 H1 locs1 ls hr1 hs1 hl⟩
theorem g_invIN {y : MethodName} {bytes : ByteArray} {maxL na fr' lo' mc' ms' idx b : Nat} {host : String} {Q' : Outcome → St → Prop} (As rest : List Value) (Y : zY y bytes maxL none na) (w : Cond.methodLinkNest own idx y host ∈ tbN) (w2 : Cond.instanceMethod y ∈ tbG) (hy : y.name = "<init>") (C : hC Γ own cc ret nm fr lo) (d : decode cc pc = .ok (.invokespecial idx, 3)) (hfr : fr' + 1 ≤ fr) (hlo : 8 + (maxL + 11) + lo' ≤ lo) (h8 : (rest.map fun v => v.category).sum ≤ 8) (hk : k + mc' ≤ hMc Γ) (hn : n + ms' ≤ hMs Γ) (hna : As.length = na) (hst : st = As.reverse ++ .ref b :: rest)
    (M : hM y bytes maxL none fr' lo' mc' ms' (.ref b :: As) σ Q') (kk : ∀ o σ', Q' o σ' → ∃ v, o = .returned v ∧ hW Γ (k + mc') (n + ms') (pc + 3) lv (v.toList ++ rest) σ') : hW Γ k n pc lv st σ := by
  obtain ⟨p, l, e, R, s, m, args, below, meth, c, G, nL, mc, ms, Q⟩ := Γ
  intro H locs ls hr hs hl
  obtain ⟨c1, c2, c3, c4, c5, c6, c7, c8, c9, c10⟩ := C
  have hf : k + mc' ≤ R.cells ∧ n + ms' ≤ R.slots := by rw [c10]; exact ⟨hk, hn⟩
  refine run_on (va_runIN (b := b) (As := As) (rest := rest) ⟨c1, c2, c3, c4, fun w hw => tb_word c5 hw args⟩ (hM_met M (fun o σ' h => (kk o σ' h).imp fun _ h => h.1) l G) ⟨cn_of c5 Y hfr hlo c10 w, hy, tb_word c5 w2 args⟩ ⟨hPc_blind, pre_of c5 c6 hr hs⟩ rfl hna hl.1 hst (by show 2 * 0 + _ ≤ 8; omega) d hf) hs (fun o σ' h => ?_)
  obtain ⟨v, hv, h2⟩ := kk o σ' h
  exact ⟨v, hv, fun H1 locs1 hr1 hs1 => h2 H1 locs1 ls hr1 hs1 hl⟩
theorem g_objInit {idx a : Nat} (w1 : Cond.methodLink own idx Lib.objectInit ∈ tbG) (w2 : Cond.instanceMethod Lib.objectInit ∈ tbG) (w3 : Cond.code Lib.objectInit ⟨#[0xb1]⟩ 1 none ∈ tbG) (C : hC Γ own cc ret nm fr lo) (d : decode cc pc = .ok (.invokespecial idx, 3)) (hfr : 1 ≤ fr) (hlo : (st.map fun v => v.category).sum + 12 ≤ lo) (kk : hW Γ k n (pc + 3) lv st σ) : hW Γ k n pc lv (.ref a :: st) σ := by
  obtain ⟨p, l, e, R, s, m, args, below, meth, c, G, nL, mc, ms, Q⟩ := Γ
  intro H locs ls hr hs hl
  obtain ⟨c1, c2, c3, c4, c5, c6, c7, c8, c9, rfl⟩ := C
  exact W.objInit c1 c2 c4 (tb_word c5 w1 args) (tb_word c5 w2 args) (tb_word c5 w3 args) rfl (by rw [c3]; exact hl.1) rfl d hfr (by show 2 * 0 + _ + 12 ≤ lo; omega) (kk H locs ls hr hs hl)
theorem g_mmin {idx : Nat} {x y : Int32} (w1 : Cond.methodLink own idx Lib.Math.min.name ∈ tbG) (w2 : Cond.static Lib.Math.min.name ∈ tbG) (w3 : Cond.initialized "java/lang/Math" ∈ tbG) (w4 : Cond.code Lib.Math.min.name Lib.Math.min.code 2 (some .int) ∈ tbG) (C : hC Γ own cc ret nm fr lo) (hfr : 1 ≤ fr) (hlo : (st.map fun v => v.category).sum + 13 ≤ lo) (hk : k ≤ hMc Γ) (hn : n ≤ hMs Γ) (d : decode cc pc = .ok (.invokestatic idx, 3)) (kk : hW Γ k n (pc + 3) lv (.int (if y < x then y else x) :: st) σ) : hW Γ k n pc lv (.int y :: .int x :: st) σ := by
  obtain ⟨p, l, e, R, s, m, args, below, meth, c, G, nL, mc, ms, Q⟩ := Γ
  intro H locs ls hr hs hl
  obtain ⟨c1, c2, c3, c4, c5, c6, c7, c8, c9, rfl⟩ := C
  exact va_mmin c1 c2 (c3.trans hl.1.symm) c4 (tb_word c5 w1 args) (tb_word c5 w2 args) (tb_word c5 w3 args) (tb_word c5 w4 args) hfr hlo hk hn d (kk H locs ls hr hs hl)
theorem g_mminL {idx : Nat} {x y : Int64} (w1 : Cond.methodLink own idx Lib.MathLoose.min_long.x ∈ tbG) (w2 : Cond.static Lib.MathLoose.min_long.x ∈ tbG) (w3 : Cond.initialized "java/lang/Math" ∈ tbG) (w4 : Cond.code Lib.MathLoose.min_long.x Lib.MathLoose.min_long.code 4 (some .long) ∈ tbG) (C : hC Γ own cc ret nm fr lo) (hfr : 1 ≤ fr) (hlo : (st.map fun v => v.category).sum + 15 ≤ lo) (hk : k ≤ hMc Γ) (hn : n ≤ hMs Γ) (d : decode cc pc = .ok (.invokestatic idx, 3)) (kk : hW Γ k n (pc + 3) lv (.long (if y < x then y else x) :: st) σ) : hW Γ k n pc lv (.long y :: .long x :: st) σ := by
  obtain ⟨p, l, e, R, s, m, args, below, meth, c, G, nL, mc, ms, Q⟩ := Γ
  intro H locs ls hr hs hl
  obtain ⟨c1, c2, c3, c4, c5, c6, c7, c8, c9, rfl⟩ := C
  exact va_mmin_long c1 c2 (c3.trans hl.1.symm) c4 (tb_word c5 w1 args) (tb_word c5 w2 args) (tb_word c5 w3 args) (tb_word c5 w4 args) hfr hlo hk hn d (kk H locs ls hr hs hl)
theorem g_mmaxL {idx : Nat} {x y : Int64} (w1 : Cond.methodLink own idx Lib.MathLoose.max_long.x ∈ tbG) (w2 : Cond.static Lib.MathLoose.max_long.x ∈ tbG) (w3 : Cond.initialized "java/lang/Math" ∈ tbG) (w4 : Cond.code Lib.MathLoose.max_long.x Lib.MathLoose.max_long.code 4 (some .long) ∈ tbG) (C : hC Γ own cc ret nm fr lo) (hfr : 1 ≤ fr) (hlo : (st.map fun v => v.category).sum + 15 ≤ lo) (hk : k ≤ hMc Γ) (hn : n ≤ hMs Γ) (d : decode cc pc = .ok (.invokestatic idx, 3)) (kk : hW Γ k n (pc + 3) lv (.long (if y < x then x else y) :: st) σ) : hW Γ k n pc lv (.long y :: .long x :: st) σ := by
  obtain ⟨p, l, e, R, s, m, args, below, meth, c, G, nL, mc, ms, Q⟩ := Γ
  intro H locs ls hr hs hl
  obtain ⟨c1, c2, c3, c4, c5, c6, c7, c8, c9, rfl⟩ := C
  exact va_mmax_long c1 c2 (c3.trans hl.1.symm) c4 (tb_word c5 w1 args) (tb_word c5 w2 args) (tb_word c5 w3 args) (tb_word c5 w4 args) hfr hlo hk hn d (kk H locs ls hr hs hl)
end R9
