/-! a copy out of a row of longs that lies outside; Throwable's own constructors -/
theorem xcopy0 {p : Program} {l : Launch} {e : Env} {R : Room} {s : State} {m : MethodId} {args : Array Value} {below : List Frame} {meth : Method} {c : Code} {H : Heap} {locs : List Loc} {cells slots : Nat} {Q : State → Prop} {cc : ByteArray} {pc : Nat} {ls : Array Slot} {rest : List Value} {D : va_G} {cl : List vw_C} {A : Nat → Prop} {a : Nat} {tys : List (ClassId × FieldType)} {ws : va_W}
    (hexec : p.tables.exec = Jvm.exec) (hb : c.code = cc) (hml : c.maxLocals = ls.size) {own : String} {index : Nat} (hown : s.vm.findClass own = some m.cls) (hlink : (Cond.methodLink own index arraycopyName).before args s = true) (hnat : (Cond.native arraycopyName).before args s = true) (hstat : (Cond.static arraycopyName).before args s = true) (hini : (Cond.initialized "java/lang/System").before args s = true)
    (hK : va_K D cl tys s) (hP : va_P D cl ws H) (hD : va_D A ws) (hS : va_S A s.heap H locs) {b0 n0 : Nat} {f : Nat → Int64} (hX : va_T .long b0 n0 (fun j => .long (f j)) A s s.heap) (q1 t1 : Nat) {c1 : ClassId} {n1 : Nat} {g : Nat → Int64} (ha1 : ws[q1]? = some (a, .inl (c1, n1, .inr (.inl g)))) (ht1 : tys[t1]? = some (c1, .long))
    {sp dp n : Int32} (h1 : ¬ sp < 0) (h2 : ¬ dp < 0) (h3 : ¬ n < 0) (h4 : sp.toNatClampNeg + n.toNatClampNeg ≤ n0) (h5 : dp.toNatClampNeg + n.toNatClampNeg ≤ n1)
    (hframes : 1 ≤ R.frames) (hlocals : (rest.map fun v => v.category).sum + (nativeFrameWords "java/lang/System" "arraycopy" 5 + 11) ≤ R.locals) (hdg : decode cc pc = .ok (.invokestatic index, 3))
    (kk : ∀ (H1 : Heap) (locs1 : List Loc), va_P D cl (ws.set q1 (a, .inl (c1, n1, .inr (.inl (va_cpy f g sp.toNatClampNeg dp.toNatClampNeg n.toNatClampNeg))))) H1 → va_D A (ws.set q1 (a, .inl (c1, n1, .inr (.inl (va_cpy f g sp.toNatClampNeg dp.toNatClampNeg n.toNatClampNeg))))) → va_S A s.heap H1 locs1 → W p l e R s m args below meth c H1 locs1 cells slots Q (F0 m (pc + 3) ls rest)) : W p l e R s m args below meth c H locs cells slots Q (F0 m pc ls (.int n :: .int dp :: .ref a :: .int sp :: .ref b0 :: rest)) := by
  have nn : ∀ z : Int32, ¬ z < 0 → z.toInt = (z.toNatClampNeg : Int) := by
    intro z hz
    have h0 : (0 : Int) ≤ z.toInt := by
      have := Int32.le_iff_toInt_le.mp (Int32.not_lt.mp hz)
      simpa using this
    show z.toInt = ((z.toInt.toNat : Nat) : Int)
    omega
  intro T hT X
  obtain ⟨scr, i1, i2, i3, i4, -, i5, i6⟩ := hX
  have hc0 : H[b0]? = some scr := by rw [hS.2.1 b0 (Array.getElem?_eq_some_iff.mp i1).1 i6]; exact i1
  have hc1 : H[a]? = some (vp_cell c1 (n1, .inr (.inl g))) := hP q1 _ ha1
  obtain ⟨i7, k0, hk0, cm0, hkk0⟩ := i2
  obtain ⟨-, k1, hk1, cm1, hkk1⟩ := (hK.2 t1 _ ht1).1 n1 (fun j => .long (g j))
  obtain ⟨vm', X', step⟩ := X.arraycopy hexec hown hlink hnat hstat hini (src := b0) (dst := a) (cs := scr) (cd := vp_cell c1 (n1, .inr (.inl g))) (srcPos := sp) (destPos := dp) (n := n) (by rw [hT]; exact hc0) (by rw [hT]; exact hc1)
    i7 (fun _ h => by cases h) i3 (fun h => by cases h) hk0 hk1 hkk0 hkk1 (by simp [refKind]) h1 h2 h3
    (by rw [nn sp h1, nn n h3]; omega)
    (by rw [nn dp h2, nn n h3]; show ¬ _ > ((arrV c1 n1 (fun j => .long (g j))).slots.size : Int); rw [arrV_size]; omega)
    (fun vm₁ _ i hi => by
      have e : scr.slots.getD (sp.toNatClampNeg + i) .null = .long (f (sp.toNatClampNeg + i)) := by
        rw [Array.getD_eq_getD_getElem?, i5 _ (by omega)]
        rfl
      rw [e]
      exact ⟨rfl, trivial⟩)
    (g := F0 m pc ls (.int n :: .int dp :: .ref a :: .int sp :: .ref b0 :: rest)) rfl (by rw [hml]) (rest := rest) rfl (by rw [hb]; exact hdg) hframes (by show 2 * 0 + _ + _ ≤ _; omega)
  have e1 : copied scr (vp_cell c1 (n1, .inr (.inl g))) sp dp n = vp_cell c1 (n1, .inr (.inl (va_cpy f g sp.toNatClampNeg dp.toNatClampNeg n.toNatClampNeg))) := va_copiedX (fun z => .long z) scr c1 f g i5 h4
  rw [e1] at X' step
  have hlt : a < H.size := (Array.getElem?_eq_some_iff.mp hc1).1
  have hheap : ((T.setVm vm').setCell a (vp_cell c1 (n1, .inr (.inl (va_cpy f g sp.toNatClampNeg dp.toNatClampNeg n.toNatClampNeg))))).heap = H.setIfInBounds a (vp_cell c1 (n1, .inr (.inl (va_cpy f g sp.toNatClampNeg dp.toNatClampNeg n.toNatClampNeg)))) := by rw [← hT]; rfl
  have oq : ∀ q : Nat, q ≠ a → (H.setIfInBounds a (vp_cell c1 (n1, .inr (.inl (va_cpy f g sp.toNatClampNeg dp.toNatClampNeg n.toNatClampNeg)))))[q]? = H[q]? := fun q hq => by simp [Array.getElem?_setIfInBounds, Ne.symm hq]
  obtain ⟨t, a1, b1⟩ := kk _ _ (hP.set hD ha1 (show (H.setIfInBounds a _)[a]? = some _ by simp [Array.getElem?_setIfInBounds, hlt]) oq) (hD.set ha1) ⟨by simp; exact hS.1, fun q g1 g2 => by
      rw [oq q (fun e => g2 (by rw [e]; exact hD.2 q1 _ ha1))]
      exact hS.2.1 q g1 g2, fun q hq => by
      rcases List.mem_append.mp hq with h | h
      · exact hS.2.2 q h
      · obtain ⟨z, -, hz⟩ := List.mem_map.mp h
        rw [← hz]
        exact hD.2 q1 _ ha1⟩ _ hheap X'
  exact ⟨t, step t a1, b1⟩
section R13
variable {Γ : hCT} {own : String} {cc : ByteArray} {ret : Option FieldType} {nm : String} {fr lo k n pc : Nat} {lv : List (Nat × Value)} {st : List Value} {σ : St}
theorem g_xcopy {b idx : Nat} {sp dp nn : Int32} (w1 : Cond.methodLink own idx arraycopyName ∈ tbG) (w2 : Cond.native arraycopyName ∈ tbG) (w3 : Cond.static arraycopyName ∈ tbG) (w4 : Cond.initialized "java/lang/System" ∈ tbG) (C : hC Γ own cc ret nm fr lo) (hfr : 1 ≤ fr) (hlo : (st.map fun v => v.category).sum + (nativeFrameWords "java/lang/System" "arraycopy" 5 + 11) ≤ lo) (d : decode cc pc = .ok (.invokestatic idx, 3)) (hb : zK σ b = 21) (h1 : ¬ sp < 0) (h2 : ¬ dp < 0) (h3 : ¬ nn < 0) (h4 : ix sp + ix nn ≤ 4) (h5 : ix dp + ix nn ≤ zL σ b) (kk : hW Γ k n (pc + 3) lv st (uCx σ fwL (ix sp) b (ix dp) (ix nn))) : hW Γ k n pc lv (.int nn :: .int dp :: .ref b :: .int sp :: .ref (hTF Γ) :: st) σ := by
  obtain ⟨p, l, e, R, s, m, args, below, meth, c, G, nL, mc, ms, Q⟩ := Γ
  intro H locs ls hr hs hl
  obtain ⟨c1, c2, c3, c4, c5, c6, c7, c8, c9, rfl⟩ := C
  obtain ⟨L, hL, hP, hD⟩ := hr
  have hb0 : zK σ b ≠ 0 := by rw [hb]; decide
  obtain ⟨q, hq⟩ := va_pl_get (X := []) (f := zCe G.cy σ) ((hL b).mpr hb0)
  have hq : (va_pl L (zCe G.cy σ))[q]? = some (b, zCe G.cy σ b) := hq
  have hq2 := hq
  rw [zCe_j hb] at hq2
  have hT : va_T .long G.tF 4 (fun j => .long (fwL j)) G.A s s.heap := by
    have h := c5.2.2.2.2.1.2
    rw [show (fun j => Value.long (fwL j)) = fwV from funext fun j => (fwL_v j).symm]
    exact h
  exact xcopy0 c1 c2 (c3.trans hl.1.symm) c4 (tb_word c5 w1 args) (tb_word c5 w2 args) (tb_word c5 w3 args) (tb_word c5 w4 args) c5.2.2.2.1 hP hD hs hT q 1 hq2 rfl h1 h2 h3 h4 h5 hfr hlo d (fun H1 locs1 hP1 hD1 hs1 => kk H1 locs1 ls (hR_set hL hD hb0 hq hP1 hD1 (cell_arr (σ' := uCx σ fwL (ix sp) b (ix dp) (ix nn)) rfl rfl (fun _ _ _ => rfl) (by rw [zCe_j (σ := uCx σ fwL (ix sp) b (ix dp) (ix nn)) hb]; exact congrArg (fun f => Sum.inl (G.cy 21, zL σ b, Sum.inr (Sum.inl f))) (if_pos rfl)) (fun _ _ => rfl) (fun x hx => if_neg hx) (fun _ _ => rfl) (fun _ _ => rfl)) (fun _ => rfl)) hs1 hl)
end R13
abbrev cE25_init : ByteArray := prog_25_method_5_code
def yE25_init : MethodName := ⟨"java/lang/RuntimeException", "<init>", "(Ljava/lang/String;Ljava/lang/Throwable;ZZ)V"⟩
theorem dE25_init_0 : decode cE25_init 0 = .ok (.aload_n 0, 1) := by decide +kernel
theorem dE25_init_1 : decode cE25_init 1 = .ok (.aload_n 1, 1) := by decide +kernel
theorem dE25_init_2 : decode cE25_init 2 = .ok (.aload_n 2, 1) := by decide +kernel
theorem dE25_init_3 : decode cE25_init 3 = .ok (.iload_n 3, 1) := by decide +kernel
theorem dE25_init_4 : decode cE25_init 4 = .ok (.iload 4, 2) := by decide +kernel
theorem dE25_init_6 : decode cE25_init 6 = .ok (.invokespecial 16, 3) := by decide +kernel
theorem dE25_init_9 : decode cE25_init 9 = .ok (.return_, 1) := by decide +kernel
abbrev cE21_init : ByteArray := prog_21_method_5_code
def yE21_init : MethodName := ⟨"java/lang/Exception", "<init>", "(Ljava/lang/String;Ljava/lang/Throwable;ZZ)V"⟩
theorem dE21_init_0 : decode cE21_init 0 = .ok (.aload_n 0, 1) := by decide +kernel
theorem dE21_init_1 : decode cE21_init 1 = .ok (.aload_n 1, 1) := by decide +kernel
theorem dE21_init_2 : decode cE21_init 2 = .ok (.aload_n 2, 1) := by decide +kernel
theorem dE21_init_3 : decode cE21_init 3 = .ok (.iload_n 3, 1) := by decide +kernel
theorem dE21_init_4 : decode cE21_init 4 = .ok (.iload 4, 2) := by decide +kernel
theorem dE21_init_6 : decode cE21_init 6 = .ok (.invokespecial 16, 3) := by decide +kernel
theorem dE21_init_9 : decode cE21_init 9 = .ok (.return_, 1) := by decide +kernel
abbrev cE27_init : ByteArray := prog_27_method_5_code
def yE27_init : MethodName := ⟨"java/lang/Throwable", "<init>", "(Ljava/lang/String;Ljava/lang/Throwable;ZZ)V"⟩
theorem dE27_init_0 : decode cE27_init 0 = .ok (.aload_n 0, 1) := by decide +kernel
theorem dE27_init_1 : decode cE27_init 1 = .ok (.invokespecial 1, 3) := by decide +kernel
theorem dE27_init_4 : decode cE27_init 4 = .ok (.aload_n 0, 1) := by decide +kernel
theorem dE27_init_5 : decode cE27_init 5 = .ok (.aload_n 0, 1) := by decide +kernel
theorem dE27_init_6 : decode cE27_init 6 = .ok (.putfield 7, 3) := by decide +kernel
theorem dE27_init_9 : decode cE27_init 9 = .ok (.aload_n 0, 1) := by decide +kernel
theorem dE27_init_10 : decode cE27_init 10 = .ok (.getstatic 13, 3) := by decide +kernel
theorem dE27_init_13 : decode cE27_init 13 = .ok (.putfield 17, 3) := by decide +kernel
theorem dE27_init_16 : decode cE27_init 16 = .ok (.aload_n 0, 1) := by decide +kernel
theorem dE27_init_17 : decode cE27_init 17 = .ok (.getstatic 20, 3) := by decide +kernel
theorem dE27_init_20 : decode cE27_init 20 = .ok (.putfield 24, 3) := by decide +kernel
theorem dE27_init_23 : decode cE27_init 23 = .ok (.iload 4, 2) := by decide +kernel
theorem dE27_init_25 : decode cE27_init 25 = .ok (.ifCond .eq 11, 3) := by decide +kernel
theorem dE27_init_28 : decode cE27_init 28 = .ok (.aload_n 0, 1) := by decide +kernel
theorem dE27_init_29 : decode cE27_init 29 = .ok (.invokevirtual 27, 3) := by decide +kernel
theorem dE27_init_32 : decode cE27_init 32 = .ok (.pop, 1) := by decide +kernel
theorem dE27_init_33 : decode cE27_init 33 = .ok (.goto 8, 3) := by decide +kernel
theorem dE27_init_36 : decode cE27_init 36 = .ok (.aload_n 0, 1) := by decide +kernel
theorem dE27_init_37 : decode cE27_init 37 = .ok (.aconst_null, 1) := by decide +kernel
theorem dE27_init_38 : decode cE27_init 38 = .ok (.putfield 17, 3) := by decide +kernel
theorem dE27_init_41 : decode cE27_init 41 = .ok (.aload_n 0, 1) := by decide +kernel
theorem dE27_init_42 : decode cE27_init 42 = .ok (.aload_n 1, 1) := by decide +kernel
theorem dE27_init_43 : decode cE27_init 43 = .ok (.putfield 31, 3) := by decide +kernel
theorem dE27_init_46 : decode cE27_init 46 = .ok (.aload_n 0, 1) := by decide +kernel
theorem dE27_init_47 : decode cE27_init 47 = .ok (.aload_n 2, 1) := by decide +kernel
theorem dE27_init_48 : decode cE27_init 48 = .ok (.putfield 7, 3) := by decide +kernel
theorem dE27_init_51 : decode cE27_init 51 = .ok (.iload_n 3, 1) := by decide +kernel
theorem dE27_init_52 : decode cE27_init 52 = .ok (.ifCond .ne 8, 3) := by decide +kernel
theorem dE27_init_55 : decode cE27_init 55 = .ok (.aload_n 0, 1) := by decide +kernel
theorem dE27_init_56 : decode cE27_init 56 = .ok (.aconst_null, 1) := by decide +kernel
theorem dE27_init_57 : decode cE27_init 57 = .ok (.putfield 24, 3) := by decide +kernel
theorem dE27_init_60 : decode cE27_init 60 = .ok (.return_, 1) := by decide +kernel
