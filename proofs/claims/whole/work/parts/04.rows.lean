section R4
variable {Γ : hCT} {own : String} {cc : ByteArray} {ret : Option FieldType} {nm : String} {fr lo k n pc : Nat} {lv lv' : List (Nat × Value)} {st : List Value} {σ : St}
theorem g_iconst {i : Int} {v : Int32} (C : hC Γ own cc ret nm fr lo) (d : decode cc pc = .ok (.iconst i, 1)) (hv : Int32.ofInt i = v) (kk : hW Γ k n (pc + 1) lv (.int v :: st) σ) : hW Γ k n pc lv (st) σ := by
  obtain ⟨p, l, e, R, s, m, args, below, meth, c, G, nL, mc, ms, Q⟩ := Γ
  intro H locs ls hr hs hl
  exact lv_iconst C.1 C.2.1 d hv (kk H locs ls hr hs hl)
theorem g_bipush {i : Int} {v : Int32} (C : hC Γ own cc ret nm fr lo) (d : decode cc pc = .ok (.bipush i, 2)) (hv : (Int8.ofInt i).toInt32 = v) (kk : hW Γ k n (pc + 2) lv (.int v :: st) σ) : hW Γ k n pc lv (st) σ := by
  obtain ⟨p, l, e, R, s, m, args, below, meth, c, G, nL, mc, ms, Q⟩ := Γ
  intro H locs ls hr hs hl
  exact lv_bipush C.1 C.2.1 d hv (kk H locs ls hr hs hl)
theorem g_sipush {i : Int} {v : Int32} (C : hC Γ own cc ret nm fr lo) (d : decode cc pc = .ok (.sipush i, 3)) (hv : (Int16.ofInt i).toInt32 = v) (kk : hW Γ k n (pc + 3) lv (.int v :: st) σ) : hW Γ k n pc lv (st) σ := by
  obtain ⟨p, l, e, R, s, m, args, below, meth, c, G, nL, mc, ms, Q⟩ := Γ
  intro H locs ls hr hs hl
  exact lv_sipush C.1 C.2.1 d hv (kk H locs ls hr hs hl)
theorem g_lconst {i : Fin 2} {v : Int64} (C : hC Γ own cc ret nm fr lo) (d : decode cc pc = .ok (.lconst i, 1)) (hv : Int64.ofNat (i : Nat) = v) (kk : hW Γ k n (pc + 1) lv (.long v :: st) σ) : hW Γ k n pc lv (st) σ := by
  obtain ⟨p, l, e, R, s, m, args, below, meth, c, G, nL, mc, ms, Q⟩ := Γ
  intro H locs ls hr hs hl
  exact lv_lconst C.1 C.2.1 d hv (kk H locs ls hr hs hl)
theorem g_dconst0  (C : hC Γ own cc ret nm fr lo) (d : decode cc pc = .ok (.dconst 0, 1)) (kk : hW Γ k n (pc + 1) lv (.double FP.dconst0 :: st) σ) : hW Γ k n pc lv (st) σ := by
  obtain ⟨p, l, e, R, s, m, args, below, meth, c, G, nL, mc, ms, Q⟩ := Γ
  intro H locs ls hr hs hl
  exact lv_dconst0 C.1 C.2.1 d (kk H locs ls hr hs hl)
theorem g_dconst1  (C : hC Γ own cc ret nm fr lo) (d : decode cc pc = .ok (.dconst 1, 1)) (kk : hW Γ k n (pc + 1) lv (.double FP.dconst1 :: st) σ) : hW Γ k n pc lv (st) σ := by
  obtain ⟨p, l, e, R, s, m, args, below, meth, c, G, nL, mc, ms, Q⟩ := Γ
  intro H locs ls hr hs hl
  exact lv_dconst1 C.1 C.2.1 d (kk H locs ls hr hs hl)
theorem g_null  (C : hC Γ own cc ret nm fr lo) (d : decode cc pc = .ok (.aconst_null, 1)) (kk : hW Γ k n (pc + 1) lv (va_rf none :: st) σ) : hW Γ k n pc lv (st) σ := by
  obtain ⟨p, l, e, R, s, m, args, below, meth, c, G, nL, mc, ms, Q⟩ := Γ
  intro H locs ls hr hs hl
  exact lv_null C.1 C.2.1 d (kk H locs ls hr hs hl)
theorem g_ldc {i : Nat} {v : Int32} (C : hC Γ own cc ret nm fr lo) (w : Cond.constant own i v ∈ tbG) (d : decode cc pc = .ok (.ldc i, 2)) (kk : hW Γ k n (pc + 2) lv (.int v :: st) σ) : hW Γ k n pc lv st σ := by
  obtain ⟨p, l, e, R, s, m, args, below, meth, c, G, nL, mc, ms, Q⟩ := Γ
  intro H locs ls hr hs hl
  exact lv_ldc C.1 C.2.1 C.2.2.2.1 (tb_word C.2.2.2.2.1 w args) d (kk H locs ls hr hs hl)
theorem g_ldc2 {i : Nat} {v : Int64} (C : hC Γ own cc ret nm fr lo) (w : Cond.constantLong own i v ∈ tbG) (d : decode cc pc = .ok (.ldc2_w i, 3)) (kk : hW Γ k n (pc + 3) lv (.long v :: st) σ) : hW Γ k n pc lv st σ := by
  obtain ⟨p, l, e, R, s, m, args, below, meth, c, G, nL, mc, ms, Q⟩ := Γ
  intro H locs ls hr hs hl
  exact lv_ldc2 C.1 C.2.1 C.2.2.2.1 (tb_word C.2.2.2.2.1 w args) d (kk H locs ls hr hs hl)
theorem g_iload_n {i : Fin 4} {x : Int32} (C : hC Γ own cc ret nm fr lo) (d : decode cc pc = .ok (.iload_n i, 1)) (q : Nat) (hq : lv[q]? = some ((i : Nat), .int x)) (kk : hW Γ k n (pc + 1) lv (.int x :: st) σ) : hW Γ k n pc lv st σ := by
  obtain ⟨p, l, e, R, s, m, args, below, meth, c, G, nL, mc, ms, Q⟩ := Γ
  intro H locs ls hr hs hl
  exact lv_iload_n C.1 C.2.1 d rfl (lv_at hl q hq) (kk H locs ls hr hs hl)
theorem g_iload {i : Nat} {x : Int32} (C : hC Γ own cc ret nm fr lo) (d : decode cc pc = .ok (.iload i, 2)) (q : Nat) (hq : lv[q]? = some (i, .int x)) (kk : hW Γ k n (pc + 2) lv (.int x :: st) σ) : hW Γ k n pc lv st σ := by
  obtain ⟨p, l, e, R, s, m, args, below, meth, c, G, nL, mc, ms, Q⟩ := Γ
  intro H locs ls hr hs hl
  exact lv_iload C.1 C.2.1 d (lv_at hl q hq) (kk H locs ls hr hs hl)
theorem g_istore_n {f : Fin 4} {i : Nat} {x : Int32} (C : hC Γ own cc ret nm fr lo) (d : decode cc pc = .ok (.istore_n f, 1)) (hf : (f : Nat) = i) (hn : i < Γ.2.2.2.2.2.2.2.2.2.2.2.1) (h : (i, Value.int x) :: lv.filter (fun q => !(q.1 == i) && !(q.1 + 1 == i && q.2.category == 2)) = lv') (kk : hW Γ k n (pc + 1) lv' st σ) : hW Γ k n pc lv (.int x :: st) σ := by
  obtain ⟨p, l, e, R, s, m, args, below, meth, c, G, nL, mc, ms, Q⟩ := Γ
  intro H locs ls hr hs hl
  exact lv_istore_n C.1 C.2.1 d hf hl hn h (fun ls' hl' => kk H locs ls' hr hs hl')
theorem g_istore {i : Nat} {x : Int32} (C : hC Γ own cc ret nm fr lo) (d : decode cc pc = .ok (.istore i, 2)) (hn : i < Γ.2.2.2.2.2.2.2.2.2.2.2.1) (h : (i, Value.int x) :: lv.filter (fun q => !(q.1 == i) && !(q.1 + 1 == i && q.2.category == 2)) = lv') (kk : hW Γ k n (pc + 2) lv' st σ) : hW Γ k n pc lv (.int x :: st) σ := by
  obtain ⟨p, l, e, R, s, m, args, below, meth, c, G, nL, mc, ms, Q⟩ := Γ
  intro H locs ls hr hs hl
  exact lv_istore C.1 C.2.1 d hl hn h (fun ls' hl' => kk H locs ls' hr hs hl')
theorem g_lload_n {i : Fin 4} {x : Int64} (C : hC Γ own cc ret nm fr lo) (d : decode cc pc = .ok (.lload_n i, 1)) (q : Nat) (hq : lv[q]? = some ((i : Nat), .long x)) (kk : hW Γ k n (pc + 1) lv (.long x :: st) σ) : hW Γ k n pc lv st σ := by
  obtain ⟨p, l, e, R, s, m, args, below, meth, c, G, nL, mc, ms, Q⟩ := Γ
  intro H locs ls hr hs hl
  exact lv_lload_n C.1 C.2.1 d rfl (lv_at hl q hq) (kk H locs ls hr hs hl)
theorem g_lload {i : Nat} {x : Int64} (C : hC Γ own cc ret nm fr lo) (d : decode cc pc = .ok (.lload i, 2)) (q : Nat) (hq : lv[q]? = some (i, .long x)) (kk : hW Γ k n (pc + 2) lv (.long x :: st) σ) : hW Γ k n pc lv st σ := by
  obtain ⟨p, l, e, R, s, m, args, below, meth, c, G, nL, mc, ms, Q⟩ := Γ
  intro H locs ls hr hs hl
  exact lv_lload C.1 C.2.1 d (lv_at hl q hq) (kk H locs ls hr hs hl)
theorem g_lstore_n {f : Fin 4} {i : Nat} {x : Int64} (C : hC Γ own cc ret nm fr lo) (d : decode cc pc = .ok (.lstore_n f, 1)) (hf : (f : Nat) = i) (hn : i + 1 < Γ.2.2.2.2.2.2.2.2.2.2.2.1) (h : (i, Value.long x) :: lv.filter (fun q => !(q.1 == i) && (!(q.1 == i + 1) && !(q.1 + 1 == i && q.2.category == 2))) = lv') (kk : hW Γ k n (pc + 1) lv' st σ) : hW Γ k n pc lv (.long x :: st) σ := by
  obtain ⟨p, l, e, R, s, m, args, below, meth, c, G, nL, mc, ms, Q⟩ := Γ
  intro H locs ls hr hs hl
  exact lv_lstore_n C.1 C.2.1 d hf hl hn h (fun ls' hl' => kk H locs ls' hr hs hl')
theorem g_lstore {i : Nat} {x : Int64} (C : hC Γ own cc ret nm fr lo) (d : decode cc pc = .ok (.lstore i, 2)) (hn : i + 1 < Γ.2.2.2.2.2.2.2.2.2.2.2.1) (h : (i, Value.long x) :: lv.filter (fun q => !(q.1 == i) && (!(q.1 == i + 1) && !(q.1 + 1 == i && q.2.category == 2))) = lv') (kk : hW Γ k n (pc + 2) lv' st σ) : hW Γ k n pc lv (.long x :: st) σ := by
  obtain ⟨p, l, e, R, s, m, args, below, meth, c, G, nL, mc, ms, Q⟩ := Γ
  intro H locs ls hr hs hl
  exact lv_lstore C.1 C.2.1 d hl hn h (fun ls' hl' => kk H locs ls' hr hs hl')
theorem g_dload_n {i : Fin 4} {x : UInt64} (C : hC Γ own cc ret nm fr lo) (d : decode cc pc = .ok (.dload_n i, 1)) (q : Nat) (hq : lv[q]? = some ((i : Nat), .double x)) (kk : hW Γ k n (pc + 1) lv (.double x :: st) σ) : hW Γ k n pc lv st σ := by
  obtain ⟨p, l, e, R, s, m, args, below, meth, c, G, nL, mc, ms, Q⟩ := Γ
  intro H locs ls hr hs hl
  exact lv_dload_n C.1 C.2.1 d rfl (lv_at hl q hq) (kk H locs ls hr hs hl)
theorem g_dload {i : Nat} {x : UInt64} (C : hC Γ own cc ret nm fr lo) (d : decode cc pc = .ok (.dload i, 2)) (q : Nat) (hq : lv[q]? = some (i, .double x)) (kk : hW Γ k n (pc + 2) lv (.double x :: st) σ) : hW Γ k n pc lv st σ := by
  obtain ⟨p, l, e, R, s, m, args, below, meth, c, G, nL, mc, ms, Q⟩ := Γ
  intro H locs ls hr hs hl
  exact lv_dload C.1 C.2.1 d (lv_at hl q hq) (kk H locs ls hr hs hl)
theorem g_dstore_n {f : Fin 4} {i : Nat} {x : UInt64} (C : hC Γ own cc ret nm fr lo) (d : decode cc pc = .ok (.dstore_n f, 1)) (hf : (f : Nat) = i) (hn : i + 1 < Γ.2.2.2.2.2.2.2.2.2.2.2.1) (h : (i, Value.double x) :: lv.filter (fun q => !(q.1 == i) && (!(q.1 == i + 1) && !(q.1 + 1 == i && q.2.category == 2))) = lv') (kk : hW Γ k n (pc + 1) lv' st σ) : hW Γ k n pc lv (.double x :: st) σ := by
  obtain ⟨p, l, e, R, s, m, args, below, meth, c, G, nL, mc, ms, Q⟩ := Γ
  intro H locs ls hr hs hl
  exact lv_dstore_n C.1 C.2.1 d hf hl hn h (fun ls' hl' => kk H locs ls' hr hs hl')
theorem g_dstore {i : Nat} {x : UInt64} (C : hC Γ own cc ret nm fr lo) (d : decode cc pc = .ok (.dstore i, 2)) (hn : i + 1 < Γ.2.2.2.2.2.2.2.2.2.2.2.1) (h : (i, Value.double x) :: lv.filter (fun q => !(q.1 == i) && (!(q.1 == i + 1) && !(q.1 + 1 == i && q.2.category == 2))) = lv') (kk : hW Γ k n (pc + 2) lv' st σ) : hW Γ k n pc lv (.double x :: st) σ := by
  obtain ⟨p, l, e, R, s, m, args, below, meth, c, G, nL, mc, ms, Q⟩ := Γ
  intro H locs ls hr hs hl
  exact lv_dstore C.1 C.2.1 d hl hn h (fun ls' hl' => kk H locs ls' hr hs hl')
theorem g_aload_n {i : Fin 4} (x : Option Nat) (C : hC Γ own cc ret nm fr lo) (d : decode cc pc = .ok (.aload_n i, 1)) (q : Nat) (hq : lv[q]? = some ((i : Nat), va_rf x)) (kk : hW Γ k n (pc + 1) lv (va_rf x :: st) σ) : hW Γ k n pc lv st σ := by
  obtain ⟨p, l, e, R, s, m, args, below, meth, c, G, nL, mc, ms, Q⟩ := Γ
  intro H locs ls hr hs hl
  cases x with
  | none => exact lv_aload_nN C.1 C.2.1 d rfl (lv_at hl q hq) (kk H locs ls hr hs hl)
  | some x => exact lv_aload_n C.1 C.2.1 d rfl (lv_at hl q hq) (kk H locs ls hr hs hl)
theorem g_aload {i : Nat} (x : Option Nat) (C : hC Γ own cc ret nm fr lo) (d : decode cc pc = .ok (.aload i, 2)) (q : Nat) (hq : lv[q]? = some (i, va_rf x)) (kk : hW Γ k n (pc + 2) lv (va_rf x :: st) σ) : hW Γ k n pc lv st σ := by
  obtain ⟨p, l, e, R, s, m, args, below, meth, c, G, nL, mc, ms, Q⟩ := Γ
  intro H locs ls hr hs hl
  cases x with
  | none => exact lv_aloadN C.1 C.2.1 d (lv_at hl q hq) (kk H locs ls hr hs hl)
  | some x => exact lv_aload C.1 C.2.1 d (lv_at hl q hq) (kk H locs ls hr hs hl)
theorem g_astore_n {f : Fin 4} {i : Nat} (x : Option Nat) (C : hC Γ own cc ret nm fr lo) (d : decode cc pc = .ok (.astore_n f, 1)) (hf : (f : Nat) = i) (hn : i < Γ.2.2.2.2.2.2.2.2.2.2.2.1) (h : (i, va_rf x) :: lv.filter (fun q => !(q.1 == i) && !(q.1 + 1 == i && q.2.category == 2)) = lv') (kk : hW Γ k n (pc + 1) lv' st σ) : hW Γ k n pc lv (va_rf x :: st) σ := by
  obtain ⟨p, l, e, R, s, m, args, below, meth, c, G, nL, mc, ms, Q⟩ := Γ
  intro H locs ls hr hs hl
  cases x with
  | none => exact lv_astore_nN C.1 C.2.1 d hf hl hn h (fun ls' hl' => kk H locs ls' hr hs hl')
  | some x => exact lv_astore_n C.1 C.2.1 d hf hl hn h (fun ls' hl' => kk H locs ls' hr hs hl')
theorem g_astore {i : Nat} (x : Option Nat) (C : hC Γ own cc ret nm fr lo) (d : decode cc pc = .ok (.astore i, 2)) (hn : i < Γ.2.2.2.2.2.2.2.2.2.2.2.1) (h : (i, va_rf x) :: lv.filter (fun q => !(q.1 == i) && !(q.1 + 1 == i && q.2.category == 2)) = lv') (kk : hW Γ k n (pc + 2) lv' st σ) : hW Γ k n pc lv (va_rf x :: st) σ := by
  obtain ⟨p, l, e, R, s, m, args, below, meth, c, G, nL, mc, ms, Q⟩ := Γ
  intro H locs ls hr hs hl
  cases x with
  | none => exact lv_astoreN C.1 C.2.1 d hl hn h (fun ls' hl' => kk H locs ls' hr hs hl')
  | some x => exact lv_astore C.1 C.2.1 d hl hn h (fun ls' hl' => kk H locs ls' hr hs hl')
theorem g_iinc {i : Nat} {z : Int} {x v : Int32} (C : hC Γ own cc ret nm fr lo) (d : decode cc pc = .ok (.iinc i z, 3)) (q : Nat) (hq : lv[q]? = some (i, .int x)) (hv : x + Int32.ofInt z = v) (hn : i < Γ.2.2.2.2.2.2.2.2.2.2.2.1) (h : (i, Value.int v) :: lv.filter (fun q => !(q.1 == i) && !(q.1 + 1 == i && q.2.category == 2)) = lv') (kk : hW Γ k n (pc + 3) lv' st σ) : hW Γ k n pc lv st σ := by
  obtain ⟨p, l, e, R, s, m, args, below, meth, c, G, nL, mc, ms, Q⟩ := Γ
  intro H locs ls hr hs hl
  exact lv_iinc C.1 C.2.1 d hl hq hv hn h (fun ls' hl' => kk H locs ls' hr hs hl')
theorem g_iadd {x y : Int32} (C : hC Γ own cc ret nm fr lo) (d : decode cc pc = .ok (.iadd, 1)) (kk : hW Γ k n (pc + 1) lv (.int (x + y) :: st) σ) : hW Γ k n pc lv (.int y :: .int x :: st) σ := by
  obtain ⟨p, l, e, R, s, m, args, below, meth, c, G, nL, mc, ms, Q⟩ := Γ
  intro H locs ls hr hs hl
  exact lv_iadd C.1 C.2.1 d (kk H locs ls hr hs hl)
theorem g_isub {x y : Int32} (C : hC Γ own cc ret nm fr lo) (d : decode cc pc = .ok (.isub, 1)) (kk : hW Γ k n (pc + 1) lv (.int (x - y) :: st) σ) : hW Γ k n pc lv (.int y :: .int x :: st) σ := by
  obtain ⟨p, l, e, R, s, m, args, below, meth, c, G, nL, mc, ms, Q⟩ := Γ
  intro H locs ls hr hs hl
  exact lv_isub C.1 C.2.1 d (kk H locs ls hr hs hl)
theorem g_imul {x y : Int32} (C : hC Γ own cc ret nm fr lo) (d : decode cc pc = .ok (.imul, 1)) (kk : hW Γ k n (pc + 1) lv (.int (x * y) :: st) σ) : hW Γ k n pc lv (.int y :: .int x :: st) σ := by
  obtain ⟨p, l, e, R, s, m, args, below, meth, c, G, nL, mc, ms, Q⟩ := Γ
  intro H locs ls hr hs hl
  exact lv_imul C.1 C.2.1 d (kk H locs ls hr hs hl)
theorem g_iand {x y : Int32} (C : hC Γ own cc ret nm fr lo) (d : decode cc pc = .ok (.iand, 1)) (kk : hW Γ k n (pc + 1) lv (.int (x &&& y) :: st) σ) : hW Γ k n pc lv (.int y :: .int x :: st) σ := by
  obtain ⟨p, l, e, R, s, m, args, below, meth, c, G, nL, mc, ms, Q⟩ := Γ
  intro H locs ls hr hs hl
  exact lv_iand C.1 C.2.1 d (kk H locs ls hr hs hl)
theorem g_ior {x y : Int32} (C : hC Γ own cc ret nm fr lo) (d : decode cc pc = .ok (.ior, 1)) (kk : hW Γ k n (pc + 1) lv (.int (x ||| y) :: st) σ) : hW Γ k n pc lv (.int y :: .int x :: st) σ := by
  obtain ⟨p, l, e, R, s, m, args, below, meth, c, G, nL, mc, ms, Q⟩ := Γ
  intro H locs ls hr hs hl
  exact lv_ior C.1 C.2.1 d (kk H locs ls hr hs hl)
theorem g_ixor {x y : Int32} (C : hC Γ own cc ret nm fr lo) (d : decode cc pc = .ok (.ixor, 1)) (kk : hW Γ k n (pc + 1) lv (.int (x ^^^ y) :: st) σ) : hW Γ k n pc lv (.int y :: .int x :: st) σ := by
  obtain ⟨p, l, e, R, s, m, args, below, meth, c, G, nL, mc, ms, Q⟩ := Γ
  intro H locs ls hr hs hl
  exact lv_ixor C.1 C.2.1 d (kk H locs ls hr hs hl)
theorem g_ishl {x y : Int32} (C : hC Γ own cc ret nm fr lo) (d : decode cc pc = .ok (.ishl, 1)) (kk : hW Γ k n (pc + 1) lv (.int (x <<< (y &&& 31)) :: st) σ) : hW Γ k n pc lv (.int y :: .int x :: st) σ := by
  obtain ⟨p, l, e, R, s, m, args, below, meth, c, G, nL, mc, ms, Q⟩ := Γ
  intro H locs ls hr hs hl
  exact lv_ishl C.1 C.2.1 d (kk H locs ls hr hs hl)
theorem g_ishr {x y : Int32} (C : hC Γ own cc ret nm fr lo) (d : decode cc pc = .ok (.ishr, 1)) (kk : hW Γ k n (pc + 1) lv (.int (x >>> (y &&& 31)) :: st) σ) : hW Γ k n pc lv (.int y :: .int x :: st) σ := by
  obtain ⟨p, l, e, R, s, m, args, below, meth, c, G, nL, mc, ms, Q⟩ := Γ
  intro H locs ls hr hs hl
  exact lv_ishr C.1 C.2.1 d (kk H locs ls hr hs hl)
theorem g_idiv {x y : Int32} (C : hC Γ own cc ret nm fr lo) (d : decode cc pc = .ok (.idiv, 1)) (hne : ¬ y = 0) (kk : hW Γ k n (pc + 1) lv (.int (x / y) :: st) σ) : hW Γ k n pc lv (.int y :: .int x :: st) σ := by
  obtain ⟨p, l, e, R, s, m, args, below, meth, c, G, nL, mc, ms, Q⟩ := Γ
  intro H locs ls hr hs hl
  exact lv_idiv C.1 C.2.1 d hne (kk H locs ls hr hs hl)
theorem g_ladd {x y : Int64} (C : hC Γ own cc ret nm fr lo) (d : decode cc pc = .ok (.ladd, 1)) (kk : hW Γ k n (pc + 1) lv (.long (x + y) :: st) σ) : hW Γ k n pc lv (.long y :: .long x :: st) σ := by
  obtain ⟨p, l, e, R, s, m, args, below, meth, c, G, nL, mc, ms, Q⟩ := Γ
  intro H locs ls hr hs hl
  exact lv_ladd C.1 C.2.1 d (kk H locs ls hr hs hl)
theorem g_lsub {x y : Int64} (C : hC Γ own cc ret nm fr lo) (d : decode cc pc = .ok (.lsub, 1)) (kk : hW Γ k n (pc + 1) lv (.long (x - y) :: st) σ) : hW Γ k n pc lv (.long y :: .long x :: st) σ := by
  obtain ⟨p, l, e, R, s, m, args, below, meth, c, G, nL, mc, ms, Q⟩ := Γ
  intro H locs ls hr hs hl
  exact lv_lsub C.1 C.2.1 d (kk H locs ls hr hs hl)
theorem g_lmul {x y : Int64} (C : hC Γ own cc ret nm fr lo) (d : decode cc pc = .ok (.lmul, 1)) (kk : hW Γ k n (pc + 1) lv (.long (x * y) :: st) σ) : hW Γ k n pc lv (.long y :: .long x :: st) σ := by
  obtain ⟨p, l, e, R, s, m, args, below, meth, c, G, nL, mc, ms, Q⟩ := Γ
  intro H locs ls hr hs hl
  exact lv_lmul C.1 C.2.1 d (kk H locs ls hr hs hl)
theorem g_land {x y : Int64} (C : hC Γ own cc ret nm fr lo) (d : decode cc pc = .ok (.land, 1)) (kk : hW Γ k n (pc + 1) lv (.long (x &&& y) :: st) σ) : hW Γ k n pc lv (.long y :: .long x :: st) σ := by
  obtain ⟨p, l, e, R, s, m, args, below, meth, c, G, nL, mc, ms, Q⟩ := Γ
  intro H locs ls hr hs hl
  exact lv_land C.1 C.2.1 d (kk H locs ls hr hs hl)
theorem g_lor {x y : Int64} (C : hC Γ own cc ret nm fr lo) (d : decode cc pc = .ok (.lor, 1)) (kk : hW Γ k n (pc + 1) lv (.long (x ||| y) :: st) σ) : hW Γ k n pc lv (.long y :: .long x :: st) σ := by
  obtain ⟨p, l, e, R, s, m, args, below, meth, c, G, nL, mc, ms, Q⟩ := Γ
  intro H locs ls hr hs hl
  exact lv_lor C.1 C.2.1 d (kk H locs ls hr hs hl)
theorem g_lxor {x y : Int64} (C : hC Γ own cc ret nm fr lo) (d : decode cc pc = .ok (.lxor, 1)) (kk : hW Γ k n (pc + 1) lv (.long (x ^^^ y) :: st) σ) : hW Γ k n pc lv (.long y :: .long x :: st) σ := by
  obtain ⟨p, l, e, R, s, m, args, below, meth, c, G, nL, mc, ms, Q⟩ := Γ
  intro H locs ls hr hs hl
  exact lv_lxor C.1 C.2.1 d (kk H locs ls hr hs hl)
theorem g_lneg {x : Int64} (C : hC Γ own cc ret nm fr lo) (d : decode cc pc = .ok (.lneg, 1)) (kk : hW Γ k n (pc + 1) lv (.long (-x) :: st) σ) : hW Γ k n pc lv (.long x :: st) σ := by
  obtain ⟨p, l, e, R, s, m, args, below, meth, c, G, nL, mc, ms, Q⟩ := Γ
  intro H locs ls hr hs hl
  exact lv_lneg C.1 C.2.1 d (kk H locs ls hr hs hl)
theorem g_lshl {x : Int64} {y : Int32} (C : hC Γ own cc ret nm fr lo) (d : decode cc pc = .ok (.lshl, 1)) (kk : hW Γ k n (pc + 1) lv (.long (x <<< (y.toInt64 &&& 63)) :: st) σ) : hW Γ k n pc lv (.int y :: .long x :: st) σ := by
  obtain ⟨p, l, e, R, s, m, args, below, meth, c, G, nL, mc, ms, Q⟩ := Γ
  intro H locs ls hr hs hl
  exact lv_lshl C.1 C.2.1 d rfl (kk H locs ls hr hs hl)
theorem g_lshr {x : Int64} {y : Int32} (C : hC Γ own cc ret nm fr lo) (d : decode cc pc = .ok (.lshr, 1)) (kk : hW Γ k n (pc + 1) lv (.long (x >>> (y.toInt64 &&& 63)) :: st) σ) : hW Γ k n pc lv (.int y :: .long x :: st) σ := by
  obtain ⟨p, l, e, R, s, m, args, below, meth, c, G, nL, mc, ms, Q⟩ := Γ
  intro H locs ls hr hs hl
  exact lv_lshr C.1 C.2.1 d rfl (kk H locs ls hr hs hl)
def zUsh (x : Int64) (y : Int32) : Int64 := (x.toUInt64 >>> (y.toInt64.toUInt64 &&& Int64.toUInt64 63)).toInt64
theorem g_lushr {x : Int64} {y : Int32} (C : hC Γ own cc ret nm fr lo) (d : decode cc pc = .ok (.lushr, 1)) (kk : hW Γ k n (pc + 1) lv (.long (zUsh x y) :: st) σ) : hW Γ k n pc lv (.int y :: .long x :: st) σ := by
  obtain ⟨p, l, e, R, s, m, args, below, meth, c, G, nL, mc, ms, Q⟩ := Γ
  intro H locs ls hr hs hl
  exact lv_lushr C.1 C.2.1 d rfl (kk H locs ls hr hs hl)
theorem g_i2l {x : Int32} (C : hC Γ own cc ret nm fr lo) (d : decode cc pc = .ok (.i2l, 1)) (kk : hW Γ k n (pc + 1) lv (.long x.toInt64 :: st) σ) : hW Γ k n pc lv (.int x :: st) σ := by
  obtain ⟨p, l, e, R, s, m, args, below, meth, c, G, nL, mc, ms, Q⟩ := Γ
  intro H locs ls hr hs hl
  exact lv_i2l C.1 C.2.1 d rfl (kk H locs ls hr hs hl)
theorem g_l2i {x : Int64} (C : hC Γ own cc ret nm fr lo) (d : decode cc pc = .ok (.l2i, 1)) (kk : hW Γ k n (pc + 1) lv (.int x.toInt32 :: st) σ) : hW Γ k n pc lv (.long x :: st) σ := by
  obtain ⟨p, l, e, R, s, m, args, below, meth, c, G, nL, mc, ms, Q⟩ := Γ
  intro H locs ls hr hs hl
  exact lv_l2i C.1 C.2.1 d rfl (kk H locs ls hr hs hl)
theorem g_lcmp {x y : Int64} (C : hC Γ own cc ret nm fr lo) (d : decode cc pc = .ok (.lcmp, 1)) (kk : hW Γ k n (pc + 1) lv (.int (lg_cmp x y) :: st) σ) : hW Γ k n pc lv (.long y :: .long x :: st) σ := by
  obtain ⟨p, l, e, R, s, m, args, below, meth, c, G, nL, mc, ms, Q⟩ := Γ
  intro H locs ls hr hs hl
  exact W.lcmp C.1 C.2.1 d (kk H locs ls hr hs hl)
theorem g_dcmp {x y : UInt64} {op : CmpOp} (C : hC Γ own cc ret nm fr lo) (d : decode cc pc = .ok (.dcmp op, 1)) (kk : hW Γ k n (pc + 1) lv (.int (Op.cmpValue (FP.dcmp x y) op) :: st) σ) : hW Γ k n pc lv (.double y :: .double x :: st) σ := by
  obtain ⟨p, l, e, R, s, m, args, below, meth, c, G, nL, mc, ms, Q⟩ := Γ
  intro H locs ls hr hs hl
  exact lv_dcmp C.1 C.2.1 d (kk H locs ls hr hs hl)
theorem g_dup {v : Value} (C : hC Γ own cc ret nm fr lo) (d : decode cc pc = .ok (.dup, 1)) (hv : v.category = 1) (kk : hW Γ k n (pc + 1) lv (v :: v :: st) σ) : hW Γ k n pc lv (v :: st) σ := by
  obtain ⟨p, l, e, R, s, m, args, below, meth, c, G, nL, mc, ms, Q⟩ := Γ
  intro H locs ls hr hs hl
  exact lv_dup C.1 C.2.1 d hv (kk H locs ls hr hs hl)
theorem g_pop {v : Value} (C : hC Γ own cc ret nm fr lo) (d : decode cc pc = .ok (.pop, 1)) (hv : v.category = 1) (kk : hW Γ k n (pc + 1) lv (st) σ) : hW Γ k n pc lv (v :: st) σ := by
  obtain ⟨p, l, e, R, s, m, args, below, meth, c, G, nL, mc, ms, Q⟩ := Γ
  intro H locs ls hr hs hl
  exact lv_pop C.1 C.2.1 d hv (kk H locs ls hr hs hl)
theorem g_dup2 {v w : Value} (C : hC Γ own cc ret nm fr lo) (d : decode cc pc = .ok (.dup2, 1)) (hv : v.category = 1) (hw : w.category = 1) (kk : hW Γ k n (pc + 1) lv (v :: w :: v :: w :: st) σ) : hW Γ k n pc lv (v :: w :: st) σ := by
  obtain ⟨p, l, e, R, s, m, args, below, meth, c, G, nL, mc, ms, Q⟩ := Γ
  intro H locs ls hr hs hl
  exact lv_dup2_11 C.1 C.2.1 d hv hw (kk H locs ls hr hs hl)
theorem g_if_eq {x : Int32} {off : Int} {tgt : Nat} (C : hC Γ own cc ret nm fr lo) (d : decode cc pc = .ok (.ifCond .eq off, 3)) (ht : (pc : Int) + off = (tgt : Int)) (kt : x = 0 → hW Γ k n tgt lv st σ) (kf : ¬ x = 0 → hW Γ k n (pc + 3) lv st σ) : hW Γ k n pc lv (.int x :: st) σ := by
  obtain ⟨p, l, e, R, s, m, args, below, meth, c, G, nL, mc, ms, Q⟩ := Γ
  intro H locs ls hr hs hl
  exact lv_if_eq C.1 C.2.1 d ht (fun h => kt h H locs ls hr hs hl) (fun h => kf h H locs ls hr hs hl)
theorem g_if_ne {x : Int32} {off : Int} {tgt : Nat} (C : hC Γ own cc ret nm fr lo) (d : decode cc pc = .ok (.ifCond .ne off, 3)) (ht : (pc : Int) + off = (tgt : Int)) (kt : ¬ x = 0 → hW Γ k n tgt lv st σ) (kf : x = 0 → hW Γ k n (pc + 3) lv st σ) : hW Γ k n pc lv (.int x :: st) σ := by
  obtain ⟨p, l, e, R, s, m, args, below, meth, c, G, nL, mc, ms, Q⟩ := Γ
  intro H locs ls hr hs hl
  exact lv_if_ne C.1 C.2.1 d ht (fun h => kt h H locs ls hr hs hl) (fun h => kf h H locs ls hr hs hl)
theorem g_if_lt {x : Int32} {off : Int} {tgt : Nat} (C : hC Γ own cc ret nm fr lo) (d : decode cc pc = .ok (.ifCond .lt off, 3)) (ht : (pc : Int) + off = (tgt : Int)) (kt : x < 0 → hW Γ k n tgt lv st σ) (kf : ¬ x < 0 → hW Γ k n (pc + 3) lv st σ) : hW Γ k n pc lv (.int x :: st) σ := by
  obtain ⟨p, l, e, R, s, m, args, below, meth, c, G, nL, mc, ms, Q⟩ := Γ
  intro H locs ls hr hs hl
  exact lv_if_lt C.1 C.2.1 d ht (fun h => kt h H locs ls hr hs hl) (fun h => kf h H locs ls hr hs hl)
theorem g_if_ge {x : Int32} {off : Int} {tgt : Nat} (C : hC Γ own cc ret nm fr lo) (d : decode cc pc = .ok (.ifCond .ge off, 3)) (ht : (pc : Int) + off = (tgt : Int)) (kt : 0 ≤ x → hW Γ k n tgt lv st σ) (kf : ¬ 0 ≤ x → hW Γ k n (pc + 3) lv st σ) : hW Γ k n pc lv (.int x :: st) σ := by
  obtain ⟨p, l, e, R, s, m, args, below, meth, c, G, nL, mc, ms, Q⟩ := Γ
  intro H locs ls hr hs hl
  exact lv_if_ge C.1 C.2.1 d ht (fun h => kt h H locs ls hr hs hl) (fun h => kf h H locs ls hr hs hl)
theorem g_if_gt {x : Int32} {off : Int} {tgt : Nat} (C : hC Γ own cc ret nm fr lo) (d : decode cc pc = .ok (.ifCond .gt off, 3)) (ht : (pc : Int) + off = (tgt : Int)) (kt : 0 < x → hW Γ k n tgt lv st σ) (kf : ¬ 0 < x → hW Γ k n (pc + 3) lv st σ) : hW Γ k n pc lv (.int x :: st) σ := by
  obtain ⟨p, l, e, R, s, m, args, below, meth, c, G, nL, mc, ms, Q⟩ := Γ
  intro H locs ls hr hs hl
  exact lv_if_gt C.1 C.2.1 d ht (fun h => kt h H locs ls hr hs hl) (fun h => kf h H locs ls hr hs hl)
theorem g_if_le {x : Int32} {off : Int} {tgt : Nat} (C : hC Γ own cc ret nm fr lo) (d : decode cc pc = .ok (.ifCond .le off, 3)) (ht : (pc : Int) + off = (tgt : Int)) (kt : x ≤ 0 → hW Γ k n tgt lv st σ) (kf : ¬ x ≤ 0 → hW Γ k n (pc + 3) lv st σ) : hW Γ k n pc lv (.int x :: st) σ := by
  obtain ⟨p, l, e, R, s, m, args, below, meth, c, G, nL, mc, ms, Q⟩ := Γ
  intro H locs ls hr hs hl
  exact lv_if_le C.1 C.2.1 d ht (fun h => kt h H locs ls hr hs hl) (fun h => kf h H locs ls hr hs hl)
theorem g_icmp_eq {x y : Int32} {off : Int} {tgt : Nat} (C : hC Γ own cc ret nm fr lo) (d : decode cc pc = .ok (.if_icmp .eq off, 3)) (ht : (pc : Int) + off = (tgt : Int)) (kt : x = y → hW Γ k n tgt lv st σ) (kf : ¬ x = y → hW Γ k n (pc + 3) lv st σ) : hW Γ k n pc lv (.int y :: .int x :: st) σ := by
  obtain ⟨p, l, e, R, s, m, args, below, meth, c, G, nL, mc, ms, Q⟩ := Γ
  intro H locs ls hr hs hl
  exact lv_icmp_eq C.1 C.2.1 d ht (fun h => kt h H locs ls hr hs hl) (fun h => kf h H locs ls hr hs hl)
theorem g_icmp_ne {x y : Int32} {off : Int} {tgt : Nat} (C : hC Γ own cc ret nm fr lo) (d : decode cc pc = .ok (.if_icmp .ne off, 3)) (ht : (pc : Int) + off = (tgt : Int)) (kt : ¬ x = y → hW Γ k n tgt lv st σ) (kf : x = y → hW Γ k n (pc + 3) lv st σ) : hW Γ k n pc lv (.int y :: .int x :: st) σ := by
  obtain ⟨p, l, e, R, s, m, args, below, meth, c, G, nL, mc, ms, Q⟩ := Γ
  intro H locs ls hr hs hl
  exact lv_icmp_ne C.1 C.2.1 d ht (fun h => kt h H locs ls hr hs hl) (fun h => kf h H locs ls hr hs hl)
theorem g_icmp_lt {x y : Int32} {off : Int} {tgt : Nat} (C : hC Γ own cc ret nm fr lo) (d : decode cc pc = .ok (.if_icmp .lt off, 3)) (ht : (pc : Int) + off = (tgt : Int)) (kt : x < y → hW Γ k n tgt lv st σ) (kf : ¬ x < y → hW Γ k n (pc + 3) lv st σ) : hW Γ k n pc lv (.int y :: .int x :: st) σ := by
  obtain ⟨p, l, e, R, s, m, args, below, meth, c, G, nL, mc, ms, Q⟩ := Γ
  intro H locs ls hr hs hl
  exact lv_icmp_lt C.1 C.2.1 d ht (fun h => kt h H locs ls hr hs hl) (fun h => kf h H locs ls hr hs hl)
theorem g_icmp_ge {x y : Int32} {off : Int} {tgt : Nat} (C : hC Γ own cc ret nm fr lo) (d : decode cc pc = .ok (.if_icmp .ge off, 3)) (ht : (pc : Int) + off = (tgt : Int)) (kt : y ≤ x → hW Γ k n tgt lv st σ) (kf : ¬ y ≤ x → hW Γ k n (pc + 3) lv st σ) : hW Γ k n pc lv (.int y :: .int x :: st) σ := by
  obtain ⟨p, l, e, R, s, m, args, below, meth, c, G, nL, mc, ms, Q⟩ := Γ
  intro H locs ls hr hs hl
  exact lv_icmp_ge C.1 C.2.1 d ht (fun h => kt h H locs ls hr hs hl) (fun h => kf h H locs ls hr hs hl)
theorem g_icmp_gt {x y : Int32} {off : Int} {tgt : Nat} (C : hC Γ own cc ret nm fr lo) (d : decode cc pc = .ok (.if_icmp .gt off, 3)) (ht : (pc : Int) + off = (tgt : Int)) (kt : y < x → hW Γ k n tgt lv st σ) (kf : ¬ y < x → hW Γ k n (pc + 3) lv st σ) : hW Γ k n pc lv (.int y :: .int x :: st) σ := by
  obtain ⟨p, l, e, R, s, m, args, below, meth, c, G, nL, mc, ms, Q⟩ := Γ
  intro H locs ls hr hs hl
  exact lv_icmp_gt C.1 C.2.1 d ht (fun h => kt h H locs ls hr hs hl) (fun h => kf h H locs ls hr hs hl)
theorem g_icmp_le {x y : Int32} {off : Int} {tgt : Nat} (C : hC Γ own cc ret nm fr lo) (d : decode cc pc = .ok (.if_icmp .le off, 3)) (ht : (pc : Int) + off = (tgt : Int)) (kt : x ≤ y → hW Γ k n tgt lv st σ) (kf : ¬ x ≤ y → hW Γ k n (pc + 3) lv st σ) : hW Γ k n pc lv (.int y :: .int x :: st) σ := by
  obtain ⟨p, l, e, R, s, m, args, below, meth, c, G, nL, mc, ms, Q⟩ := Γ
  intro H locs ls hr hs hl
  exact lv_icmp_le C.1 C.2.1 d ht (fun h => kt h H locs ls hr hs hl) (fun h => kf h H locs ls hr hs hl)
theorem g_goto {off : Int} {tgt : Nat} (C : hC Γ own cc ret nm fr lo) (d : decode cc pc = .ok (.goto off, 3)) (ht : (pc : Int) + off = (tgt : Int)) (kk : hW Γ k n (tgt) lv st σ) : hW Γ k n pc lv st σ := by
  obtain ⟨p, l, e, R, s, m, args, below, meth, c, G, nL, mc, ms, Q⟩ := Γ
  intro H locs ls hr hs hl
  exact lv_goto C.1 C.2.1 d ht (kk H locs ls hr hs hl)
theorem g_ifnull (x : Option Nat) {off : Int} {tgt : Nat} (C : hC Γ own cc ret nm fr lo) (d : decode cc pc = .ok (.ifnull off, 3)) (ht : (pc : Int) + off = (tgt : Int)) (kt : x = none → hW Γ k n tgt lv st σ) (kf : ¬ x = none → hW Γ k n (pc + 3) lv st σ) : hW Γ k n pc lv (va_rf x :: st) σ := by
  obtain ⟨p, l, e, R, s, m, args, below, meth, c, G, nL, mc, ms, Q⟩ := Γ
  intro H locs ls hr hs hl
  cases x with
  | none => exact lv_ifnullN C.1 C.2.1 d ht (kt rfl H locs ls hr hs hl)
  | some x => exact lv_ifnull C.1 C.2.1 d (kf (by simp) H locs ls hr hs hl)
theorem g_ifnonnull (x : Option Nat) {off : Int} {tgt : Nat} (C : hC Γ own cc ret nm fr lo) (d : decode cc pc = .ok (.ifnonnull off, 3)) (ht : (pc : Int) + off = (tgt : Int)) (kt : ¬ x = none → hW Γ k n tgt lv st σ) (kf : x = none → hW Γ k n (pc + 3) lv st σ) : hW Γ k n pc lv (va_rf x :: st) σ := by
  obtain ⟨p, l, e, R, s, m, args, below, meth, c, G, nL, mc, ms, Q⟩ := Γ
  intro H locs ls hr hs hl
  cases x with
  | none => exact lv_ifnonnullN C.1 C.2.1 d (kf (by simp) H locs ls hr hs hl)
  | some x => exact lv_ifnonnull C.1 C.2.1 d ht (kt (by simp) H locs ls hr hs hl)
theorem g_tabIn {dflt l1 h1 : Int} {offs : Array Int} {len : Nat} {x : Int32} {off : Int} {tgt : Nat} (C : hC Γ own cc ret nm fr lo) (d : decode cc pc = .ok (.tableswitch dflt l1 h1 offs, len)) (q1 : ¬ x.toInt < l1) (q2 : ¬ h1 < x.toInt) (q3 : offs[(x.toInt - l1).toNat]? = some off) (ht : (pc : Int) + off = (tgt : Int)) (kk : hW Γ k n (tgt) lv st σ) : hW Γ k n pc lv (.int x :: st) σ := by
  obtain ⟨p, l, e, R, s, m, args, below, meth, c, G, nL, mc, ms, Q⟩ := Γ
  intro H locs ls hr hs hl
  exact lv_tableIn C.1 C.2.1 d q1 q2 q3 ht (kk H locs ls hr hs hl)
theorem g_tabOut {dflt l1 h1 : Int} {offs : Array Int} {len : Nat} {x : Int32} {tgt : Nat} (C : hC Γ own cc ret nm fr lo) (d : decode cc pc = .ok (.tableswitch dflt l1 h1 offs, len)) (q : x.toInt < l1 ∨ h1 < x.toInt) (ht : (pc : Int) + dflt = (tgt : Int)) (kk : hW Γ k n (tgt) lv st σ) : hW Γ k n pc lv (.int x :: st) σ := by
  obtain ⟨p, l, e, R, s, m, args, below, meth, c, G, nL, mc, ms, Q⟩ := Γ
  intro H locs ls hr hs hl
  exact lv_tableOut C.1 C.2.1 d q ht (kk H locs ls hr hs hl)
theorem g_sub (ks : List Nat) (h : lv_pick lv ks = lv') (kk : hW Γ k n pc lv' st σ) : hW Γ k n pc lv st σ := by
  obtain ⟨p, l, e, R, s, m, args, below, meth, c, G, nL, mc, ms, Q⟩ := Γ
  intro H locs ls hr hs hl
  exact kk H locs ls hr hs (lv_sub hl ks h)
theorem g_wid {k2 n2 : Nat} (h1 : k ≤ k2) (h2 : n ≤ n2) (kk : hW Γ k2 n2 pc lv st σ) : hW Γ k n pc lv st σ := by
  obtain ⟨p, l, e, R, s, m, args, below, meth, c, G, nL, mc, ms, Q⟩ := Γ
  intro H locs ls hr hs hl
  exact W.widen h1 h2 (kk H locs ls hr hs hl)
end R4
section R5
variable {Γ : hCT} {own : String} {cc : ByteArray} {nm : String} {fr lo k n pc : Nat} {lv : List (Nat × Value)} {σ : St}
theorem g_ireturn {v : Int32} {Q : Outcome → St → Prop} {mc ms nL : Nat} (C : hC Γ own cc (some .int) nm fr lo) (hΓ : Γ.2.2.2.2.2.2.2.2.2.2.2 = (nL, mc, ms, Q)) (hk : k ≤ mc) (hn : n ≤ ms) (d : decode cc pc = .ok (.ireturn, 1)) (q : Q (.returned (some (.int v))) σ) : hW Γ k n pc lv [.int v] σ := by
  obtain ⟨p, l, e, R, s, m, args, below, meth, c, G, nL', mc', ms', Q'⟩ := Γ
  cases hΓ
  intro H locs ls hr hs hl
  refine W.mono (mQX_of (Qc := hQc G Q) hk hn) ?_
  exact W.iret C.1 C.2.1 C.2.2.2.2.2.2.2.1 (fun t ht _ => ⟨⟨σ, q, by rw [ht]; exact hr⟩, hs.F ht⟩) (fun q hq => hs.2.2 q hq) d C.2.2.2.2.2.2.1
theorem g_zreturn {v : Int32} {Q : Outcome → St → Prop} {mc ms nL : Nat} (C : hC Γ own cc (some .boolean) nm fr lo) (hz : narrow .boolean (.int v) = .int v) (hΓ : Γ.2.2.2.2.2.2.2.2.2.2.2 = (nL, mc, ms, Q)) (hk : k ≤ mc) (hn : n ≤ ms) (d : decode cc pc = .ok (.ireturn, 1)) (q : Q (.returned (some (.int v))) σ) : hW Γ k n pc lv [.int v] σ := by
  obtain ⟨p, l, e, R, s, m, args, below, meth, c, G, nL', mc', ms', Q'⟩ := Γ
  cases hΓ
  intro H locs ls hr hs hl
  refine W.mono (mQX_of (Qc := hQc G Q) hk hn) ?_
  exact W.zret C.1 C.2.1 C.2.2.2.2.2.2.2.1 hz (fun t ht _ => ⟨⟨σ, q, by rw [ht]; exact hr⟩, hs.F ht⟩) (fun q hq => hs.2.2 q hq) d C.2.2.2.2.2.2.1
theorem g_lreturn {v : Int64} {Q : Outcome → St → Prop} {mc ms nL : Nat} (C : hC Γ own cc (some .long) nm fr lo) (hΓ : Γ.2.2.2.2.2.2.2.2.2.2.2 = (nL, mc, ms, Q)) (hk : k ≤ mc) (hn : n ≤ ms) (d : decode cc pc = .ok (.lreturn, 1)) (q : Q (.returned (some (.long v))) σ) : hW Γ k n pc lv [.long v] σ := by
  obtain ⟨p, l, e, R, s, m, args, below, meth, c, G, nL', mc', ms', Q'⟩ := Γ
  cases hΓ
  intro H locs ls hr hs hl
  refine W.mono (mQX_of (Qc := hQc G Q) hk hn) ?_
  exact W.lret C.1 C.2.1 C.2.2.2.2.2.2.2.1 (fun t ht _ => ⟨⟨σ, q, by rw [ht]; exact hr⟩, hs.F ht⟩) (fun q hq => hs.2.2 q hq) d C.2.2.2.2.2.2.1
theorem g_dreturn {v : UInt64} {Q : Outcome → St → Prop} {mc ms nL : Nat} (C : hC Γ own cc (some .double) nm fr lo) (hΓ : Γ.2.2.2.2.2.2.2.2.2.2.2 = (nL, mc, ms, Q)) (hk : k ≤ mc) (hn : n ≤ ms) (d : decode cc pc = .ok (.dreturn, 1)) (q : Q (.returned (some (.double v))) σ) : hW Γ k n pc lv [.double v] σ := by
  obtain ⟨p, l, e, R, s, m, args, below, meth, c, G, nL', mc', ms', Q'⟩ := Γ
  cases hΓ
  intro H locs ls hr hs hl
  refine W.mono (mQX_of (Qc := hQc G Q) hk hn) ?_
  exact W.dret C.1 C.2.1 C.2.2.2.2.2.2.2.1 (fun t ht _ => ⟨⟨σ, q, by rw [ht]; exact hr⟩, hs.F ht⟩) (fun q hq => hs.2.2 q hq) d C.2.2.2.2.2.2.1
theorem g_vreturn  {Q : Outcome → St → Prop} {mc ms nL : Nat} (C : hC Γ own cc none nm fr lo) (hΓ : Γ.2.2.2.2.2.2.2.2.2.2.2 = (nL, mc, ms, Q)) (hk : k ≤ mc) (hn : n ≤ ms) (d : decode cc pc = .ok (.return_, 1)) (q : Q (.returned none) σ) : hW Γ k n pc lv [] σ := by
  obtain ⟨p, l, e, R, s, m, args, below, meth, c, G, nL', mc', ms', Q'⟩ := Γ
  cases hΓ
  intro H locs ls hr hs hl
  refine W.mono (mQX_of (Qc := hQc G Q) hk hn) ?_
  exact W.vret C.1 C.2.1 C.2.2.2.2.2.2.2.1 (fun t ht _ => ⟨⟨σ, q, by rw [ht]; exact hr⟩, hs.F ht⟩) (fun q hq => hs.2.2 q hq) d C.2.2.2.2.2.2.1
theorem g_areturn (x : Option Nat) {Q : Outcome → St → Prop} {mc ms nL : Nat} {rt : FieldType} (hrt : (∃ n, rt = .object n) ∨ ∃ t, rt = .array t) (C : hC Γ own cc (some rt) nm fr lo) (hΓ : Γ.2.2.2.2.2.2.2.2.2.2.2 = (nL, mc, ms, Q)) (hk : k ≤ mc) (hn : n ≤ ms) (d : decode cc pc = .ok (.areturn, 1)) (q : Q (.returned (some (va_rf x))) σ) : hW Γ k n pc lv [va_rf x] σ := by
  obtain ⟨p, l, e, R, s, m, args, below, meth, c, G, nL', mc', ms', Q'⟩ := Γ
  cases hΓ
  intro H locs ls hr hs hl
  refine W.mono (mQX_of (Qc := hQc G Q) hk hn) ?_
  exact W.aret C.1 C.2.1 C.2.2.2.2.2.2.2.1 hrt (by cases x with | none => exact Or.inl rfl | some x => exact Or.inr ⟨x, rfl⟩) (fun t ht _ => ⟨⟨σ, q, by rw [ht]; exact hr⟩, hs.F ht⟩) (fun q hq => hs.2.2 q hq) d C.2.2.2.2.2.2.1
end R5
