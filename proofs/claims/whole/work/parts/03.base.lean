/-! THE STATE AS FUNCTIONS: what each cell of the class's and the reference's world holds, by its address -/
abbrev St : Type := (Nat → Nat) × (Nat → Nat) × (Nat → Nat → Int32) × (Nat → Nat → Int64) × (Nat → Nat → Option Nat) × (Nat → Nat → Int32) × (Nat → Nat → Int64) × (Nat → Nat → UInt64) × (Nat → Nat → Option Nat)
def up2 {α : Type} (f : Nat → Nat → α) (g a : Nat) (v : α) : Nat → Nat → α := fun x y => if x = g ∧ y = a then v else f x y
/-- kind, length, fields (field's number, object), elements (array, place) -/
def zK (σ : St) : Nat → Nat := σ.1
def zL (σ : St) : Nat → Nat := σ.2.1
def zFi (σ : St) : Nat → Nat → Int32 := σ.2.2.1
def zFj (σ : St) : Nat → Nat → Int64 := σ.2.2.2.1
def zFr (σ : St) : Nat → Nat → Option Nat := σ.2.2.2.2.1
def zAi (σ : St) : Nat → Nat → Int32 := σ.2.2.2.2.2.1
def zAj (σ : St) : Nat → Nat → Int64 := σ.2.2.2.2.2.2.1
def zAd (σ : St) : Nat → Nat → UInt64 := σ.2.2.2.2.2.2.2.1
def zAr (σ : St) : Nat → Nat → Option Nat := σ.2.2.2.2.2.2.2.2
def uFi (σ : St) (g a : Nat) (v : Int32) : St := (zK σ, zL σ, up2 (zFi σ) g a v, zFj σ, zFr σ, zAi σ, zAj σ, zAd σ, zAr σ)
def uFj (σ : St) (g a : Nat) (v : Int64) : St := (zK σ, zL σ, zFi σ, up2 (zFj σ) g a v, zFr σ, zAi σ, zAj σ, zAd σ, zAr σ)
def uFr (σ : St) (g a : Nat) (v : Option Nat) : St := (zK σ, zL σ, zFi σ, zFj σ, up2 (zFr σ) g a v, zAi σ, zAj σ, zAd σ, zAr σ)
def uAi (σ : St) (a i : Nat) (v : Int32) : St := (zK σ, zL σ, zFi σ, zFj σ, zFr σ, up2 (zAi σ) a i v, zAj σ, zAd σ, zAr σ)
def uAj (σ : St) (a i : Nat) (v : Int64) : St := (zK σ, zL σ, zFi σ, zFj σ, zFr σ, zAi σ, up2 (zAj σ) a i v, zAd σ, zAr σ)
def uAd (σ : St) (a i : Nat) (v : UInt64) : St := (zK σ, zL σ, zFi σ, zFj σ, zFr σ, zAi σ, zAj σ, up2 (zAd σ) a i v, zAr σ)
def uAr (σ : St) (a i : Nat) (v : Option Nat) : St := (zK σ, zL σ, zFi σ, zFj σ, zFr σ, zAi σ, zAj σ, zAd σ, up2 (zAr σ) a i v)
/-- a stretch of an array copied (arraycopy, ints and longs) -/
def uCi (σ : St) (a sp b dp n : Nat) : St := (zK σ, zL σ, zFi σ, zFj σ, zFr σ, (fun x => if x = b then va_cpy (zAi σ a) (zAi σ b) sp dp n else zAi σ x), zAj σ, zAd σ, zAr σ)
def uCj (σ : St) (a sp b dp n : Nat) : St := (zK σ, zL σ, zFi σ, zFj σ, zFr σ, zAi σ, (fun x => if x = b then va_cpy (zAj σ a) (zAj σ b) sp dp n else zAj σ x), zAd σ, zAr σ)
/-- the same out of a row of longs that lies outside -/
def uCx (σ : St) (f : Nat → Int64) (sp b dp n : Nat) : St := (zK σ, zL σ, zFi σ, zFj σ, zFr σ, zAi σ, (fun x => if x = b then va_cpy f (zAj σ b) sp dp n else zAj σ x), zAd σ, zAr σ)
/-- a new object of the kind κ at q; a new array of n elements -/
def nO (σ : St) (q κ : Nat) : St := (va_up (zK σ) q κ, zL σ, (fun g a => if a = q then 0 else zFi σ g a), (fun g a => if a = q then 0 else zFj σ g a), (fun g a => if a = q then none else zFr σ g a), zAi σ, zAj σ, zAd σ, zAr σ)
def nA (σ : St) (q κ n : Nat) : St := (va_up (zK σ) q κ, va_up (zL σ) q n, zFi σ, zFj σ, zFr σ, (fun a i => if a = q then 0 else zAi σ a i), (fun a i => if a = q then 0 else zAj σ a i), (fun a i => if a = q then 0 else zAd σ a i), (fun a i => if a = q then none else zAr σ a i))
/-- the type of field j of class number c: 0 an int or a boolean, 1 a long, 2 a reference; how many fields -/
def zTc (t : FieldType) : Nat := match t with
  | .int => 0
  | .boolean => 0
  | .long => 1
  | _ => 2
def zTy : List (Nat → FieldType) := [tyX0, tyX1, tyX2, tyX3, tyX4, tyX5, tyX6, tyX7, tyX8, tyX9, tyX10, tyX11, tyX12, tyX13, tyX14, tyX15, tyX16]
def zFt (c j : Nat) : Nat := match zTy[c]? with
  | some t => zTc (t j)
  | none => 3
def zNf (c : Nat) : Nat := match vwCl[c]? with
  | some q => q.2.2
  | none => 0
def zFv (σ : St) (c j a : Nat) : Value := if zFt c j = 0 then .int (zFi σ (64 * c + j) a) else if zFt c j = 1 then .long (zFj σ (64 * c + j) a) else va_rf (zFr σ (64 * c + j) a)
def zFs (σ : St) (c a : Nat) : List Value := (List.range (zNf c)).map (fun j => zFv σ c j a)
/-- the cell at a; cy: the classes of the arrays, by their kinds -/
def zCe (cy : Nat → ClassId) (σ : St) (a : Nat) : va_E :=
  if zK σ a < 20 then .inr (zK σ a - 1, zFs σ (zK σ a - 1) a)
  else if zK σ a = 20 ∨ zK σ a = 23 then .inl (cy (zK σ a), zL σ a, .inl (zAi σ a))
  else if zK σ a = 21 then .inl (cy (zK σ a), zL σ a, .inr (.inl (zAj σ a)))
  else if zK σ a = 22 then .inl (cy (zK σ a), zL σ a, .inr (.inr (.inr (.inl (zAd σ a)))))
  else .inl (cy (zK σ a), zL σ a, .inr (.inr (.inr (.inr (zAr σ a)))))
def zTys (cy : Nat → ClassId) : List (ClassId × FieldType) := [(cy 20, .int), (cy 21, .long), (cy 22, .double), (cy 23, .boolean), (cy 24, .object RX0), (cy 25, .object RX2), (cy 26, .object RX3), (cy 27, .object RX9), (cy 28, .object RX10), (cy 29, .object RX12), (cy 30, .object RX14), (cy 31, .object RX15)]
/-- what stays as it is through the whole run: the classes' numbers, their slots, the arrays' classes, the first address of the world, the two rows of weights -/
abbrev GB : Type := va_G × (Nat → ClassId) × Nat × Nat × Nat
abbrev GB.D (G : GB) : va_G := G.1
abbrev GB.cy (G : GB) : Nat → ClassId := G.2.1
abbrev GB.A (G : GB) : Nat → Prop := fun q => G.2.2.1 ≤ q
abbrev GB.tF (G : GB) : Nat := G.2.2.2.1
abbrev GB.tM (G : GB) : Nat := G.2.2.2.2
/-- the heap holds the state -/
def hR (G : GB) (H : Heap) (σ : St) : Prop := ∃ L : List Nat, (∀ a, a ∈ L ↔ zK σ a ≠ 0) ∧ va_P G.D vwCl (va_pl L (zCe G.cy σ)) H ∧ va_D G.A (va_pl L (zCe G.cy σ))
/-- the tables' words: those that every warming keeps, and the nest mates' links -/
def tbG : List Cond := lw_tbl.filter goodWord
def zNest (w : Cond) : Bool := match w with
  | .fieldLinkNest .. => true
  | .methodLinkNest .. => true
  | .castable .. => true
  | _ => false
def tbN : List Cond := lw_tbl.filter zNest
def zAO : List String := [RX0, RX2, RX3, RX9, RX10, RX12, RX14, RX15]
def fwV : Nat → Value := fun k => match k with
  | 0 => .long 1
  | 1 => .long 1
  | 2 => .long 4607182418800017408
  | _ => .long 4
def mwV : Nat → Value := fun k => match k with
  | 0 => .long 9
  | 1 => .long 1000
  | 2 => .long 4607182418800017408
  | _ => .long 8
def hX (G : GB) (U : State) : Prop :=
  (∀ w ∈ tbG, w.before #[] U = true) ∧ (∀ w ∈ tbN, va_Nw w U) ∧ (∀ C ∈ zAO, va_AO C U) ∧ va_K G.D vwCl (zTys G.cy) U ∧
  (va_Z "WhereFrom" "FIRST_WEIGHT" "[J" (.ref G.tF) G.A U U.heap ∧ va_T .long G.tF 4 fwV G.A U U.heap) ∧ (va_Z "WhereFrom" "MOST_WEIGHT" "[J" (.ref G.tM) G.A U U.heap ∧ va_T .long G.tM 4 mwV G.A U U.heap) ∧
  va_Z "java/lang/Math" "negativeZeroDoubleBits" "J" (.long (-9223372036854775808)) G.A U U.heap ∧ va_Zq "java/lang/Throwable" "UNASSIGNED_STACK" "[Ljava/lang/StackTraceElement;" G.A U U.heap ∧ va_Zq "java/lang/Throwable" "SUPPRESSED_SENTINEL" "Ljava/util/List;" G.A U U.heap
theorem tb_word {G : GB} {U : State} (h : hX G U) {w : Cond} (hw : w ∈ tbG) (args : Array Value) : w.before args U = true := by
  have h1 := h.1 w hw
  unfold tbG at hw
  exact word_at (State.WarmedH.refl U) (good_of_word (List.mem_filter.mp hw).2) h1
theorem tb_warm {s U : State} (hW : s.WarmedH U.vm) {w : Cond} (hw : w ∈ tbG) (h : w.before #[] s = true) (args : Array Value) : w.before args U = true := by
  unfold tbG at hw
  exact word_at hW (good_of_word (List.mem_filter.mp hw).2) h
theorem tb_nest {s U : State} (hW : s.WarmedH U.vm) {w : Cond} (hw : w ∈ tbN) (h : va_Nw w s) : va_Nw w U := by
  unfold tbN at hw
  have h2 := (List.mem_filter.mp hw).2
  cases w <;> simp [zNest] at h2
  · exact va_Nw.warmM hW h
  · exact va_Nw.warmF hW h
  · exact va_Nw.warmC hW h
theorem zq_keep {C n d : String} {A : Nat → Prop} {s U : State} (hvm : s.vm.Alike U.vm) (hk : ∀ a : Nat, a < s.heap.size → ¬ A a → U.heap[a]? = s.heap[a]?) (h : va_Zq C n d A s s.heap) : va_Zq C n d A U U.heap := by
  have key : ∀ v, va_Z C n d v A s s.heap → va_Z C n d v A U U.heap := by
    intro v h
    have h2 := h.moved hvm
    obtain ⟨cf, kf, fi, f, a, cell, q1, q2, q3, q4, q5, q6, q7, q8⟩ := h2
    exact ⟨cf, kf, fi, f, a, cell, q1, q2, q3, q4, by rw [hk a (Array.getElem?_eq_some_iff.mp q5).1 q8]; exact q5, q6, q7, q8⟩
  rcases h with h | ⟨t, h⟩
  · exact Or.inl (key _ h)
  · exact Or.inr ⟨t, key _ h⟩
theorem zz_keep {C n d : String} {v : Value} {A : Nat → Prop} {s U : State} (hvm : s.vm.Alike U.vm) (hk : ∀ a : Nat, a < s.heap.size → ¬ A a → U.heap[a]? = s.heap[a]?) (h : va_Z C n d v A s s.heap) : va_Z C n d v A U U.heap := by
  have h2 := h.moved hvm
  obtain ⟨cf, kf, fi, f, a, cell, q1, q2, q3, q4, q5, q6, q7, q8⟩ := h2
  exact ⟨cf, kf, fi, f, a, cell, q1, q2, q3, q4, by rw [hk a (Array.getElem?_eq_some_iff.mp q5).1 q8]; exact q5, q6, q7, q8⟩
theorem zt_keep {ty : FieldType} {t N : Nat} {f : Nat → Value} {A : Nat → Prop} {s U : State} (hvm : s.vm.Alike U.vm) (hk : ∀ a : Nat, a < s.heap.size → ¬ A a → U.heap[a]? = s.heap[a]?) (h : va_T ty t N f A s s.heap) : va_T ty t N f A U U.heap := by
  obtain ⟨cell, q1, q2, q3, q4, q5, q6, q7⟩ := h.moved hvm
  exact ⟨cell, by rw [hk t (Array.getElem?_eq_some_iff.mp q1).1 q7]; exact q1, q2, q3, q4, q5, q6, q7⟩
theorem hX_warm {G : GB} {s U : State} (h : hX G s) (hW : s.WarmedH U.vm) (hk : ∀ a : Nat, a < s.heap.size → ¬ G.A a → U.heap[a]? = s.heap[a]?) : hX G U := by
  obtain ⟨h1, h2, h3, h4, ⟨h5, h6⟩, ⟨h7, h8⟩, h9, h10, h11⟩ := h
  exact ⟨fun w hw => tb_warm hW hw (h1 w hw) #[], fun w hw => tb_nest hW hw (h2 w hw), fun C hC => va_AO.moved hW.alike (h3 C hC), va_K.moved hW.alike h4, ⟨zz_keep hW.alike hk h5, zt_keep hW.alike hk h6⟩, ⟨zz_keep hW.alike hk h7, zt_keep hW.alike hk h8⟩, zz_keep hW.alike hk h9, zq_keep hW.alike hk h10, zq_keep hW.alike hk h11⟩
/-- the end of a method, returned or thrown -/
def fEX (s t : State) (L : List Loc) (k n : Nat) : Prop := s.WarmedH t.vm ∧ s.sameButNew ({ t with vm := s.vm } : State) L k n
def hQc (G : GB) (Q : Outcome → St → Prop) : Array Value → State → Outcome → State → Prop := fun _ st o t => (∃ σ, Q o σ ∧ hR G t.heap σ) ∧ va_F G.A st t
def hPc (G : GB) (av : List Value) (σ : St) : Array Value → State → Prop := fun a U => a = av.toArray ∧ hX G U ∧ hR G U.heap σ ∧ G.2.2.1 ≤ U.heap.size
def mQX (below : List Frame) (Qc : Array Value → State → Outcome → State → Prop) (a : Array Value) (s : State) (mc ms : Nat) (free : Addr → Prop) : State → Prop := fun t =>
  ∃ o, t.status = .running ∧ Ended t below o ∧ Qc a s o t ∧ ∃ L, fEX s t L mc ms ∧ ∀ q ∈ L, free q.base
abbrev hCT : Type := Program × Launch × Env × Room × State × MethodId × Array Value × List Frame × Method × Code × GB × Nat × Nat × Nat × (Outcome → St → Prop)
def hW (Γ : hCT) (k n pc : Nat) (lv : List (Nat × Value)) (st : List Value) (σ : St) : Prop := match Γ with
  | (p, l, e, R, s, m, args, below, meth, c, G, nL, mc, ms, Q) => ∀ (H : Heap) (locs : List Loc) (ls : Array Slot), hR G H σ → va_S G.A s.heap H locs → lv_has ls nL lv → W p l e R s m args below meth c H locs k n (mQX below (hQc G Q) args s mc ms G.A) (F0 m pc ls st)
def hC (Γ : hCT) (own : String) (cc : ByteArray) (ret : Option FieldType) (nm : String) (fr lo : Nat) : Prop := match Γ with
  | (p, _l, _e, R, s, m, _args, _below, meth, c, G, nL, mc, ms, _Q) => p.tables.exec = Jvm.exec ∧ c.code = cc ∧ c.maxLocals = nL ∧ s.vm.findClass own = some m.cls ∧ hX G s ∧ (∀ q : Nat, s.heap.size ≤ q → G.A q) ∧ meth.locks = false ∧ meth.sig.returnType = ret ∧ meth.name = nm ∧ R = { frames := fr, cells := mc, slots := ms, locals := lo }
/-- what a method does, from the state σ with these arguments -/
def hM (y : MethodName) (cc : ByteArray) (maxL : Nat) (ret : Option FieldType) (fr lo mc ms : Nat) (av : List Value) (σ : St) (Q : Outcome → St → Prop) : Prop := ∀ (l : Launch) (G : GB),
  MetFree l y (headSpec [Cond.code y cc maxL ret] { frames := fr, cells := mc, slots := ms, locals := lo }) (hPc G av σ) (fun _ _ _ _ _ => True) (fun a st o t => hQc G Q a st o t ∧ ∃ L, fEX st t L mc ms ∧ ∀ q ∈ L, G.A q.base)
theorem W.mono {p : Program} {l : Launch} {e : Env} {R : Room} {s : State} {m : MethodId} {args : Array Value} {below : List Frame} {meth : Method} {c : Code} {H : Heap} {locs : List Loc} {cells slots : Nat} {Q Q' : State → Prop} {g : JFrame} (h : ∀ t, Q t → Q' t) (w : W p l e R s m args below meth c H locs cells slots Q g) : W p l e R s m args below meth c H locs cells slots Q' g := by
  intro T hT X
  obtain ⟨t, h1, h2⟩ := w T hT X
  exact ⟨t, h1, h t h2⟩
theorem mQX_of {below : List Frame} {Qc : Array Value → State → Outcome → State → Prop} {a : Array Value} {s : State} {mc ms k n : Nat} {free : Addr → Prop} (hk : k ≤ mc) (hn : n ≤ ms) (t : State) (h : MQ below Qc a s k n free t) : mQX below Qc a s mc ms free t := by
  obtain ⟨o, h1, h2, h3, L, ⟨-, h4, h5⟩, h6⟩ := h
  exact ⟨o, h1, h2, h3, L, ⟨h4, h5.mono hk hn⟩, h6⟩
set_option maxHeartbeats 1000000 in
theorem hM_of {y : MethodName} {cc : ByteArray} {maxL : Nat} {ret : Option FieldType} {fr lo mc ms : Nat} {av : List Value} {σ : St} {Q : Outcome → St → Prop} (hy : plainName y.cls = true) (hl : (lg_sl av).length ≤ maxL)
    (body : ∀ Γ : hCT, Γ.2.2.2.2.2.2.2.2.2.2.2 = (maxL, mc, ms, Q) → hC Γ y.cls cc ret y.name fr lo → hW Γ 0 0 0 (lv_args 0 av) [] σ) : hM y cc maxL ret fr lo mc ms av σ Q := by
  intro l G
  refine MetFree.of_bodyS (code := cc) (maxLocals := maxL) (ret := ret) hy ?_ ?_
  · intro args s m h hn
    obtain ⟨meth, c, h1, h2, h3, h4, h5, h6, -, -⟩ := Cond.code_spec hn (atoms_spec (ws := [Cond.code y cc maxL ret]) h _ (List.mem_cons_self))
    exact ⟨meth, c, h1, h2, h3, h4, h5, h6⟩
  · intro p e s m args below meth c s₁ B hml hP _
    have hh0 : s₁.heap = s.heap := by rw [B.state]; rfl
    obtain ⟨rfl, hX0, hR0, hb0⟩ := hP
    have hml2 : c.maxLocals = maxL := B.maxLocals_eq (atoms_spec (ws := [Cond.code y cc maxL ret]) B.pre _ List.mem_cons_self)
    have hw := body (p, l, e, { frames := fr, cells := mc, slots := ms, locals := lo }, s, m, av.toArray, below, meth, c, G, maxL, mc, ms, Q) rfl ⟨B.exec, B.bytes, hml2, findClass_of_methodNamed B.named, hX0, fun q h => Nat.le_trans hb0 h, B.notSynchronized, B.returns, (name_of_methodNamed B.named B.method).1, rfl⟩
    have hl2 := lv_entry av (n := maxL) hl
    have hw2 := hw s.heap [] _ hR0 va_S.rf hl2
    rw [← lg_entry_eq] at hw2
    obtain ⟨t, a1, o, b1, b2, b3⟩ := hw2 s₁ hh0 (Stand.of_body B)
    exact ⟨t, o, a1, b1, b2, ⟨b3.1, b3.2⟩⟩
