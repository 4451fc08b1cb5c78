/-! THE VALUE that the class and the reference both hold. A fact: table, cells, weights, dropped. A question: kind, width, of, second, closed, told. An answer: row, ways, count, cost, trust. A thing: sort, what it holds. An act: sort, at, what, before, thing. -/
abbrev Fct : Type := Int32 × (Nat → Int32) × (Nat → Int64) × Bool
abbrev Qst : Type := Nat × Nat × Int32 × Int32 × Bool × (Nat → Int32)
abbrev Ans : Type := List Int32 × List Int64 × Int64 × Int32 × Int64
abbrev Thg : Type := Nat × List Int64
abbrev Av : Type := Nat × Nat × Nat × Int64 × Thg
def bt (x : Int64) (i : Nat) : Bool := x.toBitVec.getLsbD i
def zB (b : Bool) : Int32 := if b then 1 else 0
/-- what the class holds -/
def isThg (ct : Ct) (σ : St) (o : Option Nat) (t : Thg) : Prop := (o = none ∧ t = (0, [])) ∨ ∃ x y, o = some x ∧ zK σ x = 11 ∧ ct x = (0, 0) ∧ zFi σ 640 x = nI t.1 ∧ 1 ≤ t.1 ∧ t.1 < 5 ∧ zFr σ 641 x = some y ∧ zK σ y = 21 ∧ ct y = (0, 0) ∧ zL σ y = t.2.length ∧ t.2.length ≤ 16 ∧ ∀ i v, t.2[i]? = some v → zAj σ y i = v
def isAct (ct : Ct) (σ : St) (x : Nat) (A : Av) : Prop := zK σ x = 1 ∧ ct x = (0, 0) ∧ zFi σ 0 x = nI A.1 ∧ zFi σ 1 x = nI A.2.1 ∧ zFi σ 2 x = nI A.2.2.1 ∧ zFj σ 3 x = A.2.2.2.1 ∧ isThg ct σ (zFr σ 4 x) A.2.2.2.2
def isQ (ct : Ct) (σ : St) (x : Nat) (q : Qst) : Prop := zK σ x = 10 ∧ ct x = (0, 0) ∧ zFi σ 576 x = nI q.1 ∧ zFi σ 577 x = nI q.2.1 ∧ zFi σ 578 x = q.2.2.1 ∧ zFi σ 579 x = q.2.2.2.1 ∧ zFi σ 580 x = zB q.2.2.2.2.1 ∧ ∃ y, zFr σ 581 x = some y ∧ zK σ y = 20 ∧ ct y = (0, 0) ∧ zL σ y = 4 ∧ ∀ k, k < 4 → zAi σ y k = q.2.2.2.2.2 k
def Ctb (ad : Ad) (σ : St) (tb : List Int32) : Prop := zFi σ 385 (ad 7 0 0) = nI tb.length ∧ ∀ i p, tb[i]? = some p → zAi σ (ad 384 0 0) i = p
def Cfs (ad : Ad) (σ : St) (fs : List Fct) : Prop := zFi σ 390 (ad 7 0 0) = nI fs.length ∧ ∀ i f, fs[i]? = some f → zAi σ (ad 386 0 0) i = f.1 ∧ (∀ k, k < 4 → zAi σ (ad 387 0 0) (4 * i + k) = f.2.1 k) ∧ (∀ k, k < 4 → zAj σ (ad 388 0 0) (4 * i + k) = f.2.2.1 k) ∧ bt (zFj σ 389 (ad 7 0 0)) i = f.2.2.2
def Cqs (ad : Ad) (ct : Ct) (σ : St) (qs : List Qst) : Prop := zFi σ 706 (ad 12 0 0) = nI qs.length ∧ ∀ i q, qs[i]? = some q → ∃ x, zAr σ (ad 705 0 0) i = some x ∧ isQ ct σ x q
def Csh (ad : Ad) (ct : Ct) (σ : St) (sh : Nat → Thg) : Prop := ∀ k, k < 20 → isThg ct σ (zAr σ (ad 712 0 0) k) (sh k)
def Cac (ad : Ad) (ct : Ct) (σ : St) (ac : List Av) : Prop := zFi σ 66 (ad 2 0 0) = nI ac.length ∧ ∃ nx, nx < 100 ∧ zFi σ 65 (ad 2 0 0) = nI nx ∧ ∀ i A, ac[i]? = some A → ∃ x, zAr σ (ad 64 0 0) ((nx + 99 - i) % 100) = some x ∧ isAct ct σ x A
def Crw (ad : Ad) (σ : St) : Prop := ∀ s, s < 43 → ∃ π : Nat → Nat, (∀ j, j < room s → π j < room s ∧ zAr σ (ad 192 s 0) j = some (ad 3 s (π j))) ∧ ∀ i j, i < j → j < room s → π i ≠ π j
/-- the answer in the slot j of the answers s; the count counts only where cl is not set -/
def AnsAt (ad : Ad) (σ : St) (s j w : Nat) (cl : Bool) (e : Ans) : Prop := e.1.length = w ∧ (∀ k v, e.1[k]? = some v → zAi σ (ad 128 s j) k = v) ∧ e.2.1.length ≤ 16 ∧ zFi σ 130 (ad 3 s j) = nI e.2.1.length ∧ (∀ k v, e.2.1[k]? = some v → zAj σ (ad 129 s j) k = v) ∧ (cl = false → zFj σ 131 (ad 3 s j) = e.2.2.1) ∧ zFi σ 132 (ad 3 s j) = e.2.2.2.1 ∧ zFj σ 133 (ad 3 s j) = e.2.2.2.2
def AR (ad : Ad) (σ : St) (s : Nat) (L : List Ans) (w : Nat) (cl : Bool) : Prop := zFi σ 193 (ad 4 s 0) = nI L.length ∧ zFi σ 194 (ad 4 s 0) = nI w ∧ w ≤ 6 ∧ L.length ≤ room s ∧ ∀ i e, L[i]? = some e → ∃ j, j < room s ∧ zAr σ (ad 192 s 0) i = some (ad 3 s j) ∧ AnsAt ad σ s j w cl e
def Cla (ad : Ad) (σ : St) (la : List Ans) (lw : Nat) (lc : Bool) : Prop := ∃ w, AR ad σ 42 la w lc ∧ (la ≠ [] → w = lw ∧ zFi σ 709 (ad 12 0 0) = zB lc)
abbrev Co : Type := List Int32 × List Fct × List Qst × (Nat → Thg)
abbrev Vt : Type := Co × List Av × (List Ans × Nat × Bool) × Int32
def RC (ad : Ad) (ct : Ct) (σ : St) (V : Vt) : Prop := Ctb ad σ V.1.1 ∧ Cfs ad σ V.1.2.1 ∧ Cqs ad ct σ V.1.2.2.1 ∧ Csh ad ct σ V.1.2.2.2 ∧ Cac ad ct σ V.2.1 ∧ Cla ad σ V.2.2.1.1 V.2.2.1.2.1 V.2.2.1.2.2 ∧ zFi σ 714 (ad 12 0 0) = V.2.2.2 ∧ Crw ad σ
/-- what the reference holds -/
def MThg (ad : Ad) (σ : St) (t : Nat) (th : Thg) : Prop := zFi σ 960 (ad 16 t 0) = nI th.1 ∧ th.1 < 5 ∧ (th.1 = 0 → th.2 = []) ∧ (th.1 = 1 ∨ th.1 = 2 → th.2 = [(zFi σ 961 (ad 16 t 0)).toInt64]) ∧ (th.1 = 3 → zFi σ 962 (ad 16 t 0) = nI th.2.length ∧ th.2.length ≤ 6 ∧ ∀ i v, th.2[i]? = some v → (zAi σ (ad 963 t 0) i).toInt64 = v) ∧ (th.1 = 4 → zFi σ 962 (ad 16 t 0) = nI th.2.length ∧ th.2.length ≤ 16 ∧ ∀ i v, th.2[i]? = some v → zAj σ (ad 964 t 0) i = v)
def MAct (ad : Ad) (σ : St) (a : Nat) (A : Av) : Prop := zFi σ 768 (ad 13 a 0) = nI A.1 ∧ A.1 < 6 ∧ (A.1 = 2 ∨ A.1 = 3 ∨ A.1 = 5 → zFi σ 769 (ad 13 a 0) = nI A.2.1) ∧ (A.1 = 2 → zFi σ 770 (ad 13 a 0) = A.2.2.2.1.toInt32) ∧ (A.1 = 3 → zFi σ 770 (ad 13 a 0) = nI A.2.2.1 ∧ zFj σ 771 (ad 13 a 0) = A.2.2.2.1) ∧ (A.1 = 5 → MThg ad σ a A.2.2.2.2)
def Mtb (ad : Ad) (σ : St) (tb : List Int32) : Prop := zFi σ 1028 (ad 17 0 0) = nI tb.length ∧ ∀ i p, tb[i]? = some p → zAi σ (ad 1031 0 0) i = p
def Mfs (ad : Ad) (σ : St) (fs : List Fct) : Prop := zFi σ 1029 (ad 17 0 0) = nI fs.length ∧ ∀ i f, fs[i]? = some f → zAi σ (ad 1032 0 0) i = f.1 ∧ (∀ k, k < 4 → zAi σ (ad 1033 0 0) (4 * i + k) = f.2.1 k) ∧ zAi σ (ad 1034 0 0) i = (f.2.2.1 0).toInt32 ∧ zAi σ (ad 1035 0 0) i = (f.2.2.1 1).toInt32 ∧ zAd σ (ad 1037 0 0) i = (f.2.2.1 2).toUInt64 ∧ zAi σ (ad 1036 0 0) i = (f.2.2.1 3).toInt32 ∧ zAi σ (ad 1038 0 0) i = zB f.2.2.2
def Mqs (ad : Ad) (σ : St) (qs : List Qst) : Prop := zFi σ 1030 (ad 17 0 0) = nI qs.length ∧ ∀ i q, qs[i]? = some q → zAi σ (ad 1039 0 0) i = nI q.1 ∧ zAi σ (ad 1042 0 0) i = nI q.2.1 ∧ zAi σ (ad 1040 0 0) i = q.2.2.1 ∧ zAi σ (ad 1041 0 0) i = q.2.2.2.1 ∧ zAi σ (ad 1047 0 0) i = zB q.2.2.2.2.1 ∧ zAi σ (ad 1043 0 0) i = q.2.2.2.2.2 0 ∧ zAi σ (ad 1044 0 0) i = q.2.2.2.2.2 1 ∧ zAi σ (ad 1045 0 0) i = q.2.2.2.2.2 2 ∧ zAi σ (ad 1046 0 0) i = q.2.2.2.2.2 3
def Msh (ad : Ad) (σ : St) (sh : Nat → Thg) : Prop := ∀ k, k < 20 → MThg ad σ (100 + k) (sh k)
def Mac (ad : Ad) (σ : St) (ac : List Av) : Prop := zFi σ 1027 (ad 17 0 0) = nI ac.length ∧ ∃ π : Nat → Nat, (∀ i, i < 100 → π i < 100 ∧ zAr σ (ad 1026 0 0) i = some (ad 13 (π i) 0)) ∧ (∀ i j, i < j → j < 100 → π i ≠ π j) ∧ ∀ i A, ac[i]? = some A → MAct ad σ (π (ac.length - 1 - i)) A
/-- the row r of the sheet s -/
def RowAt (ad : Ad) (σ : St) (s r w : Nat) (cl : Bool) (e : Ans) : Prop := e.1.length = w ∧ (∀ k v, e.1[k]? = some v → zAi σ (ad 898 s 0) (6 * r + k) = v) ∧ e.2.1.length ≤ 16 ∧ zAi σ (ad 899 s 0) r = nI e.2.1.length ∧ (∀ k v, e.2.1[k]? = some v → zAj σ (ad 901 s 0) (16 * r + k) = v) ∧ (cl = false → zAj σ (ad 902 s 0) r = e.2.2.1) ∧ zAi σ (ad 900 s 0) r = e.2.2.2.1 ∧ zAd σ (ad 903 s 0) r = e.2.2.2.2.toUInt64
def MR (ad : Ad) (σ : St) (s : Nat) (L : List Ans) (w : Nat) (cl : Bool) : Prop := zFi σ 896 (ad 15 s 0) = nI L.length ∧ zFi σ 897 (ad 15 s 0) = nI w ∧ w ≤ 6 ∧ L.length ≤ 32 ∧ ∀ r e, L[r]? = some e → RowAt ad σ s r w cl e
def Mla (ad : Ad) (σ : St) (la : List Ans) (lw : Nat) (lc : Bool) : Prop := ∃ w, MR ad σ 40 la w lc ∧ (la ≠ [] → w = lw ∧ zFi σ 1057 (ad 17 0 0) = zB (!lc))
def RM (ad : Ad) (σ : St) (V : Vt) : Prop := Mtb ad σ V.1.1 ∧ Mfs ad σ V.1.2.1 ∧ Mqs ad σ V.1.2.2.1 ∧ Msh ad σ V.1.2.2.2 ∧ Mac ad σ V.2.1 ∧ Mla ad σ V.2.2.1.1 V.2.2.1.2.1 V.2.2.1.2.2 ∧ zFi σ 1025 (ad 17 0 0) = V.2.2.2
