/-! what leaves the held value as it was -/
section FR2
variable {ad : Ad} {ct : Ct} {σ σ' : St} {S : Nat × Nat → Prop}
theorem Fr.fi (f : Fr ct S σ σ') {x κ : Nat} {c : Nat × Nat} (hk : zK σ x = κ) (h0 : κ ≠ 0) (hc : ct x = c) (hs : ¬ S c) (g : Nat) : zFi σ' g x = zFi σ g x := ((f x (by rw [hk]; exact h0)).2 (by rw [hc]; exact hs)).1 g
theorem Fr.fj (f : Fr ct S σ σ') {x κ : Nat} {c : Nat × Nat} (hk : zK σ x = κ) (h0 : κ ≠ 0) (hc : ct x = c) (hs : ¬ S c) (g : Nat) : zFj σ' g x = zFj σ g x := ((f x (by rw [hk]; exact h0)).2 (by rw [hc]; exact hs)).2.1 g
theorem Fr.ai (f : Fr ct S σ σ') {x κ : Nat} {c : Nat × Nat} (hk : zK σ x = κ) (h0 : κ ≠ 0) (hc : ct x = c) (hs : ¬ S c) (i : Nat) : zAi σ' x i = zAi σ x i := ((f x (by rw [hk]; exact h0)).2 (by rw [hc]; exact hs)).2.2.1 i
theorem Fr.aj (f : Fr ct S σ σ') {x κ : Nat} {c : Nat × Nat} (hk : zK σ x = κ) (h0 : κ ≠ 0) (hc : ct x = c) (hs : ¬ S c) (i : Nat) : zAj σ' x i = zAj σ x i := ((f x (by rw [hk]; exact h0)).2 (by rw [hc]; exact hs)).2.2.2.1 i
theorem Fr.adb (f : Fr ct S σ σ') {x κ : Nat} {c : Nat × Nat} (hk : zK σ x = κ) (h0 : κ ≠ 0) (hc : ct x = c) (hs : ¬ S c) (i : Nat) : zAd σ' x i = zAd σ x i := ((f x (by rw [hk]; exact h0)).2 (by rw [hc]; exact hs)).2.2.2.2.1 i
theorem Fr.ar (f : Fr ct S σ σ') {x κ : Nat} {c : Nat × Nat} (hk : zK σ x = κ) (h0 : κ ≠ 0) (hc : ct x = c) (hs : ¬ S c) (i : Nat) : zAr σ' x i = zAr σ x i := ((f x (by rw [hk]; exact h0)).2 (by rw [hc]; exact hs)).2.2.2.2.2 i
theorem Fr.kk (f : Fr ct S σ σ') {x κ : Nat} (hk : zK σ x = κ) (h0 : κ ≠ 0) : zK σ' x = κ := (f.k (by rw [hk]; exact h0)).trans hk
theorem Fr.ll (f : Fr ct S σ σ') {x κ : Nat} (hk : zK σ x = κ) (h0 : κ ≠ 0) : zL σ' x = zL σ x := (f x (by rw [hk]; exact h0)).1.2.1
theorem Fr.rr (f : Fr ct S σ σ') {x κ : Nat} (hk : zK σ x = κ) (h0 : κ ≠ 0) (g : Nat) : zFr σ' g x = zFr σ g x := (f x (by rw [hk]; exact h0)).1.2.2 g
theorem isThg.fr (f : Fr ct S σ σ') (s0 : ¬ S (0, 0)) {o : Option Nat} {t : Thg} (q : isThg ct σ o t) : isThg ct σ' o t := by
  rcases q with q | ⟨x, y, h1, h2, h3, h4, h5, h6, h7, h8, h9, h10, h11, h12⟩
  · exact Or.inl q
  · exact Or.inr ⟨x, y, h1, f.kk h2 (by decide), h3, (f.fi h2 (by decide) h3 s0 _).trans h4, h5, h6, (f.rr h2 (by decide) _).trans h7, f.kk h8 (by decide), h9, (f.ll h8 (by decide)).trans h10, h11, fun i v e => (f.aj h8 (by decide) h9 s0 i).trans (h12 i v e)⟩
theorem isAct.fr (f : Fr ct S σ σ') (s0 : ¬ S (0, 0)) {x : Nat} {A : Av} (q : isAct ct σ x A) : isAct ct σ' x A := by
  obtain ⟨h1, h2, h3, h4, h5, h6, h7⟩ := q
  have e := f.fi h1 (by decide) h2 s0
  exact ⟨f.kk h1 (by decide), h2, (e _).trans h3, (e _).trans h4, (e _).trans h5, (f.fj h1 (by decide) h2 s0 _).trans h6, by rw [f.rr h1 (by decide)]; exact h7.fr f s0⟩
theorem isQ.fr (f : Fr ct S σ σ') (s0 : ¬ S (0, 0)) {x : Nat} {q : Qst} (z : isQ ct σ x q) : isQ ct σ' x q := by
  obtain ⟨h1, h2, h3, h4, h5, h6, h7, y, h8, h9, h10, h11, h12⟩ := z
  have e := f.fi h1 (by decide) h2 s0
  exact ⟨f.kk h1 (by decide), h2, (e _).trans h3, (e _).trans h4, (e _).trans h5, (e _).trans h6, (e _).trans h7, y, (f.rr h1 (by decide) _).trans h8, f.kk h9 (by decide), h10, (f.ll h9 (by decide)).trans h11, fun k hk => (f.ai h9 (by decide) h10 s0 k).trans (h12 k hk)⟩
theorem Ctb.cg (h : Sh ad ct σ) (f : Fr ct S σ σ') (s1 : ¬ S (384, 0)) (e : zFi σ' 385 (ad 7 0 0) = zFi σ 385 (ad 7 0 0)) {tb : List Int32} (q : Ctb ad σ tb) : Ctb ad σ' tb :=
  ⟨e.trans q.1, fun i p hp => (f.ai (k384 h) (by decide) (c384 h) s1 i).trans (q.2 i p hp)⟩
theorem Cfs.cg (h : Sh ad ct σ) (f : Fr ct S σ σ') (s1 : ¬ S (386, 0)) (s2 : ¬ S (387, 0)) (s3 : ¬ S (388, 0)) (e : zFi σ' 390 (ad 7 0 0) = zFi σ 390 (ad 7 0 0)) (e2 : zFj σ' 389 (ad 7 0 0) = zFj σ 389 (ad 7 0 0)) {fs : List Fct} (q : Cfs ad σ fs) : Cfs ad σ' fs := by
  refine ⟨e.trans q.1, fun i p hp => ?_⟩
  obtain ⟨h1, h2, h3, h4⟩ := q.2 i p hp
  exact ⟨(f.ai (k386 h) (by decide) (c386 h) s1 i).trans h1, fun k hk => (f.ai (k387 h) (by decide) (c387 h) s2 _).trans (h2 k hk), fun k hk => (f.aj (k388 h) (by decide) (c388 h) s3 _).trans (h3 k hk), by rw [e2]; exact h4⟩
theorem Cqs.cg (h : Sh ad ct σ) (f : Fr ct S σ σ') (s0 : ¬ S (0, 0)) (s1 : ¬ S (705, 0)) (e : zFi σ' 706 (ad 12 0 0) = zFi σ 706 (ad 12 0 0)) {qs : List Qst} (q : Cqs ad ct σ qs) : Cqs ad ct σ' qs := by
  refine ⟨e.trans q.1, fun i p hp => ?_⟩
  obtain ⟨x, h1, h2⟩ := q.2 i p hp
  exact ⟨x, (f.ar (k705 h) (by decide) (c705 h) s1 i).trans h1, h2.fr f s0⟩
theorem Csh.cg (h : Sh ad ct σ) (f : Fr ct S σ σ') (s0 : ¬ S (0, 0)) (s1 : ¬ S (712, 0)) {sh : Nat → Thg} (q : Csh ad ct σ sh) : Csh ad ct σ' sh := by
  intro k hk
  rw [f.ar (k712 h) (by decide) (c712 h) s1 k]
  exact (q k hk).fr f s0
theorem Cac.cg (h : Sh ad ct σ) (f : Fr ct S σ σ') (s0 : ¬ S (0, 0)) (s1 : ¬ S (2, 0)) (s2 : ¬ S (64, 0)) {ac : List Av} (q : Cac ad ct σ ac) : Cac ad ct σ' ac := by
  obtain ⟨h1, nx, h2, h3, h4⟩ := q
  have e := f.fi (k2 h) (by decide) (c2 h) s1
  refine ⟨(e _).trans h1, nx, h2, (e _).trans h3, fun i A hA => ?_⟩
  obtain ⟨x, h5, h6⟩ := h4 i A hA
  exact ⟨x, (f.ar (k64 h) (by decide) (c64 h) s2 _).trans h5, h6.fr f s0⟩
theorem Crw.cg (h : Sh ad ct σ) (f : Fr ct S σ σ') (s1 : ∀ s, s < 43 → ¬ S (192, s)) (q : Crw ad σ) : Crw ad σ' := by
  intro s hs
  obtain ⟨π, h1, h2⟩ := q s hs
  exact ⟨π, fun j hj => ⟨(h1 j hj).1, (f.ar (k192 h hs) (by decide) (c192 h hs) (s1 s hs) j).trans (h1 j hj).2⟩, h2⟩
theorem AnsAt.cg (h : Sh ad ct σ) (f : Fr ct S σ σ') {s j w : Nat} (hs : s < 43) (hj : j < room s) (s1 : ¬ S (3, s)) (s2 : ¬ S (128, s)) (s3 : ¬ S (129, s)) {cl : Bool} {e : Ans} (q : AnsAt ad σ s j w cl e) : AnsAt ad σ' s j w cl e := by
  obtain ⟨h1, h2, h3, h4, h5, h6, h7, h8⟩ := q
  have e := f.fi (k3 h hs hj) (by decide) (c3 h hs hj) s1
  have e2 := f.fj (k3 h hs hj) (by decide) (c3 h hs hj) s1
  exact ⟨h1, fun k v hv => (f.ai (k128 h hs hj) (by decide) (c128 h hs hj) s2 k).trans (h2 k v hv), h3, (e _).trans h4, fun k v hv => (f.aj (k129 h hs hj) (by decide) (c129 h hs hj) s3 k).trans (h5 k v hv), fun c => (e2 _).trans (h6 c), (e _).trans h7, (e2 _).trans h8⟩
theorem AR.cg (h : Sh ad ct σ) (f : Fr ct S σ σ') {s w : Nat} (hs : s < 43) (s0 : ¬ S (4, s)) (s1 : ¬ S (3, s)) (s2 : ¬ S (128, s)) (s3 : ¬ S (129, s)) (s4 : ¬ S (192, s)) {cl : Bool} {L : List Ans} (q : AR ad σ s L w cl) : AR ad σ' s L w cl := by
  obtain ⟨h1, h2, h3, h4, h5⟩ := q
  have e := f.fi (k4 h hs) (by decide) (c4 h hs) s0
  refine ⟨(e _).trans h1, (e _).trans h2, h3, h4, fun i a ha => ?_⟩
  obtain ⟨j, hj, h6, h7⟩ := h5 i a ha
  exact ⟨j, hj, (f.ar (k192 h hs) (by decide) (c192 h hs) s4 i).trans h6, h7.cg h f hs hj s1 s2 s3⟩
theorem Cla.cg (h : Sh ad ct σ) (f : Fr ct S σ σ') (s0 : ¬ S (4, 42)) (s1 : ¬ S (3, 42)) (s2 : ¬ S (128, 42)) (s3 : ¬ S (129, 42)) (s4 : ¬ S (192, 42)) (e : zFi σ' 709 (ad 12 0 0) = zFi σ 709 (ad 12 0 0)) {la : List Ans} {lw : Nat} {lc : Bool} (q : Cla ad σ la lw lc) : Cla ad σ' la lw lc := by
  obtain ⟨w, h1, h2⟩ := q
  exact ⟨w, h1.cg h f (by decide) s0 s1 s2 s3 s4, fun n => ⟨(h2 n).1, e.trans (h2 n).2⟩⟩
theorem MThg.cg (h : Sh ad ct σ) (f : Fr ct S σ σ') {t : Nat} (ht : t < 120) (s1 : ¬ S (16, t)) (s2 : ¬ S (963, t)) (s3 : ¬ S (964, t)) {th : Thg} (q : MThg ad σ t th) : MThg ad σ' t th := by
  obtain ⟨h1, h2, h3, h4, h5, h6⟩ := q
  have e := f.fi (k16 h ht) (by decide) (c16 h ht) s1
  exact ⟨(e _).trans h1, h2, h3, fun c => by rw [e]; exact h4 c, fun c => ⟨(e _).trans (h5 c).1, (h5 c).2.1, fun i v hv => by rw [f.ai (k963 h ht) (by decide) (c963 h ht) s2]; exact (h5 c).2.2 i v hv⟩, fun c => ⟨(e _).trans (h6 c).1, (h6 c).2.1, fun i v hv => (f.aj (k964 h ht) (by decide) (c964 h ht) s3 i).trans ((h6 c).2.2 i v hv)⟩⟩
theorem MAct.cg (h : Sh ad ct σ) (f : Fr ct S σ σ') {a : Nat} (ht : a < 100) (s0 : ¬ S (13, a)) (s1 : ¬ S (16, a)) (s2 : ¬ S (963, a)) (s3 : ¬ S (964, a)) {A : Av} (q : MAct ad σ a A) : MAct ad σ' a A := by
  obtain ⟨h1, h2, h3, h4, h5, h6⟩ := q
  have e := f.fi (k13 h ht) (by decide) (c13 h ht) s0
  have e2 := f.fj (k13 h ht) (by decide) (c13 h ht) s0
  exact ⟨(e _).trans h1, h2, fun c => (e _).trans (h3 c), fun c => (e _).trans (h4 c), fun c => ⟨(e _).trans (h5 c).1, (e2 _).trans (h5 c).2⟩, fun c => (h6 c).cg h f (by omega) s1 s2 s3⟩
theorem Mtb.cg (h : Sh ad ct σ) (f : Fr ct S σ σ') (s1 : ¬ S (1031, 0)) (e : zFi σ' 1028 (ad 17 0 0) = zFi σ 1028 (ad 17 0 0)) {tb : List Int32} (q : Mtb ad σ tb) : Mtb ad σ' tb :=
  ⟨e.trans q.1, fun i p hp => (f.ai (k1031 h) (by decide) (c1031 h) s1 i).trans (q.2 i p hp)⟩
theorem Mfs.cg (h : Sh ad ct σ) (f : Fr ct S σ σ') (s1 : ¬ S (1032, 0)) (s2 : ¬ S (1033, 0)) (s3 : ¬ S (1034, 0)) (s4 : ¬ S (1035, 0)) (s5 : ¬ S (1036, 0)) (s6 : ¬ S (1037, 0)) (s7 : ¬ S (1038, 0)) (e : zFi σ' 1029 (ad 17 0 0) = zFi σ 1029 (ad 17 0 0)) {fs : List Fct} (q : Mfs ad σ fs) : Mfs ad σ' fs := by
  refine ⟨e.trans q.1, fun i p hp => ?_⟩
  obtain ⟨h1, h2, h3, h4, h5, h6, h7⟩ := q.2 i p hp
  exact ⟨(f.ai (k1032 h) (by decide) (c1032 h) s1 i).trans h1, fun k hk => (f.ai (k1033 h) (by decide) (c1033 h) s2 _).trans (h2 k hk), (f.ai (k1034 h) (by decide) (c1034 h) s3 i).trans h3, (f.ai (k1035 h) (by decide) (c1035 h) s4 i).trans h4, (f.adb (k1037 h) (by decide) (c1037 h) s6 i).trans h5, (f.ai (k1036 h) (by decide) (c1036 h) s5 i).trans h6, (f.ai (k1038 h) (by decide) (c1038 h) s7 i).trans h7⟩
theorem Mqs.cg (h : Sh ad ct σ) (f : Fr ct S σ σ') (s1 : ∀ g, 1039 ≤ g → g ≤ 1047 → ¬ S (g, 0)) (e : zFi σ' 1030 (ad 17 0 0) = zFi σ 1030 (ad 17 0 0)) {qs : List Qst} (q : Mqs ad σ qs) : Mqs ad σ' qs := by
  refine ⟨e.trans q.1, fun i p hp => ?_⟩
  obtain ⟨h1, h2, h3, h4, h5, h6, h7, h8, h9⟩ := q.2 i p hp
  exact ⟨(f.ai (k1039 h) (by decide) (c1039 h) (s1 _ (by decide) (by decide)) i).trans h1, (f.ai (k1042 h) (by decide) (c1042 h) (s1 _ (by decide) (by decide)) i).trans h2, (f.ai (k1040 h) (by decide) (c1040 h) (s1 _ (by decide) (by decide)) i).trans h3, (f.ai (k1041 h) (by decide) (c1041 h) (s1 _ (by decide) (by decide)) i).trans h4, (f.ai (k1047 h) (by decide) (c1047 h) (s1 _ (by decide) (by decide)) i).trans h5, (f.ai (k1043 h) (by decide) (c1043 h) (s1 _ (by decide) (by decide)) i).trans h6, (f.ai (k1044 h) (by decide) (c1044 h) (s1 _ (by decide) (by decide)) i).trans h7, (f.ai (k1045 h) (by decide) (c1045 h) (s1 _ (by decide) (by decide)) i).trans h8, (f.ai (k1046 h) (by decide) (c1046 h) (s1 _ (by decide) (by decide)) i).trans h9⟩
theorem Msh.cg (h : Sh ad ct σ) (f : Fr ct S σ σ') (s1 : ∀ k, k < 20 → ¬ S (16, 100 + k) ∧ ¬ S (963, 100 + k) ∧ ¬ S (964, 100 + k)) {sh : Nat → Thg} (q : Msh ad σ sh) : Msh ad σ' sh := fun k hk => (q k hk).cg h f (by omega) (s1 k hk).1 (s1 k hk).2.1 (s1 k hk).2.2
theorem Mac.cg (h : Sh ad ct σ) (f : Fr ct S σ σ') (s1 : ¬ S (1026, 0)) (s2 : ∀ i, i < 100 → ¬ S (13, i) ∧ ¬ S (16, i) ∧ ¬ S (963, i) ∧ ¬ S (964, i)) (e : zFi σ' 1027 (ad 17 0 0) = zFi σ 1027 (ad 17 0 0)) {ac : List Av} (hl : ac.length ≤ 100) (q : Mac ad σ ac) : Mac ad σ' ac := by
  obtain ⟨h1, π, h2, h3, h4⟩ := q
  refine ⟨e.trans h1, π, fun i hi => ⟨(h2 i hi).1, (f.ar (k1026 h) (by decide) (c1026 h) s1 i).trans (h2 i hi).2⟩, h3, fun i A hA => ?_⟩
  have hi : i < ac.length := (List.getElem?_eq_some_iff.mp hA).1
  have hp := (h2 (ac.length - 1 - i) (by omega)).1
  obtain ⟨a1, a2, a3, a4⟩ := s2 _ hp
  exact (h4 i A hA).cg h f hp a1 a2 a3 a4
theorem RowAt.cg (h : Sh ad ct σ) (f : Fr ct S σ σ') {s r w : Nat} (hs : s < 42) (s1 : ∀ g, 898 ≤ g → g ≤ 903 → ¬ S (g, s)) {cl : Bool} {e : Ans} (q : RowAt ad σ s r w cl e) : RowAt ad σ' s r w cl e := by
  obtain ⟨h1, h2, h3, h4, h5, h6, h7, h8⟩ := q
  exact ⟨h1, fun k v hv => (f.ai (k898 h hs) (by decide) (c898 h hs) (s1 _ (by decide) (by decide)) _).trans (h2 k v hv), h3, (f.ai (k899 h hs) (by decide) (c899 h hs) (s1 _ (by decide) (by decide)) _).trans h4, fun k v hv => (f.aj (k901 h hs) (by decide) (c901 h hs) (s1 _ (by decide) (by decide)) _).trans (h5 k v hv), fun c => (f.aj (k902 h hs) (by decide) (c902 h hs) (s1 _ (by decide) (by decide)) _).trans (h6 c), (f.ai (k900 h hs) (by decide) (c900 h hs) (s1 _ (by decide) (by decide)) _).trans h7, (f.adb (k903 h hs) (by decide) (c903 h hs) (s1 _ (by decide) (by decide)) _).trans h8⟩
theorem MR.cg (h : Sh ad ct σ) (f : Fr ct S σ σ') {s w : Nat} (hs : s < 42) (s0 : ¬ S (15, s)) (s1 : ∀ g, 898 ≤ g → g ≤ 903 → ¬ S (g, s)) {cl : Bool} {L : List Ans} (q : MR ad σ s L w cl) : MR ad σ' s L w cl := by
  obtain ⟨h1, h2, h3, h4, h5⟩ := q
  have e := f.fi (k15 h hs) (by decide) (c15 h hs) s0
  exact ⟨(e _).trans h1, (e _).trans h2, h3, h4, fun r a ha => (h5 r a ha).cg h f hs s1⟩
theorem Mla.cg (h : Sh ad ct σ) (f : Fr ct S σ σ') (s0 : ¬ S (15, 40)) (s1 : ∀ g, 898 ≤ g → g ≤ 903 → ¬ S (g, 40)) (e : zFi σ' 1057 (ad 17 0 0) = zFi σ 1057 (ad 17 0 0)) {la : List Ans} {lw : Nat} {lc : Bool} (q : Mla ad σ la lw lc) : Mla ad σ' la lw lc := by
  obtain ⟨w, h1, h2⟩ := q
  exact ⟨w, h1.cg h f (by decide) s0 s1, fun n => ⟨(h2 n).1, e.trans (h2 n).2⟩⟩
/-- the places of the class, those of the reference -/
abbrev SC (p : Nat × Nat) : Prop := p.1 ≠ 0 ∧ p.1 ≠ 258 ∧ p.1 < 768 ∧ ¬ (13 ≤ p.1 ∧ p.1 ≤ 17)
abbrev SM (p : Nat × Nat) : Prop := (13 ≤ p.1 ∧ p.1 ≤ 17 ∨ 768 ≤ p.1) ∧ p.1 ≠ 1049 ∧ p.1 ≠ 1052
theorem Sh.frC (h : Sh ad ct σ) (f : Fr ct SC σ σ') : Sh ad ct σ' := h.fr f (fun q => q.2.1 rfl) (fun q => absurd q.2.2.1 (by decide)) (fun q => absurd q.2.2.1 (by decide))
theorem Sh.frM (h : Sh ad ct σ) (f : Fr ct SM σ σ') : Sh ad ct σ' := h.fr f (fun q => absurd q.1 (by decide)) (fun q => q.2.1 rfl) (fun q => q.2.2 rfl)
theorem RC.frM (h : Sh ad ct σ) (f : Fr ct SM σ σ') {V : Vt} (q : RC ad ct σ V) : RC ad ct σ' V := by
  obtain ⟨h1, h2, h3, h4, h5, h6, h7, h8⟩ := q
  have n : ∀ c i, ¬ (13 ≤ c ∧ c ≤ 17 ∨ 768 ≤ c) → ¬ SM (c, i) := fun c i hc q => hc q.1
  have e := f.fi (k12 h) (by decide) (c12 h) (n _ _ (by decide))
  have e7 := f.fi (k7 h) (by decide) (c7 h) (n _ _ (by decide))
  have e7j := f.fj (k7 h) (by decide) (c7 h) (n _ _ (by decide))
  exact ⟨h1.cg h f (n _ _ (by decide)) (e7 _), h2.cg h f (n _ _ (by decide)) (n _ _ (by decide)) (n _ _ (by decide)) (e7 _) (e7j _), h3.cg h f (n _ _ (by decide)) (n _ _ (by decide)) (e _), h4.cg h f (n _ _ (by decide)) (n _ _ (by decide)), h5.cg h f (n _ _ (by decide)) (n _ _ (by decide)) (n _ _ (by decide)), h6.cg h f (n _ _ (by decide)) (n _ _ (by decide)) (n _ _ (by decide)) (n _ _ (by decide)) (n _ _ (by decide)) (e _), (e _).trans h7, h8.cg h f (fun s _ => n _ _ (by decide))⟩
theorem RM.frC (h : Sh ad ct σ) (f : Fr ct SC σ σ') {V : Vt} (hl : V.2.1.length ≤ 100) (q : RM ad σ V) : RM ad σ' V := by
  obtain ⟨h1, h2, h3, h4, h5, h6, h7⟩ := q
  have n : ∀ c i, (13 ≤ c ∧ c ≤ 17 ∨ 768 ≤ c) → ¬ SC (c, i) := fun c i hc q => hc.elim q.2.2.2 (fun z => absurd q.2.2.1 (Nat.not_lt.mpr z))
  have e := f.fi (k17 h) (by decide) (c17 h) (n _ _ (by decide))
  exact ⟨h1.cg h f (n _ _ (by decide)) (e _), h2.cg h f (n _ _ (by decide)) (n _ _ (by decide)) (n _ _ (by decide)) (n _ _ (by decide)) (n _ _ (by decide)) (n _ _ (by decide)) (n _ _ (by decide)) (e _), h3.cg h f (fun g _ _ => n _ _ (by omega)) (e _), h4.cg h f (fun k _ => ⟨n _ _ (by decide), n _ _ (by decide), n _ _ (by decide)⟩), h5.cg h f (n _ _ (by decide)) (fun i _ => ⟨n _ _ (by decide), n _ _ (by decide), n _ _ (by decide), n _ _ (by decide)⟩) (e _) hl, h6.cg h f (n _ _ (by decide)) (fun g _ _ => n _ _ (by omega)) (e _), (e _).trans h7⟩
end FR2
