section M6
variable {ad : Ad} {ct : Ct} {σ : St}
theorem M_pick {V : Vt} (h0 : Sh ad ct σ) (R0 : RM ad σ V) (W : WFv V) (q pl v : Int32) {Q : Int32 → St → Prop} (hQ0 : ∀ σ', Fr ct SM σ σ' → RM ad σ' (picV q pl v V).2 → Q (picV q pl v V).1 σ') : wX16_pick (ad 17 0 0) q pl v σ Q := by
  have wf := W.1.wf
  have hl := wf.2.2.2.2.1
  have ft := fr17 h0 1024 0
  have R := rmth h0 W.2.1 R0 0
  have h := h0.frM ft
  unfold wX16_pick wX16_pick_0
  generalize uFi σ 1024 (ad 17 0 0) 0 = τ at R h ft
  have hQ : ∀ σ', Fr ct SM τ σ' → RM ad σ' (picV q pl v V).2 → Q (picV q pl v V).1 σ' := fun σ' f r => hQ0 σ' (ft.tr1 f) r
  unfold picV at hQ
  refine ⟨k17 h0, M_isQ h R hl q (fun e => ⟨fun z => absurd rfl z, fun _ => ⟨k17 h, ?_⟩⟩) (fun i x hi e hx ex => ⟨fun _ => ?_, fun z => absurd z (by decide)⟩)⟩
  · rw [e] at hQ; exact M_ref h W.2.1 R 1 hQ
  · subst e
    rw [ex] at hQ
    obtain ⟨b1, b2⟩ := M_wid h R hl hx
    refine ⟨k17 h, _, p1042 h, k1042 h, b1, ?_⟩
    rw [b2]
    refine M_isP pl (fun c => ⟨fun _ => ⟨k17 h, ?_⟩, fun z => absurd rfl z⟩) (fun c => ⟨fun z => absurd z (by decide), fun _ => ⟨k17 h, _, p1042 h, k1042 h, b1, ?_⟩⟩)
    · simp only [if_pos c] at hQ; exact M_ref h W.2.1 R 2 hQ
    · simp only [if_neg c] at hQ
      rw [b2]
      exact M_made h R W (s := 1) (by decide) (Or.inr ⟨by decide, Or.inr ⟨by decide, i, x, rfl, hx, Or.inl ⟨rfl, rfl⟩⟩⟩) hQ
theorem M_like {V : Vt} (h0 : Sh ad ct σ) (R0 : RM ad σ V) (W : WFv V) (q p1 p2 : Int32) {Q : Int32 → St → Prop} (hQ0 : ∀ σ', Fr ct SM σ σ' → RM ad σ' (likV q p1 p2 V).2 → Q (likV q p1 p2 V).1 σ') : wX16_like (ad 17 0 0) q p1 p2 σ Q := by
  have wf := W.1.wf
  have hl := wf.2.2.2.2.1
  have ft := fr17 h0 1024 0
  have R := rmth h0 W.2.1 R0 0
  have h := h0.frM ft
  unfold wX16_like wX16_like_0
  generalize uFi σ 1024 (ad 17 0 0) 0 = τ at R h ft
  have hQ : ∀ σ', Fr ct SM τ σ' → RM ad σ' (likV q p1 p2 V).2 → Q (likV q p1 p2 V).1 σ' := fun σ' f r => hQ0 σ' (ft.tr1 f) r
  unfold likV at hQ
  refine ⟨k17 h0, M_isQ h R hl q (fun e => ⟨fun z => absurd rfl z, fun _ => ⟨k17 h, ?_⟩⟩) (fun i x hi e hx ex => ⟨fun _ => ?_, fun z => absurd z (by decide)⟩)⟩
  · rw [e] at hQ; exact M_ref h W.2.1 R 1 hQ
  · subst e
    rw [ex] at hQ
    obtain ⟨b1, b2⟩ := M_wid h R hl hx
    have bad : (badP p1 x.2.1 ∨ badP p2 x.2.1) → wX16_like_49 Q (ad 17 0 0) (nI i) p1 p2 τ := fun c => by
      simp only [if_pos c] at hQ
      exact ⟨fun _ => ⟨k17 h, M_ref h W.2.1 R 2 hQ⟩, fun z => absurd rfl z⟩
    refine ⟨k17 h, _, p1042 h, k1042 h, b1, ?_⟩
    rw [b2]
    refine M_isP p1 (fun c => ⟨fun _ => bad (Or.inl c), fun z => absurd rfl z⟩) (fun c => ⟨fun z => absurd z (by decide), fun _ => ⟨k17 h, _, p1042 h, k1042 h, b1, ?_⟩⟩)
    rw [b2]
    refine M_isP p2 (fun d => ⟨fun _ => bad (Or.inr d), fun z => absurd rfl z⟩) (fun d => ⟨fun z => absurd z (by decide), fun _ => ⟨fun z => absurd z (by decide), fun _ => ⟨k17 h, _, p1042 h, k1042 h, b1, ?_⟩⟩⟩)
    simp only [if_neg (show ¬ (badP p1 x.2.1 ∨ badP p2 x.2.1) from fun z => z.elim c d)] at hQ
    rw [b2]
    exact M_made h R W (s := 2) (by decide) (Or.inr ⟨by decide, Or.inr ⟨by decide, i, x, rfl, hx, Or.inl ⟨rfl, rfl⟩⟩⟩) hQ
theorem i32_lt1 {n : Int32} : n < 1 ↔ n ≤ 0 := by
  rw [Int32.lt_iff_toInt_lt, Int32.le_iff_toInt_le, show (0 : Int32).toInt = 0 by decide, show (1 : Int32).toInt = 1 by decide]; omega
theorem i32_4 {n : Int32} : 4 < n ↔ 5 ≤ n := by
  rw [Int32.lt_iff_toInt_lt, Int32.le_iff_toInt_le, show (4 : Int32).toInt = 4 by decide, show (5 : Int32).toInt = 5 by decide]; omega
theorem i32_a {n : Int32} : n < 2 ↔ n ≤ 1 := by
  rw [Int32.lt_iff_toInt_lt, Int32.le_iff_toInt_le, show (1 : Int32).toInt = 1 by decide, show (2 : Int32).toInt = 2 by decide]; omega
theorem i32_b {n : Int32} : n < 3 ↔ n ≤ 2 := by
  rw [Int32.lt_iff_toInt_lt, Int32.le_iff_toInt_le, show (2 : Int32).toInt = 2 by decide, show (3 : Int32).toInt = 3 by decide]; omega
theorem i32_c {n : Int32} : n < 4 ↔ n ≤ 3 := by
  rw [Int32.lt_iff_toInt_lt, Int32.le_iff_toInt_le, show (3 : Int32).toInt = 3 by decide, show (4 : Int32).toInt = 4 by decide]; omega
theorem M_cut {V : Vt} (h0 : Sh ad ct σ) (R0 : RM ad σ V) (W : WFv V) (q n a b c d : Int32) {Q : Int32 → St → Prop} (hQ0 : ∀ σ', Fr ct SM σ σ' → RM ad σ' (cutV q n a b c d V).2 → Q (cutV q n a b c d V).1 σ') : wX16_cut (ad 17 0 0) q n a b c d σ Q := by
  have wf := W.1.wf
  have hl := wf.2.2.2.2.1
  have ft := fr17 h0 1024 0
  have R := rmth h0 W.2.1 R0 0
  have h := h0.frM ft
  unfold wX16_cut wX16_cut_0
  generalize uFi σ 1024 (ad 17 0 0) 0 = τ at R h ft
  have hQ : ∀ σ', Fr ct SM τ σ' → RM ad σ' (cutV q n a b c d V).2 → Q (cutV q n a b c d V).1 σ' := fun σ' f r => hQ0 σ' (ft.tr1 f) r
  unfold cutV at hQ
  refine ⟨k17 h0, M_isQ h R hl q (fun e => ⟨fun z => absurd rfl z, fun _ => ⟨k17 h, ?_⟩⟩) (fun i x hi e hx ex => ⟨fun _ => ?_, fun z => absurd z (by decide)⟩)⟩
  · rw [e] at hQ; exact M_ref h W.2.1 R 1 hQ
  · subst e
    rw [ex] at hQ
    obtain ⟨b1, b2⟩ := M_wid h R hl hx
    have bad : (n < 1 ∨ 4 < n ∨ badP a x.2.1 ∨ (¬ n ≤ 1 ∧ badP b x.2.1) ∨ (¬ n ≤ 2 ∧ badP c x.2.1) ∨ (¬ n ≤ 3 ∧ badP d x.2.1)) → wX16_cut_94 Q (ad 17 0 0) (nI i) n a b c d τ := fun z => by
      simp only [if_pos z] at hQ
      exact ⟨fun _ => ⟨k17 h, M_ref h W.2.1 R 2 hQ⟩, fun z => absurd rfl z⟩
    have good : ¬ (n < 1 ∨ 4 < n ∨ badP a x.2.1 ∨ (¬ n ≤ 1 ∧ badP b x.2.1) ∨ (¬ n ≤ 2 ∧ badP c x.2.1) ∨ (¬ n ≤ 3 ∧ badP d x.2.1)) → wX16_cut_90 Q (ad 17 0 0) (nI i) n a b c d τ := fun z => by
      simp only [if_neg z] at hQ
      have n0 : ¬ n < 0 := fun w => z (Or.inl (i32_lt1.mpr (Int32.le_of_lt w)))
      obtain ⟨m, hm, rfl⟩ := nI_of n0
      rw [show ix (nI m) = m from nI_clamp hm] at hQ
      exact ⟨fun z => absurd z (by decide), fun _ => ⟨k17 h, M_made h R W (s := 3) (by decide) (Or.inr ⟨by decide, Or.inr ⟨by decide, i, x, rfl, hx, Or.inl ⟨rfl, rfl⟩⟩⟩) hQ⟩⟩
    refine ⟨k17 h, _, p1042 h, k1042 h, b1, fun c1 => bad (Or.inl (i32_lt1.mpr c1)), fun c1 => ⟨fun c2 => bad (Or.inr (Or.inl (i32_4.mpr c2))), fun c2 => ?_⟩⟩
    rw [b2]
    have c1 : ¬ n < 1 := fun w => c1 (i32_lt1.mp w)
    have c2 : ¬ 4 < n := fun w => c2 (i32_4.mp w)
    refine M_isP a (fun z => ⟨fun _ => bad (Or.inr (Or.inr (Or.inl z))), fun z => absurd rfl z⟩) (fun za => ⟨fun z => absurd z (by decide), fun _ => ?_⟩)
    have s63 : (n ≤ 1 ∨ ¬ badP b x.2.1) → (n ≤ 2 ∨ ¬ badP c x.2.1) → wX16_cut_75 Q (ad 17 0 0) (nI i) n a b c d (nI x.2.1) τ := fun zb zc => by
      refine ⟨fun z => good ?_, fun z => M_isP d (fun w => ⟨fun _ => bad (Or.inr (Or.inr (Or.inr (Or.inr (Or.inr ⟨fun u => z (i32_c.mpr u), w⟩))))), fun q => absurd rfl q⟩) (fun w => ⟨fun q => absurd q (by decide), fun _ => good ?_⟩)⟩
      · rintro (q | q | q | q | q | q)
        · exact c1 q
        · exact c2 q
        · exact za q
        · exact zb.elim q.1 (fun w => w q.2)
        · exact zc.elim q.1 (fun w => w q.2)
        · exact q.1 (i32_c.mp z)
      · rintro (q | q | q | q | q | q)
        · exact c1 q
        · exact c2 q
        · exact za q
        · exact zb.elim q.1 (fun w => w q.2)
        · exact zc.elim q.1 (fun w => w q.2)
        · exact w q.2
    have s48 : (n ≤ 1 ∨ ¬ badP b x.2.1) → wX16_cut_60 Q (ad 17 0 0) (nI i) n a b c d (nI x.2.1) τ := fun zb =>
      ⟨fun z => s63 zb (Or.inl (i32_b.mp z)), fun z => M_isP c (fun w => ⟨fun _ => bad (Or.inr (Or.inr (Or.inr (Or.inr (Or.inl ⟨fun u => z (i32_b.mpr u), w⟩))))), fun q => absurd rfl q⟩) (fun w => ⟨fun q => absurd q (by decide), fun _ => s63 zb (Or.inr w)⟩)⟩
    exact ⟨fun z => s48 (Or.inl (i32_a.mp z)), fun z => M_isP b (fun w => ⟨fun _ => bad (Or.inr (Or.inr (Or.inr (Or.inl ⟨fun u => z (i32_a.mpr u), w⟩)))), fun q => absurd rfl q⟩) (fun w => ⟨fun q => absurd q (by decide), fun _ => s48 (Or.inr w)⟩)⟩
theorem M_pair {V : Vt} (h0 : Sh ad ct σ) (R0 : RM ad σ V) (W : WFv V) (o1 o2 a b : Int32) {Q : Int32 → St → Prop} (hQ0 : ∀ σ', Fr ct SM σ σ' → RM ad σ' (paiV o1 o2 a b V).2 → Q (paiV o1 o2 a b V).1 σ') : wX16_pair (ad 17 0 0) o1 o2 a b σ Q := by
  have wf := W.1.wf
  have hl := wf.2.2.2.2.1
  have ft := fr17 h0 1024 0
  have R := rmth h0 W.2.1 R0 0
  have h := h0.frM ft
  unfold wX16_pair wX16_pair_0
  generalize uFi σ 1024 (ad 17 0 0) 0 = τ at R h ft
  have hQ : ∀ σ', Fr ct SM τ σ' → RM ad σ' (paiV o1 o2 a b V).2 → Q (paiV o1 o2 a b V).1 σ' := fun σ' f r => hQ0 σ' (ft.tr1 f) r
  unfold paiV at hQ
  refine ⟨k17 h0, M_isQ h R hl o1 (fun e => ⟨fun _ => ⟨k17 h, ?_⟩, fun z => absurd rfl z⟩) (fun i x hi e hx ex => ⟨fun z => absurd z (by decide), fun _ => ⟨k17 h, ?_⟩⟩)⟩
  · rw [e] at hQ; exact M_ref h W.2.1 R 1 hQ
  · subst e
    rw [ex] at hQ
    refine M_isQ h R hl o2 (fun e => ⟨fun z => absurd rfl z, fun _ => ⟨k17 h, ?_⟩⟩) (fun j y hj e hy ey => ⟨fun _ => ?_, fun z => absurd z (by decide)⟩)
    · rw [e] at hQ; exact M_ref h W.2.1 R 1 hQ
    · subst e
      rw [ey] at hQ
      obtain ⟨b1, b2⟩ := M_wid h R hl hx
      obtain ⟨d1, d2⟩ := M_wid h R hl hy
      have w1 := (wf.2.2.2.2.2.1 i x hx).w
      have w2 := (wf.2.2.2.2.2.1 j y hy).w
      have bad : (badP a x.2.1 ∨ badP b y.2.1) → wX16_pair_54 Q (ad 17 0 0) τ := fun c => by
        simp only [if_pos c] at hQ
        exact ⟨k17 h, M_ref h W.2.1 R 2 hQ⟩
      refine ⟨k17 h, _, p1042 h, k1042 h, b1, ?_⟩
      rw [b2]
      refine M_isP a (fun c => ⟨fun _ => bad (Or.inl c), fun z => absurd rfl z⟩) (fun c => ⟨fun z => absurd z (by decide), fun _ => ⟨k17 h, _, p1042 h, k1042 h, d1, ?_⟩⟩)
      rw [d2]
      refine M_isP b (fun d => ⟨fun z => absurd rfl z, fun _ => bad (Or.inr d)⟩) (fun d => ⟨fun _ => ⟨k17 h, _, p1042 h, k1042 h, b1, d1, ?_⟩, fun z => absurd z (by decide)⟩)
      simp only [if_neg (show ¬ (badP a x.2.1 ∨ badP b y.2.1) from fun z => z.elim c d)] at hQ
      rw [b2, d2, nI_add]
      refine pk_le (x.2.1 + y.2.1) 6 (fun z => ?_) (fun z => ?_)
      · simp only [if_neg (show ¬ 6 < x.2.1 + y.2.1 by omega)] at hQ
        exact M_made h R W (s := 4) (by decide) (Or.inr ⟨by decide, Or.inr ⟨by decide, i, x, rfl, hx, Or.inr ⟨j, y, rfl, hy, rfl⟩⟩⟩) hQ
      · simp only [if_pos (show 6 < x.2.1 + y.2.1 by omega)] at hQ
        exact M_ref h W.2.1 R 3 hQ
theorem M_either {V : Vt} (h0 : Sh ad ct σ) (R0 : RM ad σ V) (W : WFv V) (o1 o2 : Int32) {Q : Int32 → St → Prop} (hQ0 : ∀ σ', Fr ct SM σ σ' → RM ad σ' (eitV 5 o1 o2 V).2 → Q (eitV 5 o1 o2 V).1 σ') : wX16_either (ad 17 0 0) o1 o2 σ Q := by
  have wf := W.1.wf
  have hl := wf.2.2.2.2.1
  have ft := fr17 h0 1024 0
  have R := rmth h0 W.2.1 R0 0
  have h := h0.frM ft
  unfold wX16_either wX16_either_0
  generalize uFi σ 1024 (ad 17 0 0) 0 = τ at R h ft
  have hQ : ∀ σ', Fr ct SM τ σ' → RM ad σ' (eitV 5 o1 o2 V).2 → Q (eitV 5 o1 o2 V).1 σ' := fun σ' f r => hQ0 σ' (ft.tr1 f) r
  unfold eitV at hQ
  refine ⟨k17 h0, M_isQ h R hl o1 (fun e => ⟨fun _ => ⟨k17 h, ?_⟩, fun z => absurd rfl z⟩) (fun i x hi e hx ex => ⟨fun z => absurd z (by decide), fun _ => ⟨k17 h, ?_⟩⟩)⟩
  · rw [e] at hQ; exact M_ref h W.2.1 R 1 hQ
  · subst e
    rw [ex] at hQ
    refine M_isQ h R hl o2 (fun e => ⟨fun z => absurd rfl z, fun _ => ⟨k17 h, ?_⟩⟩) (fun j y hj e hy ey => ⟨fun _ => ?_, fun z => absurd z (by decide)⟩)
    · rw [e] at hQ; exact M_ref h W.2.1 R 1 hQ
    · subst e
      rw [ey] at hQ
      obtain ⟨b1, b2⟩ := M_wid h R hl hx
      obtain ⟨d1, d2⟩ := M_wid h R hl hy
      have w1 := (wf.2.2.2.2.2.1 i x hx).w
      have w2 := (wf.2.2.2.2.2.1 j y hy).w
      refine ⟨k17 h, _, p1042 h, k1042 h, b1, d1, ?_⟩
      rw [b2, d2]
      refine ⟨fun z => ?_, fun z => ?_⟩
      · simp only [if_neg (show ¬ x.2.1 = y.2.1 from fun w => z (by rw [w]))] at hQ
        exact M_ref h W.2.1 R 3 hQ
      · simp only [if_pos ((nI_eq (by omega) (by omega)).mp z)] at hQ
        exact M_made h R W (s := 5) (by decide) (Or.inr ⟨by decide, Or.inr ⟨by decide, i, x, rfl, hx, Or.inr ⟨j, y, rfl, hy, rfl⟩⟩⟩) hQ
theorem M_most {V : Vt} (h0 : Sh ad ct σ) (R0 : RM ad σ V) (W : WFv V) (o1 o2 : Int32) {Q : Int32 → St → Prop} (hQ0 : ∀ σ', Fr ct SM σ σ' → RM ad σ' (eitV 7 o1 o2 V).2 → Q (eitV 7 o1 o2 V).1 σ') : wX16_most (ad 17 0 0) o1 o2 σ Q := by
  have wf := W.1.wf
  have hl := wf.2.2.2.2.1
  have ft := fr17 h0 1024 0
  have R := rmth h0 W.2.1 R0 0
  have h := h0.frM ft
  unfold wX16_most wX16_most_0
  generalize uFi σ 1024 (ad 17 0 0) 0 = τ at R h ft
  have hQ : ∀ σ', Fr ct SM τ σ' → RM ad σ' (eitV 7 o1 o2 V).2 → Q (eitV 7 o1 o2 V).1 σ' := fun σ' f r => hQ0 σ' (ft.tr1 f) r
  unfold eitV at hQ
  refine ⟨k17 h0, M_isQ h R hl o1 (fun e => ⟨fun _ => ⟨k17 h, ?_⟩, fun z => absurd rfl z⟩) (fun i x hi e hx ex => ⟨fun z => absurd z (by decide), fun _ => ⟨k17 h, ?_⟩⟩)⟩
  · rw [e] at hQ; exact M_ref h W.2.1 R 1 hQ
  · subst e
    rw [ex] at hQ
    refine M_isQ h R hl o2 (fun e => ⟨fun z => absurd rfl z, fun _ => ⟨k17 h, ?_⟩⟩) (fun j y hj e hy ey => ⟨fun _ => ?_, fun z => absurd z (by decide)⟩)
    · rw [e] at hQ; exact M_ref h W.2.1 R 1 hQ
    · subst e
      rw [ey] at hQ
      obtain ⟨b1, b2⟩ := M_wid h R hl hx
      obtain ⟨d1, d2⟩ := M_wid h R hl hy
      have w1 := (wf.2.2.2.2.2.1 i x hx).w
      have w2 := (wf.2.2.2.2.2.1 j y hy).w
      refine ⟨k17 h, _, p1042 h, k1042 h, b1, d1, ?_⟩
      rw [b2, d2]
      refine ⟨fun z => ?_, fun z => ?_⟩
      · simp only [if_neg (show ¬ x.2.1 = y.2.1 from fun w => z (by rw [w]))] at hQ
        exact M_ref h W.2.1 R 3 hQ
      · simp only [if_pos ((nI_eq (by omega) (by omega)).mp z)] at hQ
        exact M_made h R W (s := 7) (by decide) (Or.inr ⟨by decide, Or.inr ⟨by decide, i, x, rfl, hx, Or.inr ⟨j, y, rfl, hy, rfl⟩⟩⟩) hQ
theorem M_close {V : Vt} (h0 : Sh ad ct σ) (R0 : RM ad σ V) (W : WFv V) (q : Int32) {Q : Int32 → St → Prop} (hQ0 : ∀ σ', Fr ct SM σ σ' → RM ad σ' (cloV q V).2 → Q (cloV q V).1 σ') : wX16_close (ad 17 0 0) q σ Q := by
  have wf := W.1.wf
  have hl := wf.2.2.2.2.1
  have ft := fr17 h0 1024 0
  have R := rmth h0 W.2.1 R0 0
  have h := h0.frM ft
  unfold wX16_close wX16_close_0
  generalize uFi σ 1024 (ad 17 0 0) 0 = τ at R h ft
  have hQ : ∀ σ', Fr ct SM τ σ' → RM ad σ' (cloV q V).2 → Q (cloV q V).1 σ' := fun σ' f r => hQ0 σ' (ft.tr1 f) r
  unfold cloV at hQ
  refine ⟨k17 h0, M_isQ h R hl q (fun e => ⟨fun z => absurd rfl z, fun _ => ⟨k17 h, ?_⟩⟩) (fun i x hi e hx ex => ⟨fun _ => ?_, fun z => absurd z (by decide)⟩)⟩
  · rw [e] at hQ; exact M_ref h W.2.1 R 1 hQ
  · subst e
    rw [ex] at hQ
    obtain ⟨b1, b2⟩ := M_wid h R hl hx
    have w1 := (wf.2.2.2.2.2.1 i x hx).w
    refine ⟨k17 h, _, p1042 h, k1042 h, b1, ?_⟩
    rw [b2]
    refine ⟨fun z => ?_, fun z => ?_⟩
    · simp only [if_neg (show ¬ x.2.1 = 2 from fun w => z (by rw [w]; rfl))] at hQ
      exact M_ref h W.2.1 R 3 hQ
    · simp only [if_pos ((nI_eq (b := 2) (by omega) (by omega)).mp z)] at hQ
      exact M_made h R W (s := 6) (pl := 2) (c := true) (by decide) (Or.inl ⟨rfl, rfl⟩) hQ
theorem M_kind {V : Vt} (h0 : Sh ad ct σ) (R0 : RM ad σ V) (W : WFv V) (q wh : Int32) {Q : Int32 → St → Prop} (hQ0 : ∀ σ', Fr ct SM σ σ' → RM ad σ' V → Q (kinV q wh V) σ') : wX16_kind (ad 17 0 0) q wh σ Q := by
  have hl := W.1.wf.2.2.2.2.1
  have ft := fr17 h0 1024 0
  have R := rmth h0 W.2.1 R0 0
  have h := h0.frM ft
  unfold wX16_kind wX16_kind_0
  generalize uFi σ 1024 (ad 17 0 0) 0 = τ at R h ft
  have hQ := hQ0 τ ft R
  unfold kinV at hQ
  refine ⟨k17 h0, M_isQ h R hl q (fun e => ⟨fun z => absurd rfl z, fun _ => ?_⟩) (fun i x hi e hx ex => ⟨fun _ => ?_, fun z => absurd z (by decide)⟩)⟩
  · rw [e] at hQ; exact hQ
  · subst e
    rw [ex] at hQ
    simp only at hQ
    obtain ⟨g1, g2, g3, g4, g5, g6, g7, g8, g9⟩ := R.2.2.1.2 i x hx
    have vi : vp_in (nI i) 40 := vp_in_nI (by omega) (by decide)
    rw [show ix (nI i) = i from nI_clamp (by omega)]
    refine ⟨fun z => ⟨k17 h, _, p1039 h, k1039 h, by rw [l1039 h]; exact vi, ?_⟩, fun z => ⟨k17 h, _, p1042 h, k1042 h, by rw [l1042 h]; exact vi, ?_⟩, fun z => ⟨k17 h, _, p1040 h, k1040 h, by rw [l1040 h]; exact vi, ?_⟩, fun z => ⟨k17 h, _, p1041 h, k1041 h, by rw [l1041 h]; exact vi, ?_⟩, fun z => ⟨k17 h, _, p1047 h, k1047 h, by rw [l1047 h]; exact vi, ?_⟩, fun z0 z1 z2 z3 z4 => ?_⟩
    · subst z; rw [g1]; exact hQ
    · subst z; rw [g2]; exact hQ
    · subst z; rw [g3]; exact hQ
    · subst z; rw [g4]; exact hQ
    · subst z; rw [g5]
      have hQ : Q (zB x.2.2.2.2.1) τ := hQ
      cases e : x.2.2.2.2.1 with
      | false => rw [e] at hQ; exact ⟨fun _ => hQ, fun w => absurd rfl w⟩
      | true => rw [e] at hQ; exact ⟨fun w => absurd w (by decide), fun _ => hQ⟩
    · rw [if_neg z0, if_neg z1, if_neg z2, if_neg z3, if_neg z4] at hQ; exact hQ
end M6
