section K7
variable {ad : Ad} {ct : Ct} {σ : St}
theorem C_one {V : Vt} (h : Sh ad ct σ) (R : RC ad ct σ V) (hl : V.1.2.2.1.length ≤ 40) {i : Nat} {x : Qst} (hx : V.1.2.2.1[i]? = some x) (s pl : Nat) {Q : Nat → St → Prop} (hQ : ∀ b σ', nQ ct σ σ' b (s, pl, nI i, -1, x.2.2.2.2.1, fcell 0 0 0 0) → Q b σ') : wX11_oneQuestion 2 10 (ad 12 0 0) (nI s) (nI i) (nI pl) σ Q := by
  refine ⟨by decide, by decide, fun b hb => ?_⟩
  have fb : Fr ct (fun _ => False) σ (nO σ b 10) := Fr.rf.nO b 10 hb
  have hb1 := h.fr fb id id id
  obtain ⟨v1, a, v2, v3⟩ := C_qat hb1 (R.frM h (fb.mono (fun _ q => q.elim))) hl hx
  refine ⟨k12 hb1, _, p705 hb1, k705 hb1, v1, a, v2, v3.1, 1, 4, by decide, by decide, ?_⟩
  rw [v3.2.2.2.2.2.2.1]
  exact C_newQ h hb (by decide) (by decide) (fun σ1 q1 => ⟨by decide, by decide, hQ b σ1 q1⟩)
theorem C_two {V : Vt} (h : Sh ad ct σ) (R : RC ad ct σ V) (hl : V.1.2.2.1.length ≤ 40) {i j : Nat} {x y : Qst} (hx : V.1.2.2.1[i]? = some x) (hy : V.1.2.2.1[j]? = some y) (s pl : Nat) {Q : Nat → St → Prop} (hQ : ∀ b σ', nQ ct σ σ' b (s, pl, nI i, nI j, x.2.2.2.2.1 || y.2.2.2.2.1, fcell 0 0 0 0) → Q b σ') : wX11_twoQuestions 2 10 (ad 12 0 0) (nI s) (nI i) (nI j) (nI pl) σ Q := by
  obtain ⟨v1, a, v2, v3⟩ := C_qat h R hl hx
  obtain ⟨u1, b, u2, u3⟩ := C_qat h R hl hy
  have key : ∀ c : Bool, c = (x.2.2.2.2.1 || y.2.2.2.2.1) → wX11_twoQuestions_29 2 10 Q 0 0 (nI s) (nI i) (nI j) (nI pl) (zB c) σ := fun c hc => by
    refine ⟨by decide, by decide, fun b hb => ⟨1, 4, by decide, by decide, ?_⟩⟩
    rw [hc]
    exact C_newQ h hb (by decide) (by decide) (fun σ1 q1 => ⟨by decide, by decide, hQ b σ1 q1⟩)
  refine ⟨k12 h, _, p705 h, k705 h, v1, a, v2, v3.1, ?_⟩
  rw [v3.2.2.2.2.2.2.1]
  cases ex : x.2.2.2.2.1 with
  | true => exact ⟨fun _ => key true (by rw [ex]; rfl), fun c => absurd c (by decide)⟩
  | false =>
    refine ⟨fun c => absurd rfl c, fun _ => ⟨u1, b, u2, u3.1, ?_⟩⟩
    rw [u3.2.2.2.2.2.2.1]
    cases ey : y.2.2.2.2.1 with
    | true => exact ⟨fun c => absurd c (by decide), fun _ => key true (by rw [ex, ey]; rfl)⟩
    | false => exact ⟨fun _ => key false (by rw [ex, ey]; rfl), fun c => absurd rfl c⟩
theorem C_pick {V : Vt} (h : Sh ad ct σ) (R : RC ad ct σ V) (W : WFv V) (q pl v : Int32) {Q : Int32 → St → Prop} (hQ : ∀ σ', Fr ct SC σ σ' → RC ad ct σ' (picV q pl v V).2 → Q (picV q pl v V).1 σ') : wX11_pick 10 100 (ad 12 0 0) q pl v σ Q := by
  have hl := W.1.wf.2.2.2.2.1
  refine ⟨by decide, by decide, k12 h, C_isQ h R hl q (fun e => ⟨fun z => absurd rfl z, fun _ => ?_⟩) (fun i x hi e hx ex => ⟨fun _ => ⟨by decide, by decide, k12 h, ?_⟩, fun z => absurd z (by decide)⟩)⟩
  · unfold picV at hQ; rw [e] at hQ
    exact ⟨by decide, by decide, k12 h, C_ref h R 1 (fun σ' f r => ⟨by decide, by decide, hQ σ' f r⟩)⟩
  · subst e
    unfold picV at hQ; rw [ex] at hQ
    refine C_hasP h R hl hx pl (fun c => ⟨fun z => absurd rfl z, fun _ => ?_⟩) (fun c => ⟨fun _ => ?_, fun z => absurd z (by decide)⟩)
    · simp only [if_pos c] at hQ
      exact ⟨by decide, by decide, k12 h, C_ref h R 2 (fun σ' f r => ⟨by decide, by decide, hQ σ' f r⟩)⟩
    · simp only [if_neg c] at hQ
      obtain ⟨v1, a, v2, v3⟩ := C_qat h R hl hx
      refine ⟨k12 h, _, p705 h, k705 h, v1, a, v2, v3.1, 2, 10, by decide, by decide, ?_⟩
      rw [v3.2.2.2.1]
      exact C_one h R hl hx 1 _ (fun b σ1 q1 => ⟨by decide, by decide, C_tell q1 pl v (fun σ2 q2 => ⟨1, 5, by decide, by decide, C_askedN h R W q2 (by decide) (by decide) (fun σ' f r => ⟨by decide, by decide, hQ σ' f r⟩)⟩)⟩)
theorem C_like {V : Vt} (h : Sh ad ct σ) (R : RC ad ct σ V) (W : WFv V) (q p1 p2 : Int32) {Q : Int32 → St → Prop} (hQ : ∀ σ', Fr ct SC σ σ' → RC ad ct σ' (likV q p1 p2 V).2 → Q (likV q p1 p2 V).1 σ') : wX11_like 10 100 (ad 12 0 0) q p1 p2 σ Q := by
  have hl := W.1.wf.2.2.2.2.1
  refine ⟨by decide, by decide, k12 h, C_isQ h R hl q (fun e => ⟨fun z => absurd rfl z, fun _ => ?_⟩) (fun i x hi e hx ex => ⟨fun _ => ⟨by decide, by decide, k12 h, ?_⟩, fun z => absurd z (by decide)⟩)⟩
  · unfold likV at hQ; rw [e] at hQ
    exact ⟨by decide, by decide, k12 h, C_ref h R 1 (fun σ' f r => ⟨by decide, by decide, hQ σ' f r⟩)⟩
  · subst e
    unfold likV at hQ; rw [ex] at hQ
    have bad : (badP p1 x.2.1 ∨ badP p2 x.2.1) → wX11_like_32 10 100 Q 0 0 (ad 12 0 0) σ := fun c => by
      simp only [if_pos c] at hQ
      exact ⟨by decide, by decide, k12 h, C_ref h R 2 (fun σ' f r => ⟨by decide, by decide, hQ σ' f r⟩)⟩
    refine C_hasP h R hl hx p1 (fun c => ⟨fun _ => bad (Or.inl c), fun z => absurd rfl z⟩) (fun c => ⟨fun z => absurd z (by decide), fun _ => ⟨by decide, by decide, k12 h, ?_⟩⟩)
    refine C_hasP h R hl hx p2 (fun d => ⟨fun z => absurd rfl z, fun _ => bad (Or.inr d)⟩) (fun d => ⟨fun _ => ?_, fun z => absurd z (by decide)⟩)
    simp only [if_neg (show ¬ (badP p1 x.2.1 ∨ badP p2 x.2.1) from fun z => z.elim c d)] at hQ
    obtain ⟨v1, a, v2, v3⟩ := C_qat h R hl hx
    refine ⟨k12 h, _, p705 h, k705 h, v1, a, v2, v3.1, 2, 10, by decide, by decide, ?_⟩
    rw [v3.2.2.2.1]
    exact C_one h R hl hx 2 _ (fun b σ1 q1 => ⟨by decide, by decide, C_tell q1 p1 p2 (fun σ2 q2 => ⟨1, 5, by decide, by decide, C_askedN h R W q2 (by decide) (by decide) (fun σ' f r => ⟨by decide, by decide, hQ σ' f r⟩)⟩)⟩)
theorem C_cut {V : Vt} (h : Sh ad ct σ) (R : RC ad ct σ V) (W : WFv V) (q n a b c d : Int32) {Q : Int32 → St → Prop} (hQ : ∀ σ', Fr ct SC σ σ' → RC ad ct σ' (cutV q n a b c d V).2 → Q (cutV q n a b c d V).1 σ') : wX11_cut 10 100 (ad 12 0 0) q n a b c d σ Q := by
  have hl := W.1.wf.2.2.2.2.1
  refine ⟨by decide, by decide, k12 h, C_isQ h R hl q (fun e => ⟨fun z => absurd rfl z, fun _ => ?_⟩) (fun i x hi e hx ex => ⟨fun _ => ?_, fun z => absurd z (by decide)⟩)⟩
  · unfold cutV at hQ; rw [e] at hQ
    exact ⟨by decide, by decide, k12 h, C_ref h R 1 (fun σ' f r => ⟨by decide, by decide, hQ σ' f r⟩)⟩
  · subst e
    unfold cutV at hQ; rw [ex] at hQ
    have bad : (n < 1 ∨ 4 < n ∨ badP a x.2.1 ∨ (¬ n ≤ 1 ∧ badP b x.2.1) ∨ (¬ n ≤ 2 ∧ badP c x.2.1) ∨ (¬ n ≤ 3 ∧ badP d x.2.1)) → wX11_cut_78 10 100 Q 0 0 (ad 12 0 0) σ := fun z => by
      simp only [if_pos z] at hQ
      exact ⟨by decide, by decide, k12 h, C_ref h R 2 (fun σ' f r => ⟨by decide, by decide, hQ σ' f r⟩)⟩
    have good : ¬ (n < 1 ∨ 4 < n ∨ badP a x.2.1 ∨ (¬ n ≤ 1 ∧ badP b x.2.1) ∨ (¬ n ≤ 2 ∧ badP c x.2.1) ∨ (¬ n ≤ 3 ∧ badP d x.2.1)) → wX11_cut_84 10 100 Q 0 0 (ad 12 0 0) (nI i) n a b c d σ := fun z => by
      simp only [if_neg z] at hQ
      have n0 : ¬ n < 0 := fun w => z (Or.inl (by
        rw [Int32.lt_iff_toInt_lt] at w ⊢
        have : (0 : Int32).toInt = 0 := by decide
        have : (1 : Int32).toInt = 1 := by decide
        omega))
      obtain ⟨m, hm, rfl⟩ := nI_of n0
      rw [show ix (nI m) = m from nI_clamp hm] at hQ
      refine ⟨2, 10, by decide, by decide, k12 h, C_one h R hl hx 3 m (fun bb σ1 q1 => ⟨by decide, by decide, C_tell q1 a b (fun σ2 q2 => ⟨by decide, by decide, C_tellM q2 c d (fun σ3 q3 => ⟨1, 5, by decide, by decide, C_askedN h R W q3 (by decide) (by decide) (fun σ' f r => ⟨by decide, by decide, hQ σ' f r⟩)⟩)⟩)⟩)⟩
    refine ⟨fun c1 => bad (Or.inl c1), fun c1 => ⟨fun c2 => bad (Or.inr (Or.inl c2)), fun c2 => ⟨by decide, by decide, k12 h, ?_⟩⟩⟩
    refine C_hasP h R hl hx a (fun z => ⟨fun _ => bad (Or.inr (Or.inr (Or.inl z))), fun z => absurd rfl z⟩) (fun za => ⟨fun z => absurd z (by decide), fun _ => ?_⟩)
    have s63 : (n ≤ 1 ∨ ¬ badP b x.2.1) → (n ≤ 2 ∨ ¬ badP c x.2.1) → wX11_cut_63 10 100 Q 0 0 (ad 12 0 0) (nI i) n a b c d σ := fun zb zc => by
      refine ⟨fun z => good ?_, fun z => ⟨by decide, by decide, k12 h, C_hasP h R hl hx d (fun w => ⟨fun q => absurd rfl q, fun _ => bad (Or.inr (Or.inr (Or.inr (Or.inr (Or.inr ⟨z, w⟩)))))⟩) (fun w => ⟨fun _ => good ?_, fun q => absurd q (by decide)⟩)⟩⟩
      · rintro (q | q | q | q | q | q)
        · exact c1 q
        · exact c2 q
        · exact za q
        · exact zb.elim q.1 (fun w => w q.2)
        · exact zc.elim q.1 (fun w => w q.2)
        · exact q.1 z
      · rintro (q | q | q | q | q | q)
        · exact c1 q
        · exact c2 q
        · exact za q
        · exact zb.elim q.1 (fun w => w q.2)
        · exact zc.elim q.1 (fun w => w q.2)
        · exact w q.2
    have s48 : (n ≤ 1 ∨ ¬ badP b x.2.1) → wX11_cut_48 10 100 Q 0 0 (ad 12 0 0) (nI i) n a b c d σ := fun zb => by
      refine ⟨fun z => s63 zb (Or.inl z), fun z => ⟨by decide, by decide, k12 h, C_hasP h R hl hx c (fun w => ⟨fun _ => bad (Or.inr (Or.inr (Or.inr (Or.inr (Or.inl ⟨z, w⟩))))), fun q => absurd rfl q⟩) (fun w => ⟨fun q => absurd q (by decide), fun _ => s63 zb (Or.inr w)⟩)⟩⟩
    refine ⟨fun z => s48 (Or.inl z), fun z => ⟨by decide, by decide, k12 h, C_hasP h R hl hx b (fun w => ⟨fun _ => bad (Or.inr (Or.inr (Or.inr (Or.inl ⟨z, w⟩)))), fun q => absurd rfl q⟩) (fun w => ⟨fun q => absurd q (by decide), fun _ => s48 (Or.inr w)⟩)⟩⟩
theorem QOK.w {c : Co} {i : Nat} {q : Qst} (h : QOK c i q) : q.2.1 ≤ 6 := h.2.2.1
theorem C_pair {V : Vt} (h : Sh ad ct σ) (R : RC ad ct σ V) (W : WFv V) (o1 o2 a b : Int32) {Q : Int32 → St → Prop} (hQ : ∀ σ', Fr ct SC σ σ' → RC ad ct σ' (paiV o1 o2 a b V).2 → Q (paiV o1 o2 a b V).1 σ') : wX11_pair 10 100 (ad 12 0 0) o1 o2 a b σ Q := by
  have wf := W.1.wf
  have hl := wf.2.2.2.2.1
  unfold paiV at hQ
  refine ⟨by decide, by decide, k12 h, C_isQ h R hl o1 (fun e => ⟨fun _ => ?_, fun z => absurd rfl z⟩) (fun i x hi e hx ex => ⟨fun z => absurd z (by decide), fun _ => ⟨by decide, by decide, k12 h, ?_⟩⟩)⟩
  · rw [e] at hQ
    exact ⟨by decide, by decide, k12 h, C_ref h R 1 (fun σ' f r => ⟨by decide, by decide, hQ σ' f r⟩)⟩
  · subst e
    rw [ex] at hQ
    refine C_isQ h R hl o2 (fun e => ⟨fun z => absurd rfl z, fun _ => ?_⟩) (fun j y hj e hy ey => ⟨fun _ => ⟨by decide, by decide, k12 h, ?_⟩, fun z => absurd z (by decide)⟩)
    · rw [e] at hQ
      exact ⟨by decide, by decide, k12 h, C_ref h R 1 (fun σ' f r => ⟨by decide, by decide, hQ σ' f r⟩)⟩
    · subst e
      rw [ey] at hQ
      have bad : (badP a x.2.1 ∨ badP b y.2.1) → wX11_pair_41 10 100 Q 0 0 (ad 12 0 0) σ := fun c => by
        simp only [if_pos c] at hQ
        exact ⟨by decide, by decide, k12 h, C_ref h R 2 (fun σ' f r => ⟨by decide, by decide, hQ σ' f r⟩)⟩
      refine C_hasP h R hl hx a (fun c => ⟨fun _ => bad (Or.inl c), fun z => absurd rfl z⟩) (fun c => ⟨fun z => absurd z (by decide), fun _ => ⟨by decide, by decide, k12 h, ?_⟩⟩)
      refine C_hasP h R hl hy b (fun d => ⟨fun z => absurd rfl z, fun _ => bad (Or.inr d)⟩) (fun d => ⟨fun _ => ?_, fun z => absurd z (by decide)⟩)
      simp only [if_neg (show ¬ (badP a x.2.1 ∨ badP b y.2.1) from fun z => z.elim c d)] at hQ
      obtain ⟨v1, a1, v2, v3⟩ := C_qat h R hl hx
      obtain ⟨u1, a2, u2, u3⟩ := C_qat h R hl hy
      have w1 := (wf.2.2.2.2.2.1 i x hx).w
      have w2 := (wf.2.2.2.2.2.1 j y hy).w
      refine ⟨k12 h, _, p705 h, k705 h, v1, a1, v2, v3.1, u1, a2, u2, u3.1, ?_⟩
      rw [v3.2.2.2.1, u3.2.2.2.1]
      rw [nI_add]
      refine pk_le (x.2.1 + y.2.1) 6 (fun z => ⟨2, 10, by decide, by decide, ?_⟩) (fun z => ⟨by decide, by decide, ?_⟩)
      · simp only [if_neg (show ¬ 6 < x.2.1 + y.2.1 by omega)] at hQ
        exact C_two h R hl hx hy 4 _ (fun b1 σ1 q1 => ⟨by decide, by decide, C_tell q1 a b (fun σ2 q2 => ⟨1, 5, by decide, by decide, C_askedN h R W q2 (by decide) (by decide) (fun σ' f r => ⟨by decide, by decide, hQ σ' f r⟩)⟩)⟩)
      · simp only [if_pos (show 6 < x.2.1 + y.2.1 by omega)] at hQ
        exact C_ref h R 3 (fun σ' f r => ⟨by decide, by decide, hQ σ' f r⟩)
theorem C_asMany {V : Vt} (h : Sh ad ct σ) (R : RC ad ct σ V) (W : WFv V) (s : Nat) (o1 o2 : Int32) {Q : Int32 → St → Prop} (hQ : ∀ σ', Fr ct SC σ σ' → RC ad ct σ' (eitV s o1 o2 V).2 → Q (eitV s o1 o2 V).1 σ') : wX11_ofAsManyPlaces 10 100 (ad 12 0 0) (nI s) o1 o2 σ Q := by
  have wf := W.1.wf
  have hl := wf.2.2.2.2.1
  unfold eitV at hQ
  refine ⟨by decide, by decide, k12 h, C_isQ h R hl o1 (fun e => ⟨fun _ => ?_, fun z => absurd rfl z⟩) (fun i x hi e hx ex => ⟨fun z => absurd z (by decide), fun _ => ⟨by decide, by decide, k12 h, ?_⟩⟩)⟩
  · rw [e] at hQ
    exact ⟨by decide, by decide, k12 h, C_ref h R 1 (fun σ' f r => ⟨by decide, by decide, hQ σ' f r⟩)⟩
  · subst e
    rw [ex] at hQ
    refine C_isQ h R hl o2 (fun e => ⟨fun z => absurd rfl z, fun _ => ?_⟩) (fun j y hj e hy ey => ⟨fun _ => ?_, fun z => absurd z (by decide)⟩)
    · rw [e] at hQ
      exact ⟨by decide, by decide, k12 h, C_ref h R 1 (fun σ' f r => ⟨by decide, by decide, hQ σ' f r⟩)⟩
    · subst e
      rw [ey] at hQ
      obtain ⟨v1, a1, v2, v3⟩ := C_qat h R hl hx
      obtain ⟨u1, a2, u2, u3⟩ := C_qat h R hl hy
      have w1 := (wf.2.2.2.2.2.1 i x hx).w
      have w2 := (wf.2.2.2.2.2.1 j y hy).w
      refine ⟨k12 h, _, p705 h, k705 h, v1, a1, v2, v3.1, u1, a2, u2, u3.1, ?_⟩
      rw [v3.2.2.2.1, u3.2.2.2.1]
      refine ⟨fun z => ⟨2, 10, by decide, by decide, ?_⟩, fun z => ⟨by decide, by decide, ?_⟩⟩
      · simp only [if_pos ((nI_eq (by omega) (by omega)).mp z)] at hQ
        exact C_two h R hl hx hy s _ (fun b1 σ1 q1 => ⟨1, 5, by decide, by decide, C_askedN h R W q1 (by decide) (by decide) (fun σ' f r => ⟨by decide, by decide, hQ σ' f r⟩)⟩)
      · simp only [if_neg (show ¬ x.2.1 = y.2.1 from fun w => z (by rw [w]))] at hQ
        exact C_ref h R 3 (fun σ' f r => ⟨by decide, by decide, hQ σ' f r⟩)
theorem C_either {V : Vt} (h : Sh ad ct σ) (R : RC ad ct σ V) (W : WFv V) (o1 o2 : Int32) {Q : Int32 → St → Prop} (hQ : ∀ σ', Fr ct SC σ σ' → RC ad ct σ' (eitV 5 o1 o2 V).2 → Q (eitV 5 o1 o2 V).1 σ') : wX11_either 10 100 (ad 12 0 0) o1 o2 σ Q :=
  ⟨10, 100, by decide, by decide, k12 h, C_asMany h R W 5 o1 o2 (fun σ' f r => ⟨by decide, by decide, hQ σ' f r⟩)⟩
theorem C_most {V : Vt} (h : Sh ad ct σ) (R : RC ad ct σ V) (W : WFv V) (o1 o2 : Int32) {Q : Int32 → St → Prop} (hQ : ∀ σ', Fr ct SC σ σ' → RC ad ct σ' (eitV 7 o1 o2 V).2 → Q (eitV 7 o1 o2 V).1 σ') : wX11_most 10 100 (ad 12 0 0) o1 o2 σ Q :=
  ⟨10, 100, by decide, by decide, k12 h, C_asMany h R W 7 o1 o2 (fun σ' f r => ⟨by decide, by decide, hQ σ' f r⟩)⟩
theorem C_close {V : Vt} (h : Sh ad ct σ) (R : RC ad ct σ V) (W : WFv V) (q : Int32) {Q : Int32 → St → Prop} (hQ : ∀ σ', Fr ct SC σ σ' → RC ad ct σ' (cloV q V).2 → Q (cloV q V).1 σ') : wX11_close 10 100 (ad 12 0 0) q σ Q := by
  have wf := W.1.wf
  have hl := wf.2.2.2.2.1
  unfold cloV at hQ
  refine ⟨by decide, by decide, k12 h, C_isQ h R hl q (fun e => ⟨fun z => absurd rfl z, fun _ => ?_⟩) (fun i x hi e hx ex => ⟨fun _ => ?_, fun z => absurd z (by decide)⟩)⟩
  · rw [e] at hQ
    exact ⟨by decide, by decide, k12 h, C_ref h R 1 (fun σ' f r => ⟨by decide, by decide, hQ σ' f r⟩)⟩
  · subst e
    rw [ex] at hQ
    obtain ⟨v1, a1, v2, v3⟩ := C_qat h R hl hx
    have w1 := (wf.2.2.2.2.2.1 i x hx).w
    refine ⟨k12 h, _, p705 h, k705 h, v1, a1, v2, v3.1, ?_⟩
    rw [v3.2.2.2.1]
    refine ⟨fun z => ⟨by decide, by decide, fun b hb => ⟨1, 4, by decide, by decide, ?_⟩⟩, fun z => ⟨by decide, by decide, ?_⟩⟩
    · simp only [if_pos ((nI_eq (b := 2) (by omega) (by omega)).mp z)] at hQ
      exact C_newQ h hb (s := 6) (pl := 2) (c := true) (by decide) (by decide) (fun σ1 q1 => ⟨1, 5, by decide, by decide, C_askedN h R W q1 (by decide) (by decide) (fun σ' f r => ⟨by decide, by decide, hQ σ' f r⟩)⟩)
    · simp only [if_neg (show ¬ x.2.1 = 2 from fun w => z (by rw [w]; rfl))] at hQ
      exact C_ref h R 3 (fun σ' f r => ⟨by decide, by decide, hQ σ' f r⟩)
theorem C_kind {V : Vt} (h : Sh ad ct σ) (R : RC ad ct σ V) (W : WFv V) (q wh : Int32) {Q : Int32 → St → Prop} (hQ : Q (kinV q wh V) σ) : wX11_kind (ad 12 0 0) q wh σ Q := by
  have wf := W.1.wf
  have hl := wf.2.2.2.2.1
  unfold kinV at hQ
  refine ⟨k12 h, C_isQ h R hl q (fun e => ⟨fun z => absurd rfl z, fun _ => ?_⟩) (fun i x hi e hx ex => ⟨fun _ => ?_, fun z => absurd z (by decide)⟩)⟩
  · rw [e] at hQ; exact hQ
  · subst e
    rw [ex] at hQ
    simp only at hQ
    obtain ⟨v1, a1, v2, v3⟩ := C_qat h R hl hx
    refine ⟨k12 h, _, p705 h, k705 h, v1, a1, v2, fun z => ⟨v3.1, ?_⟩, fun z => ⟨v3.1, ?_⟩, fun z => ⟨v3.1, ?_⟩, fun z => ⟨v3.1, ?_⟩, fun z => ⟨v3.1, ?_⟩, fun z0 z1 z2 z3 z4 => ?_⟩
    · subst z; rw [v3.2.2.1]; exact hQ
    · subst z; rw [v3.2.2.2.1]; exact hQ
    · subst z; rw [v3.2.2.2.2.1]; exact hQ
    · subst z; rw [v3.2.2.2.2.2.1]; exact hQ
    · subst z; rw [v3.2.2.2.2.2.2.1]
      have hQ : Q (zB x.2.2.2.2.1) σ := hQ
      cases e : x.2.2.2.2.1 with
      | false => rw [e] at hQ; exact ⟨fun _ => hQ, fun w => absurd rfl w⟩
      | true => rw [e] at hQ; exact ⟨fun w => absurd w (by decide), fun _ => hQ⟩
    · rw [if_neg z0, if_neg z1, if_neg z2, if_neg z3, if_neg z4] at hQ; exact hQ
end K7
