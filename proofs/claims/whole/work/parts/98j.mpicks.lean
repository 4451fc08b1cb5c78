/-! the reference: PICK, LIKE, MOST -/
section MS
variable {ad : Ad} {ct : Ct} {σ : St}
abbrev SX (k : Nat) : Nat × Nat → Prop := fun p => SS k p ∨ SS 41 p ∨ p = (17, 0) ∨ p = (1053, 0) ∨ p = (1055, 0) ∨ p = (1056, 0)
theorem SX_SM (k : Nat) : ∀ p, SX k p → SM p := fun p q => by
  rcases q with q | q | q | q | q | q
  · exact SS_SM k p q
  · exact SS_SM 41 p q
  · subst q; decide
  · subst q; decide
  · subst q; decide
  · subst q; decide
def WkH (ad : Ad) (ct : Ct) (σ σ' : St) (k : Nat) : Prop := Fr ct (SX k) σ σ' ∧ ∀ g, g ≠ 1054 → zFi σ' g (ad 17 0 0) = zFi σ g (ad 17 0 0)
theorem WkH.rf {k : Nat} : WkH ad ct σ σ k := ⟨Fr.rf, fun _ _ => rfl⟩
theorem WkH.tr {k : Nat} {σ1 σ2 : St} (a : WkH ad ct σ σ1 k) (b : WkH ad ct σ1 σ2 k) : WkH ad ct σ σ2 k := ⟨a.1.tr1 b.1, fun g hg => (b.2 g hg).trans (a.2 g hg)⟩
theorem WkF.x {k : Nat} {σ1 : St} (a : WkF ad ct σ σ1 k) : WkH ad ct σ σ1 k := ⟨a.1.mono (fun p q => by rcases q with q | q | q; exact Or.inl q; exact Or.inr (Or.inr (Or.inl q)); exact Or.inr (Or.inr (Or.inr (Or.inl q)))), a.2⟩
theorem WkH.of (h : Sh ad ct σ) {k : Nat} {σ1 : St} {S : Nat × Nat → Prop} (f : Fr ct S σ σ1) (hS : ∀ p, S p → SX k p) (n : ¬ S (17, 0)) : WkH ad ct σ σ1 k := ⟨f.mono hS, fun g _ => f.fi (k17 h) (by decide) (c17 h) n g⟩
theorem Sh.wx {k : Nat} {σ1 : St} (h : Sh ad ct σ) (f : WkH ad ct σ σ1 k) : Sh ad ct σ1 := h.frM (f.1.mono (SX_SM k))
theorem WkH.mr (h : Sh ad ct σ) {k : Nat} {σ1 : St} (f : WkH ad ct σ σ1 k) {s w : Nat} {cl : Bool} {L : List Ans} (hs : s < 41) (n : s ≠ k) (q : MR ad σ s L w cl) : MR ad σ1 s L w cl := q.ss h f.1 (by omega) (fun g hg z => by
  simp only [SX, SS, Prod.mk.injEq] at z
  omega)
/-- the question of this number, as the reference holds it -/
def QA (ad : Ad) (σ : St) (i : Nat) (q : Qst) : Prop := zAi σ (ad 1039 0 0) i = nI q.1 ∧ zAi σ (ad 1042 0 0) i = nI q.2.1 ∧ zAi σ (ad 1040 0 0) i = q.2.2.1 ∧ zAi σ (ad 1041 0 0) i = q.2.2.2.1 ∧ zAi σ (ad 1043 0 0) i = q.2.2.2.2.2 0 ∧ zAi σ (ad 1044 0 0) i = q.2.2.2.2.2 1 ∧ zAi σ (ad 1045 0 0) i = q.2.2.2.2.2 2 ∧ zAi σ (ad 1046 0 0) i = q.2.2.2.2.2 3
theorem QA.x (h : Sh ad ct σ) {k : Nat} {σ1 : St} (f : WkH ad ct σ σ1 k) {i : Nat} {q : Qst} (z : QA ad σ i q) : QA ad σ1 i q := by
  obtain ⟨z1, z2, z3, z4, z5, z6, z7, z8⟩ := z
  have n : ∀ g, 1039 ≤ g → g ≤ 1046 → ¬ SX k (g, 0) := fun g g1 g2 y => by
    simp only [SX, SS, Prod.mk.injEq] at y
    omega
  exact ⟨(f.1.ai (k1039 h) (by decide) (c1039 h) (n _ (by decide) (by decide)) _).trans z1, (f.1.ai (k1042 h) (by decide) (c1042 h) (n _ (by decide) (by decide)) _).trans z2, (f.1.ai (k1040 h) (by decide) (c1040 h) (n _ (by decide) (by decide)) _).trans z3, (f.1.ai (k1041 h) (by decide) (c1041 h) (n _ (by decide) (by decide)) _).trans z4, (f.1.ai (k1043 h) (by decide) (c1043 h) (n _ (by decide) (by decide)) _).trans z5, (f.1.ai (k1044 h) (by decide) (c1044 h) (n _ (by decide) (by decide)) _).trans z6, (f.1.ai (k1045 h) (by decide) (c1045 h) (n _ (by decide) (by decide)) _).trans z7, (f.1.ai (k1046 h) (by decide) (c1046 h) (n _ (by decide) (by decide)) _).trans z8⟩
theorem Mfs.x (h : Sh ad ct σ) {k : Nat} {σ1 : St} (f : WkH ad ct σ σ1 k) {fs : List Fct} (q : Mfs ad σ fs) : Mfs ad σ1 fs := by
  have n : ∀ g, 1032 ≤ g → g ≤ 1038 → ¬ SX k (g, 0) := fun g g1 g2 y => by
    simp only [SX, SS, Prod.mk.injEq] at y
    omega
  exact q.cg h f.1 (n _ (by decide) (by decide)) (n _ (by decide) (by decide)) (n _ (by decide) (by decide)) (n _ (by decide) (by decide)) (n _ (by decide) (by decide)) (n _ (by decide) (by decide)) (n _ (by decide) (by decide)) (f.2 _ (by decide))
theorem RowAt.rowD {s r w : Nat} {cl : Bool} {e : Ans} (q : RowAt ad σ s r w cl e) {v : Int32} (hp : plc v w) (hw : w ≤ 6) (hr : r < 32) : vp_in ((6 : Int32) * nI r + v) 192 ∧ zAi σ (ad 898 s 0) (ix ((6 : Int32) * nI r + v)) = e.1.getD (ix v) 0 := by
  obtain ⟨a, ha, rfl⟩ := hp
  obtain ⟨x1, x2⟩ := ix6 (r := r) (k := a) hr (by omega)
  have hl := q.1
  refine ⟨by rw [x2]; exact vp_in_nI (by omega) (by decide), ?_⟩
  rw [x1, show ix (nI a) = a from nI_clamp (by omega), List.getD_eq_getElem?_getD, List.getElem?_eq_getElem (by omega)]
  exact q.2.1 a _ (List.getElem?_eq_getElem (by omega))
theorem tkn_at {fs : List Fct} {B : List Ans} (hn : (B.map (fun e => e.1)).Nodup) {e : Ans} {m : Nat} {b : Ans} (hb : B[m]? = some b) (er : b.1 = e.1) : tkn fs B e = b.2.1.any (there fs) := by
  unfold tkn
  rw [Bool.eq_iff_iff, List.any_eq_true]
  have bm := List.mem_of_getElem? hb
  constructor
  · rintro ⟨y, hy, z⟩
    rw [Bool.and_eq_true] at z
    have ey := of_decide_eq_true z.1
    have s := sel_one hn bm
    have ym : y ∈ sel B b.1 := by unfold sel; exact List.mem_filter.mpr ⟨hy, decide_eq_true (ey.trans er.symm)⟩
    rw [s, List.mem_singleton] at ym
    rw [← ym]; exact z.2
  · exact fun z => ⟨b, bm, by rw [decide_eq_true er, z]; rfl⟩
theorem tkn_no {fs : List Fct} {B : List Ans} {e : Ans} (h : ∀ i : Nat, (B.map (fun e => e.1))[i]? ≠ some e.1) : tkn fs B e = false := by
  unfold tkn
  rw [List.any_eq_false]
  intro b hb
  obtain ⟨m, hm, rfl⟩ := List.mem_iff_getElem.mp hb
  rw [decide_eq_false (fun z => h m (by rw [List.getElem?_map, List.getElem?_eq_getElem hm]; exact congrArg some z)), Bool.false_and]
  decide
/-- which rows stay, by the kind of the question -/
def styP (fs : List Fct) (q : Qst) (B : List Ans) (e : Ans) : Bool := if q.1 = 1 then pikP q.2.2.2.2.2 e else if q.1 = 2 then likP q.2.2.2.2.2 e else !tkn fs B e
theorem M_picks {V : Vt} (h : Sh ad ct σ) (hf : Mfs ad σ V.1.2.1) (hl : V.1.2.1.length ≤ 60) {qi k s1 s2 w : Nat} {cl cl1 cl2 : Bool} {A B : List Ans} {q : Qst} (hqi : qi < 40) (hk : k < 40) (hs1 : s1 < 40) (n1 : s1 ≠ k) (hq : QA ad σ qi q) (hp0 : q.1 = 1 ∨ q.1 = 2 → plc (q.2.2.2.2.2 0) w) (hp1 : q.1 = 2 → plc (q.2.2.2.2.2 1) w) (h7 : q.1 ≠ 1 → q.1 ≠ 2 → s2 < 40 ∧ s2 ≠ k ∧ q.2.2.2.1 = nI s2 ∧ MR ad σ s2 B w cl2 ∧ (B.map (fun e => e.1)).Nodup) (hq8 : q.1 < 8) (q1 : MR ad σ s1 A w cl1) (hc1 : cl1 = true → cl = true) (cA : ∀ e ∈ A, CnE e) (qo : MR ad σ k [] w cl) {Q : St → Prop} {E : St → Prop} (h1 : ∀ σ', WkH ad ct σ σ' k → MR ad σ' k (A.filter (styP V.1.2.1 q B)) w cl → Q σ') : wX16_picks (ad 17 0 0) (nI qi) (ad 15 k 0) (ad 15 s1 0) σ Q E := by
  have lA := q1.2.2.2.1
  have hw6 := q1.2.2.1
  have xq : ix (nI qi) = qi := nI_clamp (by omega)
  have key : ∀ (d i : Nat) (σ3 : St), i + d = A.length → WkH ad ct σ σ3 k → MR ad σ3 k ((A.take i).filter (styP V.1.2.1 q B)) w cl → lX16_picks_3 Q E (d + 1) (ad 17 0 0) (nI qi) (ad 15 k 0) (ad 15 s1 0) (nI i) σ3 := by
    intro d
    induction d with
    | zero =>
      intro i σ3 hi F qq
      have hi : i = A.length := by omega
      have h3 := h.wx F
      have q3 := F.mr h (by omega) n1 q1
      rw [hi, List.take_length] at qq
      refine ⟨k15 h3 (by omega), fun _ => h1 σ3 F qq, fun z => absurd ?_ z⟩
      rw [q3.1, hi]; exact nI_le (Nat.le_refl _) (by omega)
    | succ d ih =>
      intro i σ3 hi F qq
      have h3 := h.wx F
      have q3 := F.mr h (by omega) n1 q1
      obtain ⟨z1, z2, z3, z4, z5, z6, z7, z8⟩ := hq.x h F
      obtain ⟨e, he⟩ : ∃ e, A[i]? = some e := ⟨_, List.getElem?_eq_getElem (by omega)⟩
      have row := q3.2.2.2.2 i e he
      have es := take_flt (p := styP V.1.2.1 q B) he
      have fl := List.length_filter_le (styP V.1.2.1 q B) (A.take i)
      rw [List.length_take] at fl
      have i32 : i < 32 := by omega
      have go : ∀ b : Bool, styP V.1.2.1 q B e = b → wX16_picks_168 Q E (lX16_picks_3 Q E (d + 1)) (ad 17 0 0) (nI qi) (ad 15 k 0) (ad 15 s1 0) (nI i) (zB b) σ3 := fun b hb => by
        cases b with
        | false =>
          refine ⟨fun _ => ?_, fun z => absurd rfl z⟩
          rw [if_neg (by rw [hb]; decide), List.append_nil] at es
          rw [nI_1]
          exact ih (i + 1) σ3 (by omega) F (by rw [es]; exact qq)
        | true =>
          refine ⟨fun z => absurd z (by decide), fun _ => ⟨k17 h3, ?_⟩⟩
          rw [if_pos hb] at es
          refine M_copies h3 (by omega) (by omega) n1 q3 he (cA e (List.mem_of_getElem? he)) hc1 qq (fun z => by omega) (fun σ4 _ W4 q4 => ?_)
          rw [nI_1]
          exact ih (i + 1) σ4 (by omega) (F.tr W4.x) (by rw [es]; exact q4)
      refine ⟨k15 h3 (by omega), fun z => absurd z (by rw [q3.1]; exact nI_ge (by omega) (by omega)), fun _ => ⟨k17 h3, _, p1039 h3, k1039 h3, by rw [l1039 h3]; exact vp_in_nI (by omega) (by decide), ?_⟩⟩
      rw [xq, z1]
      refine ⟨fun c1 => ⟨fun c2 => ?_, fun c2 => ?_⟩, fun c1 => ?_⟩
      · have k1 : q.1 ≠ 1 := fun y => c1 (by rw [y]; rfl)
        have k2 : q.1 ≠ 2 := fun y => c2 (by rw [y]; rfl)
        obtain ⟨s2h, s2n, s2e, q2, nB⟩ := h7 k1 k2
        have q23 := F.mr h (by omega) s2n q2
        have x2 : ix (nI s2) = s2 := nI_clamp (by omega)
        have e6 : (6 : Int32) * nI i = nI (6 * i) := by rw [show (6 : Int32) = nI 6 from rfl, pk_mul]
        have st : styP V.1.2.1 q B e = !tkn V.1.2.1 B e := by unfold styP; rw [if_neg k1, if_neg k2]
        refine ⟨_, p1049 h3, _, p1041 h3, k1041 h3, by rw [l1041 h3]; exact vp_in_nI (by omega) (by decide), k1049 h3, by rw [z4, s2e, l1049 h3]; exact vp_in_nI (by omega) (by decide), _, by rw [z4, s2e, x2]; exact w1049 h3 s2h, _, p898 h3 (by omega), k15 h3 (by omega), ?_⟩
        rw [e6]
        refine S_find h3 (by omega) q23.rows row.1 (k898 h3 (by omega)) (by rw [l898 h3 (by omega)]; omega) (by rw [l898 h3 (by omega)]; decide) row.2.1 (fun hno => ⟨fun _ => go true (by rw [st, tkn_no hno]; rfl), fun y => absurd rfl y⟩) (fun m hm em _ => ⟨fun y => absurd y (nI_m1 (by rw [List.length_map] at hm; have := q23.2.2.2.1; omega)), fun _ => ?_⟩)
        rw [List.length_map] at hm
        have lB := q23.2.2.2.1
        rw [List.getElem?_map, List.getElem?_eq_getElem hm] at em
        have em : B[m].1 = e.1 := Option.some.inj em
        have tk := tkn_at (fs := V.1.2.1) nB (List.getElem?_eq_getElem hm) em
        refine ⟨k17 h3, _, p1049 h3, _, p1041 h3, k1041 h3, by rw [l1041 h3]; exact vp_in_nI (by omega) (by decide), k1049 h3, by rw [z4, s2e, l1049 h3]; exact vp_in_nI (by omega) (by decide), _, by rw [z4, s2e, x2]; exact w1049 h3 s2h, ?_⟩
        refine S_isTrue (V := V) h3 (hf.x h F) hl (by omega) (by omega) (q23.2.2.2.2 m _ (List.getElem?_eq_getElem hm)) ?_
        rw [← tk]
        refine ⟨fun y => go false ?_, fun y => go true ?_⟩
        · rw [st]
          cases z : tkn V.1.2.1 B e with
          | true => rfl
          | false => rw [z] at y; exact absurd rfl y
        · rw [st]
          cases z : tkn V.1.2.1 B e with
          | false => rfl
          | true => rw [z] at y; exact absurd y (by decide)
      · have k2 : q.1 = 2 := by
          have y := congrArg Int32.toInt c2
          rw [nI_toInt (by omega), show (2 : Int32).toInt = 2 from by decide] at y
          omega
        obtain ⟨u1, u2⟩ := row.rowD (hp0 (Or.inr k2)) hw6 i32
        obtain ⟨v1, v2⟩ := row.rowD (hp1 k2) hw6 i32
        refine ⟨_, p898 h3 (by omega), _, p1043 h3, k1043 h3, by rw [l1043 h3]; exact vp_in_nI (by omega) (by decide), k898 h3 (by omega), by rw [z5, l898 h3 (by omega)]; exact u1, _, p1044 h3, k1044 h3, by rw [l1044 h3]; exact vp_in_nI (by omega) (by decide), by rw [z6, l898 h3 (by omega)]; exact v1, ?_⟩
        rw [z5, z6, u2, v2]
        have st : styP V.1.2.1 q B e = likP q.2.2.2.2.2 e := by unfold styP; rw [if_neg (by omega), if_pos k2]
        exact ⟨fun z => go false (by rw [st]; exact decide_eq_false z), fun z => go true (by rw [st]; exact decide_eq_true z)⟩
      · have k1 : q.1 = 1 := by
          have y := congrArg Int32.toInt c1
          rw [nI_toInt (by omega), show (1 : Int32).toInt = 1 from by decide] at y
          omega
        obtain ⟨u1, u2⟩ := row.rowD (hp0 (Or.inl k1)) hw6 i32
        refine ⟨_, p898 h3 (by omega), _, p1043 h3, k1043 h3, by rw [l1043 h3]; exact vp_in_nI (by omega) (by decide), k898 h3 (by omega), by rw [z5, l898 h3 (by omega)]; exact u1, _, p1044 h3, k1044 h3, by rw [l1044 h3]; exact vp_in_nI (by omega) (by decide), ?_⟩
        rw [z5, z6, u2]
        have st : styP V.1.2.1 q B e = pikP q.2.2.2.2.2 e := by unfold styP; rw [if_pos k1]
        exact ⟨fun z => go false (by rw [st]; exact decide_eq_false z), fun z => go true (by rw [st]; exact decide_eq_true z)⟩
  exact ⟨_, key A.length 0 σ (by omega) WkH.rf (by rw [List.take_zero]; exact qo)⟩
end MS
