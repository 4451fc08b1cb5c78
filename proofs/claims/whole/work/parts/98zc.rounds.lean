/-! the reference: CLOSE -/
section NN
variable {ad : Ad} {ct : Ct} {σ : St}
theorem bare_1 {a b : Ans} (h : bare a = bare b) : a.1 = b.1 := by
  show (bare a).1 = (bare b).1
  rw [h]
theorem bare_2 {a b : Ans} (h : bare a = bare b) : a.2.1 = b.2.1 := by
  show (bare a).2.1 = (bare b).2.1
  rw [h]
theorem SL_o (k : Nat) (hk : k < 40) : ∀ g, ¬ SL k (g, 41) ∧ (∀ s, s < 40 → s ≠ k → ¬ SL k (g, s) ∨ g = 1053) := fun g => ⟨fun z => by
  simp only [SL, Prod.mk.injEq] at z
  omega, fun s _ n => by
  by_cases c : g = 1053
  · exact Or.inr c
  · refine Or.inl (fun z => ?_)
    simp only [SL, Prod.mk.injEq] at z
    omega⟩
theorem M_rlay (h : Sh ad ct σ) {k s1 : Nat} {cl1 : Bool} {A L : List Ans} {N : List (List Int32)} (hk : k < 40) (hs1 : s1 < 40) (n1 : s1 ≠ k) (q1 : MR ad σ s1 A 2 cl1) (q41 : MR ad σ 41 L 2 true) (qk : MR ad σ k (L ++ N.map newA) 2 true) (nA : (A.map (fun e => e.1)).Nodup) (I : RdI A L N) (cov : ∀ r, (∃ x ∈ rndR A (L.map bare), x.1 = r) → r ∈ L.map (fun e => e.1) ++ N) {fl : Int32} (hfl : fl = 0 ∧ N = [] ∨ fl = 1 ∧ N ≠ []) {Q : St → Prop} {E : St → Prop} {r7 : Nat → Nat → Nat → Int32 → St → Prop} (h0 : ∀ σ', WkH ad ct σ σ' k → NOm (rndR A (L.map bare)) → E σ') (h1 : ∀ (σ' : St) (M : List Ans) (fl : Int32), WkH ad ct σ σ' k → MR ad σ' k M 2 true → OKv (rndR A (L.map bare)) (M.map bare) → (∀ e ∈ M, ∃ m ∈ L ++ N.map newA, e.1 = m.1 ∧ e.2.2 = m.2.2) → (fl = 0 ∧ M = L ∨ fl = 1 ∧ ∃ x ∈ M.map bare, x ∉ L.map bare) → r7 (ad 17 0 0) (ad 15 k 0) (ad 15 s1 0) fl σ') : ∃ f, lX16_rounds_161 Q E r7 f (ad 17 0 0) (ad 15 k 0) (ad 15 s1 0) fl 0 σ := by
  have lA := q1.2.2.2.1
  have lL := q41.2.2.2.1
  have lM := qk.2.2.2.1
  have key : ∀ (d t : Nat) (M : List Ans) (fl : Int32) (σ3 : St), t + d = (L ++ N.map newA).length → WkH ad ct σ σ3 k → MR ad σ3 41 L 2 true → MR ad σ3 k M 2 true → M.map (fun e => e.1) = (L ++ N.map newA).map (fun e => e.1) → (∀ j : Nat, t ≤ j → M[j]? = (L ++ N.map newA)[j]?) → (∀ (j : Nat) e, j < t → M[j]? = some e → MeW (rndR A (L.map bare)) (bare e) ∧ ∃ m, (L ++ N.map newA)[j]? = some m ∧ e.1 = m.1 ∧ e.2.2 = m.2.2) → (fl = 0 ∧ N = [] ∧ (∀ j : Nat, j < t → M[j]? = (L ++ N.map newA)[j]?) ∨ fl = 1 ∧ (N ≠ [] ∨ ∃ (j : Nat) (e m : Ans), j < t ∧ M[j]? = some e ∧ (L ++ N.map newA)[j]? = some m ∧ e.2.1 ≠ m.2.1)) → lX16_rounds_161 Q E r7 (d + 1) (ad 17 0 0) (ad 15 k 0) (ad 15 s1 0) fl (nI t) σ3 := by
    intro d
    induction d with
    | zero =>
      intro t M fl σ3 ht F p41 q eR hge hlt hf
      have h3 := h.wx F
      have lm := congrArg List.length eR
      rw [List.length_map, List.length_map] at lm
      have ht2 : t = M.length := by omega
      have mem : ∀ e ∈ M, MeW (rndR A (L.map bare)) (bare e) ∧ ∃ m ∈ L ++ N.map newA, e.1 = m.1 ∧ e.2.2 = m.2.2 := fun e he => by
        obtain ⟨j, hj, ej⟩ := List.mem_iff_getElem.mp he
        obtain ⟨a, m, b, c⟩ := hlt j e (by omega) (by rw [List.getElem?_eq_getElem hj, ej])
        exact ⟨a, m, List.mem_of_getElem? b, c⟩
      refine ⟨k15 h3 (by omega), fun _ => h1 σ3 M fl F q ⟨by rw [List.length_map]; omega, ?_, fun r => ?_, fun e he => ?_⟩ (fun e he => (mem e he).2) ?_, fun z => absurd ?_ z⟩
      · rw [bare_rows, eR]; exact I.1
      · have a : (∃ e ∈ M.map bare, e.1 = r) ↔ r ∈ (M.map bare).map (fun e => e.1) := by rw [List.mem_map]
        rw [a, bare_rows, eR, new_rows]
        refine ⟨fun hr => ?_, cov r⟩
        rcases List.mem_append.mp hr with u | u
        · obtain ⟨x, hx, ex⟩ := List.mem_map.mp u
          exact ⟨bare x, rndR_mem.mpr (Or.inl (List.mem_map.mpr ⟨x, hx, rfl⟩)), ex⟩
        · exact I.2 r u
      · obtain ⟨x, hx, rfl⟩ := List.mem_map.mp he
        exact (mem x hx).1
      · rcases hf with ⟨f0, eN, same⟩ | ⟨f1, w⟩
        · refine Or.inl ⟨f0, List.ext_getElem? (fun j => ?_)⟩
          rw [eN, List.map_nil, List.append_nil] at same hge
          by_cases c : j < t
          · exact same j c
          · exact hge j (by omega)
        · refine Or.inr ⟨f1, ?_⟩
          have nd := I.1
          rcases w with w | ⟨j, e, m, hj, he, hm, ne⟩
          · cases N with
            | nil => exact absurd rfl w
            | cons r N =>
              have hr : r ∈ M.map (fun e => e.1) := by rw [eR, new_rows]; exact List.mem_append_right _ List.mem_cons_self
              obtain ⟨x, hx, ex⟩ := List.mem_map.mp hr
              refine ⟨bare x, List.mem_map.mpr ⟨x, hx, rfl⟩, fun hin => ?_⟩
              obtain ⟨l, hl, el⟩ := List.mem_map.mp hin
              rw [new_rows] at nd
              unfold List.Nodup at nd
              rw [List.pairwise_append] at nd
              have e1 : l.1 = x.1 := bare_1 el
              exact nd.2.2 l.1 (List.mem_map.mpr ⟨l, hl, rfl⟩) r List.mem_cons_self (e1.trans ex)
          · refine ⟨bare e, List.mem_map.mpr ⟨e, List.mem_of_getElem? he, rfl⟩, fun hin => ne ?_⟩
            obtain ⟨l, hl, el⟩ := List.mem_map.mp hin
            have e1 : l.1 = e.1 := bare_1 el
            have e2 : l.2.1 = e.2.1 := bare_2 el
            obtain ⟨_, m2, hm2, em, _⟩ := hlt j e hj he
            rw [hm] at hm2
            cases hm2
            have := row_u nd (List.mem_append_left _ hl) (List.mem_of_getElem? hm) (e1.trans em)
            rw [← e2, this]
      · rw [q.1, ht2]; exact nI_le (Nat.le_refl _) (by omega)
    | succ d ih =>
      intro t M fl σ3 ht F p41 q eR hge hlt hf
      have h3 := h.wx F
      have lm := congrArg List.length eR
      rw [List.length_map, List.length_map] at lm
      have q13 := F.mr h (by omega) n1 q1
      obtain ⟨e, he⟩ : ∃ e, M[t]? = some e := ⟨_, List.getElem?_eq_getElem (by omega)⟩
      have heM : (L ++ N.map newA)[t]? = some e := by rw [← hge t (Nat.le_refl _)]; exact he
      have rowe := q.2.2.2.2 t e he
      have e16 := rowe.2.2.1
      have own : (∃ c ∈ L, c.1 = e.1 ∧ e.2.1 = c.2.1) ∨ (∀ c ∈ L, c.1 ≠ e.1) ∧ e.2.1 = [] := by
        rcases List.mem_append.mp (List.mem_of_getElem? heM) with u | u
        · exact Or.inl ⟨e, u, rfl, rfl⟩
        · obtain ⟨r, hr, rfl⟩ := List.mem_map.mp u
          refine Or.inr ⟨fun c hc ec => ?_, rfl⟩
          have nd := I.1
          rw [new_rows] at nd
          unfold List.Nodup at nd
          rw [List.pairwise_append] at nd
          exact nd.2.2 c.1 (List.mem_map.mpr ⟨c, hc, rfl⟩) r hr ec
      have nL : (L.map (fun e => e.1)).Nodup := by
        have nd := I.1
        rw [new_rows] at nd
        exact (List.pairwise_append.mp nd).1
      have gm : ∀ x, x ∈ e.2.1 ++ L.flatMap (gc2 A e.1) ↔ x ∈ gath (rndR A (L.map bare)) e.1 := fun x => own_mem nL q1.l2 rowe.1 own
      have ln := addA_len (e.2.1 ++ L.flatMap (gc2 A e.1)) []
      have gl := gc2_len nA q1.w16 (r := e.1) q41.w16
      rw [List.length_nil, List.length_append] at ln
      have an : Anti (addA [] (e.2.1 ++ L.flatMap (gc2 A e.1))) := addA_anti _ List.Pairwise.nil
      have up : ∀ X, Upw (addA [] (e.2.1 ++ L.flatMap (gc2 A e.1))) X ↔ Upw (gath (rndR A (L.map bare)) e.1) X := fun X => by
        rw [up0]
        exact ⟨fun ⟨w, hw, hx⟩ => ⟨w, (gm w).mp hw, hx⟩, fun ⟨w, hw, hx⟩ => ⟨w, (gm w).mpr hw, hx⟩⟩
      refine ⟨k15 h3 (by omega), fun z => absurd z (by rw [q.1]; exact nI_ge (by omega) (by omega)), fun _ => ⟨k17 h3, M_rpile h3 hk hs1 q13 p41 q nA he (fun σ4 J4 => ?_)⟩⟩
      have F4 : WkH ad ct σ σ4 k := F.tr (WkF.pi (k := k) J4).x
      have h4 := h.wx F4
      have q4 := J4.mr h3 (by omega) q
      have p4 := J4.mr h3 (by decide) p41
      have row4 := q4.2.2.2.2 t e he
      refine M_lays h4 (by omega) (by omega) (o := e.2.1) (by omega) J4.2.2.1 J4.2.2.2 e16 row4.2.2.2.1 row4.2.2.2.2.1 (fun big => h0 σ4 F4 (NOm.ways (r := e.1) an big (fun x hx => (gm x).mp ((addA_mem _ hx).elim (fun z => absurd z List.not_mem_nil) id)) up)) (fun s16 kk σ5 kp ks Y => ?_)
      have F5 : WkH ad ct σ σ5 k := F4.tr (WkF.sl h4 Y.1).x
      have kl : kk.length ≤ 16 := by rw [kp.length_eq]; exact s16
      have q5 := Y.mr h4 (by omega) q4 he kl
      have p5 : MR ad σ5 41 L 2 true := p4.ss h4 Y.1 (by decide) (fun g _ => (SL_o k hk g).1)
      have me : MeW (rndR A (L.map bare)) (bare (e.1, kk, e.2.2)) := ⟨rfl, kl, CW.of an up kp ks⟩
      have eR2 : (M.set t (e.1, kk, e.2.2)).map (fun e => e.1) = (L ++ N.map newA).map (fun e => e.1) := (set_rows (e2 := (e.1, kk, e.2.2)) he rfl).trans eR
      have hge2 : ∀ j : Nat, t + 1 ≤ j → (M.set t (e.1, kk, e.2.2))[j]? = (L ++ N.map newA)[j]? := fun j hj => by
        rw [List.getElem?_set_ne (by omega)]; exact hge j (by omega)
      have htM : t < M.length := by omega
      have hlt2 : ∀ (j : Nat) a, j < t + 1 → (M.set t (e.1, kk, e.2.2))[j]? = some a → MeW (rndR A (L.map bare)) (bare a) ∧ ∃ m, (L ++ N.map newA)[j]? = some m ∧ a.1 = m.1 ∧ a.2.2 = m.2.2 := fun j a hj ha => by
        by_cases c : j = t
        · rw [c, List.getElem?_set_self htM] at ha
          cases ha
          rw [c]
          exact ⟨me, e, heM, rfl, rfl⟩
        · rw [List.getElem?_set_ne (fun z => c z.symm)] at ha
          exact hlt j a (by omega) ha
      have old : ∀ (f : Int32), kk = e.2.1 → f = fl → lX16_rounds_161 Q E r7 (d + 1) (ad 17 0 0) (ad 15 k 0) (ad 15 s1 0) f (nI t + 1) σ5 := fun f ek ef => by
        rw [nI_1, ef]
        refine ih (t + 1) (M.set t (e.1, kk, e.2.2)) fl σ5 (by omega) F5 p5 q5 eR2 hge2 hlt2 ?_
        have ms : M.set t (e.1, kk, e.2.2) = M := by
          rw [ek]
          apply List.ext_getElem?
          intro j
          by_cases c : j = t
          · rw [c, List.getElem?_set_self htM, he]
          · rw [List.getElem?_set_ne (fun z => c z.symm)]
        rw [ms]
        rcases hf with ⟨f0, eN, same⟩ | ⟨f1, w⟩
        · refine Or.inl ⟨f0, eN, fun j hj => ?_⟩
          by_cases c : j = t
          · rw [c]; exact hge t (Nat.le_refl _)
          · exact same j (by omega)
        · refine Or.inr ⟨f1, w.imp id (fun ⟨j, a, m, hj, r⟩ => ⟨j, a, m, by omega, r⟩)⟩
      refine ⟨fun y => ?_, fun y => ?_⟩
      · rw [nI_1]
        refine ih (t + 1) (M.set t (e.1, kk, e.2.2)) 1 σ5 (by omega) F5 p5 q5 eR2 hge2 hlt2 (Or.inr ⟨rfl, Or.inr ⟨t, _, e, by omega, List.getElem?_set_self htM, heM, fun ek => y ?_⟩⟩)
        have ek : kk = e.2.1 := ek
        rw [ek]
        simp [zB]
      · have ek : kk = e.2.1 := by
          by_cases c : e.2.1 = kk
          · exact c.symm
          · rw [decide_eq_true (show e.2.1 ≠ kk from c)] at y
            exact absurd y (by decide)
        refine ⟨fun f0 => old 0 ek f0.symm, fun nf => old 1 ek ?_⟩
        rcases hf with ⟨f0, _⟩ | ⟨f1, _⟩
        · exact absurd f0 nf
        · exact f1.symm
  exact ⟨_, key (L ++ N.map newA).length 0 (L ++ N.map newA) fl σ (by omega) WkH.rf q41 qk rfl (fun j _ => rfl) (fun j e hj => absurd hj (Nat.not_lt_zero _)) (hfl.imp (fun ⟨a, b⟩ => ⟨a, b, fun j hj => absurd hj (Nat.not_lt_zero _)⟩) (fun ⟨a, b⟩ => ⟨a, Or.inl b⟩))⟩
def zcA (e : Ans) : Ans := (e.1, e.2.1, 0, e.2.2.2.1, e.2.2.2.2)
theorem MR.zc {s w : Nat} {cl : Bool} {L : List Ans} (q : MR ad σ s L w cl) : MR ad σ s (L.map zcA) w true := by
  obtain ⟨q1, q2, q3, q4, q5⟩ := q
  refine ⟨by rw [List.length_map]; exact q1, q2, q3, by rw [List.length_map]; exact q4, fun r e he => ?_⟩
  rw [List.getElem?_map] at he
  cases hx : L[r]? with
  | none => rw [hx] at he; cases he
  | some x =>
    rw [hx] at he
    have he : some (zcA x) = some e := he
    cases he
    obtain ⟨b1, b2, b3, b4, b5, b6, b7, b8⟩ := q5 r x hx
    exact ⟨b1, b2, b3, b4, b5, fun z => (by cases z), b7, b8⟩
theorem Ini.eq {V : Type} {O : RdO V} {A : List Ans} {e m : Ans} (h : Ini O A m) (er : e.1 = m.1) (ev : O.vl e = O.vl m) : Ini O A e := by
  rcases h with ⟨s, hs, es, v⟩ | ⟨no, v⟩
  · exact Or.inl ⟨s, hs, es.trans er.symm, ev.trans v⟩
  · exact Or.inr ⟨fun s hs z => no s hs (z.trans er), ev.trans v⟩
theorem M_rounds (h : Sh ad ct σ) {k s1 : Nat} {cl1 : Bool} {A : List Ans} (hk : k < 40) (hs1 : s1 < 40) (n1 : s1 ≠ k) (q1 : MR ad σ s1 A 2 cl1) (nA : (A.map (fun e => e.1)).Nodup) (gA : gdK A) (hC : okA rdC A) (hT : okA rdT A) {Q : St → Prop} {E : St → Prop} (h0 : ∀ σ', WkH ad ct σ σ' k → ClXv A → E σ') (h1 : ∀ σ' R, WkH ad ct σ σ' k → MR ad σ' k R 2 true → Clov A (R.map bare) → (R.map (fun e => e.1)).Nodup → Wgh A R → Q σ') : wX16_rounds (ad 17 0 0) (ad 15 k 0) (ad 15 s1 0) σ Q E := by
  have lA := q1.2.2.2.1
  refine M_becomes h (by omega) (by omega) n1 q1 (fun σ2 F2 q2 => ⟨34, ?_⟩)
  have W2 : WkH ad ct σ σ2 k := (WkF.ss h F2).x
  have zb : (A.map zcA).map bare = A.map bare := by rw [List.map_map]; rfl
  have key : ∀ (d n : Nat) (L : List Ans) (σ3 : St), n + d = 32 → WkH ad ct σ σ3 k → MR ad σ3 k L 2 true → Seqv A n (L.map bare) → (L.map (fun e => e.1)).Nodup → (∀ e ∈ L, e.2.2.1 = 0 ∧ Ini rdC A e ∧ Ini rdT A e) → lX16_rounds_7 Q E (d + 2) (ad 17 0 0) (ad 15 k 0) (ad 15 s1 0) 1 σ3 := by
    intro d
    induction d with
    | zero =>
      intro n L σ3 hn W q S nL hI
      have h3 := h.wx W
      refine ⟨fun z => absurd z (by decide), fun _ => ⟨k17 h3, _, p1051 h3, M_becomes h3 (by omega) (by decide) (by omega) q (fun σ4 F4 q41 => ?_)⟩⟩
      have W4 : WkH ad ct σ σ4 k := W.tr (WkH.of h3 F4 (fun p q => Or.inr (Or.inl q)) (by simp))
      have h4 := h.wx W4
      have q14 := W4.mr h (by omega) n1 q1
      have qk4 : MR ad σ4 k L 2 true := q.ss h3 F4 (by omega) (fun g hg z => by
        simp only [SS, Prod.mk.injEq] at z
        omega)
      refine M_radd h4 hk hs1 n1 q14 qk4 q41 nL (fun σ5 W5 no => h0 σ5 (W4.tr W5) ⟨n, _, S, no⟩) (fun σ5 N fl W5 p5 q5 I cov hfl => ?_)
      have W5' := W4.tr W5
      have h5 := h.wx W5'
      refine M_rlay h5 hk hs1 n1 (W5'.mr h (by omega) n1 q1) p5 q5 nA I cov hfl (fun σ6 W6 no => h0 σ6 (W5'.tr W6) ⟨n, _, S, no⟩) (fun σ6 M fl W6 q6 o hm hf => ?_)
      have W6' := W5'.tr W6
      have h6 := h.wx W6'
      rcases hf with ⟨f0, eM⟩ | ⟨f1, x, hx, nx⟩
      · subst f0
        rw [eM] at q6 o
        have hR : RCl A L := (Clov.rcl gA S o).rows (bare_rows L)
        refine ⟨fun _ => ?_, fun z => absurd rfl z⟩
        exact M_chains h6 (by omega) (by omega) n1 (W6'.mr h (by omega) n1 q1) q6 nA hC hT hR hI (fun σ7 R F7 q7 eB w => h1 σ7 R (W6'.tr (WkF.ss h6 F7).x) q7 (by rw [eB]; exact ⟨n, S, o⟩) (by rw [← bare_rows, eB, bare_rows]; exact nL) w)
      · have hn : n = 32 := by omega
        rw [hn] at S
        exact absurd ((Seqv.fix gA lA S o x).mp hx) nx
    | succ d ih =>
      intro n L σ3 hn W q S nL hI
      have h3 := h.wx W
      refine ⟨fun z => absurd z (by decide), fun _ => ⟨k17 h3, _, p1051 h3, M_becomes h3 (by omega) (by decide) (by omega) q (fun σ4 F4 q41 => ?_)⟩⟩
      have W4 : WkH ad ct σ σ4 k := W.tr (WkH.of h3 F4 (fun p q => Or.inr (Or.inl q)) (by simp))
      have h4 := h.wx W4
      have q14 := W4.mr h (by omega) n1 q1
      have qk4 : MR ad σ4 k L 2 true := q.ss h3 F4 (by omega) (fun g hg z => by
        simp only [SS, Prod.mk.injEq] at z
        omega)
      refine M_radd h4 hk hs1 n1 q14 qk4 q41 nL (fun σ5 W5 no => h0 σ5 (W4.tr W5) ⟨n, _, S, no⟩) (fun σ5 N fl W5 p5 q5 I cov hfl => ?_)
      have W5' := W4.tr W5
      have h5 := h.wx W5'
      refine M_rlay h5 hk hs1 n1 (W5'.mr h (by omega) n1 q1) p5 q5 nA I cov hfl (fun σ6 W6 no => h0 σ6 (W5'.tr W6) ⟨n, _, S, no⟩) (fun σ6 M fl W6 q6 o hm hf => ?_)
      have W6' := W5'.tr W6
      have h6 := h.wx W6'
      rcases hf with ⟨f0, eM⟩ | ⟨f1, x, hx, nx⟩
      · subst f0
        rw [eM] at q6 o
        have hR : RCl A L := (Clov.rcl gA S o).rows (bare_rows L)
        refine ⟨fun _ => ?_, fun z => absurd rfl z⟩
        exact M_chains h6 (by omega) (by omega) n1 (W6'.mr h (by omega) n1 q1) q6 nA hC hT hR hI (fun σ7 R F7 q7 eB w => h1 σ7 R (W6'.tr (WkF.ss h6 F7).x) q7 (by rw [eB]; exact ⟨n, S, o⟩) (by rw [← bare_rows, eB, bare_rows]; exact nL) w)
      · subst f1
        refine ih (n + 1) M σ6 (by omega) W6' q6 ⟨_, S, o⟩ (by rw [← bare_rows]; exact o.2.1) (fun e he => ?_)
        obtain ⟨m, hm2, er, ev⟩ := hm e he
        have im : m.2.2.1 = 0 ∧ Ini rdC A m ∧ Ini rdT A m := by
          rcases List.mem_append.mp hm2 with u | u
          · exact hI m u
          · obtain ⟨r, hr, rfl⟩ := List.mem_map.mp u
            have no : ∀ s ∈ A, s.1 ≠ r := fun s hs z => by
              obtain ⟨b, hb, eb⟩ := S.has s hs
              obtain ⟨l, hl, rfl⟩ := List.mem_map.mp hb
              have nd := I.1
              rw [new_rows] at nd
              unfold List.Nodup at nd
              rw [List.pairwise_append] at nd
              exact nd.2.2 l.1 (List.mem_map.mpr ⟨l, hl, rfl⟩) r hr (eb.trans z)
            exact ⟨rfl, Or.inr ⟨no, rfl⟩, Or.inr ⟨no, rfl⟩⟩
        refine ⟨by rw [show e.2.2.1 = m.2.2.1 from by rw [ev]]; exact im.1, im.2.1.eq er (show e.2.2.2.1 = m.2.2.2.1 by rw [ev]), im.2.2.eq er (show e.2.2.2.2 = m.2.2.2.2 by rw [ev])⟩
  refine key 32 0 (A.map zcA) σ2 (by omega) W2 q2.zc (by rw [zb]; rfl) (by rw [← bare_rows, zb, bare_rows]; exact nA) (fun e he => ?_)
  obtain ⟨a, ha, rfl⟩ := List.mem_map.mp he
  exact ⟨rfl, Or.inl ⟨a, ha, rfl, rfl⟩, Or.inl ⟨a, ha, rfl, rfl⟩⟩
end NN
