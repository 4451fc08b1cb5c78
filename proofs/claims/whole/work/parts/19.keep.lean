section K1
variable {ad : Ad} {ct : Ct} {σ : St}
theorem sX1_keep (h : Sh ad ct σ) {x nx kp : Nat} (hx : zK σ x = 1) (hn : zFi σ 65 (ad 2 0 0) = nI nx) (hnx : nx < 100) (hk : zFi σ 66 (ad 2 0 0) = nI kp) (hkp : kp ≤ 100) {Q : St → Prop} (hQ : Q (uFi (uFi (uAr σ (ad 64 0 0) nx (some x)) 65 (ad 2 0 0) (nI ((nx + 1) % 100))) 66 (ad 2 0 0) (nI (min (kp + 1) 100)))) : wX1_keep (ad 2 0 0) x σ Q := by
  have e : ix (nI nx) = nx := nI_clamp (by omega)
  have e2 : (if (100 : Int32) < nI kp + 1 then (100 : Int32) else nI kp + 1) = nI (min (kp + 1) 100) := by
    rw [nI_1]
    show (if nI 100 < nI (kp + 1) then nI 100 else nI (kp + 1)) = _
    by_cases c : 100 < kp + 1
    · rw [if_pos ((nI_ltI (by omega) (by omega)).mpr c), Nat.min_eq_right (by omega)]
    · rw [if_neg (fun q => c ((nI_ltI (by omega) (by omega)).mp q)), Nat.min_eq_left (by omega)]
  simp only [wX1_keep, wX1_keep_0, wX1_keep_32, hn, k12 h, k7 h, k5 h, k8 h, k6 h, k9 h, k2 h, p704 h, p707 h, p708 h, p710 h, p711 h, p713 h, p256 h, p257 h, p259 h, p260 h, p261 h, p705 h, k705 h, l705 h, p712 h, k712 h, l712 h, p384 h, k384 h, l384 h, p386 h, k386 h, l386 h, p387 h, k387 h, l387 h, p388 h, k388 h, l388 h, p258 h, k258 h, l258 h, p262 h, k262 h, l262 h, p263 h, k263 h, l263 h, p448 h, k448 h, l448 h, p320 h, k320 h, l320 h, p321 h, k321 h, l321 h, p322 h, k322 h, l322 h, p512 h, k512 h, l512 h, p64 h, k64 h, l64 h, Option.some.injEq, exists_eq_left', true_and, and_true, not_false_eq_true, forall_const, false_and, and_false, reduceIte, Nat.reduceEqDiff, ne_eq, yK_uFi, yL_uFi, yFj_uFi, yFr_uFi, yAi_uFi, yAj_uFi, yAd_uFi, yAr_uFi, yFi_uFi, yK_uFj, yL_uFj, yFi_uFj, yFr_uFj, yAi_uFj, yAj_uFj, yAd_uFj, yAr_uFj, yFj_uFj, yK_uFr, yL_uFr, yFi_uFr, yFj_uFr, yAi_uFr, yAj_uFr, yAd_uFr, yAr_uFr, yFr_uFr, yK_uAi, yL_uAi, yFi_uAi, yFj_uAi, yFr_uAi, yAj_uAi, yAd_uAi, yAr_uAi, yAi_uAi, yK_uAj, yL_uAj, yFi_uAj, yFj_uAj, yFr_uAj, yAi_uAj, yAd_uAj, yAr_uAj, yAj_uAj, yK_uAd, yL_uAd, yFi_uAd, yFj_uAd, yFr_uAd, yAi_uAd, yAj_uAd, yAr_uAd, yAd_uAd, yK_uAr, yL_uAr, yFi_uAr, yFj_uAr, yFr_uAr, yAi_uAr, yAj_uAr, yAd_uAr, yAr_uAr, yK_uCi, yL_uCi, yFi_uCi, yFj_uCi, yFr_uCi, yAj_uCi, yAd_uCi, yAr_uCi, yK_uCj, yL_uCj, yFi_uCj, yFj_uCj, yFr_uCj, yAi_uCj, yAd_uCj, yAr_uCj, yK_uCx, yL_uCx, yFi_uCx, yFj_uCx, yFr_uCx, yAi_uCx, yAd_uCx, yAr_uCx, yK_nO, yL_nO, yFi_nO, yFj_nO, yFr_nO, yAi_nO, yAj_nO, yAd_nO, yAr_nO, yK_nA, yL_nA, yFi_nA, yFj_nA, yFr_nA, yAi_nA, yAj_nA, yAd_nA, yAr_nA, yK_nC, yL_nC, yFi_nC, yFj_nC, yFr_nC, yAi_nC, yAj_nC, yAd_nC, yAr_nC, yu2, yAi_uCi', yAj_uCj', yAj_uCx', hx, e, hk, e2]
  refine ⟨vp_in_nI (by omega) (by decide), ?_⟩
  refine pk_le 100 (nx + 1) (fun c => ?_) (fun c => ?_) rfl (nI_1 nx)
  · rw [show (nx + 1) % 100 = 0 by omega] at hQ; exact hQ
  · rw [show (nx + 1) % 100 = nx + 1 by omega] at hQ; rw [nI_1]; exact hQ
end K1
