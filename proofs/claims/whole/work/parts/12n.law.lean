def wL_law_323 (mc ms : Nat) (Q : Int32 → St → Prop) (Ln : Nat) (xs : Nat → Int32) (r18 : Nat → Nat → Nat → Nat → Int32 → St → Prop) (k n : Nat) (v1 : Nat) (v2 : Nat) (v3 : Int32) (s3 : Int32) (s2 : Int32) (s1 : Nat) (s0 : Int32) (σ : St) : Prop :=
  k ≤ mc ∧ n ≤ ms ∧ zK σ s1 = 17 ∧ wX16_drop s1 s2 s3 σ (fun y5 σ4 => ((s0 = y5 → r18 k n v1 v2 (v3 + 7) σ4) ∧ (¬ s0 = y5 → k ≤ mc ∧ n ≤ ms ∧ Q 0 σ4)))
def wL_law_301 (mc ms : Nat) (Q : Int32 → St → Prop) (Ln : Nat) (xs : Nat → Int32) (r18 : Nat → Nat → Nat → Nat → Int32 → St → Prop) (k n : Nat) (v1 : Nat) (v2 : Nat) (v3 : Int32) (s2 : Int32) (s1 : Int32) (s0 : Nat) (σ : St) : Prop :=
  ∃ m1 m2 : Nat, k + m1 ≤ mc ∧ n + m2 ≤ ms ∧ zK σ s0 = 12 ∧ wX11_drop m1 m2 s0 s1 s2 σ (fun y7 σ6 => vp_in (v3 + 1) Ln ∧ vp_in (v3 + 2) Ln ∧ (((xs (ix (v3 + 2))) = 0 → wL_law_323 mc ms Q Ln xs r18 (k + m1) (n + m2) v1 v2 v3 0 (xs (ix (v3 + 1))) v2 y7 σ6) ∧ (¬ (xs (ix (v3 + 2))) = 0 → wL_law_323 mc ms Q Ln xs r18 (k + m1) (n + m2) v1 v2 v3 1 (xs (ix (v3 + 1))) v2 y7 σ6)))
def wL_law_18 (mc ms : Nat) (Q : Int32 → St → Prop) (Ln : Nat) (xs : Nat → Int32) (r18 : Nat → Nat → Nat → Nat → Int32 → St → Prop) (k n : Nat) (v1 : Nat) (v2 : Nat) (v3 : Int32) (σ : St) : Prop :=
  ((((Int32.ofNat Ln) - 7) < v3 → k ≤ mc ∧ n ≤ ms ∧ Q 1 σ) ∧ (¬ ((Int32.ofNat Ln) - 7) < v3 → vp_in v3 Ln ∧ ((((xs (ix v3)) &&& 63) = 0 → vp_in (v3 + 1) Ln ∧ ∃ m5 m6 : Nat, k + m5 ≤ mc ∧ n + m6 ≤ ms ∧ zK σ v1 = 12 ∧ wX11_table m5 m6 v1 (xs (ix (v3 + 1))) σ (fun y11 σ10 => vp_in (v3 + 1) Ln ∧ k + m5 ≤ mc ∧ n + m6 ≤ ms ∧ zK σ10 v2 = 17 ∧ wX16_table v2 (xs (ix (v3 + 1))) σ10 (fun y17 σ16 => ((y11 = y17 → r18 (k + m5) (n + m6) v1 v2 (v3 + 7) σ16) ∧ (¬ y11 = y17 → k + m5 ≤ mc ∧ n + m6 ≤ ms ∧ Q 0 σ16))))) ∧ (((xs (ix v3)) &&& 63) = 1 → vp_in (v3 + 1) Ln ∧ vp_in (v3 + 2) Ln ∧ vp_in (v3 + 3) Ln ∧ vp_in (v3 + 4) Ln ∧ vp_in (v3 + 5) Ln ∧ ∃ m26 m27 : Nat, k + m26 ≤ mc ∧ n + m27 ≤ ms ∧ zK σ v1 = 12 ∧ wX11_fact m26 m27 v1 (xs (ix (v3 + 1))) (xs (ix (v3 + 2))) (xs (ix (v3 + 3))) (xs (ix (v3 + 4))) (xs (ix (v3 + 5))) σ (fun y32 σ31 => vp_in (v3 + 1) Ln ∧ vp_in (v3 + 2) Ln ∧ vp_in (v3 + 3) Ln ∧ vp_in (v3 + 4) Ln ∧ vp_in (v3 + 5) Ln ∧ k + m26 ≤ mc ∧ n + m27 ≤ ms ∧ zK σ31 v2 = 17 ∧ wX16_fact v2 (xs (ix (v3 + 1))) (xs (ix (v3 + 2))) (xs (ix (v3 + 3))) (xs (ix (v3 + 4))) (xs (ix (v3 + 5))) σ31 (fun y42 σ41 => ((y32 = y42 → r18 (k + m26) (n + m27) v1 v2 (v3 + 7) σ41) ∧ (¬ y32 = y42 → k + m26 ≤ mc ∧ n + m27 ≤ ms ∧ Q 0 σ41))))) ∧ (((xs (ix v3)) &&& 63) = 2 → vp_in (v3 + 1) Ln ∧ vp_in (v3 + 2) Ln ∧ (((xs (ix (v3 + 2))) = 0 → wL_law_301 mc ms Q Ln xs r18 k n v1 v2 v3 0 (xs (ix (v3 + 1))) v1 σ) ∧ (¬ (xs (ix (v3 + 2))) = 0 → wL_law_301 mc ms Q Ln xs r18 k n v1 v2 v3 1 (xs (ix (v3 + 1))) v1 σ))) ∧ (((xs (ix v3)) &&& 63) = 3 → vp_in (v3 + 1) Ln ∧ vp_in (v3 + 2) Ln ∧ vp_in (v3 + 3) Ln ∧ vp_in (v3 + 4) Ln ∧ ∃ m53 m54 : Nat, k + m53 ≤ mc ∧ n + m54 ≤ ms ∧ zK σ v1 = 12 ∧ wX11_put m53 m54 v1 (xs (ix (v3 + 1))) (xs (ix (v3 + 2))) (((Int32.toInt64 (xs (ix (v3 + 3)))) <<< (Int32.toInt64 32 &&& 63)) ||| ((Int32.toInt64 (xs (ix (v3 + 4)))) &&& 4294967295)) σ (fun y59 σ58 => vp_in (v3 + 1) Ln ∧ vp_in (v3 + 2) Ln ∧ vp_in (v3 + 3) Ln ∧ vp_in (v3 + 4) Ln ∧ k + m53 ≤ mc ∧ n + m54 ≤ ms ∧ zK σ58 v2 = 17 ∧ wX16_put v2 (xs (ix (v3 + 1))) (xs (ix (v3 + 2))) (((Int32.toInt64 (xs (ix (v3 + 3)))) <<< (Int32.toInt64 32 &&& 63)) ||| ((Int32.toInt64 (xs (ix (v3 + 4)))) &&& 4294967295)) σ58 (fun y68 σ67 => ((y59 = y68 → r18 (k + m53) (n + m54) v1 v2 (v3 + 7) σ67) ∧ (¬ y59 = y68 → k + m53 ≤ mc ∧ n + m54 ≤ ms ∧ Q 0 σ67))))) ∧ (((xs (ix v3)) &&& 63) = 4 → vp_in (v3 + 1) Ln ∧ vp_in (v3 + 2) Ln ∧ k ≤ mc ∧ n ≤ ms ∧ zK σ v1 = 12 ∧ wX11_told v1 (xs (ix (v3 + 1))) (xs (ix (v3 + 2))) σ (fun y78 σ77 => vp_in (v3 + 1) Ln ∧ vp_in (v3 + 2) Ln ∧ k ≤ mc ∧ n ≤ ms ∧ zK σ77 v2 = 17 ∧ wX16_told v2 (xs (ix (v3 + 1))) (xs (ix (v3 + 2))) σ77 (fun y85 σ84 => ((y78 = y85 → r18 k n v1 v2 (v3 + 7) σ84) ∧ (¬ y78 = y85 → k ≤ mc ∧ n ≤ ms ∧ Q 0 σ84))))) ∧ (((xs (ix v3)) &&& 63) = 5 → vp_in (v3 + 1) Ln ∧ ∃ m90 m91 : Nat, k + m90 ≤ mc ∧ n + m91 ≤ ms ∧ zK σ v1 = 12 ∧ wX11_base m90 m91 v1 (xs (ix (v3 + 1))) σ (fun y96 σ95 => vp_in (v3 + 1) Ln ∧ k + m90 ≤ mc ∧ n + m91 ≤ ms ∧ zK σ95 v2 = 17 ∧ wX16_base v2 (xs (ix (v3 + 1))) σ95 (fun y102 σ101 => ((y96 = y102 → r18 (k + m90) (n + m91) v1 v2 (v3 + 7) σ101) ∧ (¬ y96 = y102 → k + m90 ≤ mc ∧ n + m91 ≤ ms ∧ Q 0 σ101))))) ∧ (((xs (ix v3)) &&& 63) = 6 → vp_in (v3 + 1) Ln ∧ vp_in (v3 + 2) Ln ∧ vp_in (v3 + 3) Ln ∧ ∃ m109 m110 : Nat, k + m109 ≤ mc ∧ n + m110 ≤ ms ∧ zK σ v1 = 12 ∧ wX11_pick m109 m110 v1 (xs (ix (v3 + 1))) (xs (ix (v3 + 2))) (xs (ix (v3 + 3))) σ (fun y115 σ114 => vp_in (v3 + 1) Ln ∧ vp_in (v3 + 2) Ln ∧ vp_in (v3 + 3) Ln ∧ k + m109 ≤ mc ∧ n + m110 ≤ ms ∧ zK σ114 v2 = 17 ∧ wX16_pick v2 (xs (ix (v3 + 1))) (xs (ix (v3 + 2))) (xs (ix (v3 + 3))) σ114 (fun y123 σ122 => ((y115 = y123 → r18 (k + m109) (n + m110) v1 v2 (v3 + 7) σ122) ∧ (¬ y115 = y123 → k + m109 ≤ mc ∧ n + m110 ≤ ms ∧ Q 0 σ122))))) ∧ (((xs (ix v3)) &&& 63) = 7 → vp_in (v3 + 1) Ln ∧ vp_in (v3 + 2) Ln ∧ vp_in (v3 + 3) Ln ∧ ∃ m130 m131 : Nat, k + m130 ≤ mc ∧ n + m131 ≤ ms ∧ zK σ v1 = 12 ∧ wX11_like m130 m131 v1 (xs (ix (v3 + 1))) (xs (ix (v3 + 2))) (xs (ix (v3 + 3))) σ (fun y136 σ135 => vp_in (v3 + 1) Ln ∧ vp_in (v3 + 2) Ln ∧ vp_in (v3 + 3) Ln ∧ k + m130 ≤ mc ∧ n + m131 ≤ ms ∧ zK σ135 v2 = 17 ∧ wX16_like v2 (xs (ix (v3 + 1))) (xs (ix (v3 + 2))) (xs (ix (v3 + 3))) σ135 (fun y144 σ143 => ((y136 = y144 → r18 (k + m130) (n + m131) v1 v2 (v3 + 7) σ143) ∧ (¬ y136 = y144 → k + m130 ≤ mc ∧ n + m131 ≤ ms ∧ Q 0 σ143))))) ∧ (((xs (ix v3)) &&& 63) = 8 → vp_in (v3 + 1) Ln ∧ vp_in (v3 + 2) Ln ∧ vp_in (v3 + 3) Ln ∧ vp_in (v3 + 4) Ln ∧ vp_in (v3 + 5) Ln ∧ vp_in (v3 + 6) Ln ∧ ∃ m154 m155 : Nat, k + m154 ≤ mc ∧ n + m155 ≤ ms ∧ zK σ v1 = 12 ∧ wX11_cut m154 m155 v1 (xs (ix (v3 + 1))) (xs (ix (v3 + 2))) (xs (ix (v3 + 3))) (xs (ix (v3 + 4))) (xs (ix (v3 + 5))) (xs (ix (v3 + 6))) σ (fun y160 σ159 => vp_in (v3 + 1) Ln ∧ vp_in (v3 + 2) Ln ∧ vp_in (v3 + 3) Ln ∧ vp_in (v3 + 4) Ln ∧ vp_in (v3 + 5) Ln ∧ vp_in (v3 + 6) Ln ∧ k + m154 ≤ mc ∧ n + m155 ≤ ms ∧ zK σ159 v2 = 17 ∧ wX16_cut v2 (xs (ix (v3 + 1))) (xs (ix (v3 + 2))) (xs (ix (v3 + 3))) (xs (ix (v3 + 4))) (xs (ix (v3 + 5))) (xs (ix (v3 + 6))) σ159 (fun y171 σ170 => ((y160 = y171 → r18 (k + m154) (n + m155) v1 v2 (v3 + 7) σ170) ∧ (¬ y160 = y171 → k + m154 ≤ mc ∧ n + m155 ≤ ms ∧ Q 0 σ170))))) ∧ (((xs (ix v3)) &&& 63) = 9 → vp_in (v3 + 1) Ln ∧ vp_in (v3 + 2) Ln ∧ vp_in (v3 + 3) Ln ∧ vp_in (v3 + 4) Ln ∧ ∃ m179 m180 : Nat, k + m179 ≤ mc ∧ n + m180 ≤ ms ∧ zK σ v1 = 12 ∧ wX11_pair m179 m180 v1 (xs (ix (v3 + 1))) (xs (ix (v3 + 2))) (xs (ix (v3 + 3))) (xs (ix (v3 + 4))) σ (fun y185 σ184 => vp_in (v3 + 1) Ln ∧ vp_in (v3 + 2) Ln ∧ vp_in (v3 + 3) Ln ∧ vp_in (v3 + 4) Ln ∧ k + m179 ≤ mc ∧ n + m180 ≤ ms ∧ zK σ184 v2 = 17 ∧ wX16_pair v2 (xs (ix (v3 + 1))) (xs (ix (v3 + 2))) (xs (ix (v3 + 3))) (xs (ix (v3 + 4))) σ184 (fun y194 σ193 => ((y185 = y194 → r18 (k + m179) (n + m180) v1 v2 (v3 + 7) σ193) ∧ (¬ y185 = y194 → k + m179 ≤ mc ∧ n + m180 ≤ ms ∧ Q 0 σ193))))) ∧ (((xs (ix v3)) &&& 63) = 10 → vp_in (v3 + 1) Ln ∧ vp_in (v3 + 2) Ln ∧ ∃ m200 m201 : Nat, k + m200 ≤ mc ∧ n + m201 ≤ ms ∧ zK σ v1 = 12 ∧ wX11_either m200 m201 v1 (xs (ix (v3 + 1))) (xs (ix (v3 + 2))) σ (fun y206 σ205 => vp_in (v3 + 1) Ln ∧ vp_in (v3 + 2) Ln ∧ k + m200 ≤ mc ∧ n + m201 ≤ ms ∧ zK σ205 v2 = 17 ∧ wX16_either v2 (xs (ix (v3 + 1))) (xs (ix (v3 + 2))) σ205 (fun y213 σ212 => ((y206 = y213 → r18 (k + m200) (n + m201) v1 v2 (v3 + 7) σ212) ∧ (¬ y206 = y213 → k + m200 ≤ mc ∧ n + m201 ≤ ms ∧ Q 0 σ212))))) ∧ (((xs (ix v3)) &&& 63) = 11 → vp_in (v3 + 1) Ln ∧ ∃ m218 m219 : Nat, k + m218 ≤ mc ∧ n + m219 ≤ ms ∧ zK σ v1 = 12 ∧ wX11_close m218 m219 v1 (xs (ix (v3 + 1))) σ (fun y224 σ223 => vp_in (v3 + 1) Ln ∧ k + m218 ≤ mc ∧ n + m219 ≤ ms ∧ zK σ223 v2 = 17 ∧ wX16_close v2 (xs (ix (v3 + 1))) σ223 (fun y230 σ229 => ((y224 = y230 → r18 (k + m218) (n + m219) v1 v2 (v3 + 7) σ229) ∧ (¬ y224 = y230 → k + m218 ≤ mc ∧ n + m219 ≤ ms ∧ Q 0 σ229))))) ∧ (((xs (ix v3)) &&& 63) = 12 → vp_in (v3 + 1) Ln ∧ vp_in (v3 + 2) Ln ∧ ∃ m236 m237 : Nat, k + m236 ≤ mc ∧ n + m237 ≤ ms ∧ zK σ v1 = 12 ∧ wX11_most m236 m237 v1 (xs (ix (v3 + 1))) (xs (ix (v3 + 2))) σ (fun y242 σ241 => vp_in (v3 + 1) Ln ∧ vp_in (v3 + 2) Ln ∧ k + m236 ≤ mc ∧ n + m237 ≤ ms ∧ zK σ241 v2 = 17 ∧ wX16_most v2 (xs (ix (v3 + 1))) (xs (ix (v3 + 2))) σ241 (fun y249 σ248 => ((y242 = y249 → r18 (k + m236) (n + m237) v1 v2 (v3 + 7) σ248) ∧ (¬ y242 = y249 → k + m236 ≤ mc ∧ n + m237 ≤ ms ∧ Q 0 σ248))))) ∧ (((xs (ix v3)) &&& 63) = 13 → vp_in (v3 + 1) Ln ∧ vp_in (v3 + 2) Ln ∧ k ≤ mc ∧ n ≤ ms ∧ zK σ v1 = 12 ∧ wX11_kind v1 (xs (ix (v3 + 1))) (xs (ix (v3 + 2))) σ (fun y259 σ258 => vp_in (v3 + 1) Ln ∧ vp_in (v3 + 2) Ln ∧ k ≤ mc ∧ n ≤ ms ∧ zK σ258 v2 = 17 ∧ wX16_kind v2 (xs (ix (v3 + 1))) (xs (ix (v3 + 2))) σ258 (fun y266 σ265 => ((y259 = y266 → r18 k n v1 v2 (v3 + 7) σ265) ∧ (¬ y259 = y266 → k ≤ mc ∧ n ≤ ms ∧ Q 0 σ265))))) ∧ (((xs (ix v3)) &&& 63) = 14 → vp_in (v3 + 1) Ln ∧ k ≤ mc ∧ n ≤ ms ∧ zK σ v1 = 12 ∧ wX11_ask v1 (xs (ix (v3 + 1))) σ (fun y275 σ274 => vp_in (v3 + 1) Ln ∧ k ≤ mc ∧ n ≤ ms ∧ zK σ274 v2 = 17 ∧ wX16_ask v2 (xs (ix (v3 + 1))) σ274 (fun y281 σ280 => ((y275 = y281 → r18 k n v1 v2 (v3 + 7) σ280) ∧ (¬ y275 = y281 → k ≤ mc ∧ n ≤ ms ∧ Q 0 σ280))))) ∧ (((xs (ix v3)) &&& 63) = 15 → vp_in (v3 + 1) Ln ∧ vp_in (v3 + 2) Ln ∧ k ≤ mc ∧ n ≤ ms ∧ zK σ v1 = 12 ∧ wX11_value v1 (xs (ix (v3 + 1))) (xs (ix (v3 + 2))) σ (fun y291 σ290 => vp_in (v3 + 1) Ln ∧ vp_in (v3 + 2) Ln ∧ k ≤ mc ∧ n ≤ ms ∧ zK σ290 v2 = 17 ∧ wX16_value v2 (xs (ix (v3 + 1))) (xs (ix (v3 + 2))) σ290 (fun y298 σ297 => ((y291 = y298 → r18 k n v1 v2 (v3 + 7) σ297) ∧ (¬ y291 = y298 → k ≤ mc ∧ n ≤ ms ∧ Q 0 σ297))))) ∧ (((xs (ix v3)) &&& 63) = 16 → vp_in (v3 + 1) Ln ∧ vp_in (v3 + 2) Ln ∧ vp_in (v3 + 3) Ln ∧ vp_in (v3 + 4) Ln ∧ vp_in (v3 + 5) Ln ∧ vp_in (v3 + 6) Ln ∧ ∃ m308 m309 : Nat, k + m308 ≤ mc ∧ n + m309 ≤ ms ∧ zK σ v1 = 12 ∧ wX11_find m308 m309 v1 (xs (ix (v3 + 1))) (xs (ix (v3 + 2))) (xs (ix (v3 + 3))) (xs (ix (v3 + 4))) (xs (ix (v3 + 5))) (xs (ix (v3 + 6))) σ (fun y314 σ313 => vp_in (v3 + 1) Ln ∧ vp_in (v3 + 2) Ln ∧ vp_in (v3 + 3) Ln ∧ vp_in (v3 + 4) Ln ∧ vp_in (v3 + 5) Ln ∧ vp_in (v3 + 6) Ln ∧ k + m308 ≤ mc ∧ n + m309 ≤ ms ∧ zK σ313 v2 = 17 ∧ wX16_find v2 (xs (ix (v3 + 1))) (xs (ix (v3 + 2))) (xs (ix (v3 + 3))) (xs (ix (v3 + 4))) (xs (ix (v3 + 5))) (xs (ix (v3 + 6))) σ313 (fun y325 σ324 => ((y314 = y325 → r18 (k + m308) (n + m309) v1 v2 (v3 + 7) σ324) ∧ (¬ y314 = y325 → k + m308 ≤ mc ∧ n + m309 ≤ ms ∧ Q 0 σ324))))) ∧ (((xs (ix v3)) &&& 63) = 17 → vp_in (v3 + 1) Ln ∧ k ≤ mc ∧ n ≤ ms ∧ zK σ v1 = 12 ∧ wX11_ways v1 (xs (ix (v3 + 1))) σ (fun y334 σ333 => vp_in (v3 + 1) Ln ∧ k ≤ mc ∧ n ≤ ms ∧ zK σ333 v2 = 17 ∧ wX16_ways v2 (xs (ix (v3 + 1))) σ333 (fun y340 σ339 => ((y334 = y340 → r18 k n v1 v2 (v3 + 7) σ339) ∧ (¬ y334 = y340 → k ≤ mc ∧ n ≤ ms ∧ Q 0 σ339))))) ∧ (((xs (ix v3)) &&& 63) = 18 → vp_in (v3 + 1) Ln ∧ vp_in (v3 + 2) Ln ∧ k ≤ mc ∧ n ≤ ms ∧ zK σ v1 = 12 ∧ wX11_way v1 (xs (ix (v3 + 1))) (xs (ix (v3 + 2))) σ (fun y350 σ349 => vp_in (v3 + 1) Ln ∧ vp_in (v3 + 2) Ln ∧ k ≤ mc ∧ n ≤ ms ∧ zK σ349 v2 = 17 ∧ wX16_way v2 (xs (ix (v3 + 1))) (xs (ix (v3 + 2))) σ349 (fun y357 σ356 => ((y350 = y357 → r18 k n v1 v2 (v3 + 7) σ356) ∧ (¬ y350 = y357 → k ≤ mc ∧ n ≤ ms ∧ Q 0 σ356))))) ∧ (((xs (ix v3)) &&& 63) = 19 → vp_in (v3 + 1) Ln ∧ k ≤ mc ∧ n ≤ ms ∧ zK σ v1 = 12 ∧ wX11_need v1 (xs (ix (v3 + 1))) σ (fun y366 σ365 => vp_in (v3 + 1) Ln ∧ k ≤ mc ∧ n ≤ ms ∧ zK σ365 v2 = 17 ∧ wX16_need v2 (xs (ix (v3 + 1))) σ365 (fun y372 σ371 => ((y366 = y372 → r18 k n v1 v2 (v3 + 7) σ371) ∧ (¬ y366 = y372 → k ≤ mc ∧ n ≤ ms ∧ Q 0 σ371))))) ∧ (((xs (ix v3)) &&& 63) = 20 → vp_in (v3 + 1) Ln ∧ k ≤ mc ∧ n ≤ ms ∧ zK σ v1 = 12 ∧ wX11_count v1 (xs (ix (v3 + 1))) σ (fun y381 σ380 => vp_in (v3 + 1) Ln ∧ k ≤ mc ∧ n ≤ ms ∧ zK σ380 v2 = 17 ∧ wX16_count v2 (xs (ix (v3 + 1))) σ380 (fun y387 σ386 => ((y381 = y387 → r18 k n v1 v2 (v3 + 7) σ386) ∧ (¬ y381 = y387 → k ≤ mc ∧ n ≤ ms ∧ Q 0 σ386))))) ∧ (((xs (ix v3)) &&& 63) = 21 → vp_in (v3 + 1) Ln ∧ k ≤ mc ∧ n ≤ ms ∧ zK σ v1 = 12 ∧ wX11_cost v1 (xs (ix (v3 + 1))) σ (fun y396 σ395 => vp_in (v3 + 1) Ln ∧ k ≤ mc ∧ n ≤ ms ∧ zK σ395 v2 = 17 ∧ wX16_cost v2 (xs (ix (v3 + 1))) σ395 (fun y402 σ401 => ((y396 = y402 → r18 k n v1 v2 (v3 + 7) σ401) ∧ (¬ y396 = y402 → k ≤ mc ∧ n ≤ ms ∧ Q 0 σ401))))) ∧ (((xs (ix v3)) &&& 63) = 22 → vp_in (v3 + 1) Ln ∧ k ≤ mc ∧ n ≤ ms ∧ zK σ v1 = 12 ∧ wX11_trust v1 (xs (ix (v3 + 1))) σ (fun y411 σ410 => vp_in (v3 + 1) Ln ∧ k ≤ mc ∧ n ≤ ms ∧ zK σ410 v2 = 17 ∧ wX16_trust v2 (xs (ix (v3 + 1))) σ410 (fun y417 σ416 => ((y411 = y417 → r18 k n v1 v2 (v3 + 7) σ416) ∧ (¬ y411 = y417 → k ≤ mc ∧ n ≤ ms ∧ Q 0 σ416))))) ∧ (((xs (ix v3)) &&& 63) = 23 → vp_in (v3 + 1) Ln ∧ k ≤ mc ∧ n ≤ ms ∧ zK σ v1 = 12 ∧ wX11_stays v1 (xs (ix (v3 + 1))) σ (fun y426 σ425 => vp_in (v3 + 1) Ln ∧ k ≤ mc ∧ n ≤ ms ∧ zK σ425 v2 = 17 ∧ wX16_stays v2 (xs (ix (v3 + 1))) σ425 (fun y432 σ431 => ((y426 = y432 → r18 k n v1 v2 (v3 + 7) σ431) ∧ (¬ y426 = y432 → k ≤ mc ∧ n ≤ ms ∧ Q 0 σ431))))) ∧ (((xs (ix v3)) &&& 63) = 24 → vp_in (v3 + 1) Ln ∧ vp_in (v3 + 2) Ln ∧ k ≤ mc ∧ n ≤ ms ∧ zK σ v1 = 12 ∧ wX11_without v1 (((Int32.toInt64 (xs (ix (v3 + 1)))) <<< (Int32.toInt64 32 &&& 63)) ||| ((Int32.toInt64 (xs (ix (v3 + 2)))) &&& 4294967295)) σ (fun y442 σ441 => vp_in (v3 + 1) Ln ∧ vp_in (v3 + 2) Ln ∧ k ≤ mc ∧ n ≤ ms ∧ zK σ441 v2 = 17 ∧ wX16_without v2 (((Int32.toInt64 (xs (ix (v3 + 1)))) <<< (Int32.toInt64 32 &&& 63)) ||| ((Int32.toInt64 (xs (ix (v3 + 2)))) &&& 4294967295)) σ441 (fun y449 σ448 => ((y442 = y449 → r18 k n v1 v2 (v3 + 7) σ448) ∧ (¬ y442 = y449 → k ≤ mc ∧ n ≤ ms ∧ Q 0 σ448))))) ∧ (((xs (ix v3)) &&& 63) = 25 → vp_in (v3 + 1) Ln ∧ vp_in (v3 + 2) Ln ∧ vp_in (v3 + 3) Ln ∧ k ≤ mc ∧ n ≤ ms ∧ zK σ v1 = 12 ∧ wX11_with v1 (xs (ix (v3 + 1))) (((Int32.toInt64 (xs (ix (v3 + 2)))) <<< (Int32.toInt64 32 &&& 63)) ||| ((Int32.toInt64 (xs (ix (v3 + 3)))) &&& 4294967295)) σ (fun y460 σ459 => vp_in (v3 + 1) Ln ∧ vp_in (v3 + 2) Ln ∧ vp_in (v3 + 3) Ln ∧ k ≤ mc ∧ n ≤ ms ∧ zK σ459 v2 = 17 ∧ wX16_with v2 (xs (ix (v3 + 1))) (((Int32.toInt64 (xs (ix (v3 + 2)))) <<< (Int32.toInt64 32 &&& 63)) ||| ((Int32.toInt64 (xs (ix (v3 + 3)))) &&& 4294967295)) σ459 (fun y468 σ467 => ((y460 = y468 → r18 k n v1 v2 (v3 + 7) σ467) ∧ (¬ y460 = y468 → k ≤ mc ∧ n ≤ ms ∧ Q 0 σ467))))) ∧ (((xs (ix v3)) &&& 63) = 26 → vp_in (v3 + 1) Ln ∧ k ≤ mc ∧ n ≤ ms ∧ zK σ v1 = 12 ∧ wX11_chance v1 (xs (ix (v3 + 1))) σ (fun y477 σ476 => vp_in (v3 + 1) Ln ∧ k ≤ mc ∧ n ≤ ms ∧ zK σ476 v2 = 17 ∧ wX16_chance v2 (xs (ix (v3 + 1))) σ476 (fun y483 σ482 => ((y477 = y483 → r18 k n v1 v2 (v3 + 7) σ482) ∧ (¬ y477 = y483 → k ≤ mc ∧ n ≤ ms ∧ Q 0 σ482))))) ∧ (((xs (ix v3)) &&& 63) = 27 → vp_in (v3 + 1) Ln ∧ vp_in (v3 + 2) Ln ∧ k ≤ mc ∧ n ≤ ms ∧ zK σ v1 = 12 ∧ wX11_share v1 (xs (ix (v3 + 1))) (xs (ix (v3 + 2))) σ (fun y493 σ492 => vp_in (v3 + 1) Ln ∧ vp_in (v3 + 2) Ln ∧ k ≤ mc ∧ n ≤ ms ∧ zK σ492 v2 = 17 ∧ wX16_share v2 (xs (ix (v3 + 1))) (xs (ix (v3 + 2))) σ492 (fun y500 σ499 => ((y493 = y500 → r18 k n v1 v2 (v3 + 7) σ499) ∧ (¬ y493 = y500 → k ≤ mc ∧ n ≤ ms ∧ Q 0 σ499))))) ∧ (((xs (ix v3)) &&& 63) = 28 → vp_in (v3 + 1) Ln ∧ k ≤ mc ∧ n ≤ ms ∧ zK σ v1 = 12 ∧ wX11_least v1 (xs (ix (v3 + 1))) σ (fun y509 σ508 => vp_in (v3 + 1) Ln ∧ k ≤ mc ∧ n ≤ ms ∧ zK σ508 v2 = 17 ∧ wX16_least v2 (xs (ix (v3 + 1))) σ508 (fun y515 σ514 => ((y509 = y515 → r18 k n v1 v2 (v3 + 7) σ514) ∧ (¬ y509 = y515 → k ≤ mc ∧ n ≤ ms ∧ Q 0 σ514))))) ∧ (((xs (ix v3)) &&& 63) = 29 → vp_in (v3 + 1) Ln ∧ vp_in (v3 + 2) Ln ∧ k ≤ mc ∧ n ≤ ms ∧ zK σ v1 = 12 ∧ wX11_blame v1 (xs (ix (v3 + 1))) (xs (ix (v3 + 2))) σ (fun y525 σ524 => vp_in (v3 + 1) Ln ∧ vp_in (v3 + 2) Ln ∧ k ≤ mc ∧ n ≤ ms ∧ zK σ524 v2 = 17 ∧ wX16_blame v2 (xs (ix (v3 + 1))) (xs (ix (v3 + 2))) σ524 (fun y532 σ531 => ((y525 = y532 → r18 k n v1 v2 (v3 + 7) σ531) ∧ (¬ y525 = y532 → k ≤ mc ∧ n ≤ ms ∧ Q 0 σ531))))) ∧ (((xs (ix v3)) &&& 63) = 30 → vp_in (v3 + 1) Ln ∧ vp_in (v3 + 2) Ln ∧ vp_in (v3 + 3) Ln ∧ ∃ m539 m540 : Nat, k + m539 ≤ mc ∧ n + m540 ≤ ms ∧ zK σ v1 = 12 ∧ wX11_lay m539 m540 v1 (xs (ix (v3 + 1))) (xs (ix (v3 + 2))) (xs (ix (v3 + 3))) σ (fun y545 σ544 => vp_in (v3 + 1) Ln ∧ vp_in (v3 + 2) Ln ∧ vp_in (v3 + 3) Ln ∧ k + m539 ≤ mc ∧ n + m540 ≤ ms ∧ zK σ544 v2 = 17 ∧ wX16_lay v2 (xs (ix (v3 + 1))) (xs (ix (v3 + 2))) (xs (ix (v3 + 3))) σ544 (fun y553 σ552 => ((y545 = y553 → r18 (k + m539) (n + m540) v1 v2 (v3 + 7) σ552) ∧ (¬ y545 = y553 → k + m539 ≤ mc ∧ n + m540 ≤ ms ∧ Q 0 σ552))))) ∧ (((xs (ix v3)) &&& 63) = 31 → vp_in (v3 + 1) Ln ∧ k ≤ mc ∧ n ≤ ms ∧ zK σ v1 = 12 ∧ wX11_lies v1 (xs (ix (v3 + 1))) σ (fun y562 σ561 => vp_in (v3 + 1) Ln ∧ k ≤ mc ∧ n ≤ ms ∧ zK σ561 v2 = 17 ∧ wX16_lies v2 (xs (ix (v3 + 1))) σ561 (fun y568 σ567 => ((y562 = y568 → r18 k n v1 v2 (v3 + 7) σ567) ∧ (¬ y562 = y568 → k ≤ mc ∧ n ≤ ms ∧ Q 0 σ567))))) ∧ (((xs (ix v3)) &&& 63) = 32 → vp_in (v3 + 1) Ln ∧ vp_in (v3 + 2) Ln ∧ vp_in (v3 + 3) Ln ∧ k ≤ mc ∧ n ≤ ms ∧ zK σ v1 = 12 ∧ wX11_taken v1 (xs (ix (v3 + 1))) (xs (ix (v3 + 2))) (xs (ix (v3 + 3))) σ (fun y579 σ578 => vp_in (v3 + 1) Ln ∧ vp_in (v3 + 2) Ln ∧ vp_in (v3 + 3) Ln ∧ k ≤ mc ∧ n ≤ ms ∧ zK σ578 v2 = 17 ∧ wX16_taken v2 (xs (ix (v3 + 1))) (xs (ix (v3 + 2))) (xs (ix (v3 + 3))) σ578 (fun y587 σ586 => ((y579 = y587 → r18 k n v1 v2 (v3 + 7) σ586) ∧ (¬ y579 = y587 → k ≤ mc ∧ n ≤ ms ∧ Q 0 σ586))))) ∧ (((xs (ix v3)) &&& 63) = 33 → vp_in (v3 + 1) Ln ∧ vp_in (v3 + 2) Ln ∧ vp_in (v3 + 3) Ln ∧ vp_in (v3 + 4) Ln ∧ vp_in (v3 + 5) Ln ∧ ∃ m596 m597 : Nat, k + m596 ≤ mc ∧ n + m597 ≤ ms ∧ zK σ v1 = 12 ∧ wX11_copy m596 m597 v1 (xs (ix (v3 + 1))) (xs (ix (v3 + 2))) (xs (ix (v3 + 3))) (xs (ix (v3 + 4))) (xs (ix (v3 + 5))) σ (fun y602 σ601 => vp_in (v3 + 1) Ln ∧ vp_in (v3 + 2) Ln ∧ vp_in (v3 + 3) Ln ∧ vp_in (v3 + 4) Ln ∧ vp_in (v3 + 5) Ln ∧ k + m596 ≤ mc ∧ n + m597 ≤ ms ∧ zK σ601 v2 = 17 ∧ wX16_copy v2 (xs (ix (v3 + 1))) (xs (ix (v3 + 2))) (xs (ix (v3 + 3))) (xs (ix (v3 + 4))) (xs (ix (v3 + 5))) σ601 (fun y612 σ611 => ((y602 = y612 → r18 (k + m596) (n + m597) v1 v2 (v3 + 7) σ611) ∧ (¬ y602 = y612 → k + m596 ≤ mc ∧ n + m597 ≤ ms ∧ Q 0 σ611))))) ∧ (((xs (ix v3)) &&& 63) = 34 → k ≤ mc ∧ n ≤ ms ∧ zK σ v1 = 12 ∧ wX11_undo v1 σ (fun y620 σ619 => k ≤ mc ∧ n ≤ ms ∧ zK σ619 v2 = 17 ∧ wX16_undo v2 σ619 (fun y625 σ624 => ((y620 = y625 → r18 k n v1 v2 (v3 + 7) σ624) ∧ (¬ y620 = y625 → k ≤ mc ∧ n ≤ ms ∧ Q 0 σ624))))) ∧ (((xs (ix v3)) &&& 63) = 35 → vp_in (v3 + 1) Ln ∧ k ≤ mc ∧ n ≤ ms ∧ zK σ v1 = 12 ∧ wX11_size v1 (xs (ix (v3 + 1))) σ (fun y634 σ633 => vp_in (v3 + 1) Ln ∧ k ≤ mc ∧ n ≤ ms ∧ zK σ633 v2 = 17 ∧ wX16_size v2 (xs (ix (v3 + 1))) σ633 (fun y640 σ639 => ((y634 = y640 → r18 k n v1 v2 (v3 + 7) σ639) ∧ (¬ y634 = y640 → k ≤ mc ∧ n ≤ ms ∧ Q 0 σ639))))) ∧ (((xs (ix v3)) &&& 63) = 36 → k ≤ mc ∧ n ≤ ms ∧ zK σ v1 = 12 ∧ wX11_status v1 σ (fun y648 σ647 => k ≤ mc ∧ n ≤ ms ∧ zK σ647 v2 = 17 ∧ wX16_status v2 σ647 (fun y653 σ652 => ((y648 = y653 → r18 k n v1 v2 (v3 + 7) σ652) ∧ (¬ y648 = y653 → k ≤ mc ∧ n ≤ ms ∧ Q 0 σ652))))) ∧ (¬ ((xs (ix v3)) &&& 63) = 0 → ¬ ((xs (ix v3)) &&& 63) = 1 → ¬ ((xs (ix v3)) &&& 63) = 2 → ¬ ((xs (ix v3)) &&& 63) = 3 → ¬ ((xs (ix v3)) &&& 63) = 4 → ¬ ((xs (ix v3)) &&& 63) = 5 → ¬ ((xs (ix v3)) &&& 63) = 6 → ¬ ((xs (ix v3)) &&& 63) = 7 → ¬ ((xs (ix v3)) &&& 63) = 8 → ¬ ((xs (ix v3)) &&& 63) = 9 → ¬ ((xs (ix v3)) &&& 63) = 10 → ¬ ((xs (ix v3)) &&& 63) = 11 → ¬ ((xs (ix v3)) &&& 63) = 12 → ¬ ((xs (ix v3)) &&& 63) = 13 → ¬ ((xs (ix v3)) &&& 63) = 14 → ¬ ((xs (ix v3)) &&& 63) = 15 → ¬ ((xs (ix v3)) &&& 63) = 16 → ¬ ((xs (ix v3)) &&& 63) = 17 → ¬ ((xs (ix v3)) &&& 63) = 18 → ¬ ((xs (ix v3)) &&& 63) = 19 → ¬ ((xs (ix v3)) &&& 63) = 20 → ¬ ((xs (ix v3)) &&& 63) = 21 → ¬ ((xs (ix v3)) &&& 63) = 22 → ¬ ((xs (ix v3)) &&& 63) = 23 → ¬ ((xs (ix v3)) &&& 63) = 24 → ¬ ((xs (ix v3)) &&& 63) = 25 → ¬ ((xs (ix v3)) &&& 63) = 26 → ¬ ((xs (ix v3)) &&& 63) = 27 → ¬ ((xs (ix v3)) &&& 63) = 28 → ¬ ((xs (ix v3)) &&& 63) = 29 → ¬ ((xs (ix v3)) &&& 63) = 30 → ¬ ((xs (ix v3)) &&& 63) = 31 → ¬ ((xs (ix v3)) &&& 63) = 32 → ¬ ((xs (ix v3)) &&& 63) = 33 → ¬ ((xs (ix v3)) &&& 63) = 34 → ¬ ((xs (ix v3)) &&& 63) = 35 → ¬ ((xs (ix v3)) &&& 63) = 36 → r18 k n v1 v2 (v3 + 7) σ))))
def lL_law_18 (mc ms : Nat) (Q : Int32 → St → Prop) (Ln : Nat) (xs : Nat → Int32) : Nat → Nat → Nat → Nat → Nat → Int32 → St → Prop
  | 0, _, _, _, _, _, _ => False
  | f + 1, k, n, v1, v2, v3, σ => wL_law_18 mc ms Q Ln xs (lL_law_18 mc ms Q Ln xs f) k n v1 v2 v3 σ
def wL_law_0 (mc ms : Nat) (Q : Int32 → St → Prop) (Ln : Nat) (xs : Nat → Int32) (k n : Nat) (σ : St) : Prop :=
  k + 1 ≤ mc ∧ n + 11 ≤ ms ∧ ∀ b3 : Nat, zK σ b3 = 0 → ∃ m5 m6 : Nat, k + 1 + m5 ≤ mc ∧ n + 11 + m6 ≤ ms ∧ wX11_init m5 m6 b3 (nO σ b3 12) (fun σ9 => k + 1 + m5 + 1 ≤ mc ∧ n + 11 + m6 + 40 ≤ ms ∧ ∀ b12 : Nat, zK σ9 b12 = 0 → ∃ m14 m15 : Nat, k + 1 + m5 + 1 + m14 ≤ mc ∧ n + 11 + m6 + 40 + m15 ≤ ms ∧ wX16_init m14 m15 b12 (nO σ9 b12 17) (fun σ18 => ∃ f, lL_law_18 mc ms Q Ln xs f (k + 1 + m5 + 1 + m14) (n + 11 + m6 + 40 + m15) b3 b12 0 σ18))
set_option maxRecDepth 20000 in
theorem kwL_law_323 {Γ : hCT} {nm : String} {mc ms : Nat} (C : hC Γ RL cL_law (some FieldType.boolean) nm 2048 84000) {Q : Int32 → St → Prop} (hΓ : Γ.2.2.2.2.2.2.2.2.2.2.2 = (4, mc, ms, oI Q)) {b0 Ln : Nat} {xs : Nat → Int32} (hsc : hSC Γ b0 Ln xs) {r18 : Nat → Nat → Nat → Nat → Int32 → St → Prop} (h18 : ∀ (k n : Nat) (v1 : Nat) (v2 : Nat) (v3 : Int32) (σ : St), r18 k n v1 v2 v3 σ → hW Γ k n 18 [(0, .ref b0), (1, .ref v1), (2, .ref v2), (3, .int v3)] [] σ) (k n : Nat) (v1 : Nat) (v2 : Nat) (v3 : Int32) (s3 : Int32) (s2 : Int32) (s1 : Nat) (s0 : Int32) (σ : St) (hb : wL_law_323 mc ms Q Ln xs r18 k n v1 v2 v3 s3 s2 s1 s0 σ) : hW Γ k n 323 [(0, .ref b0), (1, .ref v1), (2, .ref v2), (3, .int v3)] [.int s3, .int s2, .ref s1, .int s0] σ := by
  unfold wL_law_323 at hb
  obtain ⟨q1, q2, hb⟩ := hb
  obtain ⟨q3, hb⟩ := hb
  refine g_invV (ci := 16) [.int s2, .int s3] [.int s0] zy_X16_drop wd_1025 wd_1026 wd_1027 ⟨_, _, rfl⟩ (by decide) C dL_law_323 (by first | exact Nat.le_of_ble_eq_true rfl | simp [cat_rf]) (by first | exact Nat.le_of_ble_eq_true rfl | simp [cat_rf]) (by first | exact Nat.le_of_ble_eq_true rfl | simp [cat_rf]) (by rw [hmc_of hΓ]; exact q1) (by rw [hms_of hΓ]; exact q2) rfl rfl q3 (okX16_drop hb) ?_
  rintro o σ4 ⟨y5, rfl, hb⟩
  refine ⟨_, rfl, ?_⟩
  refine g_icmp_eq (tgt := 1556) C dL_law_326 (by decide) (fun c => ?_) (fun c => ?_)
  ·
    replace hb := hb.1 (c)
    refine g_iinc (v := v3 + 7) (lv' := [(3, .int (v3 + 7)), (0, .ref b0), (1, .ref v1), (2, .ref v2)]) C dL_law_1556 3 rfl rfl (hnl_of hΓ (by decide)) (by first | rfl | simp [cat_rf]) ?_
    refine g_goto (tgt := 18) C dL_law_1559 (by decide) ?_
    refine g_sub (lv' := [(0, .ref b0), (1, .ref v1), (2, .ref v2), (3, .int (v3 + 7))]) [1, 2, 3, 0] rfl ?_
    exact h18 _ _ _ _ _ _ hb
  ·
    replace hb := hb.2 (c)
    refine g_iconst (v := 0) C dL_law_329 (by decide) ?_
    obtain ⟨q6, q7, hb⟩ := hb
    exact g_zreturn C (by decide) hΓ q6 q7 dL_law_330 ⟨_, rfl, hb⟩
set_option maxRecDepth 20000 in
theorem kwL_law_301 {Γ : hCT} {nm : String} {mc ms : Nat} (C : hC Γ RL cL_law (some FieldType.boolean) nm 2048 84000) {Q : Int32 → St → Prop} (hΓ : Γ.2.2.2.2.2.2.2.2.2.2.2 = (4, mc, ms, oI Q)) {b0 Ln : Nat} {xs : Nat → Int32} (hsc : hSC Γ b0 Ln xs) {r18 : Nat → Nat → Nat → Nat → Int32 → St → Prop} (h18 : ∀ (k n : Nat) (v1 : Nat) (v2 : Nat) (v3 : Int32) (σ : St), r18 k n v1 v2 v3 σ → hW Γ k n 18 [(0, .ref b0), (1, .ref v1), (2, .ref v2), (3, .int v3)] [] σ) (k n : Nat) (v1 : Nat) (v2 : Nat) (v3 : Int32) (s2 : Int32) (s1 : Int32) (s0 : Nat) (σ : St) (hb : wL_law_301 mc ms Q Ln xs r18 k n v1 v2 v3 s2 s1 s0 σ) : hW Γ k n 301 [(0, .ref b0), (1, .ref v1), (2, .ref v2), (3, .int v3)] [.int s2, .int s1, .ref s0] σ := by
  unfold wL_law_301 at hb
  obtain ⟨m1, m2, q3, q4, hb⟩ := hb
  obtain ⟨q5, hb⟩ := hb
  refine g_invV (ci := 11) [.int s1, .int s2] [] zy_X11_drop wd_429 wd_430 wd_431 ⟨_, _, rfl⟩ (by decide) C dL_law_301 (by first | exact Nat.le_of_ble_eq_true rfl | simp [cat_rf]) (by first | exact Nat.le_of_ble_eq_true rfl | simp [cat_rf]) (by first | exact Nat.le_of_ble_eq_true rfl | simp [cat_rf]) (by rw [hmc_of hΓ]; exact q3) (by rw [hms_of hΓ]; exact q4) rfl rfl q5 (okX11_drop hb) ?_
  rintro o σ6 ⟨y7, rfl, hb⟩
  refine ⟨_, rfl, ?_⟩
  refine g_aload_n (some v2) C dL_law_304 2 rfl ?_
  refine g_aload_n (some b0) C dL_law_305 0 rfl ?_
  refine g_iload_n C dL_law_306 3 rfl ?_
  refine g_iconst (v := 1) C dL_law_307 (by decide) ?_
  refine g_iadd C dL_law_308 ?_
  obtain ⟨q8, hb⟩ := hb
  refine g_sld hsc C dL_law_309 q8 ?_
  refine g_aload_n (some b0) C dL_law_310 0 rfl ?_
  refine g_iload_n C dL_law_311 3 rfl ?_
  refine g_iconst (v := 2) C dL_law_312 (by decide) ?_
  refine g_iadd C dL_law_313 ?_
  obtain ⟨q9, hb⟩ := hb
  refine g_sld hsc C dL_law_314 q9 ?_
  refine g_if_eq (tgt := 322) C dL_law_315 (by decide) (fun c => ?_) (fun c => ?_)
  ·
    replace hb := hb.1 (c)
    refine g_iconst (v := 0) C dL_law_322 (by decide) ?_
    refine g_sub (lv' := [(0, .ref b0), (1, .ref v1), (2, .ref v2), (3, .int v3)]) [0, 1, 2, 3] rfl ?_
    exact kwL_law_323 C hΓ hsc h18 _ _ _ _ _ _ _ _ _ _ hb
  ·
    replace hb := hb.2 (c)
    refine g_iconst (v := 1) C dL_law_318 (by decide) ?_
    refine g_goto (tgt := 323) C dL_law_319 (by decide) ?_
    refine g_sub (lv' := [(0, .ref b0), (1, .ref v1), (2, .ref v2), (3, .int v3)]) [0, 1, 2, 3] rfl ?_
    exact kwL_law_323 C hΓ hsc h18 _ _ _ _ _ _ _ _ _ _ hb
set_option maxRecDepth 20000 in
theorem kwL_law_18 {Γ : hCT} {nm : String} {mc ms : Nat} (C : hC Γ RL cL_law (some FieldType.boolean) nm 2048 84000) {Q : Int32 → St → Prop} (hΓ : Γ.2.2.2.2.2.2.2.2.2.2.2 = (4, mc, ms, oI Q)) {b0 Ln : Nat} {xs : Nat → Int32} (hsc : hSC Γ b0 Ln xs) {r18 : Nat → Nat → Nat → Nat → Int32 → St → Prop} (h18 : ∀ (k n : Nat) (v1 : Nat) (v2 : Nat) (v3 : Int32) (σ : St), r18 k n v1 v2 v3 σ → hW Γ k n 18 [(0, .ref b0), (1, .ref v1), (2, .ref v2), (3, .int v3)] [] σ) (k n : Nat) (v1 : Nat) (v2 : Nat) (v3 : Int32) (σ : St) (hb : wL_law_18 mc ms Q Ln xs r18 k n v1 v2 v3 σ) : hW Γ k n 18 [(0, .ref b0), (1, .ref v1), (2, .ref v2), (3, .int v3)] [] σ := by
  unfold wL_law_18 at hb
  refine g_iload_n C dL_law_18 3 rfl ?_
  refine g_aload_n (some b0) C dL_law_19 0 rfl ?_
  refine g_slen hsc C dL_law_20 ?_
  refine g_bipush (v := 7) C dL_law_21 (by decide) ?_
  refine g_isub C dL_law_23 ?_
  refine g_icmp_gt (tgt := 1562) C dL_law_24 (by decide) (fun c => ?_) (fun c => ?_)
  ·
    replace hb := hb.1 (c)
    refine g_iconst (v := 1) C dL_law_1562 (by decide) ?_
    obtain ⟨q1, q2, hb⟩ := hb
    exact g_zreturn C (by decide) hΓ q1 q2 dL_law_1563 ⟨_, rfl, hb⟩
  ·
    replace hb := hb.2 (c)
    refine g_aload_n (some b0) C dL_law_27 0 rfl ?_
    refine g_iload_n C dL_law_28 3 rfl ?_
    obtain ⟨q3, hb⟩ := hb
    refine g_sld hsc C dL_law_29 q3 ?_
    refine g_bipush (v := 63) C dL_law_30 (by decide) ?_
    refine g_iand C dL_law_32 ?_
    by_cases c20 : ((xs (ix v3)) &&& 63) = 0
    ·
      replace hb := hb.1 c20
      refine g_tabIn (tgt := 196) (off := 163) C dL_law_33 (by rw [c20]; decide) (by rw [c20]; decide) (by rw [c20]; rfl) (by decide) ?_
      refine g_aload_n (some v1) C dL_law_196 1 rfl ?_
      refine g_aload_n (some b0) C dL_law_197 0 rfl ?_
      refine g_iload_n C dL_law_198 3 rfl ?_
      refine g_iconst (v := 1) C dL_law_199 (by decide) ?_
      refine g_iadd C dL_law_200 ?_
      obtain ⟨q4, hb⟩ := hb
      refine g_sld hsc C dL_law_201 q4 ?_
      obtain ⟨m5, m6, q7, q8, hb⟩ := hb
      obtain ⟨q9, hb⟩ := hb
      refine g_invV (ci := 11) [.int (xs (ix (v3 + 1)))] [] zy_X11_table wd_357 wd_358 wd_359 ⟨_, _, rfl⟩ (by decide) C dL_law_202 (by first | exact Nat.le_of_ble_eq_true rfl | simp [cat_rf]) (by first | exact Nat.le_of_ble_eq_true rfl | simp [cat_rf]) (by first | exact Nat.le_of_ble_eq_true rfl | simp [cat_rf]) (by rw [hmc_of hΓ]; exact q7) (by rw [hms_of hΓ]; exact q8) rfl rfl q9 (okX11_table hb) ?_
      rintro o σ10 ⟨y11, rfl, hb⟩
      refine ⟨_, rfl, ?_⟩
      refine g_aload_n (some v2) C dL_law_205 2 rfl ?_
      refine g_aload_n (some b0) C dL_law_206 0 rfl ?_
      refine g_iload_n C dL_law_207 3 rfl ?_
      refine g_iconst (v := 1) C dL_law_208 (by decide) ?_
      refine g_iadd C dL_law_209 ?_
      obtain ⟨q12, hb⟩ := hb
      refine g_sld hsc C dL_law_210 q12 ?_
      obtain ⟨q13, q14, hb⟩ := hb
      obtain ⟨q15, hb⟩ := hb
      refine g_invV (ci := 16) [.int (xs (ix (v3 + 1)))] [.int y11] zy_X16_table wd_1001 wd_1002 wd_1003 ⟨_, _, rfl⟩ (by decide) C dL_law_211 (by first | exact Nat.le_of_ble_eq_true rfl | simp [cat_rf]) (by first | exact Nat.le_of_ble_eq_true rfl | simp [cat_rf]) (by first | exact Nat.le_of_ble_eq_true rfl | simp [cat_rf]) (by rw [hmc_of hΓ]; exact q13) (by rw [hms_of hΓ]; exact q14) rfl rfl q15 (okX16_table hb) ?_
      rintro o σ16 ⟨y17, rfl, hb⟩
      refine ⟨_, rfl, ?_⟩
      refine g_icmp_eq (tgt := 1556) C dL_law_214 (by decide) (fun c => ?_) (fun c => ?_)
      ·
        replace hb := hb.1 (c)
        refine g_iinc (v := v3 + 7) (lv' := [(3, .int (v3 + 7)), (0, .ref b0), (1, .ref v1), (2, .ref v2)]) C dL_law_1556 3 rfl rfl (hnl_of hΓ (by decide)) (by first | rfl | simp [cat_rf]) ?_
        refine g_goto (tgt := 18) C dL_law_1559 (by decide) ?_
        refine g_sub (lv' := [(0, .ref b0), (1, .ref v1), (2, .ref v2), (3, .int (v3 + 7))]) [1, 2, 3, 0] rfl ?_
        exact h18 _ _ _ _ _ _ hb
      ·
        replace hb := hb.2 (c)
        refine g_iconst (v := 0) C dL_law_217 (by decide) ?_
        obtain ⟨q18, q19, hb⟩ := hb
        exact g_zreturn C (by decide) hΓ q18 q19 dL_law_218 ⟨_, rfl, hb⟩
    ·
      by_cases c45 : ((xs (ix v3)) &&& 63) = 1
      ·
        replace hb := hb.2.1 c45
        refine g_tabIn (tgt := 219) (off := 186) C dL_law_33 (by rw [c45]; decide) (by rw [c45]; decide) (by rw [c45]; rfl) (by decide) ?_
        refine g_aload_n (some v1) C dL_law_219 1 rfl ?_
        refine g_aload_n (some b0) C dL_law_220 0 rfl ?_
        refine g_iload_n C dL_law_221 3 rfl ?_
        refine g_iconst (v := 1) C dL_law_222 (by decide) ?_
        refine g_iadd C dL_law_223 ?_
        obtain ⟨q21, hb⟩ := hb
        refine g_sld hsc C dL_law_224 q21 ?_
        refine g_aload_n (some b0) C dL_law_225 0 rfl ?_
        refine g_iload_n C dL_law_226 3 rfl ?_
        refine g_iconst (v := 2) C dL_law_227 (by decide) ?_
        refine g_iadd C dL_law_228 ?_
        obtain ⟨q22, hb⟩ := hb
        refine g_sld hsc C dL_law_229 q22 ?_
        refine g_aload_n (some b0) C dL_law_230 0 rfl ?_
        refine g_iload_n C dL_law_231 3 rfl ?_
        refine g_iconst (v := 3) C dL_law_232 (by decide) ?_
        refine g_iadd C dL_law_233 ?_
        obtain ⟨q23, hb⟩ := hb
        refine g_sld hsc C dL_law_234 q23 ?_
        refine g_aload_n (some b0) C dL_law_235 0 rfl ?_
        refine g_iload_n C dL_law_236 3 rfl ?_
        refine g_iconst (v := 4) C dL_law_237 (by decide) ?_
        refine g_iadd C dL_law_238 ?_
        obtain ⟨q24, hb⟩ := hb
        refine g_sld hsc C dL_law_239 q24 ?_
        refine g_aload_n (some b0) C dL_law_240 0 rfl ?_
        refine g_iload_n C dL_law_241 3 rfl ?_
        refine g_iconst (v := 5) C dL_law_242 (by decide) ?_
        refine g_iadd C dL_law_243 ?_
        obtain ⟨q25, hb⟩ := hb
        refine g_sld hsc C dL_law_244 q25 ?_
        obtain ⟨m26, m27, q28, q29, hb⟩ := hb
        obtain ⟨q30, hb⟩ := hb
        refine g_invV (ci := 11) [.int (xs (ix (v3 + 1))), .int (xs (ix (v3 + 2))), .int (xs (ix (v3 + 3))), .int (xs (ix (v3 + 4))), .int (xs (ix (v3 + 5)))] [] zy_X11_fact wd_407 wd_408 wd_409 ⟨_, _, rfl⟩ (by decide) C dL_law_245 (by first | exact Nat.le_of_ble_eq_true rfl | simp [cat_rf]) (by first | exact Nat.le_of_ble_eq_true rfl | simp [cat_rf]) (by first | exact Nat.le_of_ble_eq_true rfl | simp [cat_rf]) (by rw [hmc_of hΓ]; exact q28) (by rw [hms_of hΓ]; exact q29) rfl rfl q30 (okX11_fact hb) ?_
        rintro o σ31 ⟨y32, rfl, hb⟩
        refine ⟨_, rfl, ?_⟩
        refine g_aload_n (some v2) C dL_law_248 2 rfl ?_
        refine g_aload_n (some b0) C dL_law_249 0 rfl ?_
        refine g_iload_n C dL_law_250 3 rfl ?_
        refine g_iconst (v := 1) C dL_law_251 (by decide) ?_
        refine g_iadd C dL_law_252 ?_
        obtain ⟨q33, hb⟩ := hb
        refine g_sld hsc C dL_law_253 q33 ?_
        refine g_aload_n (some b0) C dL_law_254 0 rfl ?_
        refine g_iload_n C dL_law_255 3 rfl ?_
        refine g_iconst (v := 2) C dL_law_256 (by decide) ?_
        refine g_iadd C dL_law_257 ?_
        obtain ⟨q34, hb⟩ := hb
        refine g_sld hsc C dL_law_258 q34 ?_
        refine g_aload_n (some b0) C dL_law_259 0 rfl ?_
        refine g_iload_n C dL_law_260 3 rfl ?_
        refine g_iconst (v := 3) C dL_law_261 (by decide) ?_
        refine g_iadd C dL_law_262 ?_
        obtain ⟨q35, hb⟩ := hb
        refine g_sld hsc C dL_law_263 q35 ?_
        refine g_aload_n (some b0) C dL_law_264 0 rfl ?_
        refine g_iload_n C dL_law_265 3 rfl ?_
        refine g_iconst (v := 4) C dL_law_266 (by decide) ?_
        refine g_iadd C dL_law_267 ?_
        obtain ⟨q36, hb⟩ := hb
        refine g_sld hsc C dL_law_268 q36 ?_
        refine g_aload_n (some b0) C dL_law_269 0 rfl ?_
        refine g_iload_n C dL_law_270 3 rfl ?_
        refine g_iconst (v := 5) C dL_law_271 (by decide) ?_
        refine g_iadd C dL_law_272 ?_
        obtain ⟨q37, hb⟩ := hb
        refine g_sld hsc C dL_law_273 q37 ?_
        obtain ⟨q38, q39, hb⟩ := hb
        obtain ⟨q40, hb⟩ := hb
        refine g_invV (ci := 16) [.int (xs (ix (v3 + 1))), .int (xs (ix (v3 + 2))), .int (xs (ix (v3 + 3))), .int (xs (ix (v3 + 4))), .int (xs (ix (v3 + 5)))] [.int y32] zy_X16_fact wd_1017 wd_1018 wd_1019 ⟨_, _, rfl⟩ (by decide) C dL_law_274 (by first | exact Nat.le_of_ble_eq_true rfl | simp [cat_rf]) (by first | exact Nat.le_of_ble_eq_true rfl | simp [cat_rf]) (by first | exact Nat.le_of_ble_eq_true rfl | simp [cat_rf]) (by rw [hmc_of hΓ]; exact q38) (by rw [hms_of hΓ]; exact q39) rfl rfl q40 (okX16_fact hb) ?_
        rintro o σ41 ⟨y42, rfl, hb⟩
        refine ⟨_, rfl, ?_⟩
        refine g_icmp_eq (tgt := 1556) C dL_law_277 (by decide) (fun c => ?_) (fun c => ?_)
        ·
          replace hb := hb.1 (c)
          refine g_iinc (v := v3 + 7) (lv' := [(3, .int (v3 + 7)), (0, .ref b0), (1, .ref v1), (2, .ref v2)]) C dL_law_1556 3 rfl rfl (hnl_of hΓ (by decide)) (by first | rfl | simp [cat_rf]) ?_
          refine g_goto (tgt := 18) C dL_law_1559 (by decide) ?_
          refine g_sub (lv' := [(0, .ref b0), (1, .ref v1), (2, .ref v2), (3, .int (v3 + 7))]) [1, 2, 3, 0] rfl ?_
          exact h18 _ _ _ _ _ _ hb
        ·
          replace hb := hb.2 (c)
          refine g_iconst (v := 0) C dL_law_280 (by decide) ?_
          obtain ⟨q43, q44, hb⟩ := hb
          exact g_zreturn C (by decide) hΓ q43 q44 dL_law_281 ⟨_, rfl, hb⟩
      ·
        by_cases c48 : ((xs (ix v3)) &&& 63) = 2
        ·
          replace hb := hb.2.2.1 c48
          refine g_tabIn (tgt := 282) (off := 249) C dL_law_33 (by rw [c48]; decide) (by rw [c48]; decide) (by rw [c48]; rfl) (by decide) ?_
          refine g_aload_n (some v1) C dL_law_282 1 rfl ?_
          refine g_aload_n (some b0) C dL_law_283 0 rfl ?_
          refine g_iload_n C dL_law_284 3 rfl ?_
          refine g_iconst (v := 1) C dL_law_285 (by decide) ?_
          refine g_iadd C dL_law_286 ?_
          obtain ⟨q46, hb⟩ := hb
          refine g_sld hsc C dL_law_287 q46 ?_
          refine g_aload_n (some b0) C dL_law_288 0 rfl ?_
          refine g_iload_n C dL_law_289 3 rfl ?_
          refine g_iconst (v := 2) C dL_law_290 (by decide) ?_
          refine g_iadd C dL_law_291 ?_
          obtain ⟨q47, hb⟩ := hb
          refine g_sld hsc C dL_law_292 q47 ?_
          refine g_if_eq (tgt := 300) C dL_law_293 (by decide) (fun c => ?_) (fun c => ?_)
          ·
            replace hb := hb.1 (c)
            refine g_iconst (v := 0) C dL_law_300 (by decide) ?_
            refine g_sub (lv' := [(0, .ref b0), (1, .ref v1), (2, .ref v2), (3, .int v3)]) [0, 1, 2, 3] rfl ?_
            exact kwL_law_301 C hΓ hsc h18 _ _ _ _ _ _ _ _ _ hb
          ·
            replace hb := hb.2 (c)
            refine g_iconst (v := 1) C dL_law_296 (by decide) ?_
            refine g_goto (tgt := 301) C dL_law_297 (by decide) ?_
            refine g_sub (lv' := [(0, .ref b0), (1, .ref v1), (2, .ref v2), (3, .int v3)]) [0, 1, 2, 3] rfl ?_
            exact kwL_law_301 C hΓ hsc h18 _ _ _ _ _ _ _ _ _ hb
        ·
          by_cases c71 : ((xs (ix v3)) &&& 63) = 3
          ·
            replace hb := hb.2.2.2.1 c71
            refine g_tabIn (tgt := 331) (off := 298) C dL_law_33 (by rw [c71]; decide) (by rw [c71]; decide) (by rw [c71]; rfl) (by decide) ?_
            refine g_aload_n (some v1) C dL_law_331 1 rfl ?_
            refine g_aload_n (some b0) C dL_law_332 0 rfl ?_
            refine g_iload_n C dL_law_333 3 rfl ?_
            refine g_iconst (v := 1) C dL_law_334 (by decide) ?_
            refine g_iadd C dL_law_335 ?_
            obtain ⟨q49, hb⟩ := hb
            refine g_sld hsc C dL_law_336 q49 ?_
            refine g_aload_n (some b0) C dL_law_337 0 rfl ?_
            refine g_iload_n C dL_law_338 3 rfl ?_
            refine g_iconst (v := 2) C dL_law_339 (by decide) ?_
            refine g_iadd C dL_law_340 ?_
            obtain ⟨q50, hb⟩ := hb
            refine g_sld hsc C dL_law_341 q50 ?_
            refine g_aload_n (some b0) C dL_law_342 0 rfl ?_
            refine g_iload_n C dL_law_343 3 rfl ?_
            refine g_iconst (v := 3) C dL_law_344 (by decide) ?_
            refine g_iadd C dL_law_345 ?_
            obtain ⟨q51, hb⟩ := hb
            refine g_sld hsc C dL_law_346 q51 ?_
            refine g_i2l C dL_law_347 ?_
            refine g_bipush (v := 32) C dL_law_348 (by decide) ?_
            refine g_lshl C dL_law_350 ?_
            refine g_aload_n (some b0) C dL_law_351 0 rfl ?_
            refine g_iload_n C dL_law_352 3 rfl ?_
            refine g_iconst (v := 4) C dL_law_353 (by decide) ?_
            refine g_iadd C dL_law_354 ?_
            obtain ⟨q52, hb⟩ := hb
            refine g_sld hsc C dL_law_355 q52 ?_
            refine g_i2l C dL_law_356 ?_
            refine g_ldc2 C wd_1601 dL_law_357 ?_
            refine g_land C dL_law_360 ?_
            refine g_lor C dL_law_361 ?_
            obtain ⟨m53, m54, q55, q56, hb⟩ := hb
            obtain ⟨q57, hb⟩ := hb
            refine g_invV (ci := 11) [.int (xs (ix (v3 + 1))), .int (xs (ix (v3 + 2))), .long (((Int32.toInt64 (xs (ix (v3 + 3)))) <<< (Int32.toInt64 32 &&& 63)) ||| ((Int32.toInt64 (xs (ix (v3 + 4)))) &&& 4294967295))] [] zy_X11_put wd_445 wd_446 wd_447 ⟨_, _, rfl⟩ (by decide) C dL_law_362 (by first | exact Nat.le_of_ble_eq_true rfl | simp [cat_rf]) (by first | exact Nat.le_of_ble_eq_true rfl | simp [cat_rf]) (by first | exact Nat.le_of_ble_eq_true rfl | simp [cat_rf]) (by rw [hmc_of hΓ]; exact q55) (by rw [hms_of hΓ]; exact q56) rfl rfl q57 (okX11_put hb) ?_
            rintro o σ58 ⟨y59, rfl, hb⟩
            refine ⟨_, rfl, ?_⟩
            refine g_aload_n (some v2) C dL_law_365 2 rfl ?_
            refine g_aload_n (some b0) C dL_law_366 0 rfl ?_
            refine g_iload_n C dL_law_367 3 rfl ?_
            refine g_iconst (v := 1) C dL_law_368 (by decide) ?_
            refine g_iadd C dL_law_369 ?_
            obtain ⟨q60, hb⟩ := hb
            refine g_sld hsc C dL_law_370 q60 ?_
            refine g_aload_n (some b0) C dL_law_371 0 rfl ?_
            refine g_iload_n C dL_law_372 3 rfl ?_
            refine g_iconst (v := 2) C dL_law_373 (by decide) ?_
            refine g_iadd C dL_law_374 ?_
            obtain ⟨q61, hb⟩ := hb
            refine g_sld hsc C dL_law_375 q61 ?_
            refine g_aload_n (some b0) C dL_law_376 0 rfl ?_
            refine g_iload_n C dL_law_377 3 rfl ?_
            refine g_iconst (v := 3) C dL_law_378 (by decide) ?_
            refine g_iadd C dL_law_379 ?_
            obtain ⟨q62, hb⟩ := hb
            refine g_sld hsc C dL_law_380 q62 ?_
            refine g_i2l C dL_law_381 ?_
            refine g_bipush (v := 32) C dL_law_382 (by decide) ?_
            refine g_lshl C dL_law_384 ?_
            refine g_aload_n (some b0) C dL_law_385 0 rfl ?_
            refine g_iload_n C dL_law_386 3 rfl ?_
            refine g_iconst (v := 4) C dL_law_387 (by decide) ?_
            refine g_iadd C dL_law_388 ?_
            obtain ⟨q63, hb⟩ := hb
            refine g_sld hsc C dL_law_389 q63 ?_
            refine g_i2l C dL_law_390 ?_
            refine g_ldc2 C wd_1601 dL_law_391 ?_
            refine g_land C dL_law_394 ?_
            refine g_lor C dL_law_395 ?_
            obtain ⟨q64, q65, hb⟩ := hb
            obtain ⟨q66, hb⟩ := hb
            refine g_invV (ci := 16) [.int (xs (ix (v3 + 1))), .int (xs (ix (v3 + 2))), .long (((Int32.toInt64 (xs (ix (v3 + 3)))) <<< (Int32.toInt64 32 &&& 63)) ||| ((Int32.toInt64 (xs (ix (v3 + 4)))) &&& 4294967295))] [.int y59] zy_X16_put wd_1033 wd_1034 wd_1035 ⟨_, _, rfl⟩ (by decide) C dL_law_396 (by first | exact Nat.le_of_ble_eq_true rfl | simp [cat_rf]) (by first | exact Nat.le_of_ble_eq_true rfl | simp [cat_rf]) (by first | exact Nat.le_of_ble_eq_true rfl | simp [cat_rf]) (by rw [hmc_of hΓ]; exact q64) (by rw [hms_of hΓ]; exact q65) rfl rfl q66 (okX16_put hb) ?_
            rintro o σ67 ⟨y68, rfl, hb⟩
            refine ⟨_, rfl, ?_⟩
            refine g_icmp_eq (tgt := 1556) C dL_law_399 (by decide) (fun c => ?_) (fun c => ?_)
            ·
              replace hb := hb.1 (c)
              refine g_iinc (v := v3 + 7) (lv' := [(3, .int (v3 + 7)), (0, .ref b0), (1, .ref v1), (2, .ref v2)]) C dL_law_1556 3 rfl rfl (hnl_of hΓ (by decide)) (by first | rfl | simp [cat_rf]) ?_
              refine g_goto (tgt := 18) C dL_law_1559 (by decide) ?_
              refine g_sub (lv' := [(0, .ref b0), (1, .ref v1), (2, .ref v2), (3, .int (v3 + 7))]) [1, 2, 3, 0] rfl ?_
              exact h18 _ _ _ _ _ _ hb
            ·
              replace hb := hb.2 (c)
              refine g_iconst (v := 0) C dL_law_402 (by decide) ?_
              obtain ⟨q69, q70, hb⟩ := hb
              exact g_zreturn C (by decide) hΓ q69 q70 dL_law_403 ⟨_, rfl, hb⟩
          ·
            by_cases c88 : ((xs (ix v3)) &&& 63) = 4
            ·
              replace hb := hb.2.2.2.2.1 c88
              refine g_tabIn (tgt := 404) (off := 371) C dL_law_33 (by rw [c88]; decide) (by rw [c88]; decide) (by rw [c88]; rfl) (by decide) ?_
              refine g_aload_n (some v1) C dL_law_404 1 rfl ?_
              refine g_aload_n (some b0) C dL_law_405 0 rfl ?_
              refine g_iload_n C dL_law_406 3 rfl ?_
              refine g_iconst (v := 1) C dL_law_407 (by decide) ?_
              refine g_iadd C dL_law_408 ?_
              obtain ⟨q72, hb⟩ := hb
              refine g_sld hsc C dL_law_409 q72 ?_
              refine g_aload_n (some b0) C dL_law_410 0 rfl ?_
              refine g_iload_n C dL_law_411 3 rfl ?_
              refine g_iconst (v := 2) C dL_law_412 (by decide) ?_
              refine g_iadd C dL_law_413 ?_
              obtain ⟨q73, hb⟩ := hb
              refine g_sld hsc C dL_law_414 q73 ?_
              obtain ⟨q74, q75, hb⟩ := hb
              obtain ⟨q76, hb⟩ := hb
              refine g_invV (ci := 11) [.int (xs (ix (v3 + 1))), .int (xs (ix (v3 + 2)))] [] zy_X11_told wd_459 wd_460 wd_461 ⟨_, _, rfl⟩ (by decide) C dL_law_415 (by first | exact Nat.le_of_ble_eq_true rfl | simp [cat_rf]) (by first | exact Nat.le_of_ble_eq_true rfl | simp [cat_rf]) (by first | exact Nat.le_of_ble_eq_true rfl | simp [cat_rf]) (by rw [hmc_of hΓ]; exact q74) (by rw [hms_of hΓ]; exact q75) rfl rfl q76 (okX11_told hb) ?_
              rintro o σ77 ⟨y78, rfl, hb⟩
              refine ⟨_, rfl, ?_⟩
              refine g_aload_n (some v2) C dL_law_418 2 rfl ?_
              refine g_aload_n (some b0) C dL_law_419 0 rfl ?_
              refine g_iload_n C dL_law_420 3 rfl ?_
              refine g_iconst (v := 1) C dL_law_421 (by decide) ?_
              refine g_iadd C dL_law_422 ?_
              obtain ⟨q79, hb⟩ := hb
              refine g_sld hsc C dL_law_423 q79 ?_
              refine g_aload_n (some b0) C dL_law_424 0 rfl ?_
              refine g_iload_n C dL_law_425 3 rfl ?_
              refine g_iconst (v := 2) C dL_law_426 (by decide) ?_
              refine g_iadd C dL_law_427 ?_
              obtain ⟨q80, hb⟩ := hb
              refine g_sld hsc C dL_law_428 q80 ?_
              obtain ⟨q81, q82, hb⟩ := hb
              obtain ⟨q83, hb⟩ := hb
              refine g_invV (ci := 16) [.int (xs (ix (v3 + 1))), .int (xs (ix (v3 + 2)))] [.long y78] zy_X16_told wd_1055 wd_1056 wd_1057 ⟨_, _, rfl⟩ (by decide) C dL_law_429 (by first | exact Nat.le_of_ble_eq_true rfl | simp [cat_rf]) (by first | exact Nat.le_of_ble_eq_true rfl | simp [cat_rf]) (by first | exact Nat.le_of_ble_eq_true rfl | simp [cat_rf]) (by rw [hmc_of hΓ]; exact q81) (by rw [hms_of hΓ]; exact q82) rfl rfl q83 (okX16_told hb) ?_
              rintro o σ84 ⟨y85, rfl, hb⟩
              refine ⟨_, rfl, ?_⟩
              refine g_lcmp C dL_law_432 ?_
              refine g_if_eq (tgt := 1556) C dL_law_433 (by decide) (fun c => ?_) (fun c => ?_)
              ·
                replace hb := hb.1 (lc_eq.mp c)
                refine g_iinc (v := v3 + 7) (lv' := [(3, .int (v3 + 7)), (0, .ref b0), (1, .ref v1), (2, .ref v2)]) C dL_law_1556 3 rfl rfl (hnl_of hΓ (by decide)) (by first | rfl | simp [cat_rf]) ?_
                refine g_goto (tgt := 18) C dL_law_1559 (by decide) ?_
                refine g_sub (lv' := [(0, .ref b0), (1, .ref v1), (2, .ref v2), (3, .int (v3 + 7))]) [1, 2, 3, 0] rfl ?_
                exact h18 _ _ _ _ _ _ hb
              ·
                replace hb := hb.2 (lcn_eq.mp c)
                refine g_iconst (v := 0) C dL_law_436 (by decide) ?_
                obtain ⟨q86, q87, hb⟩ := hb
                exact g_zreturn C (by decide) hΓ q86 q87 dL_law_437 ⟨_, rfl, hb⟩
            ·
              by_cases c105 : ((xs (ix v3)) &&& 63) = 5
              ·
                replace hb := hb.2.2.2.2.2.1 c105
                refine g_tabIn (tgt := 438) (off := 405) C dL_law_33 (by rw [c105]; decide) (by rw [c105]; decide) (by rw [c105]; rfl) (by decide) ?_
                refine g_aload_n (some v1) C dL_law_438 1 rfl ?_
                refine g_aload_n (some b0) C dL_law_439 0 rfl ?_
                refine g_iload_n C dL_law_440 3 rfl ?_
                refine g_iconst (v := 1) C dL_law_441 (by decide) ?_
                refine g_iadd C dL_law_442 ?_
                obtain ⟨q89, hb⟩ := hb
                refine g_sld hsc C dL_law_443 q89 ?_
                obtain ⟨m90, m91, q92, q93, hb⟩ := hb
                obtain ⟨q94, hb⟩ := hb
                refine g_invV (ci := 11) [.int (xs (ix (v3 + 1)))] [] zy_X11_base wd_472 wd_473 wd_474 ⟨_, _, rfl⟩ (by decide) C dL_law_444 (by first | exact Nat.le_of_ble_eq_true rfl | simp [cat_rf]) (by first | exact Nat.le_of_ble_eq_true rfl | simp [cat_rf]) (by first | exact Nat.le_of_ble_eq_true rfl | simp [cat_rf]) (by rw [hmc_of hΓ]; exact q92) (by rw [hms_of hΓ]; exact q93) rfl rfl q94 (okX11_base hb) ?_
                rintro o σ95 ⟨y96, rfl, hb⟩
                refine ⟨_, rfl, ?_⟩
                refine g_aload_n (some v2) C dL_law_447 2 rfl ?_
                refine g_aload_n (some b0) C dL_law_448 0 rfl ?_
                refine g_iload_n C dL_law_449 3 rfl ?_
                refine g_iconst (v := 1) C dL_law_450 (by decide) ?_
                refine g_iadd C dL_law_451 ?_
                obtain ⟨q97, hb⟩ := hb
                refine g_sld hsc C dL_law_452 q97 ?_
                obtain ⟨q98, q99, hb⟩ := hb
                obtain ⟨q100, hb⟩ := hb
                refine g_invV (ci := 16) [.int (xs (ix (v3 + 1)))] [.int y96] zy_X16_base wd_1060 wd_1061 wd_1062 ⟨_, _, rfl⟩ (by decide) C dL_law_453 (by first | exact Nat.le_of_ble_eq_true rfl | simp [cat_rf]) (by first | exact Nat.le_of_ble_eq_true rfl | simp [cat_rf]) (by first | exact Nat.le_of_ble_eq_true rfl | simp [cat_rf]) (by rw [hmc_of hΓ]; exact q98) (by rw [hms_of hΓ]; exact q99) rfl rfl q100 (okX16_base hb) ?_
                rintro o σ101 ⟨y102, rfl, hb⟩
                refine ⟨_, rfl, ?_⟩
                refine g_icmp_eq (tgt := 1556) C dL_law_456 (by decide) (fun c => ?_) (fun c => ?_)
                ·
                  replace hb := hb.1 (c)
                  refine g_iinc (v := v3 + 7) (lv' := [(3, .int (v3 + 7)), (0, .ref b0), (1, .ref v1), (2, .ref v2)]) C dL_law_1556 3 rfl rfl (hnl_of hΓ (by decide)) (by first | rfl | simp [cat_rf]) ?_
                  refine g_goto (tgt := 18) C dL_law_1559 (by decide) ?_
                  refine g_sub (lv' := [(0, .ref b0), (1, .ref v1), (2, .ref v2), (3, .int (v3 + 7))]) [1, 2, 3, 0] rfl ?_
                  exact h18 _ _ _ _ _ _ hb
                ·
                  replace hb := hb.2 (c)
                  refine g_iconst (v := 0) C dL_law_459 (by decide) ?_
                  obtain ⟨q103, q104, hb⟩ := hb
                  exact g_zreturn C (by decide) hΓ q103 q104 dL_law_460 ⟨_, rfl, hb⟩
              ·
                by_cases c126 : ((xs (ix v3)) &&& 63) = 6
                ·
                  replace hb := hb.2.2.2.2.2.2.1 c126
                  refine g_tabIn (tgt := 461) (off := 428) C dL_law_33 (by rw [c126]; decide) (by rw [c126]; decide) (by rw [c126]; rfl) (by decide) ?_
                  refine g_aload_n (some v1) C dL_law_461 1 rfl ?_
                  refine g_aload_n (some b0) C dL_law_462 0 rfl ?_
                  refine g_iload_n C dL_law_463 3 rfl ?_
                  refine g_iconst (v := 1) C dL_law_464 (by decide) ?_
                  refine g_iadd C dL_law_465 ?_
                  obtain ⟨q106, hb⟩ := hb
                  refine g_sld hsc C dL_law_466 q106 ?_
                  refine g_aload_n (some b0) C dL_law_467 0 rfl ?_
                  refine g_iload_n C dL_law_468 3 rfl ?_
                  refine g_iconst (v := 2) C dL_law_469 (by decide) ?_
                  refine g_iadd C dL_law_470 ?_
                  obtain ⟨q107, hb⟩ := hb
                  refine g_sld hsc C dL_law_471 q107 ?_
                  refine g_aload_n (some b0) C dL_law_472 0 rfl ?_
                  refine g_iload_n C dL_law_473 3 rfl ?_
                  refine g_iconst (v := 3) C dL_law_474 (by decide) ?_
                  refine g_iadd C dL_law_475 ?_
                  obtain ⟨q108, hb⟩ := hb
                  refine g_sld hsc C dL_law_476 q108 ?_
                  obtain ⟨m109, m110, q111, q112, hb⟩ := hb
                  obtain ⟨q113, hb⟩ := hb
                  refine g_invV (ci := 11) [.int (xs (ix (v3 + 1))), .int (xs (ix (v3 + 2))), .int (xs (ix (v3 + 3)))] [] zy_X11_pick wd_514 wd_515 wd_516 ⟨_, _, rfl⟩ (by decide) C dL_law_477 (by first | exact Nat.le_of_ble_eq_true rfl | simp [cat_rf]) (by first | exact Nat.le_of_ble_eq_true rfl | simp [cat_rf]) (by first | exact Nat.le_of_ble_eq_true rfl | simp [cat_rf]) (by rw [hmc_of hΓ]; exact q111) (by rw [hms_of hΓ]; exact q112) rfl rfl q113 (okX11_pick hb) ?_
                  rintro o σ114 ⟨y115, rfl, hb⟩
                  refine ⟨_, rfl, ?_⟩
                  refine g_aload_n (some v2) C dL_law_480 2 rfl ?_
                  refine g_aload_n (some b0) C dL_law_481 0 rfl ?_
                  refine g_iload_n C dL_law_482 3 rfl ?_
                  refine g_iconst (v := 1) C dL_law_483 (by decide) ?_
                  refine g_iadd C dL_law_484 ?_
                  obtain ⟨q116, hb⟩ := hb
                  refine g_sld hsc C dL_law_485 q116 ?_
                  refine g_aload_n (some b0) C dL_law_486 0 rfl ?_
                  refine g_iload_n C dL_law_487 3 rfl ?_
                  refine g_iconst (v := 2) C dL_law_488 (by decide) ?_
                  refine g_iadd C dL_law_489 ?_
                  obtain ⟨q117, hb⟩ := hb
                  refine g_sld hsc C dL_law_490 q117 ?_
                  refine g_aload_n (some b0) C dL_law_491 0 rfl ?_
                  refine g_iload_n C dL_law_492 3 rfl ?_
                  refine g_iconst (v := 3) C dL_law_493 (by decide) ?_
                  refine g_iadd C dL_law_494 ?_
                  obtain ⟨q118, hb⟩ := hb
                  refine g_sld hsc C dL_law_495 q118 ?_
                  obtain ⟨q119, q120, hb⟩ := hb
                  obtain ⟨q121, hb⟩ := hb
                  refine g_invV (ci := 16) [.int (xs (ix (v3 + 1))), .int (xs (ix (v3 + 2))), .int (xs (ix (v3 + 3)))] [.int y115] zy_X16_pick wd_1068 wd_1069 wd_1070 ⟨_, _, rfl⟩ (by decide) C dL_law_496 (by first | exact Nat.le_of_ble_eq_true rfl | simp [cat_rf]) (by first | exact Nat.le_of_ble_eq_true rfl | simp [cat_rf]) (by first | exact Nat.le_of_ble_eq_true rfl | simp [cat_rf]) (by rw [hmc_of hΓ]; exact q119) (by rw [hms_of hΓ]; exact q120) rfl rfl q121 (okX16_pick hb) ?_
                  rintro o σ122 ⟨y123, rfl, hb⟩
                  refine ⟨_, rfl, ?_⟩
                  refine g_icmp_eq (tgt := 1556) C dL_law_499 (by decide) (fun c => ?_) (fun c => ?_)
                  ·
                    replace hb := hb.1 (c)
                    refine g_iinc (v := v3 + 7) (lv' := [(3, .int (v3 + 7)), (0, .ref b0), (1, .ref v1), (2, .ref v2)]) C dL_law_1556 3 rfl rfl (hnl_of hΓ (by decide)) (by first | rfl | simp [cat_rf]) ?_
                    refine g_goto (tgt := 18) C dL_law_1559 (by decide) ?_
                    refine g_sub (lv' := [(0, .ref b0), (1, .ref v1), (2, .ref v2), (3, .int (v3 + 7))]) [1, 2, 3, 0] rfl ?_
                    exact h18 _ _ _ _ _ _ hb
                  ·
                    replace hb := hb.2 (c)
                    refine g_iconst (v := 0) C dL_law_502 (by decide) ?_
                    obtain ⟨q124, q125, hb⟩ := hb
                    exact g_zreturn C (by decide) hΓ q124 q125 dL_law_503 ⟨_, rfl, hb⟩
                ·
                  by_cases c147 : ((xs (ix v3)) &&& 63) = 7
                  ·
                    replace hb := hb.2.2.2.2.2.2.2.1 c147
                    refine g_tabIn (tgt := 504) (off := 471) C dL_law_33 (by rw [c147]; decide) (by rw [c147]; decide) (by rw [c147]; rfl) (by decide) ?_
                    refine g_aload_n (some v1) C dL_law_504 1 rfl ?_
                    refine g_aload_n (some b0) C dL_law_505 0 rfl ?_
                    refine g_iload_n C dL_law_506 3 rfl ?_
                    refine g_iconst (v := 1) C dL_law_507 (by decide) ?_
                    refine g_iadd C dL_law_508 ?_
                    obtain ⟨q127, hb⟩ := hb
                    refine g_sld hsc C dL_law_509 q127 ?_
                    refine g_aload_n (some b0) C dL_law_510 0 rfl ?_
                    refine g_iload_n C dL_law_511 3 rfl ?_
                    refine g_iconst (v := 2) C dL_law_512 (by decide) ?_
                    refine g_iadd C dL_law_513 ?_
                    obtain ⟨q128, hb⟩ := hb
                    refine g_sld hsc C dL_law_514 q128 ?_
                    refine g_aload_n (some b0) C dL_law_515 0 rfl ?_
                    refine g_iload_n C dL_law_516 3 rfl ?_
                    refine g_iconst (v := 3) C dL_law_517 (by decide) ?_
                    refine g_iadd C dL_law_518 ?_
                    obtain ⟨q129, hb⟩ := hb
                    refine g_sld hsc C dL_law_519 q129 ?_
                    obtain ⟨m130, m131, q132, q133, hb⟩ := hb
                    obtain ⟨q134, hb⟩ := hb
                    refine g_invV (ci := 11) [.int (xs (ix (v3 + 1))), .int (xs (ix (v3 + 2))), .int (xs (ix (v3 + 3)))] [] zy_X11_like wd_534 wd_535 wd_536 ⟨_, _, rfl⟩ (by decide) C dL_law_520 (by first | exact Nat.le_of_ble_eq_true rfl | simp [cat_rf]) (by first | exact Nat.le_of_ble_eq_true rfl | simp [cat_rf]) (by first | exact Nat.le_of_ble_eq_true rfl | simp [cat_rf]) (by rw [hmc_of hΓ]; exact q132) (by rw [hms_of hΓ]; exact q133) rfl rfl q134 (okX11_like hb) ?_
                    rintro o σ135 ⟨y136, rfl, hb⟩
                    refine ⟨_, rfl, ?_⟩
                    refine g_aload_n (some v2) C dL_law_523 2 rfl ?_
                    refine g_aload_n (some b0) C dL_law_524 0 rfl ?_
                    refine g_iload_n C dL_law_525 3 rfl ?_
                    refine g_iconst (v := 1) C dL_law_526 (by decide) ?_
                    refine g_iadd C dL_law_527 ?_
                    obtain ⟨q137, hb⟩ := hb
                    refine g_sld hsc C dL_law_528 q137 ?_
                    refine g_aload_n (some b0) C dL_law_529 0 rfl ?_
                    refine g_iload_n C dL_law_530 3 rfl ?_
                    refine g_iconst (v := 2) C dL_law_531 (by decide) ?_
                    refine g_iadd C dL_law_532 ?_
                    obtain ⟨q138, hb⟩ := hb
                    refine g_sld hsc C dL_law_533 q138 ?_
                    refine g_aload_n (some b0) C dL_law_534 0 rfl ?_
                    refine g_iload_n C dL_law_535 3 rfl ?_
                    refine g_iconst (v := 3) C dL_law_536 (by decide) ?_
                    refine g_iadd C dL_law_537 ?_
                    obtain ⟨q139, hb⟩ := hb
                    refine g_sld hsc C dL_law_538 q139 ?_
                    obtain ⟨q140, q141, hb⟩ := hb
                    obtain ⟨q142, hb⟩ := hb
                    refine g_invV (ci := 16) [.int (xs (ix (v3 + 1))), .int (xs (ix (v3 + 2))), .int (xs (ix (v3 + 3)))] [.int y136] zy_X16_like wd_1079 wd_1080 wd_1081 ⟨_, _, rfl⟩ (by decide) C dL_law_539 (by first | exact Nat.le_of_ble_eq_true rfl | simp [cat_rf]) (by first | exact Nat.le_of_ble_eq_true rfl | simp [cat_rf]) (by first | exact Nat.le_of_ble_eq_true rfl | simp [cat_rf]) (by rw [hmc_of hΓ]; exact q140) (by rw [hms_of hΓ]; exact q141) rfl rfl q142 (okX16_like hb) ?_
                    rintro o σ143 ⟨y144, rfl, hb⟩
                    refine ⟨_, rfl, ?_⟩
                    refine g_icmp_eq (tgt := 1556) C dL_law_542 (by decide) (fun c => ?_) (fun c => ?_)
                    ·
                      replace hb := hb.1 (c)
                      refine g_iinc (v := v3 + 7) (lv' := [(3, .int (v3 + 7)), (0, .ref b0), (1, .ref v1), (2, .ref v2)]) C dL_law_1556 3 rfl rfl (hnl_of hΓ (by decide)) (by first | rfl | simp [cat_rf]) ?_
                      refine g_goto (tgt := 18) C dL_law_1559 (by decide) ?_
                      refine g_sub (lv' := [(0, .ref b0), (1, .ref v1), (2, .ref v2), (3, .int (v3 + 7))]) [1, 2, 3, 0] rfl ?_
                      exact h18 _ _ _ _ _ _ hb
                    ·
                      replace hb := hb.2 (c)
                      refine g_iconst (v := 0) C dL_law_545 (by decide) ?_
                      obtain ⟨q145, q146, hb⟩ := hb
                      exact g_zreturn C (by decide) hΓ q145 q146 dL_law_546 ⟨_, rfl, hb⟩
                  ·
                    by_cases c174 : ((xs (ix v3)) &&& 63) = 8
                    ·
                      replace hb := hb.2.2.2.2.2.2.2.2.1 c174
                      refine g_tabIn (tgt := 547) (off := 514) C dL_law_33 (by rw [c174]; decide) (by rw [c174]; decide) (by rw [c174]; rfl) (by decide) ?_
                      refine g_aload_n (some v1) C dL_law_547 1 rfl ?_
                      refine g_aload_n (some b0) C dL_law_548 0 rfl ?_
                      refine g_iload_n C dL_law_549 3 rfl ?_
                      refine g_iconst (v := 1) C dL_law_550 (by decide) ?_
                      refine g_iadd C dL_law_551 ?_
                      obtain ⟨q148, hb⟩ := hb
                      refine g_sld hsc C dL_law_552 q148 ?_
                      refine g_aload_n (some b0) C dL_law_553 0 rfl ?_
                      refine g_iload_n C dL_law_554 3 rfl ?_
                      refine g_iconst (v := 2) C dL_law_555 (by decide) ?_
                      refine g_iadd C dL_law_556 ?_
                      obtain ⟨q149, hb⟩ := hb
                      refine g_sld hsc C dL_law_557 q149 ?_
                      refine g_aload_n (some b0) C dL_law_558 0 rfl ?_
                      refine g_iload_n C dL_law_559 3 rfl ?_
                      refine g_iconst (v := 3) C dL_law_560 (by decide) ?_
                      refine g_iadd C dL_law_561 ?_
                      obtain ⟨q150, hb⟩ := hb
                      refine g_sld hsc C dL_law_562 q150 ?_
                      refine g_aload_n (some b0) C dL_law_563 0 rfl ?_
                      refine g_iload_n C dL_law_564 3 rfl ?_
                      refine g_iconst (v := 4) C dL_law_565 (by decide) ?_
                      refine g_iadd C dL_law_566 ?_
                      obtain ⟨q151, hb⟩ := hb
                      refine g_sld hsc C dL_law_567 q151 ?_
                      refine g_aload_n (some b0) C dL_law_568 0 rfl ?_
                      refine g_iload_n C dL_law_569 3 rfl ?_
                      refine g_iconst (v := 5) C dL_law_570 (by decide) ?_
                      refine g_iadd C dL_law_571 ?_
                      obtain ⟨q152, hb⟩ := hb
                      refine g_sld hsc C dL_law_572 q152 ?_
                      refine g_aload_n (some b0) C dL_law_573 0 rfl ?_
                      refine g_iload_n C dL_law_574 3 rfl ?_
                      refine g_bipush (v := 6) C dL_law_575 (by decide) ?_
                      refine g_iadd C dL_law_577 ?_
                      obtain ⟨q153, hb⟩ := hb
                      refine g_sld hsc C dL_law_578 q153 ?_
                      obtain ⟨m154, m155, q156, q157, hb⟩ := hb
                      obtain ⟨q158, hb⟩ := hb
                      refine g_invV (ci := 11) [.int (xs (ix (v3 + 1))), .int (xs (ix (v3 + 2))), .int (xs (ix (v3 + 3))), .int (xs (ix (v3 + 4))), .int (xs (ix (v3 + 5))), .int (xs (ix (v3 + 6)))] [] zy_X11_cut wd_538 wd_539 wd_540 ⟨_, _, rfl⟩ (by decide) C dL_law_579 (by first | exact Nat.le_of_ble_eq_true rfl | simp [cat_rf]) (by first | exact Nat.le_of_ble_eq_true rfl | simp [cat_rf]) (by first | exact Nat.le_of_ble_eq_true rfl | simp [cat_rf]) (by rw [hmc_of hΓ]; exact q156) (by rw [hms_of hΓ]; exact q157) rfl rfl q158 (okX11_cut hb) ?_
                      rintro o σ159 ⟨y160, rfl, hb⟩
                      refine ⟨_, rfl, ?_⟩
                      refine g_aload_n (some v2) C dL_law_582 2 rfl ?_
                      refine g_aload_n (some b0) C dL_law_583 0 rfl ?_
                      refine g_iload_n C dL_law_584 3 rfl ?_
                      refine g_iconst (v := 1) C dL_law_585 (by decide) ?_
                      refine g_iadd C dL_law_586 ?_
                      obtain ⟨q161, hb⟩ := hb
                      refine g_sld hsc C dL_law_587 q161 ?_
                      refine g_aload_n (some b0) C dL_law_588 0 rfl ?_
                      refine g_iload_n C dL_law_589 3 rfl ?_
                      refine g_iconst (v := 2) C dL_law_590 (by decide) ?_
                      refine g_iadd C dL_law_591 ?_
                      obtain ⟨q162, hb⟩ := hb
                      refine g_sld hsc C dL_law_592 q162 ?_
                      refine g_aload_n (some b0) C dL_law_593 0 rfl ?_
                      refine g_iload_n C dL_law_594 3 rfl ?_
                      refine g_iconst (v := 3) C dL_law_595 (by decide) ?_
                      refine g_iadd C dL_law_596 ?_
                      obtain ⟨q163, hb⟩ := hb
                      refine g_sld hsc C dL_law_597 q163 ?_
                      refine g_aload_n (some b0) C dL_law_598 0 rfl ?_
                      refine g_iload_n C dL_law_599 3 rfl ?_
                      refine g_iconst (v := 4) C dL_law_600 (by decide) ?_
                      refine g_iadd C dL_law_601 ?_
                      obtain ⟨q164, hb⟩ := hb
                      refine g_sld hsc C dL_law_602 q164 ?_
                      refine g_aload_n (some b0) C dL_law_603 0 rfl ?_
                      refine g_iload_n C dL_law_604 3 rfl ?_
                      refine g_iconst (v := 5) C dL_law_605 (by decide) ?_
                      refine g_iadd C dL_law_606 ?_
                      obtain ⟨q165, hb⟩ := hb
                      refine g_sld hsc C dL_law_607 q165 ?_
                      refine g_aload_n (some b0) C dL_law_608 0 rfl ?_
                      refine g_iload_n C dL_law_609 3 rfl ?_
                      refine g_bipush (v := 6) C dL_law_610 (by decide) ?_
                      refine g_iadd C dL_law_612 ?_
                      obtain ⟨q166, hb⟩ := hb
                      refine g_sld hsc C dL_law_613 q166 ?_
                      obtain ⟨q167, q168, hb⟩ := hb
                      obtain ⟨q169, hb⟩ := hb
                      refine g_invV (ci := 16) [.int (xs (ix (v3 + 1))), .int (xs (ix (v3 + 2))), .int (xs (ix (v3 + 3))), .int (xs (ix (v3 + 4))), .int (xs (ix (v3 + 5))), .int (xs (ix (v3 + 6)))] [.int y160] zy_X16_cut wd_1083 wd_1084 wd_1085 ⟨_, _, rfl⟩ (by decide) C dL_law_614 (by first | exact Nat.le_of_ble_eq_true rfl | simp [cat_rf]) (by first | exact Nat.le_of_ble_eq_true rfl | simp [cat_rf]) (by first | exact Nat.le_of_ble_eq_true rfl | simp [cat_rf]) (by rw [hmc_of hΓ]; exact q167) (by rw [hms_of hΓ]; exact q168) rfl rfl q169 (okX16_cut hb) ?_
                      rintro o σ170 ⟨y171, rfl, hb⟩
                      refine ⟨_, rfl, ?_⟩
                      refine g_icmp_eq (tgt := 1556) C dL_law_617 (by decide) (fun c => ?_) (fun c => ?_)
                      ·
                        replace hb := hb.1 (c)
                        refine g_iinc (v := v3 + 7) (lv' := [(3, .int (v3 + 7)), (0, .ref b0), (1, .ref v1), (2, .ref v2)]) C dL_law_1556 3 rfl rfl (hnl_of hΓ (by decide)) (by first | rfl | simp [cat_rf]) ?_
                        refine g_goto (tgt := 18) C dL_law_1559 (by decide) ?_
                        refine g_sub (lv' := [(0, .ref b0), (1, .ref v1), (2, .ref v2), (3, .int (v3 + 7))]) [1, 2, 3, 0] rfl ?_
                        exact h18 _ _ _ _ _ _ hb
                      ·
                        replace hb := hb.2 (c)
                        refine g_iconst (v := 0) C dL_law_620 (by decide) ?_
                        obtain ⟨q172, q173, hb⟩ := hb
                        exact g_zreturn C (by decide) hΓ q172 q173 dL_law_621 ⟨_, rfl, hb⟩
                    ·
                      by_cases c197 : ((xs (ix v3)) &&& 63) = 9
                      ·
                        replace hb := hb.2.2.2.2.2.2.2.2.2.1 c197
                        refine g_tabIn (tgt := 622) (off := 589) C dL_law_33 (by rw [c197]; decide) (by rw [c197]; decide) (by rw [c197]; rfl) (by decide) ?_
                        refine g_aload_n (some v1) C dL_law_622 1 rfl ?_
                        refine g_aload_n (some b0) C dL_law_623 0 rfl ?_
                        refine g_iload_n C dL_law_624 3 rfl ?_
                        refine g_iconst (v := 1) C dL_law_625 (by decide) ?_
                        refine g_iadd C dL_law_626 ?_
                        obtain ⟨q175, hb⟩ := hb
                        refine g_sld hsc C dL_law_627 q175 ?_
                        refine g_aload_n (some b0) C dL_law_628 0 rfl ?_
                        refine g_iload_n C dL_law_629 3 rfl ?_
                        refine g_iconst (v := 2) C dL_law_630 (by decide) ?_
                        refine g_iadd C dL_law_631 ?_
                        obtain ⟨q176, hb⟩ := hb
                        refine g_sld hsc C dL_law_632 q176 ?_
                        refine g_aload_n (some b0) C dL_law_633 0 rfl ?_
                        refine g_iload_n C dL_law_634 3 rfl ?_
                        refine g_iconst (v := 3) C dL_law_635 (by decide) ?_
                        refine g_iadd C dL_law_636 ?_
                        obtain ⟨q177, hb⟩ := hb
                        refine g_sld hsc C dL_law_637 q177 ?_
                        refine g_aload_n (some b0) C dL_law_638 0 rfl ?_
                        refine g_iload_n C dL_law_639 3 rfl ?_
                        refine g_iconst (v := 4) C dL_law_640 (by decide) ?_
                        refine g_iadd C dL_law_641 ?_
                        obtain ⟨q178, hb⟩ := hb
                        refine g_sld hsc C dL_law_642 q178 ?_
                        obtain ⟨m179, m180, q181, q182, hb⟩ := hb
                        obtain ⟨q183, hb⟩ := hb
                        refine g_invV (ci := 11) [.int (xs (ix (v3 + 1))), .int (xs (ix (v3 + 2))), .int (xs (ix (v3 + 3))), .int (xs (ix (v3 + 4)))] [] zy_X11_pair wd_546 wd_547 wd_548 ⟨_, _, rfl⟩ (by decide) C dL_law_643 (by first | exact Nat.le_of_ble_eq_true rfl | simp [cat_rf]) (by first | exact Nat.le_of_ble_eq_true rfl | simp [cat_rf]) (by first | exact Nat.le_of_ble_eq_true rfl | simp [cat_rf]) (by rw [hmc_of hΓ]; exact q181) (by rw [hms_of hΓ]; exact q182) rfl rfl q183 (okX11_pair hb) ?_
                        rintro o σ184 ⟨y185, rfl, hb⟩
                        refine ⟨_, rfl, ?_⟩
                        refine g_aload_n (some v2) C dL_law_646 2 rfl ?_
                        refine g_aload_n (some b0) C dL_law_647 0 rfl ?_
                        refine g_iload_n C dL_law_648 3 rfl ?_
                        refine g_iconst (v := 1) C dL_law_649 (by decide) ?_
                        refine g_iadd C dL_law_650 ?_
                        obtain ⟨q186, hb⟩ := hb
                        refine g_sld hsc C dL_law_651 q186 ?_
                        refine g_aload_n (some b0) C dL_law_652 0 rfl ?_
                        refine g_iload_n C dL_law_653 3 rfl ?_
                        refine g_iconst (v := 2) C dL_law_654 (by decide) ?_
                        refine g_iadd C dL_law_655 ?_
                        obtain ⟨q187, hb⟩ := hb
                        refine g_sld hsc C dL_law_656 q187 ?_
                        refine g_aload_n (some b0) C dL_law_657 0 rfl ?_
                        refine g_iload_n C dL_law_658 3 rfl ?_
                        refine g_iconst (v := 3) C dL_law_659 (by decide) ?_
                        refine g_iadd C dL_law_660 ?_
                        obtain ⟨q188, hb⟩ := hb
                        refine g_sld hsc C dL_law_661 q188 ?_
                        refine g_aload_n (some b0) C dL_law_662 0 rfl ?_
                        refine g_iload_n C dL_law_663 3 rfl ?_
                        refine g_iconst (v := 4) C dL_law_664 (by decide) ?_
                        refine g_iadd C dL_law_665 ?_
                        obtain ⟨q189, hb⟩ := hb
                        refine g_sld hsc C dL_law_666 q189 ?_
                        obtain ⟨q190, q191, hb⟩ := hb
                        obtain ⟨q192, hb⟩ := hb
                        refine g_invV (ci := 16) [.int (xs (ix (v3 + 1))), .int (xs (ix (v3 + 2))), .int (xs (ix (v3 + 3))), .int (xs (ix (v3 + 4)))] [.int y185] zy_X16_pair wd_1087 wd_1088 wd_1089 ⟨_, _, rfl⟩ (by decide) C dL_law_667 (by first | exact Nat.le_of_ble_eq_true rfl | simp [cat_rf]) (by first | exact Nat.le_of_ble_eq_true rfl | simp [cat_rf]) (by first | exact Nat.le_of_ble_eq_true rfl | simp [cat_rf]) (by rw [hmc_of hΓ]; exact q190) (by rw [hms_of hΓ]; exact q191) rfl rfl q192 (okX16_pair hb) ?_
                        rintro o σ193 ⟨y194, rfl, hb⟩
                        refine ⟨_, rfl, ?_⟩
                        refine g_icmp_eq (tgt := 1556) C dL_law_670 (by decide) (fun c => ?_) (fun c => ?_)
                        ·
                          replace hb := hb.1 (c)
                          refine g_iinc (v := v3 + 7) (lv' := [(3, .int (v3 + 7)), (0, .ref b0), (1, .ref v1), (2, .ref v2)]) C dL_law_1556 3 rfl rfl (hnl_of hΓ (by decide)) (by first | rfl | simp [cat_rf]) ?_
                          refine g_goto (tgt := 18) C dL_law_1559 (by decide) ?_
                          refine g_sub (lv' := [(0, .ref b0), (1, .ref v1), (2, .ref v2), (3, .int (v3 + 7))]) [1, 2, 3, 0] rfl ?_
                          exact h18 _ _ _ _ _ _ hb
                        ·
                          replace hb := hb.2 (c)
                          refine g_iconst (v := 0) C dL_law_673 (by decide) ?_
                          obtain ⟨q195, q196, hb⟩ := hb
                          exact g_zreturn C (by decide) hΓ q195 q196 dL_law_674 ⟨_, rfl, hb⟩
                      ·
                        by_cases c216 : ((xs (ix v3)) &&& 63) = 10
                        ·
                          replace hb := hb.2.2.2.2.2.2.2.2.2.2.1 c216
                          refine g_tabIn (tgt := 675) (off := 642) C dL_law_33 (by rw [c216]; decide) (by rw [c216]; decide) (by rw [c216]; rfl) (by decide) ?_
                          refine g_aload_n (some v1) C dL_law_675 1 rfl ?_
                          refine g_aload_n (some b0) C dL_law_676 0 rfl ?_
                          refine g_iload_n C dL_law_677 3 rfl ?_
                          refine g_iconst (v := 1) C dL_law_678 (by decide) ?_
                          refine g_iadd C dL_law_679 ?_
                          obtain ⟨q198, hb⟩ := hb
                          refine g_sld hsc C dL_law_680 q198 ?_
                          refine g_aload_n (some b0) C dL_law_681 0 rfl ?_
                          refine g_iload_n C dL_law_682 3 rfl ?_
                          refine g_iconst (v := 2) C dL_law_683 (by decide) ?_
                          refine g_iadd C dL_law_684 ?_
                          obtain ⟨q199, hb⟩ := hb
                          refine g_sld hsc C dL_law_685 q199 ?_
                          obtain ⟨m200, m201, q202, q203, hb⟩ := hb
                          obtain ⟨q204, hb⟩ := hb
                          refine g_invV (ci := 11) [.int (xs (ix (v3 + 1))), .int (xs (ix (v3 + 2)))] [] zy_X11_either wd_554 wd_555 wd_556 ⟨_, _, rfl⟩ (by decide) C dL_law_686 (by first | exact Nat.le_of_ble_eq_true rfl | simp [cat_rf]) (by first | exact Nat.le_of_ble_eq_true rfl | simp [cat_rf]) (by first | exact Nat.le_of_ble_eq_true rfl | simp [cat_rf]) (by rw [hmc_of hΓ]; exact q202) (by rw [hms_of hΓ]; exact q203) rfl rfl q204 (okX11_either hb) ?_
                          rintro o σ205 ⟨y206, rfl, hb⟩
                          refine ⟨_, rfl, ?_⟩
                          refine g_aload_n (some v2) C dL_law_689 2 rfl ?_
                          refine g_aload_n (some b0) C dL_law_690 0 rfl ?_
                          refine g_iload_n C dL_law_691 3 rfl ?_
                          refine g_iconst (v := 1) C dL_law_692 (by decide) ?_
                          refine g_iadd C dL_law_693 ?_
                          obtain ⟨q207, hb⟩ := hb
                          refine g_sld hsc C dL_law_694 q207 ?_
                          refine g_aload_n (some b0) C dL_law_695 0 rfl ?_
                          refine g_iload_n C dL_law_696 3 rfl ?_
                          refine g_iconst (v := 2) C dL_law_697 (by decide) ?_
                          refine g_iadd C dL_law_698 ?_
                          obtain ⟨q208, hb⟩ := hb
                          refine g_sld hsc C dL_law_699 q208 ?_
                          obtain ⟨q209, q210, hb⟩ := hb
                          obtain ⟨q211, hb⟩ := hb
                          refine g_invV (ci := 16) [.int (xs (ix (v3 + 1))), .int (xs (ix (v3 + 2)))] [.int y206] zy_X16_either wd_1091 wd_1092 wd_1093 ⟨_, _, rfl⟩ (by decide) C dL_law_700 (by first | exact Nat.le_of_ble_eq_true rfl | simp [cat_rf]) (by first | exact Nat.le_of_ble_eq_true rfl | simp [cat_rf]) (by first | exact Nat.le_of_ble_eq_true rfl | simp [cat_rf]) (by rw [hmc_of hΓ]; exact q209) (by rw [hms_of hΓ]; exact q210) rfl rfl q211 (okX16_either hb) ?_
                          rintro o σ212 ⟨y213, rfl, hb⟩
                          refine ⟨_, rfl, ?_⟩
                          refine g_icmp_eq (tgt := 1556) C dL_law_703 (by decide) (fun c => ?_) (fun c => ?_)
                          ·
                            replace hb := hb.1 (c)
                            refine g_iinc (v := v3 + 7) (lv' := [(3, .int (v3 + 7)), (0, .ref b0), (1, .ref v1), (2, .ref v2)]) C dL_law_1556 3 rfl rfl (hnl_of hΓ (by decide)) (by first | rfl | simp [cat_rf]) ?_
                            refine g_goto (tgt := 18) C dL_law_1559 (by decide) ?_
                            refine g_sub (lv' := [(0, .ref b0), (1, .ref v1), (2, .ref v2), (3, .int (v3 + 7))]) [1, 2, 3, 0] rfl ?_
                            exact h18 _ _ _ _ _ _ hb
                          ·
                            replace hb := hb.2 (c)
                            refine g_iconst (v := 0) C dL_law_706 (by decide) ?_
                            obtain ⟨q214, q215, hb⟩ := hb
                            exact g_zreturn C (by decide) hΓ q214 q215 dL_law_707 ⟨_, rfl, hb⟩
                        ·
                          by_cases c233 : ((xs (ix v3)) &&& 63) = 11
                          ·
                            replace hb := hb.2.2.2.2.2.2.2.2.2.2.2.1 c233
                            refine g_tabIn (tgt := 708) (off := 675) C dL_law_33 (by rw [c233]; decide) (by rw [c233]; decide) (by rw [c233]; rfl) (by decide) ?_
                            refine g_aload_n (some v1) C dL_law_708 1 rfl ?_
                            refine g_aload_n (some b0) C dL_law_709 0 rfl ?_
                            refine g_iload_n C dL_law_710 3 rfl ?_
                            refine g_iconst (v := 1) C dL_law_711 (by decide) ?_
                            refine g_iadd C dL_law_712 ?_
                            obtain ⟨q217, hb⟩ := hb
                            refine g_sld hsc C dL_law_713 q217 ?_
                            obtain ⟨m218, m219, q220, q221, hb⟩ := hb
                            obtain ⟨q222, hb⟩ := hb
                            refine g_invV (ci := 11) [.int (xs (ix (v3 + 1)))] [] zy_X11_close wd_562 wd_563 wd_564 ⟨_, _, rfl⟩ (by decide) C dL_law_714 (by first | exact Nat.le_of_ble_eq_true rfl | simp [cat_rf]) (by first | exact Nat.le_of_ble_eq_true rfl | simp [cat_rf]) (by first | exact Nat.le_of_ble_eq_true rfl | simp [cat_rf]) (by rw [hmc_of hΓ]; exact q220) (by rw [hms_of hΓ]; exact q221) rfl rfl q222 (okX11_close hb) ?_
                            rintro o σ223 ⟨y224, rfl, hb⟩
                            refine ⟨_, rfl, ?_⟩
                            refine g_aload_n (some v2) C dL_law_717 2 rfl ?_
                            refine g_aload_n (some b0) C dL_law_718 0 rfl ?_
                            refine g_iload_n C dL_law_719 3 rfl ?_
                            refine g_iconst (v := 1) C dL_law_720 (by decide) ?_
                            refine g_iadd C dL_law_721 ?_
                            obtain ⟨q225, hb⟩ := hb
                            refine g_sld hsc C dL_law_722 q225 ?_
                            obtain ⟨q226, q227, hb⟩ := hb
                            obtain ⟨q228, hb⟩ := hb
                            refine g_invV (ci := 16) [.int (xs (ix (v3 + 1)))] [.int y224] zy_X16_close wd_1095 wd_1096 wd_1097 ⟨_, _, rfl⟩ (by decide) C dL_law_723 (by first | exact Nat.le_of_ble_eq_true rfl | simp [cat_rf]) (by first | exact Nat.le_of_ble_eq_true rfl | simp [cat_rf]) (by first | exact Nat.le_of_ble_eq_true rfl | simp [cat_rf]) (by rw [hmc_of hΓ]; exact q226) (by rw [hms_of hΓ]; exact q227) rfl rfl q228 (okX16_close hb) ?_
                            rintro o σ229 ⟨y230, rfl, hb⟩
                            refine ⟨_, rfl, ?_⟩
                            refine g_icmp_eq (tgt := 1556) C dL_law_726 (by decide) (fun c => ?_) (fun c => ?_)
                            ·
                              replace hb := hb.1 (c)
                              refine g_iinc (v := v3 + 7) (lv' := [(3, .int (v3 + 7)), (0, .ref b0), (1, .ref v1), (2, .ref v2)]) C dL_law_1556 3 rfl rfl (hnl_of hΓ (by decide)) (by first | rfl | simp [cat_rf]) ?_
                              refine g_goto (tgt := 18) C dL_law_1559 (by decide) ?_
                              refine g_sub (lv' := [(0, .ref b0), (1, .ref v1), (2, .ref v2), (3, .int (v3 + 7))]) [1, 2, 3, 0] rfl ?_
                              exact h18 _ _ _ _ _ _ hb
                            ·
                              replace hb := hb.2 (c)
                              refine g_iconst (v := 0) C dL_law_729 (by decide) ?_
                              obtain ⟨q231, q232, hb⟩ := hb
                              exact g_zreturn C (by decide) hΓ q231 q232 dL_law_730 ⟨_, rfl, hb⟩
                          ·
                            by_cases c252 : ((xs (ix v3)) &&& 63) = 12
                            ·
                              replace hb := hb.2.2.2.2.2.2.2.2.2.2.2.2.1 c252
                              refine g_tabIn (tgt := 731) (off := 698) C dL_law_33 (by rw [c252]; decide) (by rw [c252]; decide) (by rw [c252]; rfl) (by decide) ?_
                              refine g_aload_n (some v1) C dL_law_731 1 rfl ?_
                              refine g_aload_n (some b0) C dL_law_732 0 rfl ?_
                              refine g_iload_n C dL_law_733 3 rfl ?_
                              refine g_iconst (v := 1) C dL_law_734 (by decide) ?_
                              refine g_iadd C dL_law_735 ?_
                              obtain ⟨q234, hb⟩ := hb
                              refine g_sld hsc C dL_law_736 q234 ?_
                              refine g_aload_n (some b0) C dL_law_737 0 rfl ?_
                              refine g_iload_n C dL_law_738 3 rfl ?_
                              refine g_iconst (v := 2) C dL_law_739 (by decide) ?_
                              refine g_iadd C dL_law_740 ?_
                              obtain ⟨q235, hb⟩ := hb
                              refine g_sld hsc C dL_law_741 q235 ?_
                              obtain ⟨m236, m237, q238, q239, hb⟩ := hb
                              obtain ⟨q240, hb⟩ := hb
                              refine g_invV (ci := 11) [.int (xs (ix (v3 + 1))), .int (xs (ix (v3 + 2)))] [] zy_X11_most wd_566 wd_567 wd_568 ⟨_, _, rfl⟩ (by decide) C dL_law_742 (by first | exact Nat.le_of_ble_eq_true rfl | simp [cat_rf]) (by first | exact Nat.le_of_ble_eq_true rfl | simp [cat_rf]) (by first | exact Nat.le_of_ble_eq_true rfl | simp [cat_rf]) (by rw [hmc_of hΓ]; exact q238) (by rw [hms_of hΓ]; exact q239) rfl rfl q240 (okX11_most hb) ?_
                              rintro o σ241 ⟨y242, rfl, hb⟩
                              refine ⟨_, rfl, ?_⟩
                              refine g_aload_n (some v2) C dL_law_745 2 rfl ?_
                              refine g_aload_n (some b0) C dL_law_746 0 rfl ?_
                              refine g_iload_n C dL_law_747 3 rfl ?_
                              refine g_iconst (v := 1) C dL_law_748 (by decide) ?_
                              refine g_iadd C dL_law_749 ?_
                              obtain ⟨q243, hb⟩ := hb
                              refine g_sld hsc C dL_law_750 q243 ?_
                              refine g_aload_n (some b0) C dL_law_751 0 rfl ?_
                              refine g_iload_n C dL_law_752 3 rfl ?_
                              refine g_iconst (v := 2) C dL_law_753 (by decide) ?_
                              refine g_iadd C dL_law_754 ?_
                              obtain ⟨q244, hb⟩ := hb
                              refine g_sld hsc C dL_law_755 q244 ?_
                              obtain ⟨q245, q246, hb⟩ := hb
                              obtain ⟨q247, hb⟩ := hb
                              refine g_invV (ci := 16) [.int (xs (ix (v3 + 1))), .int (xs (ix (v3 + 2)))] [.int y242] zy_X16_most wd_1099 wd_1100 wd_1101 ⟨_, _, rfl⟩ (by decide) C dL_law_756 (by first | exact Nat.le_of_ble_eq_true rfl | simp [cat_rf]) (by first | exact Nat.le_of_ble_eq_true rfl | simp [cat_rf]) (by first | exact Nat.le_of_ble_eq_true rfl | simp [cat_rf]) (by rw [hmc_of hΓ]; exact q245) (by rw [hms_of hΓ]; exact q246) rfl rfl q247 (okX16_most hb) ?_
                              rintro o σ248 ⟨y249, rfl, hb⟩
                              refine ⟨_, rfl, ?_⟩
                              refine g_icmp_eq (tgt := 1556) C dL_law_759 (by decide) (fun c => ?_) (fun c => ?_)
                              ·
                                replace hb := hb.1 (c)
                                refine g_iinc (v := v3 + 7) (lv' := [(3, .int (v3 + 7)), (0, .ref b0), (1, .ref v1), (2, .ref v2)]) C dL_law_1556 3 rfl rfl (hnl_of hΓ (by decide)) (by first | rfl | simp [cat_rf]) ?_
                                refine g_goto (tgt := 18) C dL_law_1559 (by decide) ?_
                                refine g_sub (lv' := [(0, .ref b0), (1, .ref v1), (2, .ref v2), (3, .int (v3 + 7))]) [1, 2, 3, 0] rfl ?_
                                exact h18 _ _ _ _ _ _ hb
                              ·
                                replace hb := hb.2 (c)
                                refine g_iconst (v := 0) C dL_law_762 (by decide) ?_
                                obtain ⟨q250, q251, hb⟩ := hb
                                exact g_zreturn C (by decide) hΓ q250 q251 dL_law_763 ⟨_, rfl, hb⟩
                            ·
                              by_cases c269 : ((xs (ix v3)) &&& 63) = 13
                              ·
                                replace hb := hb.2.2.2.2.2.2.2.2.2.2.2.2.2.1 c269
                                refine g_tabIn (tgt := 764) (off := 731) C dL_law_33 (by rw [c269]; decide) (by rw [c269]; decide) (by rw [c269]; rfl) (by decide) ?_
                                refine g_aload_n (some v1) C dL_law_764 1 rfl ?_
                                refine g_aload_n (some b0) C dL_law_765 0 rfl ?_
                                refine g_iload_n C dL_law_766 3 rfl ?_
                                refine g_iconst (v := 1) C dL_law_767 (by decide) ?_
                                refine g_iadd C dL_law_768 ?_
                                obtain ⟨q253, hb⟩ := hb
                                refine g_sld hsc C dL_law_769 q253 ?_
                                refine g_aload_n (some b0) C dL_law_770 0 rfl ?_
                                refine g_iload_n C dL_law_771 3 rfl ?_
                                refine g_iconst (v := 2) C dL_law_772 (by decide) ?_
                                refine g_iadd C dL_law_773 ?_
                                obtain ⟨q254, hb⟩ := hb
                                refine g_sld hsc C dL_law_774 q254 ?_
                                obtain ⟨q255, q256, hb⟩ := hb
                                obtain ⟨q257, hb⟩ := hb
                                refine g_invV (ci := 11) [.int (xs (ix (v3 + 1))), .int (xs (ix (v3 + 2)))] [] zy_X11_kind wd_570 wd_571 wd_572 ⟨_, _, rfl⟩ (by decide) C dL_law_775 (by first | exact Nat.le_of_ble_eq_true rfl | simp [cat_rf]) (by first | exact Nat.le_of_ble_eq_true rfl | simp [cat_rf]) (by first | exact Nat.le_of_ble_eq_true rfl | simp [cat_rf]) (by rw [hmc_of hΓ]; exact q255) (by rw [hms_of hΓ]; exact q256) rfl rfl q257 (okX11_kind hb) ?_
                                rintro o σ258 ⟨y259, rfl, hb⟩
                                refine ⟨_, rfl, ?_⟩
                                refine g_aload_n (some v2) C dL_law_778 2 rfl ?_
                                refine g_aload_n (some b0) C dL_law_779 0 rfl ?_
                                refine g_iload_n C dL_law_780 3 rfl ?_
                                refine g_iconst (v := 1) C dL_law_781 (by decide) ?_
                                refine g_iadd C dL_law_782 ?_
                                obtain ⟨q260, hb⟩ := hb
                                refine g_sld hsc C dL_law_783 q260 ?_
                                refine g_aload_n (some b0) C dL_law_784 0 rfl ?_
                                refine g_iload_n C dL_law_785 3 rfl ?_
                                refine g_iconst (v := 2) C dL_law_786 (by decide) ?_
                                refine g_iadd C dL_law_787 ?_
                                obtain ⟨q261, hb⟩ := hb
                                refine g_sld hsc C dL_law_788 q261 ?_
                                obtain ⟨q262, q263, hb⟩ := hb
                                obtain ⟨q264, hb⟩ := hb
                                refine g_invV (ci := 16) [.int (xs (ix (v3 + 1))), .int (xs (ix (v3 + 2)))] [.int y259] zy_X16_kind wd_1103 wd_1104 wd_1105 ⟨_, _, rfl⟩ (by decide) C dL_law_789 (by first | exact Nat.le_of_ble_eq_true rfl | simp [cat_rf]) (by first | exact Nat.le_of_ble_eq_true rfl | simp [cat_rf]) (by first | exact Nat.le_of_ble_eq_true rfl | simp [cat_rf]) (by rw [hmc_of hΓ]; exact q262) (by rw [hms_of hΓ]; exact q263) rfl rfl q264 (okX16_kind hb) ?_
                                rintro o σ265 ⟨y266, rfl, hb⟩
                                refine ⟨_, rfl, ?_⟩
                                refine g_icmp_eq (tgt := 1556) C dL_law_792 (by decide) (fun c => ?_) (fun c => ?_)
                                ·
                                  replace hb := hb.1 (c)
                                  refine g_iinc (v := v3 + 7) (lv' := [(3, .int (v3 + 7)), (0, .ref b0), (1, .ref v1), (2, .ref v2)]) C dL_law_1556 3 rfl rfl (hnl_of hΓ (by decide)) (by first | rfl | simp [cat_rf]) ?_
                                  refine g_goto (tgt := 18) C dL_law_1559 (by decide) ?_
                                  refine g_sub (lv' := [(0, .ref b0), (1, .ref v1), (2, .ref v2), (3, .int (v3 + 7))]) [1, 2, 3, 0] rfl ?_
                                  exact h18 _ _ _ _ _ _ hb
                                ·
                                  replace hb := hb.2 (c)
                                  refine g_iconst (v := 0) C dL_law_795 (by decide) ?_
                                  obtain ⟨q267, q268, hb⟩ := hb
                                  exact g_zreturn C (by decide) hΓ q267 q268 dL_law_796 ⟨_, rfl, hb⟩
                              ·
                                by_cases c284 : ((xs (ix v3)) &&& 63) = 14
                                ·
                                  replace hb := hb.2.2.2.2.2.2.2.2.2.2.2.2.2.2.1 c284
                                  refine g_tabIn (tgt := 797) (off := 764) C dL_law_33 (by rw [c284]; decide) (by rw [c284]; decide) (by rw [c284]; rfl) (by decide) ?_
                                  refine g_aload_n (some v1) C dL_law_797 1 rfl ?_
                                  refine g_aload_n (some b0) C dL_law_798 0 rfl ?_
                                  refine g_iload_n C dL_law_799 3 rfl ?_
                                  refine g_iconst (v := 1) C dL_law_800 (by decide) ?_
                                  refine g_iadd C dL_law_801 ?_
                                  obtain ⟨q270, hb⟩ := hb
                                  refine g_sld hsc C dL_law_802 q270 ?_
                                  obtain ⟨q271, q272, hb⟩ := hb
                                  obtain ⟨q273, hb⟩ := hb
                                  refine g_invV (ci := 11) [.int (xs (ix (v3 + 1)))] [] zy_X11_ask wd_574 wd_575 wd_576 ⟨_, _, rfl⟩ (by decide) C dL_law_803 (by first | exact Nat.le_of_ble_eq_true rfl | simp [cat_rf]) (by first | exact Nat.le_of_ble_eq_true rfl | simp [cat_rf]) (by first | exact Nat.le_of_ble_eq_true rfl | simp [cat_rf]) (by rw [hmc_of hΓ]; exact q271) (by rw [hms_of hΓ]; exact q272) rfl rfl q273 (okX11_ask hb) ?_
                                  rintro o σ274 ⟨y275, rfl, hb⟩
                                  refine ⟨_, rfl, ?_⟩
                                  refine g_aload_n (some v2) C dL_law_806 2 rfl ?_
                                  refine g_aload_n (some b0) C dL_law_807 0 rfl ?_
                                  refine g_iload_n C dL_law_808 3 rfl ?_
                                  refine g_iconst (v := 1) C dL_law_809 (by decide) ?_
                                  refine g_iadd C dL_law_810 ?_
                                  obtain ⟨q276, hb⟩ := hb
                                  refine g_sld hsc C dL_law_811 q276 ?_
                                  obtain ⟨q277, q278, hb⟩ := hb
                                  obtain ⟨q279, hb⟩ := hb
                                  refine g_invVW (na := 1) (ci := 16) [.int (xs (ix (v3 + 1)))] [.int y275] wd_1396 wd_78 ⟨by decide, by decide⟩ (by decide +kernel) wd_1393 wd_1394 wd_1395 ⟨_, _, rfl⟩ (by decide) C dL_law_812 (by first | exact Nat.le_of_ble_eq_true rfl | simp [cat_rf]) (by first | exact Nat.le_of_ble_eq_true rfl | simp [cat_rf]) (by first | exact Nat.le_of_ble_eq_true rfl | simp [cat_rf]) (by rw [hmc_of hΓ]; exact q277) (by rw [hms_of hΓ]; exact q278) rfl rfl q279 (okX16_ask hb) ?_
                                  rintro o σ280 ⟨y281, rfl, hb⟩
                                  refine ⟨_, rfl, ?_⟩
                                  refine g_icmp_eq (tgt := 1556) C dL_law_815 (by decide) (fun c => ?_) (fun c => ?_)
                                  ·
                                    replace hb := hb.1 (c)
                                    refine g_iinc (v := v3 + 7) (lv' := [(3, .int (v3 + 7)), (0, .ref b0), (1, .ref v1), (2, .ref v2)]) C dL_law_1556 3 rfl rfl (hnl_of hΓ (by decide)) (by first | rfl | simp [cat_rf]) ?_
                                    refine g_goto (tgt := 18) C dL_law_1559 (by decide) ?_
                                    refine g_sub (lv' := [(0, .ref b0), (1, .ref v1), (2, .ref v2), (3, .int (v3 + 7))]) [1, 2, 3, 0] rfl ?_
                                    exact h18 _ _ _ _ _ _ hb
                                  ·
                                    replace hb := hb.2 (c)
                                    refine g_iconst (v := 0) C dL_law_818 (by decide) ?_
                                    obtain ⟨q282, q283, hb⟩ := hb
                                    exact g_zreturn C (by decide) hΓ q282 q283 dL_law_819 ⟨_, rfl, hb⟩
                                ·
                                  by_cases c301 : ((xs (ix v3)) &&& 63) = 15
                                  ·
                                    replace hb := hb.2.2.2.2.2.2.2.2.2.2.2.2.2.2.2.1 c301
                                    refine g_tabIn (tgt := 820) (off := 787) C dL_law_33 (by rw [c301]; decide) (by rw [c301]; decide) (by rw [c301]; rfl) (by decide) ?_
                                    refine g_aload_n (some v1) C dL_law_820 1 rfl ?_
                                    refine g_aload_n (some b0) C dL_law_821 0 rfl ?_
                                    refine g_iload_n C dL_law_822 3 rfl ?_
                                    refine g_iconst (v := 1) C dL_law_823 (by decide) ?_
                                    refine g_iadd C dL_law_824 ?_
                                    obtain ⟨q285, hb⟩ := hb
                                    refine g_sld hsc C dL_law_825 q285 ?_
                                    refine g_aload_n (some b0) C dL_law_826 0 rfl ?_
                                    refine g_iload_n C dL_law_827 3 rfl ?_
                                    refine g_iconst (v := 2) C dL_law_828 (by decide) ?_
                                    refine g_iadd C dL_law_829 ?_
                                    obtain ⟨q286, hb⟩ := hb
                                    refine g_sld hsc C dL_law_830 q286 ?_
                                    obtain ⟨q287, q288, hb⟩ := hb
                                    obtain ⟨q289, hb⟩ := hb
                                    refine g_invV (ci := 11) [.int (xs (ix (v3 + 1))), .int (xs (ix (v3 + 2)))] [] zy_X11_value wd_765 wd_766 wd_767 ⟨_, _, rfl⟩ (by decide) C dL_law_831 (by first | exact Nat.le_of_ble_eq_true rfl | simp [cat_rf]) (by first | exact Nat.le_of_ble_eq_true rfl | simp [cat_rf]) (by first | exact Nat.le_of_ble_eq_true rfl | simp [cat_rf]) (by rw [hmc_of hΓ]; exact q287) (by rw [hms_of hΓ]; exact q288) rfl rfl q289 (okX11_value hb) ?_
                                    rintro o σ290 ⟨y291, rfl, hb⟩
                                    refine ⟨_, rfl, ?_⟩
                                    refine g_aload_n (some v2) C dL_law_834 2 rfl ?_
                                    refine g_aload_n (some b0) C dL_law_835 0 rfl ?_
                                    refine g_iload_n C dL_law_836 3 rfl ?_
                                    refine g_iconst (v := 1) C dL_law_837 (by decide) ?_
                                    refine g_iadd C dL_law_838 ?_
                                    obtain ⟨q292, hb⟩ := hb
                                    refine g_sld hsc C dL_law_839 q292 ?_
                                    refine g_aload_n (some b0) C dL_law_840 0 rfl ?_
                                    refine g_iload_n C dL_law_841 3 rfl ?_
                                    refine g_iconst (v := 2) C dL_law_842 (by decide) ?_
                                    refine g_iadd C dL_law_843 ?_
                                    obtain ⟨q293, hb⟩ := hb
                                    refine g_sld hsc C dL_law_844 q293 ?_
                                    obtain ⟨q294, q295, hb⟩ := hb
                                    obtain ⟨q296, hb⟩ := hb
                                    refine g_invV (ci := 16) [.int (xs (ix (v3 + 1))), .int (xs (ix (v3 + 2)))] [.int y291] zy_X16_value wd_1487 wd_1488 wd_1489 ⟨_, _, rfl⟩ (by decide) C dL_law_845 (by first | exact Nat.le_of_ble_eq_true rfl | simp [cat_rf]) (by first | exact Nat.le_of_ble_eq_true rfl | simp [cat_rf]) (by first | exact Nat.le_of_ble_eq_true rfl | simp [cat_rf]) (by rw [hmc_of hΓ]; exact q294) (by rw [hms_of hΓ]; exact q295) rfl rfl q296 (okX16_value hb) ?_
                                    rintro o σ297 ⟨y298, rfl, hb⟩
                                    refine ⟨_, rfl, ?_⟩
                                    refine g_icmp_eq (tgt := 1556) C dL_law_848 (by decide) (fun c => ?_) (fun c => ?_)
                                    ·
                                      replace hb := hb.1 (c)
                                      refine g_iinc (v := v3 + 7) (lv' := [(3, .int (v3 + 7)), (0, .ref b0), (1, .ref v1), (2, .ref v2)]) C dL_law_1556 3 rfl rfl (hnl_of hΓ (by decide)) (by first | rfl | simp [cat_rf]) ?_
                                      refine g_goto (tgt := 18) C dL_law_1559 (by decide) ?_
                                      refine g_sub (lv' := [(0, .ref b0), (1, .ref v1), (2, .ref v2), (3, .int (v3 + 7))]) [1, 2, 3, 0] rfl ?_
                                      exact h18 _ _ _ _ _ _ hb
                                    ·
                                      replace hb := hb.2 (c)
                                      refine g_iconst (v := 0) C dL_law_851 (by decide) ?_
                                      obtain ⟨q299, q300, hb⟩ := hb
                                      exact g_zreturn C (by decide) hΓ q299 q300 dL_law_852 ⟨_, rfl, hb⟩
                                  ·
                                    by_cases c328 : ((xs (ix v3)) &&& 63) = 16
                                    ·
                                      replace hb := hb.2.2.2.2.2.2.2.2.2.2.2.2.2.2.2.2.1 c328
                                      refine g_tabIn (tgt := 853) (off := 820) C dL_law_33 (by rw [c328]; decide) (by rw [c328]; decide) (by rw [c328]; rfl) (by decide) ?_
                                      refine g_aload_n (some v1) C dL_law_853 1 rfl ?_
                                      refine g_aload_n (some b0) C dL_law_854 0 rfl ?_
                                      refine g_iload_n C dL_law_855 3 rfl ?_
                                      refine g_iconst (v := 1) C dL_law_856 (by decide) ?_
                                      refine g_iadd C dL_law_857 ?_
                                      obtain ⟨q302, hb⟩ := hb
                                      refine g_sld hsc C dL_law_858 q302 ?_
                                      refine g_aload_n (some b0) C dL_law_859 0 rfl ?_
                                      refine g_iload_n C dL_law_860 3 rfl ?_
                                      refine g_iconst (v := 2) C dL_law_861 (by decide) ?_
                                      refine g_iadd C dL_law_862 ?_
                                      obtain ⟨q303, hb⟩ := hb
                                      refine g_sld hsc C dL_law_863 q303 ?_
                                      refine g_aload_n (some b0) C dL_law_864 0 rfl ?_
                                      refine g_iload_n C dL_law_865 3 rfl ?_
                                      refine g_iconst (v := 3) C dL_law_866 (by decide) ?_
                                      refine g_iadd C dL_law_867 ?_
                                      obtain ⟨q304, hb⟩ := hb
                                      refine g_sld hsc C dL_law_868 q304 ?_
                                      refine g_aload_n (some b0) C dL_law_869 0 rfl ?_
                                      refine g_iload_n C dL_law_870 3 rfl ?_
                                      refine g_iconst (v := 4) C dL_law_871 (by decide) ?_
                                      refine g_iadd C dL_law_872 ?_
                                      obtain ⟨q305, hb⟩ := hb
                                      refine g_sld hsc C dL_law_873 q305 ?_
                                      refine g_aload_n (some b0) C dL_law_874 0 rfl ?_
                                      refine g_iload_n C dL_law_875 3 rfl ?_
                                      refine g_iconst (v := 5) C dL_law_876 (by decide) ?_
                                      refine g_iadd C dL_law_877 ?_
                                      obtain ⟨q306, hb⟩ := hb
                                      refine g_sld hsc C dL_law_878 q306 ?_
                                      refine g_aload_n (some b0) C dL_law_879 0 rfl ?_
                                      refine g_iload_n C dL_law_880 3 rfl ?_
                                      refine g_bipush (v := 6) C dL_law_881 (by decide) ?_
                                      refine g_iadd C dL_law_883 ?_
                                      obtain ⟨q307, hb⟩ := hb
                                      refine g_sld hsc C dL_law_884 q307 ?_
                                      obtain ⟨m308, m309, q310, q311, hb⟩ := hb
                                      obtain ⟨q312, hb⟩ := hb
                                      refine g_invV (ci := 11) [.int (xs (ix (v3 + 1))), .int (xs (ix (v3 + 2))), .int (xs (ix (v3 + 3))), .int (xs (ix (v3 + 4))), .int (xs (ix (v3 + 5))), .int (xs (ix (v3 + 6)))] [] zy_X11_find wd_770 wd_771 wd_772 ⟨_, _, rfl⟩ (by decide) C dL_law_885 (by first | exact Nat.le_of_ble_eq_true rfl | simp [cat_rf]) (by first | exact Nat.le_of_ble_eq_true rfl | simp [cat_rf]) (by first | exact Nat.le_of_ble_eq_true rfl | simp [cat_rf]) (by rw [hmc_of hΓ]; exact q310) (by rw [hms_of hΓ]; exact q311) rfl rfl q312 (okX11_find hb) ?_
                                      rintro o σ313 ⟨y314, rfl, hb⟩
                                      refine ⟨_, rfl, ?_⟩
                                      refine g_aload_n (some v2) C dL_law_888 2 rfl ?_
                                      refine g_aload_n (some b0) C dL_law_889 0 rfl ?_
                                      refine g_iload_n C dL_law_890 3 rfl ?_
                                      refine g_iconst (v := 1) C dL_law_891 (by decide) ?_
                                      refine g_iadd C dL_law_892 ?_
                                      obtain ⟨q315, hb⟩ := hb
                                      refine g_sld hsc C dL_law_893 q315 ?_
                                      refine g_aload_n (some b0) C dL_law_894 0 rfl ?_
                                      refine g_iload_n C dL_law_895 3 rfl ?_
                                      refine g_iconst (v := 2) C dL_law_896 (by decide) ?_
                                      refine g_iadd C dL_law_897 ?_
                                      obtain ⟨q316, hb⟩ := hb
                                      refine g_sld hsc C dL_law_898 q316 ?_
                                      refine g_aload_n (some b0) C dL_law_899 0 rfl ?_
                                      refine g_iload_n C dL_law_900 3 rfl ?_
                                      refine g_iconst (v := 3) C dL_law_901 (by decide) ?_
                                      refine g_iadd C dL_law_902 ?_
                                      obtain ⟨q317, hb⟩ := hb
                                      refine g_sld hsc C dL_law_903 q317 ?_
                                      refine g_aload_n (some b0) C dL_law_904 0 rfl ?_
                                      refine g_iload_n C dL_law_905 3 rfl ?_
                                      refine g_iconst (v := 4) C dL_law_906 (by decide) ?_
                                      refine g_iadd C dL_law_907 ?_
                                      obtain ⟨q318, hb⟩ := hb
                                      refine g_sld hsc C dL_law_908 q318 ?_
                                      refine g_aload_n (some b0) C dL_law_909 0 rfl ?_
                                      refine g_iload_n C dL_law_910 3 rfl ?_
                                      refine g_iconst (v := 5) C dL_law_911 (by decide) ?_
                                      refine g_iadd C dL_law_912 ?_
                                      obtain ⟨q319, hb⟩ := hb
                                      refine g_sld hsc C dL_law_913 q319 ?_
                                      refine g_aload_n (some b0) C dL_law_914 0 rfl ?_
                                      refine g_iload_n C dL_law_915 3 rfl ?_
                                      refine g_bipush (v := 6) C dL_law_916 (by decide) ?_
                                      refine g_iadd C dL_law_918 ?_
                                      obtain ⟨q320, hb⟩ := hb
                                      refine g_sld hsc C dL_law_919 q320 ?_
                                      obtain ⟨q321, q322, hb⟩ := hb
                                      obtain ⟨q323, hb⟩ := hb
                                      refine g_invV (ci := 16) [.int (xs (ix (v3 + 1))), .int (xs (ix (v3 + 2))), .int (xs (ix (v3 + 3))), .int (xs (ix (v3 + 4))), .int (xs (ix (v3 + 5))), .int (xs (ix (v3 + 6)))] [.int y314] zy_X16_find wd_1495 wd_1496 wd_1497 ⟨_, _, rfl⟩ (by decide) C dL_law_920 (by first | exact Nat.le_of_ble_eq_true rfl | simp [cat_rf]) (by first | exact Nat.le_of_ble_eq_true rfl | simp [cat_rf]) (by first | exact Nat.le_of_ble_eq_true rfl | simp [cat_rf]) (by rw [hmc_of hΓ]; exact q321) (by rw [hms_of hΓ]; exact q322) rfl rfl q323 (okX16_find hb) ?_
                                      rintro o σ324 ⟨y325, rfl, hb⟩
                                      refine ⟨_, rfl, ?_⟩
                                      refine g_icmp_eq (tgt := 1556) C dL_law_923 (by decide) (fun c => ?_) (fun c => ?_)
                                      ·
                                        replace hb := hb.1 (c)
                                        refine g_iinc (v := v3 + 7) (lv' := [(3, .int (v3 + 7)), (0, .ref b0), (1, .ref v1), (2, .ref v2)]) C dL_law_1556 3 rfl rfl (hnl_of hΓ (by decide)) (by first | rfl | simp [cat_rf]) ?_
                                        refine g_goto (tgt := 18) C dL_law_1559 (by decide) ?_
                                        refine g_sub (lv' := [(0, .ref b0), (1, .ref v1), (2, .ref v2), (3, .int (v3 + 7))]) [1, 2, 3, 0] rfl ?_
                                        exact h18 _ _ _ _ _ _ hb
                                      ·
                                        replace hb := hb.2 (c)
                                        refine g_iconst (v := 0) C dL_law_926 (by decide) ?_
                                        obtain ⟨q326, q327, hb⟩ := hb
                                        exact g_zreturn C (by decide) hΓ q326 q327 dL_law_927 ⟨_, rfl, hb⟩
                                    ·
                                      by_cases c343 : ((xs (ix v3)) &&& 63) = 17
                                      ·
                                        replace hb := hb.2.2.2.2.2.2.2.2.2.2.2.2.2.2.2.2.2.1 c343
                                        refine g_tabIn (tgt := 928) (off := 895) C dL_law_33 (by rw [c343]; decide) (by rw [c343]; decide) (by rw [c343]; rfl) (by decide) ?_
                                        refine g_aload_n (some v1) C dL_law_928 1 rfl ?_
                                        refine g_aload_n (some b0) C dL_law_929 0 rfl ?_
                                        refine g_iload_n C dL_law_930 3 rfl ?_
                                        refine g_iconst (v := 1) C dL_law_931 (by decide) ?_
                                        refine g_iadd C dL_law_932 ?_
                                        obtain ⟨q329, hb⟩ := hb
                                        refine g_sld hsc C dL_law_933 q329 ?_
                                        obtain ⟨q330, q331, hb⟩ := hb
                                        obtain ⟨q332, hb⟩ := hb
                                        refine g_invV (ci := 11) [.int (xs (ix (v3 + 1)))] [] zy_X11_ways wd_775 wd_776 wd_777 ⟨_, _, rfl⟩ (by decide) C dL_law_934 (by first | exact Nat.le_of_ble_eq_true rfl | simp [cat_rf]) (by first | exact Nat.le_of_ble_eq_true rfl | simp [cat_rf]) (by first | exact Nat.le_of_ble_eq_true rfl | simp [cat_rf]) (by rw [hmc_of hΓ]; exact q330) (by rw [hms_of hΓ]; exact q331) rfl rfl q332 (okX11_ways hb) ?_
                                        rintro o σ333 ⟨y334, rfl, hb⟩
                                        refine ⟨_, rfl, ?_⟩
                                        refine g_aload_n (some v2) C dL_law_937 2 rfl ?_
                                        refine g_aload_n (some b0) C dL_law_938 0 rfl ?_
                                        refine g_iload_n C dL_law_939 3 rfl ?_
                                        refine g_iconst (v := 1) C dL_law_940 (by decide) ?_
                                        refine g_iadd C dL_law_941 ?_
                                        obtain ⟨q335, hb⟩ := hb
                                        refine g_sld hsc C dL_law_942 q335 ?_
                                        obtain ⟨q336, q337, hb⟩ := hb
                                        obtain ⟨q338, hb⟩ := hb
                                        refine g_invV (ci := 16) [.int (xs (ix (v3 + 1)))] [.int y334] zy_X16_ways wd_1499 wd_1500 wd_1501 ⟨_, _, rfl⟩ (by decide) C dL_law_943 (by first | exact Nat.le_of_ble_eq_true rfl | simp [cat_rf]) (by first | exact Nat.le_of_ble_eq_true rfl | simp [cat_rf]) (by first | exact Nat.le_of_ble_eq_true rfl | simp [cat_rf]) (by rw [hmc_of hΓ]; exact q336) (by rw [hms_of hΓ]; exact q337) rfl rfl q338 (okX16_ways hb) ?_
                                        rintro o σ339 ⟨y340, rfl, hb⟩
                                        refine ⟨_, rfl, ?_⟩
                                        refine g_icmp_eq (tgt := 1556) C dL_law_946 (by decide) (fun c => ?_) (fun c => ?_)
                                        ·
                                          replace hb := hb.1 (c)
                                          refine g_iinc (v := v3 + 7) (lv' := [(3, .int (v3 + 7)), (0, .ref b0), (1, .ref v1), (2, .ref v2)]) C dL_law_1556 3 rfl rfl (hnl_of hΓ (by decide)) (by first | rfl | simp [cat_rf]) ?_
                                          refine g_goto (tgt := 18) C dL_law_1559 (by decide) ?_
                                          refine g_sub (lv' := [(0, .ref b0), (1, .ref v1), (2, .ref v2), (3, .int (v3 + 7))]) [1, 2, 3, 0] rfl ?_
                                          exact h18 _ _ _ _ _ _ hb
                                        ·
                                          replace hb := hb.2 (c)
                                          refine g_iconst (v := 0) C dL_law_949 (by decide) ?_
                                          obtain ⟨q341, q342, hb⟩ := hb
                                          exact g_zreturn C (by decide) hΓ q341 q342 dL_law_950 ⟨_, rfl, hb⟩
                                      ·
                                        by_cases c360 : ((xs (ix v3)) &&& 63) = 18
                                        ·
                                          replace hb := hb.2.2.2.2.2.2.2.2.2.2.2.2.2.2.2.2.2.2.1 c360
                                          refine g_tabIn (tgt := 951) (off := 918) C dL_law_33 (by rw [c360]; decide) (by rw [c360]; decide) (by rw [c360]; rfl) (by decide) ?_
                                          refine g_aload_n (some v1) C dL_law_951 1 rfl ?_
                                          refine g_aload_n (some b0) C dL_law_952 0 rfl ?_
                                          refine g_iload_n C dL_law_953 3 rfl ?_
                                          refine g_iconst (v := 1) C dL_law_954 (by decide) ?_
                                          refine g_iadd C dL_law_955 ?_
                                          obtain ⟨q344, hb⟩ := hb
                                          refine g_sld hsc C dL_law_956 q344 ?_
                                          refine g_aload_n (some b0) C dL_law_957 0 rfl ?_
                                          refine g_iload_n C dL_law_958 3 rfl ?_
                                          refine g_iconst (v := 2) C dL_law_959 (by decide) ?_
                                          refine g_iadd C dL_law_960 ?_
                                          obtain ⟨q345, hb⟩ := hb
                                          refine g_sld hsc C dL_law_961 q345 ?_
                                          obtain ⟨q346, q347, hb⟩ := hb
                                          obtain ⟨q348, hb⟩ := hb
                                          refine g_invV (ci := 11) [.int (xs (ix (v3 + 1))), .int (xs (ix (v3 + 2)))] [] zy_X11_way wd_779 wd_780 wd_781 ⟨_, _, rfl⟩ (by decide) C dL_law_962 (by first | exact Nat.le_of_ble_eq_true rfl | simp [cat_rf]) (by first | exact Nat.le_of_ble_eq_true rfl | simp [cat_rf]) (by first | exact Nat.le_of_ble_eq_true rfl | simp [cat_rf]) (by rw [hmc_of hΓ]; exact q346) (by rw [hms_of hΓ]; exact q347) rfl rfl q348 (okX11_way hb) ?_
                                          rintro o σ349 ⟨y350, rfl, hb⟩
                                          refine ⟨_, rfl, ?_⟩
                                          refine g_aload_n (some v2) C dL_law_965 2 rfl ?_
                                          refine g_aload_n (some b0) C dL_law_966 0 rfl ?_
                                          refine g_iload_n C dL_law_967 3 rfl ?_
                                          refine g_iconst (v := 1) C dL_law_968 (by decide) ?_
                                          refine g_iadd C dL_law_969 ?_
                                          obtain ⟨q351, hb⟩ := hb
                                          refine g_sld hsc C dL_law_970 q351 ?_
                                          refine g_aload_n (some b0) C dL_law_971 0 rfl ?_
                                          refine g_iload_n C dL_law_972 3 rfl ?_
                                          refine g_iconst (v := 2) C dL_law_973 (by decide) ?_
                                          refine g_iadd C dL_law_974 ?_
                                          obtain ⟨q352, hb⟩ := hb
                                          refine g_sld hsc C dL_law_975 q352 ?_
                                          obtain ⟨q353, q354, hb⟩ := hb
                                          obtain ⟨q355, hb⟩ := hb
                                          refine g_invV (ci := 16) [.int (xs (ix (v3 + 1))), .int (xs (ix (v3 + 2)))] [.long y350] zy_X16_way wd_1503 wd_1504 wd_1505 ⟨_, _, rfl⟩ (by decide) C dL_law_976 (by first | exact Nat.le_of_ble_eq_true rfl | simp [cat_rf]) (by first | exact Nat.le_of_ble_eq_true rfl | simp [cat_rf]) (by first | exact Nat.le_of_ble_eq_true rfl | simp [cat_rf]) (by rw [hmc_of hΓ]; exact q353) (by rw [hms_of hΓ]; exact q354) rfl rfl q355 (okX16_way hb) ?_
                                          rintro o σ356 ⟨y357, rfl, hb⟩
                                          refine ⟨_, rfl, ?_⟩
                                          refine g_lcmp C dL_law_979 ?_
                                          refine g_if_eq (tgt := 1556) C dL_law_980 (by decide) (fun c => ?_) (fun c => ?_)
                                          ·
                                            replace hb := hb.1 (lc_eq.mp c)
                                            refine g_iinc (v := v3 + 7) (lv' := [(3, .int (v3 + 7)), (0, .ref b0), (1, .ref v1), (2, .ref v2)]) C dL_law_1556 3 rfl rfl (hnl_of hΓ (by decide)) (by first | rfl | simp [cat_rf]) ?_
                                            refine g_goto (tgt := 18) C dL_law_1559 (by decide) ?_
                                            refine g_sub (lv' := [(0, .ref b0), (1, .ref v1), (2, .ref v2), (3, .int (v3 + 7))]) [1, 2, 3, 0] rfl ?_
                                            exact h18 _ _ _ _ _ _ hb
                                          ·
                                            replace hb := hb.2 (lcn_eq.mp c)
                                            refine g_iconst (v := 0) C dL_law_983 (by decide) ?_
                                            obtain ⟨q358, q359, hb⟩ := hb
                                            exact g_zreturn C (by decide) hΓ q358 q359 dL_law_984 ⟨_, rfl, hb⟩
                                        ·
                                          by_cases c375 : ((xs (ix v3)) &&& 63) = 19
                                          ·
                                            replace hb := hb.2.2.2.2.2.2.2.2.2.2.2.2.2.2.2.2.2.2.2.1 c375
                                            refine g_tabIn (tgt := 985) (off := 952) C dL_law_33 (by rw [c375]; decide) (by rw [c375]; decide) (by rw [c375]; rfl) (by decide) ?_
                                            refine g_aload_n (some v1) C dL_law_985 1 rfl ?_
                                            refine g_aload_n (some b0) C dL_law_986 0 rfl ?_
                                            refine g_iload_n C dL_law_987 3 rfl ?_
                                            refine g_iconst (v := 1) C dL_law_988 (by decide) ?_
                                            refine g_iadd C dL_law_989 ?_
                                            obtain ⟨q361, hb⟩ := hb
                                            refine g_sld hsc C dL_law_990 q361 ?_
                                            obtain ⟨q362, q363, hb⟩ := hb
                                            obtain ⟨q364, hb⟩ := hb
                                            refine g_invV (ci := 11) [.int (xs (ix (v3 + 1)))] [] zy_X11_need wd_783 wd_784 wd_785 ⟨_, _, rfl⟩ (by decide) C dL_law_991 (by first | exact Nat.le_of_ble_eq_true rfl | simp [cat_rf]) (by first | exact Nat.le_of_ble_eq_true rfl | simp [cat_rf]) (by first | exact Nat.le_of_ble_eq_true rfl | simp [cat_rf]) (by rw [hmc_of hΓ]; exact q362) (by rw [hms_of hΓ]; exact q363) rfl rfl q364 (okX11_need hb) ?_
                                            rintro o σ365 ⟨y366, rfl, hb⟩
                                            refine ⟨_, rfl, ?_⟩
                                            refine g_aload_n (some v2) C dL_law_994 2 rfl ?_
                                            refine g_aload_n (some b0) C dL_law_995 0 rfl ?_
                                            refine g_iload_n C dL_law_996 3 rfl ?_
                                            refine g_iconst (v := 1) C dL_law_997 (by decide) ?_
                                            refine g_iadd C dL_law_998 ?_
                                            obtain ⟨q367, hb⟩ := hb
                                            refine g_sld hsc C dL_law_999 q367 ?_
                                            obtain ⟨q368, q369, hb⟩ := hb
                                            obtain ⟨q370, hb⟩ := hb
                                            refine g_invV (ci := 16) [.int (xs (ix (v3 + 1)))] [.long y366] zy_X16_need wd_1507 wd_1508 wd_1509 ⟨_, _, rfl⟩ (by decide) C dL_law_1000 (by first | exact Nat.le_of_ble_eq_true rfl | simp [cat_rf]) (by first | exact Nat.le_of_ble_eq_true rfl | simp [cat_rf]) (by first | exact Nat.le_of_ble_eq_true rfl | simp [cat_rf]) (by rw [hmc_of hΓ]; exact q368) (by rw [hms_of hΓ]; exact q369) rfl rfl q370 (okX16_need hb) ?_
                                            rintro o σ371 ⟨y372, rfl, hb⟩
                                            refine ⟨_, rfl, ?_⟩
                                            refine g_lcmp C dL_law_1003 ?_
                                            refine g_if_eq (tgt := 1556) C dL_law_1004 (by decide) (fun c => ?_) (fun c => ?_)
                                            ·
                                              replace hb := hb.1 (lc_eq.mp c)
                                              refine g_iinc (v := v3 + 7) (lv' := [(3, .int (v3 + 7)), (0, .ref b0), (1, .ref v1), (2, .ref v2)]) C dL_law_1556 3 rfl rfl (hnl_of hΓ (by decide)) (by first | rfl | simp [cat_rf]) ?_
                                              refine g_goto (tgt := 18) C dL_law_1559 (by decide) ?_
                                              refine g_sub (lv' := [(0, .ref b0), (1, .ref v1), (2, .ref v2), (3, .int (v3 + 7))]) [1, 2, 3, 0] rfl ?_
                                              exact h18 _ _ _ _ _ _ hb
                                            ·
                                              replace hb := hb.2 (lcn_eq.mp c)
                                              refine g_iconst (v := 0) C dL_law_1007 (by decide) ?_
                                              obtain ⟨q373, q374, hb⟩ := hb
                                              exact g_zreturn C (by decide) hΓ q373 q374 dL_law_1008 ⟨_, rfl, hb⟩
                                          ·
                                            by_cases c390 : ((xs (ix v3)) &&& 63) = 20
                                            ·
                                              replace hb := hb.2.2.2.2.2.2.2.2.2.2.2.2.2.2.2.2.2.2.2.2.1 c390
                                              refine g_tabIn (tgt := 1009) (off := 976) C dL_law_33 (by rw [c390]; decide) (by rw [c390]; decide) (by rw [c390]; rfl) (by decide) ?_
                                              refine g_aload_n (some v1) C dL_law_1009 1 rfl ?_
                                              refine g_aload_n (some b0) C dL_law_1010 0 rfl ?_
                                              refine g_iload_n C dL_law_1011 3 rfl ?_
                                              refine g_iconst (v := 1) C dL_law_1012 (by decide) ?_
                                              refine g_iadd C dL_law_1013 ?_
                                              obtain ⟨q376, hb⟩ := hb
                                              refine g_sld hsc C dL_law_1014 q376 ?_
                                              obtain ⟨q377, q378, hb⟩ := hb
                                              obtain ⟨q379, hb⟩ := hb
                                              refine g_invV (ci := 11) [.int (xs (ix (v3 + 1)))] [] zy_X11_count wd_791 wd_792 wd_793 ⟨_, _, rfl⟩ (by decide) C dL_law_1015 (by first | exact Nat.le_of_ble_eq_true rfl | simp [cat_rf]) (by first | exact Nat.le_of_ble_eq_true rfl | simp [cat_rf]) (by first | exact Nat.le_of_ble_eq_true rfl | simp [cat_rf]) (by rw [hmc_of hΓ]; exact q377) (by rw [hms_of hΓ]; exact q378) rfl rfl q379 (okX11_count hb) ?_
                                              rintro o σ380 ⟨y381, rfl, hb⟩
                                              refine ⟨_, rfl, ?_⟩
                                              refine g_aload_n (some v2) C dL_law_1018 2 rfl ?_
                                              refine g_aload_n (some b0) C dL_law_1019 0 rfl ?_
                                              refine g_iload_n C dL_law_1020 3 rfl ?_
                                              refine g_iconst (v := 1) C dL_law_1021 (by decide) ?_
                                              refine g_iadd C dL_law_1022 ?_
                                              obtain ⟨q382, hb⟩ := hb
                                              refine g_sld hsc C dL_law_1023 q382 ?_
                                              obtain ⟨q383, q384, hb⟩ := hb
                                              obtain ⟨q385, hb⟩ := hb
                                              refine g_invV (ci := 16) [.int (xs (ix (v3 + 1)))] [.long y381] zy_X16_count wd_1511 wd_1512 wd_1513 ⟨_, _, rfl⟩ (by decide) C dL_law_1024 (by first | exact Nat.le_of_ble_eq_true rfl | simp [cat_rf]) (by first | exact Nat.le_of_ble_eq_true rfl | simp [cat_rf]) (by first | exact Nat.le_of_ble_eq_true rfl | simp [cat_rf]) (by rw [hmc_of hΓ]; exact q383) (by rw [hms_of hΓ]; exact q384) rfl rfl q385 (okX16_count hb) ?_
                                              rintro o σ386 ⟨y387, rfl, hb⟩
                                              refine ⟨_, rfl, ?_⟩
                                              refine g_lcmp C dL_law_1027 ?_
                                              refine g_if_eq (tgt := 1556) C dL_law_1028 (by decide) (fun c => ?_) (fun c => ?_)
                                              ·
                                                replace hb := hb.1 (lc_eq.mp c)
                                                refine g_iinc (v := v3 + 7) (lv' := [(3, .int (v3 + 7)), (0, .ref b0), (1, .ref v1), (2, .ref v2)]) C dL_law_1556 3 rfl rfl (hnl_of hΓ (by decide)) (by first | rfl | simp [cat_rf]) ?_
                                                refine g_goto (tgt := 18) C dL_law_1559 (by decide) ?_
                                                refine g_sub (lv' := [(0, .ref b0), (1, .ref v1), (2, .ref v2), (3, .int (v3 + 7))]) [1, 2, 3, 0] rfl ?_
                                                exact h18 _ _ _ _ _ _ hb
                                              ·
                                                replace hb := hb.2 (lcn_eq.mp c)
                                                refine g_iconst (v := 0) C dL_law_1031 (by decide) ?_
                                                obtain ⟨q388, q389, hb⟩ := hb
                                                exact g_zreturn C (by decide) hΓ q388 q389 dL_law_1032 ⟨_, rfl, hb⟩
                                            ·
                                              by_cases c405 : ((xs (ix v3)) &&& 63) = 21
                                              ·
                                                replace hb := hb.2.2.2.2.2.2.2.2.2.2.2.2.2.2.2.2.2.2.2.2.2.1 c405
                                                refine g_tabIn (tgt := 1033) (off := 1000) C dL_law_33 (by rw [c405]; decide) (by rw [c405]; decide) (by rw [c405]; rfl) (by decide) ?_
                                                refine g_aload_n (some v1) C dL_law_1033 1 rfl ?_
                                                refine g_aload_n (some b0) C dL_law_1034 0 rfl ?_
                                                refine g_iload_n C dL_law_1035 3 rfl ?_
                                                refine g_iconst (v := 1) C dL_law_1036 (by decide) ?_
                                                refine g_iadd C dL_law_1037 ?_
                                                obtain ⟨q391, hb⟩ := hb
                                                refine g_sld hsc C dL_law_1038 q391 ?_
                                                obtain ⟨q392, q393, hb⟩ := hb
                                                obtain ⟨q394, hb⟩ := hb
                                                refine g_invV (ci := 11) [.int (xs (ix (v3 + 1)))] [] zy_X11_cost wd_795 wd_796 wd_797 ⟨_, _, rfl⟩ (by decide) C dL_law_1039 (by first | exact Nat.le_of_ble_eq_true rfl | simp [cat_rf]) (by first | exact Nat.le_of_ble_eq_true rfl | simp [cat_rf]) (by first | exact Nat.le_of_ble_eq_true rfl | simp [cat_rf]) (by rw [hmc_of hΓ]; exact q392) (by rw [hms_of hΓ]; exact q393) rfl rfl q394 (okX11_cost hb) ?_
                                                rintro o σ395 ⟨y396, rfl, hb⟩
                                                refine ⟨_, rfl, ?_⟩
                                                refine g_aload_n (some v2) C dL_law_1042 2 rfl ?_
                                                refine g_aload_n (some b0) C dL_law_1043 0 rfl ?_
                                                refine g_iload_n C dL_law_1044 3 rfl ?_
                                                refine g_iconst (v := 1) C dL_law_1045 (by decide) ?_
                                                refine g_iadd C dL_law_1046 ?_
                                                obtain ⟨q397, hb⟩ := hb
                                                refine g_sld hsc C dL_law_1047 q397 ?_
                                                obtain ⟨q398, q399, hb⟩ := hb
                                                obtain ⟨q400, hb⟩ := hb
                                                refine g_invV (ci := 16) [.int (xs (ix (v3 + 1)))] [.int y396] zy_X16_cost wd_1515 wd_1516 wd_1517 ⟨_, _, rfl⟩ (by decide) C dL_law_1048 (by first | exact Nat.le_of_ble_eq_true rfl | simp [cat_rf]) (by first | exact Nat.le_of_ble_eq_true rfl | simp [cat_rf]) (by first | exact Nat.le_of_ble_eq_true rfl | simp [cat_rf]) (by rw [hmc_of hΓ]; exact q398) (by rw [hms_of hΓ]; exact q399) rfl rfl q400 (okX16_cost hb) ?_
                                                rintro o σ401 ⟨y402, rfl, hb⟩
                                                refine ⟨_, rfl, ?_⟩
                                                refine g_icmp_eq (tgt := 1556) C dL_law_1051 (by decide) (fun c => ?_) (fun c => ?_)
                                                ·
                                                  replace hb := hb.1 (c)
                                                  refine g_iinc (v := v3 + 7) (lv' := [(3, .int (v3 + 7)), (0, .ref b0), (1, .ref v1), (2, .ref v2)]) C dL_law_1556 3 rfl rfl (hnl_of hΓ (by decide)) (by first | rfl | simp [cat_rf]) ?_
                                                  refine g_goto (tgt := 18) C dL_law_1559 (by decide) ?_
                                                  refine g_sub (lv' := [(0, .ref b0), (1, .ref v1), (2, .ref v2), (3, .int (v3 + 7))]) [1, 2, 3, 0] rfl ?_
                                                  exact h18 _ _ _ _ _ _ hb
                                                ·
                                                  replace hb := hb.2 (c)
                                                  refine g_iconst (v := 0) C dL_law_1054 (by decide) ?_
                                                  obtain ⟨q403, q404, hb⟩ := hb
                                                  exact g_zreturn C (by decide) hΓ q403 q404 dL_law_1055 ⟨_, rfl, hb⟩
                                              ·
                                                by_cases c420 : ((xs (ix v3)) &&& 63) = 22
                                                ·
                                                  replace hb := hb.2.2.2.2.2.2.2.2.2.2.2.2.2.2.2.2.2.2.2.2.2.2.1 c420
                                                  refine g_tabIn (tgt := 1056) (off := 1023) C dL_law_33 (by rw [c420]; decide) (by rw [c420]; decide) (by rw [c420]; rfl) (by decide) ?_
                                                  refine g_aload_n (some v1) C dL_law_1056 1 rfl ?_
                                                  refine g_aload_n (some b0) C dL_law_1057 0 rfl ?_
                                                  refine g_iload_n C dL_law_1058 3 rfl ?_
                                                  refine g_iconst (v := 1) C dL_law_1059 (by decide) ?_
                                                  refine g_iadd C dL_law_1060 ?_
                                                  obtain ⟨q406, hb⟩ := hb
                                                  refine g_sld hsc C dL_law_1061 q406 ?_
                                                  obtain ⟨q407, q408, hb⟩ := hb
                                                  obtain ⟨q409, hb⟩ := hb
                                                  refine g_invV (ci := 11) [.int (xs (ix (v3 + 1)))] [] zy_X11_trust wd_799 wd_800 wd_801 ⟨_, _, rfl⟩ (by decide) C dL_law_1062 (by first | exact Nat.le_of_ble_eq_true rfl | simp [cat_rf]) (by first | exact Nat.le_of_ble_eq_true rfl | simp [cat_rf]) (by first | exact Nat.le_of_ble_eq_true rfl | simp [cat_rf]) (by rw [hmc_of hΓ]; exact q407) (by rw [hms_of hΓ]; exact q408) rfl rfl q409 (okX11_trust hb) ?_
                                                  rintro o σ410 ⟨y411, rfl, hb⟩
                                                  refine ⟨_, rfl, ?_⟩
                                                  refine g_aload_n (some v2) C dL_law_1065 2 rfl ?_
                                                  refine g_aload_n (some b0) C dL_law_1066 0 rfl ?_
                                                  refine g_iload_n C dL_law_1067 3 rfl ?_
                                                  refine g_iconst (v := 1) C dL_law_1068 (by decide) ?_
                                                  refine g_iadd C dL_law_1069 ?_
                                                  obtain ⟨q412, hb⟩ := hb
                                                  refine g_sld hsc C dL_law_1070 q412 ?_
                                                  obtain ⟨q413, q414, hb⟩ := hb
                                                  obtain ⟨q415, hb⟩ := hb
                                                  refine g_invV (ci := 16) [.int (xs (ix (v3 + 1)))] [.long y411] zy_X16_trust wd_1519 wd_1520 wd_1521 ⟨_, _, rfl⟩ (by decide) C dL_law_1071 (by first | exact Nat.le_of_ble_eq_true rfl | simp [cat_rf]) (by first | exact Nat.le_of_ble_eq_true rfl | simp [cat_rf]) (by first | exact Nat.le_of_ble_eq_true rfl | simp [cat_rf]) (by rw [hmc_of hΓ]; exact q413) (by rw [hms_of hΓ]; exact q414) rfl rfl q415 (okX16_trust hb) ?_
                                                  rintro o σ416 ⟨y417, rfl, hb⟩
                                                  refine ⟨_, rfl, ?_⟩
                                                  refine g_lcmp C dL_law_1074 ?_
                                                  refine g_if_eq (tgt := 1556) C dL_law_1075 (by decide) (fun c => ?_) (fun c => ?_)
                                                  ·
                                                    replace hb := hb.1 (lc_eq.mp c)
                                                    refine g_iinc (v := v3 + 7) (lv' := [(3, .int (v3 + 7)), (0, .ref b0), (1, .ref v1), (2, .ref v2)]) C dL_law_1556 3 rfl rfl (hnl_of hΓ (by decide)) (by first | rfl | simp [cat_rf]) ?_
                                                    refine g_goto (tgt := 18) C dL_law_1559 (by decide) ?_
                                                    refine g_sub (lv' := [(0, .ref b0), (1, .ref v1), (2, .ref v2), (3, .int (v3 + 7))]) [1, 2, 3, 0] rfl ?_
                                                    exact h18 _ _ _ _ _ _ hb
                                                  ·
                                                    replace hb := hb.2 (lcn_eq.mp c)
                                                    refine g_iconst (v := 0) C dL_law_1078 (by decide) ?_
                                                    obtain ⟨q418, q419, hb⟩ := hb
                                                    exact g_zreturn C (by decide) hΓ q418 q419 dL_law_1079 ⟨_, rfl, hb⟩
                                                ·
                                                  by_cases c435 : ((xs (ix v3)) &&& 63) = 23
                                                  ·
                                                    replace hb := hb.2.2.2.2.2.2.2.2.2.2.2.2.2.2.2.2.2.2.2.2.2.2.2.1 c435
                                                    refine g_tabIn (tgt := 1080) (off := 1047) C dL_law_33 (by rw [c435]; decide) (by rw [c435]; decide) (by rw [c435]; rfl) (by decide) ?_
                                                    refine g_aload_n (some v1) C dL_law_1080 1 rfl ?_
                                                    refine g_aload_n (some b0) C dL_law_1081 0 rfl ?_
                                                    refine g_iload_n C dL_law_1082 3 rfl ?_
                                                    refine g_iconst (v := 1) C dL_law_1083 (by decide) ?_
                                                    refine g_iadd C dL_law_1084 ?_
                                                    obtain ⟨q421, hb⟩ := hb
                                                    refine g_sld hsc C dL_law_1085 q421 ?_
                                                    obtain ⟨q422, q423, hb⟩ := hb
                                                    obtain ⟨q424, hb⟩ := hb
                                                    refine g_invV (ci := 11) [.int (xs (ix (v3 + 1)))] [] zy_X11_stays wd_803 wd_804 wd_805 ⟨_, _, rfl⟩ (by decide) C dL_law_1086 (by first | exact Nat.le_of_ble_eq_true rfl | simp [cat_rf]) (by first | exact Nat.le_of_ble_eq_true rfl | simp [cat_rf]) (by first | exact Nat.le_of_ble_eq_true rfl | simp [cat_rf]) (by rw [hmc_of hΓ]; exact q422) (by rw [hms_of hΓ]; exact q423) rfl rfl q424 (okX11_stays hb) ?_
                                                    rintro o σ425 ⟨y426, rfl, hb⟩
                                                    refine ⟨_, rfl, ?_⟩
                                                    refine g_aload_n (some v2) C dL_law_1089 2 rfl ?_
                                                    refine g_aload_n (some b0) C dL_law_1090 0 rfl ?_
                                                    refine g_iload_n C dL_law_1091 3 rfl ?_
                                                    refine g_iconst (v := 1) C dL_law_1092 (by decide) ?_
                                                    refine g_iadd C dL_law_1093 ?_
                                                    obtain ⟨q427, hb⟩ := hb
                                                    refine g_sld hsc C dL_law_1094 q427 ?_
                                                    obtain ⟨q428, q429, hb⟩ := hb
                                                    obtain ⟨q430, hb⟩ := hb
                                                    refine g_invV (ci := 16) [.int (xs (ix (v3 + 1)))] [.int y426] zy_X16_stays wd_1523 wd_1524 wd_1525 ⟨_, _, rfl⟩ (by decide) C dL_law_1095 (by first | exact Nat.le_of_ble_eq_true rfl | simp [cat_rf]) (by first | exact Nat.le_of_ble_eq_true rfl | simp [cat_rf]) (by first | exact Nat.le_of_ble_eq_true rfl | simp [cat_rf]) (by rw [hmc_of hΓ]; exact q428) (by rw [hms_of hΓ]; exact q429) rfl rfl q430 (okX16_stays hb) ?_
                                                    rintro o σ431 ⟨y432, rfl, hb⟩
                                                    refine ⟨_, rfl, ?_⟩
                                                    refine g_icmp_eq (tgt := 1556) C dL_law_1098 (by decide) (fun c => ?_) (fun c => ?_)
                                                    ·
                                                      replace hb := hb.1 (c)
                                                      refine g_iinc (v := v3 + 7) (lv' := [(3, .int (v3 + 7)), (0, .ref b0), (1, .ref v1), (2, .ref v2)]) C dL_law_1556 3 rfl rfl (hnl_of hΓ (by decide)) (by first | rfl | simp [cat_rf]) ?_
                                                      refine g_goto (tgt := 18) C dL_law_1559 (by decide) ?_
                                                      refine g_sub (lv' := [(0, .ref b0), (1, .ref v1), (2, .ref v2), (3, .int (v3 + 7))]) [1, 2, 3, 0] rfl ?_
                                                      exact h18 _ _ _ _ _ _ hb
                                                    ·
                                                      replace hb := hb.2 (c)
                                                      refine g_iconst (v := 0) C dL_law_1101 (by decide) ?_
                                                      obtain ⟨q433, q434, hb⟩ := hb
                                                      exact g_zreturn C (by decide) hΓ q433 q434 dL_law_1102 ⟨_, rfl, hb⟩
                                                  ·
                                                    by_cases c452 : ((xs (ix v3)) &&& 63) = 24
                                                    ·
                                                      replace hb := hb.2.2.2.2.2.2.2.2.2.2.2.2.2.2.2.2.2.2.2.2.2.2.2.2.1 c452
                                                      refine g_tabIn (tgt := 1103) (off := 1070) C dL_law_33 (by rw [c452]; decide) (by rw [c452]; decide) (by rw [c452]; rfl) (by decide) ?_
                                                      refine g_aload_n (some v1) C dL_law_1103 1 rfl ?_
                                                      refine g_aload_n (some b0) C dL_law_1104 0 rfl ?_
                                                      refine g_iload_n C dL_law_1105 3 rfl ?_
                                                      refine g_iconst (v := 1) C dL_law_1106 (by decide) ?_
                                                      refine g_iadd C dL_law_1107 ?_
                                                      obtain ⟨q436, hb⟩ := hb
                                                      refine g_sld hsc C dL_law_1108 q436 ?_
                                                      refine g_i2l C dL_law_1109 ?_
                                                      refine g_bipush (v := 32) C dL_law_1110 (by decide) ?_
                                                      refine g_lshl C dL_law_1112 ?_
                                                      refine g_aload_n (some b0) C dL_law_1113 0 rfl ?_
                                                      refine g_iload_n C dL_law_1114 3 rfl ?_
                                                      refine g_iconst (v := 2) C dL_law_1115 (by decide) ?_
                                                      refine g_iadd C dL_law_1116 ?_
                                                      obtain ⟨q437, hb⟩ := hb
                                                      refine g_sld hsc C dL_law_1117 q437 ?_
                                                      refine g_i2l C dL_law_1118 ?_
                                                      refine g_ldc2 C wd_1601 dL_law_1119 ?_
                                                      refine g_land C dL_law_1122 ?_
                                                      refine g_lor C dL_law_1123 ?_
                                                      obtain ⟨q438, q439, hb⟩ := hb
                                                      obtain ⟨q440, hb⟩ := hb
                                                      refine g_invV (ci := 11) [.long (((Int32.toInt64 (xs (ix (v3 + 1)))) <<< (Int32.toInt64 32 &&& 63)) ||| ((Int32.toInt64 (xs (ix (v3 + 2)))) &&& 4294967295))] [] zy_X11_without wd_812 wd_813 wd_814 ⟨_, _, rfl⟩ (by decide) C dL_law_1124 (by first | exact Nat.le_of_ble_eq_true rfl | simp [cat_rf]) (by first | exact Nat.le_of_ble_eq_true rfl | simp [cat_rf]) (by first | exact Nat.le_of_ble_eq_true rfl | simp [cat_rf]) (by rw [hmc_of hΓ]; exact q438) (by rw [hms_of hΓ]; exact q439) rfl rfl q440 (okX11_without hb) ?_
                                                      rintro o σ441 ⟨y442, rfl, hb⟩
                                                      refine ⟨_, rfl, ?_⟩
                                                      refine g_aload_n (some v2) C dL_law_1127 2 rfl ?_
                                                      refine g_aload_n (some b0) C dL_law_1128 0 rfl ?_
                                                      refine g_iload_n C dL_law_1129 3 rfl ?_
                                                      refine g_iconst (v := 1) C dL_law_1130 (by decide) ?_
                                                      refine g_iadd C dL_law_1131 ?_
                                                      obtain ⟨q443, hb⟩ := hb
                                                      refine g_sld hsc C dL_law_1132 q443 ?_
                                                      refine g_i2l C dL_law_1133 ?_
                                                      refine g_bipush (v := 32) C dL_law_1134 (by decide) ?_
                                                      refine g_lshl C dL_law_1136 ?_
                                                      refine g_aload_n (some b0) C dL_law_1137 0 rfl ?_
                                                      refine g_iload_n C dL_law_1138 3 rfl ?_
                                                      refine g_iconst (v := 2) C dL_law_1139 (by decide) ?_
                                                      refine g_iadd C dL_law_1140 ?_
                                                      obtain ⟨q444, hb⟩ := hb
                                                      refine g_sld hsc C dL_law_1141 q444 ?_
                                                      refine g_i2l C dL_law_1142 ?_
                                                      refine g_ldc2 C wd_1601 dL_law_1143 ?_
                                                      refine g_land C dL_law_1146 ?_
                                                      refine g_lor C dL_law_1147 ?_
                                                      obtain ⟨q445, q446, hb⟩ := hb
                                                      obtain ⟨q447, hb⟩ := hb
                                                      refine g_invV (ci := 16) [.long (((Int32.toInt64 (xs (ix (v3 + 1)))) <<< (Int32.toInt64 32 &&& 63)) ||| ((Int32.toInt64 (xs (ix (v3 + 2)))) &&& 4294967295))] [.int y442] zy_X16_without wd_1527 wd_1528 wd_1529 ⟨_, _, rfl⟩ (by decide) C dL_law_1148 (by first | exact Nat.le_of_ble_eq_true rfl | simp [cat_rf]) (by first | exact Nat.le_of_ble_eq_true rfl | simp [cat_rf]) (by first | exact Nat.le_of_ble_eq_true rfl | simp [cat_rf]) (by rw [hmc_of hΓ]; exact q445) (by rw [hms_of hΓ]; exact q446) rfl rfl q447 (okX16_without hb) ?_
                                                      rintro o σ448 ⟨y449, rfl, hb⟩
                                                      refine ⟨_, rfl, ?_⟩
                                                      refine g_icmp_eq (tgt := 1556) C dL_law_1151 (by decide) (fun c => ?_) (fun c => ?_)
                                                      ·
                                                        replace hb := hb.1 (c)
                                                        refine g_iinc (v := v3 + 7) (lv' := [(3, .int (v3 + 7)), (0, .ref b0), (1, .ref v1), (2, .ref v2)]) C dL_law_1556 3 rfl rfl (hnl_of hΓ (by decide)) (by first | rfl | simp [cat_rf]) ?_
                                                        refine g_goto (tgt := 18) C dL_law_1559 (by decide) ?_
                                                        refine g_sub (lv' := [(0, .ref b0), (1, .ref v1), (2, .ref v2), (3, .int (v3 + 7))]) [1, 2, 3, 0] rfl ?_
                                                        exact h18 _ _ _ _ _ _ hb
                                                      ·
                                                        replace hb := hb.2 (c)
                                                        refine g_iconst (v := 0) C dL_law_1154 (by decide) ?_
                                                        obtain ⟨q450, q451, hb⟩ := hb
                                                        exact g_zreturn C (by decide) hΓ q450 q451 dL_law_1155 ⟨_, rfl, hb⟩
                                                    ·
                                                      by_cases c471 : ((xs (ix v3)) &&& 63) = 25
                                                      ·
                                                        replace hb := hb.2.2.2.2.2.2.2.2.2.2.2.2.2.2.2.2.2.2.2.2.2.2.2.2.2.1 c471
                                                        refine g_tabIn (tgt := 1156) (off := 1123) C dL_law_33 (by rw [c471]; decide) (by rw [c471]; decide) (by rw [c471]; rfl) (by decide) ?_
                                                        refine g_aload_n (some v1) C dL_law_1156 1 rfl ?_
                                                        refine g_aload_n (some b0) C dL_law_1157 0 rfl ?_
                                                        refine g_iload_n C dL_law_1158 3 rfl ?_
                                                        refine g_iconst (v := 1) C dL_law_1159 (by decide) ?_
                                                        refine g_iadd C dL_law_1160 ?_
                                                        obtain ⟨q453, hb⟩ := hb
                                                        refine g_sld hsc C dL_law_1161 q453 ?_
                                                        refine g_aload_n (some b0) C dL_law_1162 0 rfl ?_
                                                        refine g_iload_n C dL_law_1163 3 rfl ?_
                                                        refine g_iconst (v := 2) C dL_law_1164 (by decide) ?_
                                                        refine g_iadd C dL_law_1165 ?_
                                                        obtain ⟨q454, hb⟩ := hb
                                                        refine g_sld hsc C dL_law_1166 q454 ?_
                                                        refine g_i2l C dL_law_1167 ?_
                                                        refine g_bipush (v := 32) C dL_law_1168 (by decide) ?_
                                                        refine g_lshl C dL_law_1170 ?_
                                                        refine g_aload_n (some b0) C dL_law_1171 0 rfl ?_
                                                        refine g_iload_n C dL_law_1172 3 rfl ?_
                                                        refine g_iconst (v := 3) C dL_law_1173 (by decide) ?_
                                                        refine g_iadd C dL_law_1174 ?_
                                                        obtain ⟨q455, hb⟩ := hb
                                                        refine g_sld hsc C dL_law_1175 q455 ?_
                                                        refine g_i2l C dL_law_1176 ?_
                                                        refine g_ldc2 C wd_1601 dL_law_1177 ?_
                                                        refine g_land C dL_law_1180 ?_
                                                        refine g_lor C dL_law_1181 ?_
                                                        obtain ⟨q456, q457, hb⟩ := hb
                                                        obtain ⟨q458, hb⟩ := hb
                                                        refine g_invV (ci := 11) [.int (xs (ix (v3 + 1))), .long (((Int32.toInt64 (xs (ix (v3 + 2)))) <<< (Int32.toInt64 32 &&& 63)) ||| ((Int32.toInt64 (xs (ix (v3 + 3)))) &&& 4294967295))] [] zy_X11_with wd_816 wd_817 wd_818 ⟨_, _, rfl⟩ (by decide) C dL_law_1182 (by first | exact Nat.le_of_ble_eq_true rfl | simp [cat_rf]) (by first | exact Nat.le_of_ble_eq_true rfl | simp [cat_rf]) (by first | exact Nat.le_of_ble_eq_true rfl | simp [cat_rf]) (by rw [hmc_of hΓ]; exact q456) (by rw [hms_of hΓ]; exact q457) rfl rfl q458 (okX11_with hb) ?_
                                                        rintro o σ459 ⟨y460, rfl, hb⟩
                                                        refine ⟨_, rfl, ?_⟩
                                                        refine g_aload_n (some v2) C dL_law_1185 2 rfl ?_
                                                        refine g_aload_n (some b0) C dL_law_1186 0 rfl ?_
                                                        refine g_iload_n C dL_law_1187 3 rfl ?_
                                                        refine g_iconst (v := 1) C dL_law_1188 (by decide) ?_
                                                        refine g_iadd C dL_law_1189 ?_
                                                        obtain ⟨q461, hb⟩ := hb
                                                        refine g_sld hsc C dL_law_1190 q461 ?_
                                                        refine g_aload_n (some b0) C dL_law_1191 0 rfl ?_
                                                        refine g_iload_n C dL_law_1192 3 rfl ?_
                                                        refine g_iconst (v := 2) C dL_law_1193 (by decide) ?_
                                                        refine g_iadd C dL_law_1194 ?_
                                                        obtain ⟨q462, hb⟩ := hb
                                                        refine g_sld hsc C dL_law_1195 q462 ?_
                                                        refine g_i2l C dL_law_1196 ?_
                                                        refine g_bipush (v := 32) C dL_law_1197 (by decide) ?_
                                                        refine g_lshl C dL_law_1199 ?_
                                                        refine g_aload_n (some b0) C dL_law_1200 0 rfl ?_
                                                        refine g_iload_n C dL_law_1201 3 rfl ?_
                                                        refine g_iconst (v := 3) C dL_law_1202 (by decide) ?_
                                                        refine g_iadd C dL_law_1203 ?_
                                                        obtain ⟨q463, hb⟩ := hb
                                                        refine g_sld hsc C dL_law_1204 q463 ?_
                                                        refine g_i2l C dL_law_1205 ?_
                                                        refine g_ldc2 C wd_1601 dL_law_1206 ?_
                                                        refine g_land C dL_law_1209 ?_
                                                        refine g_lor C dL_law_1210 ?_
                                                        obtain ⟨q464, q465, hb⟩ := hb
                                                        obtain ⟨q466, hb⟩ := hb
                                                        refine g_invV (ci := 16) [.int (xs (ix (v3 + 1))), .long (((Int32.toInt64 (xs (ix (v3 + 2)))) <<< (Int32.toInt64 32 &&& 63)) ||| ((Int32.toInt64 (xs (ix (v3 + 3)))) &&& 4294967295))] [.int y460] zy_X16_with wd_1535 wd_1536 wd_1537 ⟨_, _, rfl⟩ (by decide) C dL_law_1211 (by first | exact Nat.le_of_ble_eq_true rfl | simp [cat_rf]) (by first | exact Nat.le_of_ble_eq_true rfl | simp [cat_rf]) (by first | exact Nat.le_of_ble_eq_true rfl | simp [cat_rf]) (by rw [hmc_of hΓ]; exact q464) (by rw [hms_of hΓ]; exact q465) rfl rfl q466 (okX16_with hb) ?_
                                                        rintro o σ467 ⟨y468, rfl, hb⟩
                                                        refine ⟨_, rfl, ?_⟩
                                                        refine g_icmp_eq (tgt := 1556) C dL_law_1214 (by decide) (fun c => ?_) (fun c => ?_)
                                                        ·
                                                          replace hb := hb.1 (c)
                                                          refine g_iinc (v := v3 + 7) (lv' := [(3, .int (v3 + 7)), (0, .ref b0), (1, .ref v1), (2, .ref v2)]) C dL_law_1556 3 rfl rfl (hnl_of hΓ (by decide)) (by first | rfl | simp [cat_rf]) ?_
                                                          refine g_goto (tgt := 18) C dL_law_1559 (by decide) ?_
                                                          refine g_sub (lv' := [(0, .ref b0), (1, .ref v1), (2, .ref v2), (3, .int (v3 + 7))]) [1, 2, 3, 0] rfl ?_
                                                          exact h18 _ _ _ _ _ _ hb
                                                        ·
                                                          replace hb := hb.2 (c)
                                                          refine g_iconst (v := 0) C dL_law_1217 (by decide) ?_
                                                          obtain ⟨q469, q470, hb⟩ := hb
                                                          exact g_zreturn C (by decide) hΓ q469 q470 dL_law_1218 ⟨_, rfl, hb⟩
                                                      ·
                                                        by_cases c486 : ((xs (ix v3)) &&& 63) = 26
                                                        ·
                                                          replace hb := hb.2.2.2.2.2.2.2.2.2.2.2.2.2.2.2.2.2.2.2.2.2.2.2.2.2.2.1 c486
                                                          refine g_tabIn (tgt := 1219) (off := 1186) C dL_law_33 (by rw [c486]; decide) (by rw [c486]; decide) (by rw [c486]; rfl) (by decide) ?_
                                                          refine g_aload_n (some v1) C dL_law_1219 1 rfl ?_
                                                          refine g_aload_n (some b0) C dL_law_1220 0 rfl ?_
                                                          refine g_iload_n C dL_law_1221 3 rfl ?_
                                                          refine g_iconst (v := 1) C dL_law_1222 (by decide) ?_
                                                          refine g_iadd C dL_law_1223 ?_
                                                          obtain ⟨q472, hb⟩ := hb
                                                          refine g_sld hsc C dL_law_1224 q472 ?_
                                                          obtain ⟨q473, q474, hb⟩ := hb
                                                          obtain ⟨q475, hb⟩ := hb
                                                          refine g_invV (ci := 11) [.int (xs (ix (v3 + 1)))] [] zy_X11_chance wd_820 wd_821 wd_822 ⟨_, _, rfl⟩ (by decide) C dL_law_1225 (by first | exact Nat.le_of_ble_eq_true rfl | simp [cat_rf]) (by first | exact Nat.le_of_ble_eq_true rfl | simp [cat_rf]) (by first | exact Nat.le_of_ble_eq_true rfl | simp [cat_rf]) (by rw [hmc_of hΓ]; exact q473) (by rw [hms_of hΓ]; exact q474) rfl rfl q475 (okX11_chance hb) ?_
                                                          rintro o σ476 ⟨y477, rfl, hb⟩
                                                          refine ⟨_, rfl, ?_⟩
                                                          refine g_aload_n (some v2) C dL_law_1228 2 rfl ?_
                                                          refine g_aload_n (some b0) C dL_law_1229 0 rfl ?_
                                                          refine g_iload_n C dL_law_1230 3 rfl ?_
                                                          refine g_iconst (v := 1) C dL_law_1231 (by decide) ?_
                                                          refine g_iadd C dL_law_1232 ?_
                                                          obtain ⟨q478, hb⟩ := hb
                                                          refine g_sld hsc C dL_law_1233 q478 ?_
                                                          obtain ⟨q479, q480, hb⟩ := hb
                                                          obtain ⟨q481, hb⟩ := hb
                                                          refine g_invV (ci := 16) [.int (xs (ix (v3 + 1)))] [.long y477] zy_X16_chance wd_1539 wd_1540 wd_1541 ⟨_, _, rfl⟩ (by decide) C dL_law_1234 (by first | exact Nat.le_of_ble_eq_true rfl | simp [cat_rf]) (by first | exact Nat.le_of_ble_eq_true rfl | simp [cat_rf]) (by first | exact Nat.le_of_ble_eq_true rfl | simp [cat_rf]) (by rw [hmc_of hΓ]; exact q479) (by rw [hms_of hΓ]; exact q480) rfl rfl q481 (okX16_chance hb) ?_
                                                          rintro o σ482 ⟨y483, rfl, hb⟩
                                                          refine ⟨_, rfl, ?_⟩
                                                          refine g_lcmp C dL_law_1237 ?_
                                                          refine g_if_eq (tgt := 1556) C dL_law_1238 (by decide) (fun c => ?_) (fun c => ?_)
                                                          ·
                                                            replace hb := hb.1 (lc_eq.mp c)
                                                            refine g_iinc (v := v3 + 7) (lv' := [(3, .int (v3 + 7)), (0, .ref b0), (1, .ref v1), (2, .ref v2)]) C dL_law_1556 3 rfl rfl (hnl_of hΓ (by decide)) (by first | rfl | simp [cat_rf]) ?_
                                                            refine g_goto (tgt := 18) C dL_law_1559 (by decide) ?_
                                                            refine g_sub (lv' := [(0, .ref b0), (1, .ref v1), (2, .ref v2), (3, .int (v3 + 7))]) [1, 2, 3, 0] rfl ?_
                                                            exact h18 _ _ _ _ _ _ hb
                                                          ·
                                                            replace hb := hb.2 (lcn_eq.mp c)
                                                            refine g_iconst (v := 0) C dL_law_1241 (by decide) ?_
                                                            obtain ⟨q484, q485, hb⟩ := hb
                                                            exact g_zreturn C (by decide) hΓ q484 q485 dL_law_1242 ⟨_, rfl, hb⟩
                                                        ·
                                                          by_cases c503 : ((xs (ix v3)) &&& 63) = 27
                                                          ·
                                                            replace hb := hb.2.2.2.2.2.2.2.2.2.2.2.2.2.2.2.2.2.2.2.2.2.2.2.2.2.2.2.1 c503
                                                            refine g_tabIn (tgt := 1243) (off := 1210) C dL_law_33 (by rw [c503]; decide) (by rw [c503]; decide) (by rw [c503]; rfl) (by decide) ?_
                                                            refine g_aload_n (some v1) C dL_law_1243 1 rfl ?_
                                                            refine g_aload_n (some b0) C dL_law_1244 0 rfl ?_
                                                            refine g_iload_n C dL_law_1245 3 rfl ?_
                                                            refine g_iconst (v := 1) C dL_law_1246 (by decide) ?_
                                                            refine g_iadd C dL_law_1247 ?_
                                                            obtain ⟨q487, hb⟩ := hb
                                                            refine g_sld hsc C dL_law_1248 q487 ?_
                                                            refine g_aload_n (some b0) C dL_law_1249 0 rfl ?_
                                                            refine g_iload_n C dL_law_1250 3 rfl ?_
                                                            refine g_iconst (v := 2) C dL_law_1251 (by decide) ?_
                                                            refine g_iadd C dL_law_1252 ?_
                                                            obtain ⟨q488, hb⟩ := hb
                                                            refine g_sld hsc C dL_law_1253 q488 ?_
                                                            obtain ⟨q489, q490, hb⟩ := hb
                                                            obtain ⟨q491, hb⟩ := hb
                                                            refine g_invV (ci := 11) [.int (xs (ix (v3 + 1))), .int (xs (ix (v3 + 2)))] [] zy_X11_share wd_853 wd_854 wd_855 ⟨_, _, rfl⟩ (by decide) C dL_law_1254 (by first | exact Nat.le_of_ble_eq_true rfl | simp [cat_rf]) (by first | exact Nat.le_of_ble_eq_true rfl | simp [cat_rf]) (by first | exact Nat.le_of_ble_eq_true rfl | simp [cat_rf]) (by rw [hmc_of hΓ]; exact q489) (by rw [hms_of hΓ]; exact q490) rfl rfl q491 (okX11_share hb) ?_
                                                            rintro o σ492 ⟨y493, rfl, hb⟩
                                                            refine ⟨_, rfl, ?_⟩
                                                            refine g_aload_n (some v2) C dL_law_1257 2 rfl ?_
                                                            refine g_aload_n (some b0) C dL_law_1258 0 rfl ?_
                                                            refine g_iload_n C dL_law_1259 3 rfl ?_
                                                            refine g_iconst (v := 1) C dL_law_1260 (by decide) ?_
                                                            refine g_iadd C dL_law_1261 ?_
                                                            obtain ⟨q494, hb⟩ := hb
                                                            refine g_sld hsc C dL_law_1262 q494 ?_
                                                            refine g_aload_n (some b0) C dL_law_1263 0 rfl ?_
                                                            refine g_iload_n C dL_law_1264 3 rfl ?_
                                                            refine g_iconst (v := 2) C dL_law_1265 (by decide) ?_
                                                            refine g_iadd C dL_law_1266 ?_
                                                            obtain ⟨q495, hb⟩ := hb
                                                            refine g_sld hsc C dL_law_1267 q495 ?_
                                                            obtain ⟨q496, q497, hb⟩ := hb
                                                            obtain ⟨q498, hb⟩ := hb
                                                            refine g_invV (ci := 16) [.int (xs (ix (v3 + 1))), .int (xs (ix (v3 + 2)))] [.long y493] zy_X16_share wd_1555 wd_1556 wd_1557 ⟨_, _, rfl⟩ (by decide) C dL_law_1268 (by first | exact Nat.le_of_ble_eq_true rfl | simp [cat_rf]) (by first | exact Nat.le_of_ble_eq_true rfl | simp [cat_rf]) (by first | exact Nat.le_of_ble_eq_true rfl | simp [cat_rf]) (by rw [hmc_of hΓ]; exact q496) (by rw [hms_of hΓ]; exact q497) rfl rfl q498 (okX16_share hb) ?_
                                                            rintro o σ499 ⟨y500, rfl, hb⟩
                                                            refine ⟨_, rfl, ?_⟩
                                                            refine g_lcmp C dL_law_1271 ?_
                                                            refine g_if_eq (tgt := 1556) C dL_law_1272 (by decide) (fun c => ?_) (fun c => ?_)
                                                            ·
                                                              replace hb := hb.1 (lc_eq.mp c)
                                                              refine g_iinc (v := v3 + 7) (lv' := [(3, .int (v3 + 7)), (0, .ref b0), (1, .ref v1), (2, .ref v2)]) C dL_law_1556 3 rfl rfl (hnl_of hΓ (by decide)) (by first | rfl | simp [cat_rf]) ?_
                                                              refine g_goto (tgt := 18) C dL_law_1559 (by decide) ?_
                                                              refine g_sub (lv' := [(0, .ref b0), (1, .ref v1), (2, .ref v2), (3, .int (v3 + 7))]) [1, 2, 3, 0] rfl ?_
                                                              exact h18 _ _ _ _ _ _ hb
                                                            ·
                                                              replace hb := hb.2 (lcn_eq.mp c)
                                                              refine g_iconst (v := 0) C dL_law_1275 (by decide) ?_
                                                              obtain ⟨q501, q502, hb⟩ := hb
                                                              exact g_zreturn C (by decide) hΓ q501 q502 dL_law_1276 ⟨_, rfl, hb⟩
                                                          ·
                                                            by_cases c518 : ((xs (ix v3)) &&& 63) = 28
                                                            ·
                                                              replace hb := hb.2.2.2.2.2.2.2.2.2.2.2.2.2.2.2.2.2.2.2.2.2.2.2.2.2.2.2.2.1 c518
                                                              refine g_tabIn (tgt := 1277) (off := 1244) C dL_law_33 (by rw [c518]; decide) (by rw [c518]; decide) (by rw [c518]; rfl) (by decide) ?_
                                                              refine g_aload_n (some v1) C dL_law_1277 1 rfl ?_
                                                              refine g_aload_n (some b0) C dL_law_1278 0 rfl ?_
                                                              refine g_iload_n C dL_law_1279 3 rfl ?_
                                                              refine g_iconst (v := 1) C dL_law_1280 (by decide) ?_
                                                              refine g_iadd C dL_law_1281 ?_
                                                              obtain ⟨q504, hb⟩ := hb
                                                              refine g_sld hsc C dL_law_1282 q504 ?_
                                                              obtain ⟨q505, q506, hb⟩ := hb
                                                              obtain ⟨q507, hb⟩ := hb
                                                              refine g_invV (ci := 11) [.int (xs (ix (v3 + 1)))] [] zy_X11_least wd_858 wd_859 wd_860 ⟨_, _, rfl⟩ (by decide) C dL_law_1283 (by first | exact Nat.le_of_ble_eq_true rfl | simp [cat_rf]) (by first | exact Nat.le_of_ble_eq_true rfl | simp [cat_rf]) (by first | exact Nat.le_of_ble_eq_true rfl | simp [cat_rf]) (by rw [hmc_of hΓ]; exact q505) (by rw [hms_of hΓ]; exact q506) rfl rfl q507 (okX11_least hb) ?_
                                                              rintro o σ508 ⟨y509, rfl, hb⟩
                                                              refine ⟨_, rfl, ?_⟩
                                                              refine g_aload_n (some v2) C dL_law_1286 2 rfl ?_
                                                              refine g_aload_n (some b0) C dL_law_1287 0 rfl ?_
                                                              refine g_iload_n C dL_law_1288 3 rfl ?_
                                                              refine g_iconst (v := 1) C dL_law_1289 (by decide) ?_
                                                              refine g_iadd C dL_law_1290 ?_
                                                              obtain ⟨q510, hb⟩ := hb
                                                              refine g_sld hsc C dL_law_1291 q510 ?_
                                                              obtain ⟨q511, q512, hb⟩ := hb
                                                              obtain ⟨q513, hb⟩ := hb
                                                              refine g_invV (ci := 16) [.int (xs (ix (v3 + 1)))] [.long y509] zy_X16_least wd_1563 wd_1564 wd_1565 ⟨_, _, rfl⟩ (by decide) C dL_law_1292 (by first | exact Nat.le_of_ble_eq_true rfl | simp [cat_rf]) (by first | exact Nat.le_of_ble_eq_true rfl | simp [cat_rf]) (by first | exact Nat.le_of_ble_eq_true rfl | simp [cat_rf]) (by rw [hmc_of hΓ]; exact q511) (by rw [hms_of hΓ]; exact q512) rfl rfl q513 (okX16_least hb) ?_
                                                              rintro o σ514 ⟨y515, rfl, hb⟩
                                                              refine ⟨_, rfl, ?_⟩
                                                              refine g_lcmp C dL_law_1295 ?_
                                                              refine g_if_eq (tgt := 1556) C dL_law_1296 (by decide) (fun c => ?_) (fun c => ?_)
                                                              ·
                                                                replace hb := hb.1 (lc_eq.mp c)
                                                                refine g_iinc (v := v3 + 7) (lv' := [(3, .int (v3 + 7)), (0, .ref b0), (1, .ref v1), (2, .ref v2)]) C dL_law_1556 3 rfl rfl (hnl_of hΓ (by decide)) (by first | rfl | simp [cat_rf]) ?_
                                                                refine g_goto (tgt := 18) C dL_law_1559 (by decide) ?_
                                                                refine g_sub (lv' := [(0, .ref b0), (1, .ref v1), (2, .ref v2), (3, .int (v3 + 7))]) [1, 2, 3, 0] rfl ?_
                                                                exact h18 _ _ _ _ _ _ hb
                                                              ·
                                                                replace hb := hb.2 (lcn_eq.mp c)
                                                                refine g_iconst (v := 0) C dL_law_1299 (by decide) ?_
                                                                obtain ⟨q516, q517, hb⟩ := hb
                                                                exact g_zreturn C (by decide) hΓ q516 q517 dL_law_1300 ⟨_, rfl, hb⟩
                                                            ·
                                                              by_cases c535 : ((xs (ix v3)) &&& 63) = 29
                                                              ·
                                                                replace hb := hb.2.2.2.2.2.2.2.2.2.2.2.2.2.2.2.2.2.2.2.2.2.2.2.2.2.2.2.2.2.1 c535
                                                                refine g_tabIn (tgt := 1301) (off := 1268) C dL_law_33 (by rw [c535]; decide) (by rw [c535]; decide) (by rw [c535]; rfl) (by decide) ?_
                                                                refine g_aload_n (some v1) C dL_law_1301 1 rfl ?_
                                                                refine g_aload_n (some b0) C dL_law_1302 0 rfl ?_
                                                                refine g_iload_n C dL_law_1303 3 rfl ?_
                                                                refine g_iconst (v := 1) C dL_law_1304 (by decide) ?_
                                                                refine g_iadd C dL_law_1305 ?_
                                                                obtain ⟨q519, hb⟩ := hb
                                                                refine g_sld hsc C dL_law_1306 q519 ?_
                                                                refine g_aload_n (some b0) C dL_law_1307 0 rfl ?_
                                                                refine g_iload_n C dL_law_1308 3 rfl ?_
                                                                refine g_iconst (v := 2) C dL_law_1309 (by decide) ?_
                                                                refine g_iadd C dL_law_1310 ?_
                                                                obtain ⟨q520, hb⟩ := hb
                                                                refine g_sld hsc C dL_law_1311 q520 ?_
                                                                obtain ⟨q521, q522, hb⟩ := hb
                                                                obtain ⟨q523, hb⟩ := hb
                                                                refine g_invV (ci := 11) [.int (xs (ix (v3 + 1))), .int (xs (ix (v3 + 2)))] [] zy_X11_blame wd_882 wd_883 wd_884 ⟨_, _, rfl⟩ (by decide) C dL_law_1312 (by first | exact Nat.le_of_ble_eq_true rfl | simp [cat_rf]) (by first | exact Nat.le_of_ble_eq_true rfl | simp [cat_rf]) (by first | exact Nat.le_of_ble_eq_true rfl | simp [cat_rf]) (by rw [hmc_of hΓ]; exact q521) (by rw [hms_of hΓ]; exact q522) rfl rfl q523 (okX11_blame hb) ?_
                                                                rintro o σ524 ⟨y525, rfl, hb⟩
                                                                refine ⟨_, rfl, ?_⟩
                                                                refine g_aload_n (some v2) C dL_law_1315 2 rfl ?_
                                                                refine g_aload_n (some b0) C dL_law_1316 0 rfl ?_
                                                                refine g_iload_n C dL_law_1317 3 rfl ?_
                                                                refine g_iconst (v := 1) C dL_law_1318 (by decide) ?_
                                                                refine g_iadd C dL_law_1319 ?_
                                                                obtain ⟨q526, hb⟩ := hb
                                                                refine g_sld hsc C dL_law_1320 q526 ?_
                                                                refine g_aload_n (some b0) C dL_law_1321 0 rfl ?_
                                                                refine g_iload_n C dL_law_1322 3 rfl ?_
                                                                refine g_iconst (v := 2) C dL_law_1323 (by decide) ?_
                                                                refine g_iadd C dL_law_1324 ?_
                                                                obtain ⟨q527, hb⟩ := hb
                                                                refine g_sld hsc C dL_law_1325 q527 ?_
                                                                obtain ⟨q528, q529, hb⟩ := hb
                                                                obtain ⟨q530, hb⟩ := hb
                                                                refine g_invV (ci := 16) [.int (xs (ix (v3 + 1))), .int (xs (ix (v3 + 2)))] [.int y525] zy_X16_blame wd_1570 wd_1571 wd_1572 ⟨_, _, rfl⟩ (by decide) C dL_law_1326 (by first | exact Nat.le_of_ble_eq_true rfl | simp [cat_rf]) (by first | exact Nat.le_of_ble_eq_true rfl | simp [cat_rf]) (by first | exact Nat.le_of_ble_eq_true rfl | simp [cat_rf]) (by rw [hmc_of hΓ]; exact q528) (by rw [hms_of hΓ]; exact q529) rfl rfl q530 (okX16_blame hb) ?_
                                                                rintro o σ531 ⟨y532, rfl, hb⟩
                                                                refine ⟨_, rfl, ?_⟩
                                                                refine g_icmp_eq (tgt := 1556) C dL_law_1329 (by decide) (fun c => ?_) (fun c => ?_)
                                                                ·
                                                                  replace hb := hb.1 (c)
                                                                  refine g_iinc (v := v3 + 7) (lv' := [(3, .int (v3 + 7)), (0, .ref b0), (1, .ref v1), (2, .ref v2)]) C dL_law_1556 3 rfl rfl (hnl_of hΓ (by decide)) (by first | rfl | simp [cat_rf]) ?_
                                                                  refine g_goto (tgt := 18) C dL_law_1559 (by decide) ?_
                                                                  refine g_sub (lv' := [(0, .ref b0), (1, .ref v1), (2, .ref v2), (3, .int (v3 + 7))]) [1, 2, 3, 0] rfl ?_
                                                                  exact h18 _ _ _ _ _ _ hb
                                                                ·
                                                                  replace hb := hb.2 (c)
                                                                  refine g_iconst (v := 0) C dL_law_1332 (by decide) ?_
                                                                  obtain ⟨q533, q534, hb⟩ := hb
                                                                  exact g_zreturn C (by decide) hΓ q533 q534 dL_law_1333 ⟨_, rfl, hb⟩
                                                              ·
                                                                by_cases c556 : ((xs (ix v3)) &&& 63) = 30
                                                                ·
                                                                  replace hb := hb.2.2.2.2.2.2.2.2.2.2.2.2.2.2.2.2.2.2.2.2.2.2.2.2.2.2.2.2.2.2.1 c556
                                                                  refine g_tabIn (tgt := 1334) (off := 1301) C dL_law_33 (by rw [c556]; decide) (by rw [c556]; decide) (by rw [c556]; rfl) (by decide) ?_
                                                                  refine g_aload_n (some v1) C dL_law_1334 1 rfl ?_
                                                                  refine g_aload_n (some b0) C dL_law_1335 0 rfl ?_
                                                                  refine g_iload_n C dL_law_1336 3 rfl ?_
                                                                  refine g_iconst (v := 1) C dL_law_1337 (by decide) ?_
                                                                  refine g_iadd C dL_law_1338 ?_
                                                                  obtain ⟨q536, hb⟩ := hb
                                                                  refine g_sld hsc C dL_law_1339 q536 ?_
                                                                  refine g_aload_n (some b0) C dL_law_1340 0 rfl ?_
                                                                  refine g_iload_n C dL_law_1341 3 rfl ?_
                                                                  refine g_iconst (v := 2) C dL_law_1342 (by decide) ?_
                                                                  refine g_iadd C dL_law_1343 ?_
                                                                  obtain ⟨q537, hb⟩ := hb
                                                                  refine g_sld hsc C dL_law_1344 q537 ?_
                                                                  refine g_aload_n (some b0) C dL_law_1345 0 rfl ?_
                                                                  refine g_iload_n C dL_law_1346 3 rfl ?_
                                                                  refine g_iconst (v := 3) C dL_law_1347 (by decide) ?_
                                                                  refine g_iadd C dL_law_1348 ?_
                                                                  obtain ⟨q538, hb⟩ := hb
                                                                  refine g_sld hsc C dL_law_1349 q538 ?_
                                                                  obtain ⟨m539, m540, q541, q542, hb⟩ := hb
                                                                  obtain ⟨q543, hb⟩ := hb
                                                                  refine g_invV (ci := 11) [.int (xs (ix (v3 + 1))), .int (xs (ix (v3 + 2))), .int (xs (ix (v3 + 3)))] [] zy_X11_lay wd_896 wd_897 wd_898 ⟨_, _, rfl⟩ (by decide) C dL_law_1350 (by first | exact Nat.le_of_ble_eq_true rfl | simp [cat_rf]) (by first | exact Nat.le_of_ble_eq_true rfl | simp [cat_rf]) (by first | exact Nat.le_of_ble_eq_true rfl | simp [cat_rf]) (by rw [hmc_of hΓ]; exact q541) (by rw [hms_of hΓ]; exact q542) rfl rfl q543 (okX11_lay hb) ?_
                                                                  rintro o σ544 ⟨y545, rfl, hb⟩
                                                                  refine ⟨_, rfl, ?_⟩
                                                                  refine g_aload_n (some v2) C dL_law_1353 2 rfl ?_
                                                                  refine g_aload_n (some b0) C dL_law_1354 0 rfl ?_
                                                                  refine g_iload_n C dL_law_1355 3 rfl ?_
                                                                  refine g_iconst (v := 1) C dL_law_1356 (by decide) ?_
                                                                  refine g_iadd C dL_law_1357 ?_
                                                                  obtain ⟨q546, hb⟩ := hb
                                                                  refine g_sld hsc C dL_law_1358 q546 ?_
                                                                  refine g_aload_n (some b0) C dL_law_1359 0 rfl ?_
                                                                  refine g_iload_n C dL_law_1360 3 rfl ?_
                                                                  refine g_iconst (v := 2) C dL_law_1361 (by decide) ?_
                                                                  refine g_iadd C dL_law_1362 ?_
                                                                  obtain ⟨q547, hb⟩ := hb
                                                                  refine g_sld hsc C dL_law_1363 q547 ?_
                                                                  refine g_aload_n (some b0) C dL_law_1364 0 rfl ?_
                                                                  refine g_iload_n C dL_law_1365 3 rfl ?_
                                                                  refine g_iconst (v := 3) C dL_law_1366 (by decide) ?_
                                                                  refine g_iadd C dL_law_1367 ?_
                                                                  obtain ⟨q548, hb⟩ := hb
                                                                  refine g_sld hsc C dL_law_1368 q548 ?_
                                                                  obtain ⟨q549, q550, hb⟩ := hb
                                                                  obtain ⟨q551, hb⟩ := hb
                                                                  refine g_invV (ci := 16) [.int (xs (ix (v3 + 1))), .int (xs (ix (v3 + 2))), .int (xs (ix (v3 + 3)))] [.int y545] zy_X16_lay wd_1574 wd_1575 wd_1576 ⟨_, _, rfl⟩ (by decide) C dL_law_1369 (by first | exact Nat.le_of_ble_eq_true rfl | simp [cat_rf]) (by first | exact Nat.le_of_ble_eq_true rfl | simp [cat_rf]) (by first | exact Nat.le_of_ble_eq_true rfl | simp [cat_rf]) (by rw [hmc_of hΓ]; exact q549) (by rw [hms_of hΓ]; exact q550) rfl rfl q551 (okX16_lay hb) ?_
                                                                  rintro o σ552 ⟨y553, rfl, hb⟩
                                                                  refine ⟨_, rfl, ?_⟩
                                                                  refine g_icmp_eq (tgt := 1556) C dL_law_1372 (by decide) (fun c => ?_) (fun c => ?_)
                                                                  ·
                                                                    replace hb := hb.1 (c)
                                                                    refine g_iinc (v := v3 + 7) (lv' := [(3, .int (v3 + 7)), (0, .ref b0), (1, .ref v1), (2, .ref v2)]) C dL_law_1556 3 rfl rfl (hnl_of hΓ (by decide)) (by first | rfl | simp [cat_rf]) ?_
                                                                    refine g_goto (tgt := 18) C dL_law_1559 (by decide) ?_
                                                                    refine g_sub (lv' := [(0, .ref b0), (1, .ref v1), (2, .ref v2), (3, .int (v3 + 7))]) [1, 2, 3, 0] rfl ?_
                                                                    exact h18 _ _ _ _ _ _ hb
                                                                  ·
                                                                    replace hb := hb.2 (c)
                                                                    refine g_iconst (v := 0) C dL_law_1375 (by decide) ?_
                                                                    obtain ⟨q554, q555, hb⟩ := hb
                                                                    exact g_zreturn C (by decide) hΓ q554 q555 dL_law_1376 ⟨_, rfl, hb⟩
                                                                ·
                                                                  by_cases c571 : ((xs (ix v3)) &&& 63) = 31
                                                                  ·
                                                                    replace hb := hb.2.2.2.2.2.2.2.2.2.2.2.2.2.2.2.2.2.2.2.2.2.2.2.2.2.2.2.2.2.2.2.1 c571
                                                                    refine g_tabIn (tgt := 1377) (off := 1344) C dL_law_33 (by rw [c571]; decide) (by rw [c571]; decide) (by rw [c571]; rfl) (by decide) ?_
                                                                    refine g_aload_n (some v1) C dL_law_1377 1 rfl ?_
                                                                    refine g_aload_n (some b0) C dL_law_1378 0 rfl ?_
                                                                    refine g_iload_n C dL_law_1379 3 rfl ?_
                                                                    refine g_iconst (v := 1) C dL_law_1380 (by decide) ?_
                                                                    refine g_iadd C dL_law_1381 ?_
                                                                    obtain ⟨q557, hb⟩ := hb
                                                                    refine g_sld hsc C dL_law_1382 q557 ?_
                                                                    obtain ⟨q558, q559, hb⟩ := hb
                                                                    obtain ⟨q560, hb⟩ := hb
                                                                    refine g_invV (ci := 11) [.int (xs (ix (v3 + 1)))] [] zy_X11_lies wd_942 wd_943 wd_944 ⟨_, _, rfl⟩ (by decide) C dL_law_1383 (by first | exact Nat.le_of_ble_eq_true rfl | simp [cat_rf]) (by first | exact Nat.le_of_ble_eq_true rfl | simp [cat_rf]) (by first | exact Nat.le_of_ble_eq_true rfl | simp [cat_rf]) (by rw [hmc_of hΓ]; exact q558) (by rw [hms_of hΓ]; exact q559) rfl rfl q560 (okX11_lies hb) ?_
                                                                    rintro o σ561 ⟨y562, rfl, hb⟩
                                                                    refine ⟨_, rfl, ?_⟩
                                                                    refine g_aload_n (some v2) C dL_law_1386 2 rfl ?_
                                                                    refine g_aload_n (some b0) C dL_law_1387 0 rfl ?_
                                                                    refine g_iload_n C dL_law_1388 3 rfl ?_
                                                                    refine g_iconst (v := 1) C dL_law_1389 (by decide) ?_
                                                                    refine g_iadd C dL_law_1390 ?_
                                                                    obtain ⟨q563, hb⟩ := hb
                                                                    refine g_sld hsc C dL_law_1391 q563 ?_
                                                                    obtain ⟨q564, q565, hb⟩ := hb
                                                                    obtain ⟨q566, hb⟩ := hb
                                                                    refine g_invV (ci := 16) [.int (xs (ix (v3 + 1)))] [.int y562] zy_X16_lies wd_1581 wd_1582 wd_1583 ⟨_, _, rfl⟩ (by decide) C dL_law_1392 (by first | exact Nat.le_of_ble_eq_true rfl | simp [cat_rf]) (by first | exact Nat.le_of_ble_eq_true rfl | simp [cat_rf]) (by first | exact Nat.le_of_ble_eq_true rfl | simp [cat_rf]) (by rw [hmc_of hΓ]; exact q564) (by rw [hms_of hΓ]; exact q565) rfl rfl q566 (okX16_lies hb) ?_
                                                                    rintro o σ567 ⟨y568, rfl, hb⟩
                                                                    refine ⟨_, rfl, ?_⟩
                                                                    refine g_icmp_eq (tgt := 1556) C dL_law_1395 (by decide) (fun c => ?_) (fun c => ?_)
                                                                    ·
                                                                      replace hb := hb.1 (c)
                                                                      refine g_iinc (v := v3 + 7) (lv' := [(3, .int (v3 + 7)), (0, .ref b0), (1, .ref v1), (2, .ref v2)]) C dL_law_1556 3 rfl rfl (hnl_of hΓ (by decide)) (by first | rfl | simp [cat_rf]) ?_
                                                                      refine g_goto (tgt := 18) C dL_law_1559 (by decide) ?_
                                                                      refine g_sub (lv' := [(0, .ref b0), (1, .ref v1), (2, .ref v2), (3, .int (v3 + 7))]) [1, 2, 3, 0] rfl ?_
                                                                      exact h18 _ _ _ _ _ _ hb
                                                                    ·
                                                                      replace hb := hb.2 (c)
                                                                      refine g_iconst (v := 0) C dL_law_1398 (by decide) ?_
                                                                      obtain ⟨q569, q570, hb⟩ := hb
                                                                      exact g_zreturn C (by decide) hΓ q569 q570 dL_law_1399 ⟨_, rfl, hb⟩
                                                                  ·
                                                                    by_cases c590 : ((xs (ix v3)) &&& 63) = 32
                                                                    ·
                                                                      replace hb := hb.2.2.2.2.2.2.2.2.2.2.2.2.2.2.2.2.2.2.2.2.2.2.2.2.2.2.2.2.2.2.2.2.1 c590
                                                                      refine g_tabIn (tgt := 1400) (off := 1367) C dL_law_33 (by rw [c590]; decide) (by rw [c590]; decide) (by rw [c590]; rfl) (by decide) ?_
                                                                      refine g_aload_n (some v1) C dL_law_1400 1 rfl ?_
                                                                      refine g_aload_n (some b0) C dL_law_1401 0 rfl ?_
                                                                      refine g_iload_n C dL_law_1402 3 rfl ?_
                                                                      refine g_iconst (v := 1) C dL_law_1403 (by decide) ?_
                                                                      refine g_iadd C dL_law_1404 ?_
                                                                      obtain ⟨q572, hb⟩ := hb
                                                                      refine g_sld hsc C dL_law_1405 q572 ?_
                                                                      refine g_aload_n (some b0) C dL_law_1406 0 rfl ?_
                                                                      refine g_iload_n C dL_law_1407 3 rfl ?_
                                                                      refine g_iconst (v := 2) C dL_law_1408 (by decide) ?_
                                                                      refine g_iadd C dL_law_1409 ?_
                                                                      obtain ⟨q573, hb⟩ := hb
                                                                      refine g_sld hsc C dL_law_1410 q573 ?_
                                                                      refine g_aload_n (some b0) C dL_law_1411 0 rfl ?_
                                                                      refine g_iload_n C dL_law_1412 3 rfl ?_
                                                                      refine g_iconst (v := 3) C dL_law_1413 (by decide) ?_
                                                                      refine g_iadd C dL_law_1414 ?_
                                                                      obtain ⟨q574, hb⟩ := hb
                                                                      refine g_sld hsc C dL_law_1415 q574 ?_
                                                                      obtain ⟨q575, q576, hb⟩ := hb
                                                                      obtain ⟨q577, hb⟩ := hb
                                                                      refine g_invV (ci := 11) [.int (xs (ix (v3 + 1))), .int (xs (ix (v3 + 2))), .int (xs (ix (v3 + 3)))] [] zy_X11_taken wd_950 wd_951 wd_952 ⟨_, _, rfl⟩ (by decide) C dL_law_1416 (by first | exact Nat.le_of_ble_eq_true rfl | simp [cat_rf]) (by first | exact Nat.le_of_ble_eq_true rfl | simp [cat_rf]) (by first | exact Nat.le_of_ble_eq_true rfl | simp [cat_rf]) (by rw [hmc_of hΓ]; exact q575) (by rw [hms_of hΓ]; exact q576) rfl rfl q577 (okX11_taken hb) ?_
                                                                      rintro o σ578 ⟨y579, rfl, hb⟩
                                                                      refine ⟨_, rfl, ?_⟩
                                                                      refine g_aload_n (some v2) C dL_law_1419 2 rfl ?_
                                                                      refine g_aload_n (some b0) C dL_law_1420 0 rfl ?_
                                                                      refine g_iload_n C dL_law_1421 3 rfl ?_
                                                                      refine g_iconst (v := 1) C dL_law_1422 (by decide) ?_
                                                                      refine g_iadd C dL_law_1423 ?_
                                                                      obtain ⟨q580, hb⟩ := hb
                                                                      refine g_sld hsc C dL_law_1424 q580 ?_
                                                                      refine g_aload_n (some b0) C dL_law_1425 0 rfl ?_
                                                                      refine g_iload_n C dL_law_1426 3 rfl ?_
                                                                      refine g_iconst (v := 2) C dL_law_1427 (by decide) ?_
                                                                      refine g_iadd C dL_law_1428 ?_
                                                                      obtain ⟨q581, hb⟩ := hb
                                                                      refine g_sld hsc C dL_law_1429 q581 ?_
                                                                      refine g_aload_n (some b0) C dL_law_1430 0 rfl ?_
                                                                      refine g_iload_n C dL_law_1431 3 rfl ?_
                                                                      refine g_iconst (v := 3) C dL_law_1432 (by decide) ?_
                                                                      refine g_iadd C dL_law_1433 ?_
                                                                      obtain ⟨q582, hb⟩ := hb
                                                                      refine g_sld hsc C dL_law_1434 q582 ?_
                                                                      obtain ⟨q583, q584, hb⟩ := hb
                                                                      obtain ⟨q585, hb⟩ := hb
                                                                      refine g_invV (ci := 16) [.int (xs (ix (v3 + 1))), .int (xs (ix (v3 + 2))), .int (xs (ix (v3 + 3)))] [.long y579] zy_X16_taken wd_1585 wd_1586 wd_1587 ⟨_, _, rfl⟩ (by decide) C dL_law_1435 (by first | exact Nat.le_of_ble_eq_true rfl | simp [cat_rf]) (by first | exact Nat.le_of_ble_eq_true rfl | simp [cat_rf]) (by first | exact Nat.le_of_ble_eq_true rfl | simp [cat_rf]) (by rw [hmc_of hΓ]; exact q583) (by rw [hms_of hΓ]; exact q584) rfl rfl q585 (okX16_taken hb) ?_
                                                                      rintro o σ586 ⟨y587, rfl, hb⟩
                                                                      refine ⟨_, rfl, ?_⟩
                                                                      refine g_lcmp C dL_law_1438 ?_
                                                                      refine g_if_eq (tgt := 1556) C dL_law_1439 (by decide) (fun c => ?_) (fun c => ?_)
                                                                      ·
                                                                        replace hb := hb.1 (lc_eq.mp c)
                                                                        refine g_iinc (v := v3 + 7) (lv' := [(3, .int (v3 + 7)), (0, .ref b0), (1, .ref v1), (2, .ref v2)]) C dL_law_1556 3 rfl rfl (hnl_of hΓ (by decide)) (by first | rfl | simp [cat_rf]) ?_
                                                                        refine g_goto (tgt := 18) C dL_law_1559 (by decide) ?_
                                                                        refine g_sub (lv' := [(0, .ref b0), (1, .ref v1), (2, .ref v2), (3, .int (v3 + 7))]) [1, 2, 3, 0] rfl ?_
                                                                        exact h18 _ _ _ _ _ _ hb
                                                                      ·
                                                                        replace hb := hb.2 (lcn_eq.mp c)
                                                                        refine g_iconst (v := 0) C dL_law_1442 (by decide) ?_
                                                                        obtain ⟨q588, q589, hb⟩ := hb
                                                                        exact g_zreturn C (by decide) hΓ q588 q589 dL_law_1443 ⟨_, rfl, hb⟩
                                                                    ·
                                                                      by_cases c615 : ((xs (ix v3)) &&& 63) = 33
                                                                      ·
                                                                        replace hb := hb.2.2.2.2.2.2.2.2.2.2.2.2.2.2.2.2.2.2.2.2.2.2.2.2.2.2.2.2.2.2.2.2.2.1 c615
                                                                        refine g_tabIn (tgt := 1444) (off := 1411) C dL_law_33 (by rw [c615]; decide) (by rw [c615]; decide) (by rw [c615]; rfl) (by decide) ?_
                                                                        refine g_aload_n (some v1) C dL_law_1444 1 rfl ?_
                                                                        refine g_aload_n (some b0) C dL_law_1445 0 rfl ?_
                                                                        refine g_iload_n C dL_law_1446 3 rfl ?_
                                                                        refine g_iconst (v := 1) C dL_law_1447 (by decide) ?_
                                                                        refine g_iadd C dL_law_1448 ?_
                                                                        obtain ⟨q591, hb⟩ := hb
                                                                        refine g_sld hsc C dL_law_1449 q591 ?_
                                                                        refine g_aload_n (some b0) C dL_law_1450 0 rfl ?_
                                                                        refine g_iload_n C dL_law_1451 3 rfl ?_
                                                                        refine g_iconst (v := 2) C dL_law_1452 (by decide) ?_
                                                                        refine g_iadd C dL_law_1453 ?_
                                                                        obtain ⟨q592, hb⟩ := hb
                                                                        refine g_sld hsc C dL_law_1454 q592 ?_
                                                                        refine g_aload_n (some b0) C dL_law_1455 0 rfl ?_
                                                                        refine g_iload_n C dL_law_1456 3 rfl ?_
                                                                        refine g_iconst (v := 3) C dL_law_1457 (by decide) ?_
                                                                        refine g_iadd C dL_law_1458 ?_
                                                                        obtain ⟨q593, hb⟩ := hb
                                                                        refine g_sld hsc C dL_law_1459 q593 ?_
                                                                        refine g_aload_n (some b0) C dL_law_1460 0 rfl ?_
                                                                        refine g_iload_n C dL_law_1461 3 rfl ?_
                                                                        refine g_iconst (v := 4) C dL_law_1462 (by decide) ?_
                                                                        refine g_iadd C dL_law_1463 ?_
                                                                        obtain ⟨q594, hb⟩ := hb
                                                                        refine g_sld hsc C dL_law_1464 q594 ?_
                                                                        refine g_aload_n (some b0) C dL_law_1465 0 rfl ?_
                                                                        refine g_iload_n C dL_law_1466 3 rfl ?_
                                                                        refine g_iconst (v := 5) C dL_law_1467 (by decide) ?_
                                                                        refine g_iadd C dL_law_1468 ?_
                                                                        obtain ⟨q595, hb⟩ := hb
                                                                        refine g_sld hsc C dL_law_1469 q595 ?_
                                                                        obtain ⟨m596, m597, q598, q599, hb⟩ := hb
                                                                        obtain ⟨q600, hb⟩ := hb
                                                                        refine g_invV (ci := 11) [.int (xs (ix (v3 + 1))), .int (xs (ix (v3 + 2))), .int (xs (ix (v3 + 3))), .int (xs (ix (v3 + 4))), .int (xs (ix (v3 + 5)))] [] zy_X11_copy wd_954 wd_955 wd_956 ⟨_, _, rfl⟩ (by decide) C dL_law_1470 (by first | exact Nat.le_of_ble_eq_true rfl | simp [cat_rf]) (by first | exact Nat.le_of_ble_eq_true rfl | simp [cat_rf]) (by first | exact Nat.le_of_ble_eq_true rfl | simp [cat_rf]) (by rw [hmc_of hΓ]; exact q598) (by rw [hms_of hΓ]; exact q599) rfl rfl q600 (okX11_copy hb) ?_
                                                                        rintro o σ601 ⟨y602, rfl, hb⟩
                                                                        refine ⟨_, rfl, ?_⟩
                                                                        refine g_aload_n (some v2) C dL_law_1473 2 rfl ?_
                                                                        refine g_aload_n (some b0) C dL_law_1474 0 rfl ?_
                                                                        refine g_iload_n C dL_law_1475 3 rfl ?_
                                                                        refine g_iconst (v := 1) C dL_law_1476 (by decide) ?_
                                                                        refine g_iadd C dL_law_1477 ?_
                                                                        obtain ⟨q603, hb⟩ := hb
                                                                        refine g_sld hsc C dL_law_1478 q603 ?_
                                                                        refine g_aload_n (some b0) C dL_law_1479 0 rfl ?_
                                                                        refine g_iload_n C dL_law_1480 3 rfl ?_
                                                                        refine g_iconst (v := 2) C dL_law_1481 (by decide) ?_
                                                                        refine g_iadd C dL_law_1482 ?_
                                                                        obtain ⟨q604, hb⟩ := hb
                                                                        refine g_sld hsc C dL_law_1483 q604 ?_
                                                                        refine g_aload_n (some b0) C dL_law_1484 0 rfl ?_
                                                                        refine g_iload_n C dL_law_1485 3 rfl ?_
                                                                        refine g_iconst (v := 3) C dL_law_1486 (by decide) ?_
                                                                        refine g_iadd C dL_law_1487 ?_
                                                                        obtain ⟨q605, hb⟩ := hb
                                                                        refine g_sld hsc C dL_law_1488 q605 ?_
                                                                        refine g_aload_n (some b0) C dL_law_1489 0 rfl ?_
                                                                        refine g_iload_n C dL_law_1490 3 rfl ?_
                                                                        refine g_iconst (v := 4) C dL_law_1491 (by decide) ?_
                                                                        refine g_iadd C dL_law_1492 ?_
                                                                        obtain ⟨q606, hb⟩ := hb
                                                                        refine g_sld hsc C dL_law_1493 q606 ?_
                                                                        refine g_aload_n (some b0) C dL_law_1494 0 rfl ?_
                                                                        refine g_iload_n C dL_law_1495 3 rfl ?_
                                                                        refine g_iconst (v := 5) C dL_law_1496 (by decide) ?_
                                                                        refine g_iadd C dL_law_1497 ?_
                                                                        obtain ⟨q607, hb⟩ := hb
                                                                        refine g_sld hsc C dL_law_1498 q607 ?_
                                                                        obtain ⟨q608, q609, hb⟩ := hb
                                                                        obtain ⟨q610, hb⟩ := hb
                                                                        refine g_invV (ci := 16) [.int (xs (ix (v3 + 1))), .int (xs (ix (v3 + 2))), .int (xs (ix (v3 + 3))), .int (xs (ix (v3 + 4))), .int (xs (ix (v3 + 5)))] [.int y602] zy_X16_copy wd_1589 wd_1590 wd_1591 ⟨_, _, rfl⟩ (by decide) C dL_law_1499 (by first | exact Nat.le_of_ble_eq_true rfl | simp [cat_rf]) (by first | exact Nat.le_of_ble_eq_true rfl | simp [cat_rf]) (by first | exact Nat.le_of_ble_eq_true rfl | simp [cat_rf]) (by rw [hmc_of hΓ]; exact q608) (by rw [hms_of hΓ]; exact q609) rfl rfl q610 (okX16_copy hb) ?_
                                                                        rintro o σ611 ⟨y612, rfl, hb⟩
                                                                        refine ⟨_, rfl, ?_⟩
                                                                        refine g_icmp_eq (tgt := 1556) C dL_law_1502 (by decide) (fun c => ?_) (fun c => ?_)
                                                                        ·
                                                                          replace hb := hb.1 (c)
                                                                          refine g_iinc (v := v3 + 7) (lv' := [(3, .int (v3 + 7)), (0, .ref b0), (1, .ref v1), (2, .ref v2)]) C dL_law_1556 3 rfl rfl (hnl_of hΓ (by decide)) (by first | rfl | simp [cat_rf]) ?_
                                                                          refine g_goto (tgt := 18) C dL_law_1559 (by decide) ?_
                                                                          refine g_sub (lv' := [(0, .ref b0), (1, .ref v1), (2, .ref v2), (3, .int (v3 + 7))]) [1, 2, 3, 0] rfl ?_
                                                                          exact h18 _ _ _ _ _ _ hb
                                                                        ·
                                                                          replace hb := hb.2 (c)
                                                                          refine g_iconst (v := 0) C dL_law_1505 (by decide) ?_
                                                                          obtain ⟨q613, q614, hb⟩ := hb
                                                                          exact g_zreturn C (by decide) hΓ q613 q614 dL_law_1506 ⟨_, rfl, hb⟩
                                                                      ·
                                                                        by_cases c628 : ((xs (ix v3)) &&& 63) = 34
                                                                        ·
                                                                          replace hb := hb.2.2.2.2.2.2.2.2.2.2.2.2.2.2.2.2.2.2.2.2.2.2.2.2.2.2.2.2.2.2.2.2.2.2.1 c628
                                                                          refine g_tabIn (tgt := 1507) (off := 1474) C dL_law_33 (by rw [c628]; decide) (by rw [c628]; decide) (by rw [c628]; rfl) (by decide) ?_
                                                                          refine g_aload_n (some v1) C dL_law_1507 1 rfl ?_
                                                                          obtain ⟨q616, q617, hb⟩ := hb
                                                                          obtain ⟨q618, hb⟩ := hb
                                                                          refine g_invV (ci := 11) [] [] zy_X11_undo wd_964 wd_965 wd_966 ⟨_, _, rfl⟩ (by decide) C dL_law_1508 (by first | exact Nat.le_of_ble_eq_true rfl | simp [cat_rf]) (by first | exact Nat.le_of_ble_eq_true rfl | simp [cat_rf]) (by first | exact Nat.le_of_ble_eq_true rfl | simp [cat_rf]) (by rw [hmc_of hΓ]; exact q616) (by rw [hms_of hΓ]; exact q617) rfl rfl q618 (okX11_undo hb) ?_
                                                                          rintro o σ619 ⟨y620, rfl, hb⟩
                                                                          refine ⟨_, rfl, ?_⟩
                                                                          refine g_aload_n (some v2) C dL_law_1511 2 rfl ?_
                                                                          obtain ⟨q621, q622, hb⟩ := hb
                                                                          obtain ⟨q623, hb⟩ := hb
                                                                          refine g_invV (ci := 16) [] [.int y620] zy_X16_undo wd_985 wd_986 wd_987 ⟨_, _, rfl⟩ (by decide) C dL_law_1512 (by first | exact Nat.le_of_ble_eq_true rfl | simp [cat_rf]) (by first | exact Nat.le_of_ble_eq_true rfl | simp [cat_rf]) (by first | exact Nat.le_of_ble_eq_true rfl | simp [cat_rf]) (by rw [hmc_of hΓ]; exact q621) (by rw [hms_of hΓ]; exact q622) rfl rfl q623 (okX16_undo hb) ?_
                                                                          rintro o σ624 ⟨y625, rfl, hb⟩
                                                                          refine ⟨_, rfl, ?_⟩
                                                                          refine g_icmp_eq (tgt := 1556) C dL_law_1515 (by decide) (fun c => ?_) (fun c => ?_)
                                                                          ·
                                                                            replace hb := hb.1 (c)
                                                                            refine g_iinc (v := v3 + 7) (lv' := [(3, .int (v3 + 7)), (0, .ref b0), (1, .ref v1), (2, .ref v2)]) C dL_law_1556 3 rfl rfl (hnl_of hΓ (by decide)) (by first | rfl | simp [cat_rf]) ?_
                                                                            refine g_goto (tgt := 18) C dL_law_1559 (by decide) ?_
                                                                            refine g_sub (lv' := [(0, .ref b0), (1, .ref v1), (2, .ref v2), (3, .int (v3 + 7))]) [1, 2, 3, 0] rfl ?_
                                                                            exact h18 _ _ _ _ _ _ hb
                                                                          ·
                                                                            replace hb := hb.2 (c)
                                                                            refine g_iconst (v := 0) C dL_law_1518 (by decide) ?_
                                                                            obtain ⟨q626, q627, hb⟩ := hb
                                                                            exact g_zreturn C (by decide) hΓ q626 q627 dL_law_1519 ⟨_, rfl, hb⟩
                                                                        ·
                                                                          by_cases c643 : ((xs (ix v3)) &&& 63) = 35
                                                                          ·
                                                                            replace hb := hb.2.2.2.2.2.2.2.2.2.2.2.2.2.2.2.2.2.2.2.2.2.2.2.2.2.2.2.2.2.2.2.2.2.2.2.1 c643
                                                                            refine g_tabIn (tgt := 1520) (off := 1487) C dL_law_33 (by rw [c643]; decide) (by rw [c643]; decide) (by rw [c643]; rfl) (by decide) ?_
                                                                            refine g_aload_n (some v1) C dL_law_1520 1 rfl ?_
                                                                            refine g_aload_n (some b0) C dL_law_1521 0 rfl ?_
                                                                            refine g_iload_n C dL_law_1522 3 rfl ?_
                                                                            refine g_iconst (v := 1) C dL_law_1523 (by decide) ?_
                                                                            refine g_iadd C dL_law_1524 ?_
                                                                            obtain ⟨q629, hb⟩ := hb
                                                                            refine g_sld hsc C dL_law_1525 q629 ?_
                                                                            obtain ⟨q630, q631, hb⟩ := hb
                                                                            obtain ⟨q632, hb⟩ := hb
                                                                            refine g_invV (ci := 11) [.int (xs (ix (v3 + 1)))] [] zy_X11_size wd_977 wd_978 wd_979 ⟨_, _, rfl⟩ (by decide) C dL_law_1526 (by first | exact Nat.le_of_ble_eq_true rfl | simp [cat_rf]) (by first | exact Nat.le_of_ble_eq_true rfl | simp [cat_rf]) (by first | exact Nat.le_of_ble_eq_true rfl | simp [cat_rf]) (by rw [hmc_of hΓ]; exact q630) (by rw [hms_of hΓ]; exact q631) rfl rfl q632 (okX11_size hb) ?_
                                                                            rintro o σ633 ⟨y634, rfl, hb⟩
                                                                            refine ⟨_, rfl, ?_⟩
                                                                            refine g_aload_n (some v2) C dL_law_1529 2 rfl ?_
                                                                            refine g_aload_n (some b0) C dL_law_1530 0 rfl ?_
                                                                            refine g_iload_n C dL_law_1531 3 rfl ?_
                                                                            refine g_iconst (v := 1) C dL_law_1532 (by decide) ?_
                                                                            refine g_iadd C dL_law_1533 ?_
                                                                            obtain ⟨q635, hb⟩ := hb
                                                                            refine g_sld hsc C dL_law_1534 q635 ?_
                                                                            obtain ⟨q636, q637, hb⟩ := hb
                                                                            obtain ⟨q638, hb⟩ := hb
                                                                            refine g_invV (ci := 16) [.int (xs (ix (v3 + 1)))] [.int y634] zy_X16_size wd_1593 wd_1594 wd_1595 ⟨_, _, rfl⟩ (by decide) C dL_law_1535 (by first | exact Nat.le_of_ble_eq_true rfl | simp [cat_rf]) (by first | exact Nat.le_of_ble_eq_true rfl | simp [cat_rf]) (by first | exact Nat.le_of_ble_eq_true rfl | simp [cat_rf]) (by rw [hmc_of hΓ]; exact q636) (by rw [hms_of hΓ]; exact q637) rfl rfl q638 (okX16_size hb) ?_
                                                                            rintro o σ639 ⟨y640, rfl, hb⟩
                                                                            refine ⟨_, rfl, ?_⟩
                                                                            refine g_icmp_eq (tgt := 1556) C dL_law_1538 (by decide) (fun c => ?_) (fun c => ?_)
                                                                            ·
                                                                              replace hb := hb.1 (c)
                                                                              refine g_iinc (v := v3 + 7) (lv' := [(3, .int (v3 + 7)), (0, .ref b0), (1, .ref v1), (2, .ref v2)]) C dL_law_1556 3 rfl rfl (hnl_of hΓ (by decide)) (by first | rfl | simp [cat_rf]) ?_
                                                                              refine g_goto (tgt := 18) C dL_law_1559 (by decide) ?_
                                                                              refine g_sub (lv' := [(0, .ref b0), (1, .ref v1), (2, .ref v2), (3, .int (v3 + 7))]) [1, 2, 3, 0] rfl ?_
                                                                              exact h18 _ _ _ _ _ _ hb
                                                                            ·
                                                                              replace hb := hb.2 (c)
                                                                              refine g_iconst (v := 0) C dL_law_1541 (by decide) ?_
                                                                              obtain ⟨q641, q642, hb⟩ := hb
                                                                              exact g_zreturn C (by decide) hΓ q641 q642 dL_law_1542 ⟨_, rfl, hb⟩
                                                                          ·
                                                                            by_cases c656 : ((xs (ix v3)) &&& 63) = 36
                                                                            ·
                                                                              replace hb := hb.2.2.2.2.2.2.2.2.2.2.2.2.2.2.2.2.2.2.2.2.2.2.2.2.2.2.2.2.2.2.2.2.2.2.2.2.1 c656
                                                                              refine g_tabIn (tgt := 1543) (off := 1510) C dL_law_33 (by rw [c656]; decide) (by rw [c656]; decide) (by rw [c656]; rfl) (by decide) ?_
                                                                              refine g_aload_n (some v1) C dL_law_1543 1 rfl ?_
                                                                              obtain ⟨q644, q645, hb⟩ := hb
                                                                              obtain ⟨q646, hb⟩ := hb
                                                                              refine g_invV (ci := 11) [] [] zy_X11_status wd_981 wd_982 wd_983 ⟨_, _, rfl⟩ (by decide) C dL_law_1544 (by first | exact Nat.le_of_ble_eq_true rfl | simp [cat_rf]) (by first | exact Nat.le_of_ble_eq_true rfl | simp [cat_rf]) (by first | exact Nat.le_of_ble_eq_true rfl | simp [cat_rf]) (by rw [hmc_of hΓ]; exact q644) (by rw [hms_of hΓ]; exact q645) rfl rfl q646 (okX11_status hb) ?_
                                                                              rintro o σ647 ⟨y648, rfl, hb⟩
                                                                              refine ⟨_, rfl, ?_⟩
                                                                              refine g_aload_n (some v2) C dL_law_1547 2 rfl ?_
                                                                              obtain ⟨q649, q650, hb⟩ := hb
                                                                              obtain ⟨q651, hb⟩ := hb
                                                                              refine g_invV (ci := 16) [] [.int y648] zy_X16_status wd_1597 wd_1598 wd_1599 ⟨_, _, rfl⟩ (by decide) C dL_law_1548 (by first | exact Nat.le_of_ble_eq_true rfl | simp [cat_rf]) (by first | exact Nat.le_of_ble_eq_true rfl | simp [cat_rf]) (by first | exact Nat.le_of_ble_eq_true rfl | simp [cat_rf]) (by rw [hmc_of hΓ]; exact q649) (by rw [hms_of hΓ]; exact q650) rfl rfl q651 (okX16_status hb) ?_
                                                                              rintro o σ652 ⟨y653, rfl, hb⟩
                                                                              refine ⟨_, rfl, ?_⟩
                                                                              refine g_icmp_eq (tgt := 1556) C dL_law_1551 (by decide) (fun c => ?_) (fun c => ?_)
                                                                              ·
                                                                                replace hb := hb.1 (c)
                                                                                refine g_iinc (v := v3 + 7) (lv' := [(3, .int (v3 + 7)), (0, .ref b0), (1, .ref v1), (2, .ref v2)]) C dL_law_1556 3 rfl rfl (hnl_of hΓ (by decide)) (by first | rfl | simp [cat_rf]) ?_
                                                                                refine g_goto (tgt := 18) C dL_law_1559 (by decide) ?_
                                                                                refine g_sub (lv' := [(0, .ref b0), (1, .ref v1), (2, .ref v2), (3, .int (v3 + 7))]) [1, 2, 3, 0] rfl ?_
                                                                                exact h18 _ _ _ _ _ _ hb
                                                                              ·
                                                                                replace hb := hb.2 (c)
                                                                                refine g_iconst (v := 0) C dL_law_1554 (by decide) ?_
                                                                                obtain ⟨q654, q655, hb⟩ := hb
                                                                                exact g_zreturn C (by decide) hΓ q654 q655 dL_law_1555 ⟨_, rfl, hb⟩
                                                                            ·
                                                                              replace hb := hb.2.2.2.2.2.2.2.2.2.2.2.2.2.2.2.2.2.2.2.2.2.2.2.2.2.2.2.2.2.2.2.2.2.2.2.2.2 c20 c45 c48 c71 c88 c105 c126 c147 c174 c197 c216 c233 c252 c269 c284 c301 c328 c343 c360 c375 c390 c405 c420 c435 c452 c471 c486 c503 c518 c535 c556 c571 c590 c615 c628 c643 c656
                                                                              have hz : Int32.toInt ((xs (ix v3)) &&& 63) < 0 ∨ 36 < Int32.toInt ((xs (ix v3)) &&& 63) := by
                                                                                have h_c20 := i32_ne c20
                                                                                have h_c45 := i32_ne c45
                                                                                have h_c48 := i32_ne c48
                                                                                have h_c71 := i32_ne c71
                                                                                have h_c88 := i32_ne c88
                                                                                have h_c105 := i32_ne c105
                                                                                have h_c126 := i32_ne c126
                                                                                have h_c147 := i32_ne c147
                                                                                have h_c174 := i32_ne c174
                                                                                have h_c197 := i32_ne c197
                                                                                have h_c216 := i32_ne c216
                                                                                have h_c233 := i32_ne c233
                                                                                have h_c252 := i32_ne c252
                                                                                have h_c269 := i32_ne c269
                                                                                have h_c284 := i32_ne c284
                                                                                have h_c301 := i32_ne c301
                                                                                have h_c328 := i32_ne c328
                                                                                have h_c343 := i32_ne c343
                                                                                have h_c360 := i32_ne c360
                                                                                have h_c375 := i32_ne c375
                                                                                have h_c390 := i32_ne c390
                                                                                have h_c405 := i32_ne c405
                                                                                have h_c420 := i32_ne c420
                                                                                have h_c435 := i32_ne c435
                                                                                have h_c452 := i32_ne c452
                                                                                have h_c471 := i32_ne c471
                                                                                have h_c486 := i32_ne c486
                                                                                have h_c503 := i32_ne c503
                                                                                have h_c518 := i32_ne c518
                                                                                have h_c535 := i32_ne c535
                                                                                have h_c556 := i32_ne c556
                                                                                have h_c571 := i32_ne c571
                                                                                have h_c590 := i32_ne c590
                                                                                have h_c615 := i32_ne c615
                                                                                have h_c628 := i32_ne c628
                                                                                have h_c643 := i32_ne c643
                                                                                have h_c656 := i32_ne c656
                                                                                rw [show Int32.toInt 0 = 0 from rfl] at h_c20; rw [show Int32.toInt 1 = 1 from rfl] at h_c45; rw [show Int32.toInt 2 = 2 from rfl] at h_c48; rw [show Int32.toInt 3 = 3 from rfl] at h_c71; rw [show Int32.toInt 4 = 4 from rfl] at h_c88; rw [show Int32.toInt 5 = 5 from rfl] at h_c105; rw [show Int32.toInt 6 = 6 from rfl] at h_c126; rw [show Int32.toInt 7 = 7 from rfl] at h_c147; rw [show Int32.toInt 8 = 8 from rfl] at h_c174; rw [show Int32.toInt 9 = 9 from rfl] at h_c197; rw [show Int32.toInt 10 = 10 from rfl] at h_c216; rw [show Int32.toInt 11 = 11 from rfl] at h_c233; rw [show Int32.toInt 12 = 12 from rfl] at h_c252; rw [show Int32.toInt 13 = 13 from rfl] at h_c269; rw [show Int32.toInt 14 = 14 from rfl] at h_c284; rw [show Int32.toInt 15 = 15 from rfl] at h_c301; rw [show Int32.toInt 16 = 16 from rfl] at h_c328; rw [show Int32.toInt 17 = 17 from rfl] at h_c343; rw [show Int32.toInt 18 = 18 from rfl] at h_c360; rw [show Int32.toInt 19 = 19 from rfl] at h_c375; rw [show Int32.toInt 20 = 20 from rfl] at h_c390; rw [show Int32.toInt 21 = 21 from rfl] at h_c405; rw [show Int32.toInt 22 = 22 from rfl] at h_c420; rw [show Int32.toInt 23 = 23 from rfl] at h_c435; rw [show Int32.toInt 24 = 24 from rfl] at h_c452; rw [show Int32.toInt 25 = 25 from rfl] at h_c471; rw [show Int32.toInt 26 = 26 from rfl] at h_c486; rw [show Int32.toInt 27 = 27 from rfl] at h_c503; rw [show Int32.toInt 28 = 28 from rfl] at h_c518; rw [show Int32.toInt 29 = 29 from rfl] at h_c535; rw [show Int32.toInt 30 = 30 from rfl] at h_c556; rw [show Int32.toInt 31 = 31 from rfl] at h_c571; rw [show Int32.toInt 32 = 32 from rfl] at h_c590; rw [show Int32.toInt 33 = 33 from rfl] at h_c615; rw [show Int32.toInt 34 = 34 from rfl] at h_c628; rw [show Int32.toInt 35 = 35 from rfl] at h_c643; rw [show Int32.toInt 36 = 36 from rfl] at h_c656
                                                                                omega
                                                                              refine g_tabOut (tgt := 1556) C dL_law_33 hz (by decide) ?_
                                                                              refine g_iinc (v := v3 + 7) (lv' := [(3, .int (v3 + 7)), (0, .ref b0), (1, .ref v1), (2, .ref v2)]) C dL_law_1556 3 rfl rfl (hnl_of hΓ (by decide)) (by first | rfl | simp [cat_rf]) ?_
                                                                              refine g_goto (tgt := 18) C dL_law_1559 (by decide) ?_
                                                                              refine g_sub (lv' := [(0, .ref b0), (1, .ref v1), (2, .ref v2), (3, .int (v3 + 7))]) [1, 2, 3, 0] rfl ?_
                                                                              exact h18 _ _ _ _ _ _ hb
theorem klL_law_18 {Γ : hCT} {nm : String} {mc ms : Nat} (C : hC Γ RL cL_law (some FieldType.boolean) nm 2048 84000) {Q : Int32 → St → Prop} (hΓ : Γ.2.2.2.2.2.2.2.2.2.2.2 = (4, mc, ms, oI Q)) {b0 Ln : Nat} {xs : Nat → Int32} (hsc : hSC Γ b0 Ln xs) (f : Nat) (k n : Nat) (v1 : Nat) (v2 : Nat) (v3 : Int32) (σ : St) (hb : lL_law_18 mc ms Q Ln xs f k n v1 v2 v3 σ) : hW Γ k n 18 [(0, .ref b0), (1, .ref v1), (2, .ref v2), (3, .int v3)] [] σ := by
  induction f generalizing k n v1 v2 v3 σ with
  | zero => exact hb.elim
  | succ f ih => exact kwL_law_18 C hΓ hsc  (fun k n v1 v2 v3 σ h => ih k n v1 v2 v3 σ h) _ _ _ _ _ _ hb
set_option maxRecDepth 20000 in
theorem kwL_law_0 {Γ : hCT} {nm : String} {mc ms : Nat} (C : hC Γ RL cL_law (some FieldType.boolean) nm 2048 84000) {Q : Int32 → St → Prop} (hΓ : Γ.2.2.2.2.2.2.2.2.2.2.2 = (4, mc, ms, oI Q)) {b0 Ln : Nat} {xs : Nat → Int32} (hsc : hSC Γ b0 Ln xs) (k n : Nat) (σ : St) (hb : wL_law_0 mc ms Q Ln xs k n σ) : hW Γ k n 0 [(0, .ref b0)] [] σ := by
  unfold wL_law_0 at hb
  obtain ⟨q1, q2, hb⟩ := hb
  refine g_new zc_11 zd_11 ⟨_, rfl⟩ wd_95 wd_96 wd_69 C dL_law_0 (by rw [hmc_of hΓ]; exact q1) (by rw [hms_of hΓ]; exact q2) (fun b3 q4 => ?_)
  replace hb := hb b3 q4
  refine g_dup C dL_law_3 rfl ?_
  obtain ⟨m5, m6, q7, q8, hb⟩ := hb
  refine g_invI [] [.ref b3] zy_X11_init wd_97 wd_98 rfl C dL_law_4 (by first | exact Nat.le_of_ble_eq_true rfl | simp [cat_rf]) (by first | exact Nat.le_of_ble_eq_true rfl | simp [cat_rf]) (by first | exact Nat.le_of_ble_eq_true rfl | simp [cat_rf]) (by rw [hmc_of hΓ]; exact q7) (by rw [hms_of hΓ]; exact q8) rfl rfl  (okX11_init hb) ?_
  rintro o σ9 ⟨rfl, hb⟩
  refine ⟨_, rfl, ?_⟩
  refine g_astore_n (i := 1) (lv' := [(1, .ref b3), (0, .ref b0)]) (some b3) C dL_law_7 rfl (hnl_of hΓ (by decide)) (by first | rfl | simp [cat_rf]) ?_
  obtain ⟨q10, q11, hb⟩ := hb
  refine g_new zc_16 zd_16 ⟨_, rfl⟩ wd_1107 wd_992 wd_78 C dL_law_8 (by rw [hmc_of hΓ]; exact q10) (by rw [hms_of hΓ]; exact q11) (fun b12 q13 => ?_)
  replace hb := hb b12 q13
  refine g_dup C dL_law_11 rfl ?_
  obtain ⟨m14, m15, q16, q17, hb⟩ := hb
  refine g_invI [] [.ref b12] zy_X16_init wd_1108 wd_1109 rfl C dL_law_12 (by first | exact Nat.le_of_ble_eq_true rfl | simp [cat_rf]) (by first | exact Nat.le_of_ble_eq_true rfl | simp [cat_rf]) (by first | exact Nat.le_of_ble_eq_true rfl | simp [cat_rf]) (by rw [hmc_of hΓ]; exact q16) (by rw [hms_of hΓ]; exact q17) rfl rfl  (okX16_init hb) ?_
  rintro o σ18 ⟨rfl, hb⟩
  refine ⟨_, rfl, ?_⟩
  refine g_astore_n (i := 2) (lv' := [(2, .ref b12), (1, .ref b3), (0, .ref b0)]) (some b12) C dL_law_15 rfl (hnl_of hΓ (by decide)) (by first | rfl | simp [cat_rf]) ?_
  refine g_iconst (v := 0) C dL_law_16 (by decide) ?_
  refine g_istore_n (i := 3) (lv' := [(3, .int 0), (2, .ref b12), (1, .ref b3), (0, .ref b0)]) C dL_law_17 rfl (hnl_of hΓ (by decide)) (by first | rfl | simp [cat_rf]) ?_
  refine g_sub (lv' := [(0, .ref b0), (1, .ref b3), (2, .ref b12), (3, .int 0)]) [3, 2, 1, 0] rfl ?_
  obtain ⟨f19, hb⟩ := hb
  exact klL_law_18 C hΓ hsc  f19 _ _ _ _ _ _ hb
