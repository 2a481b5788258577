set_option maxRecDepth 4000 in
theorem bk_X12_isKeyword_0 {g : GP} {l : Launch} {d : Nat} {σ : St} {Q : Option AV → St → Prop} {x0 : Nat}
    (h : ACi g l d MX12_isWord [vR 12 (some x0), vJ 1701737837] σ (fun v2 σ1 => ((¬ v2 = 0 → Q (some (vI 1)) σ1) ∧ (v2 = 0 → ACi g l d MX12_isWord [vR 12 (some x0), vJ 126943973696372] σ1 (fun v4 σ3 => ((¬ v4 = 0 → Q (some (vI 1)) σ3) ∧ (v4 = 0 → ACi g l d MX12_isWord [vR 12 (some x0), vJ 26982] σ3 (fun v6 σ5 => ((¬ v6 = 0 → Q (some (vI 1)) σ5) ∧ (v6 = 0 → ACi g l d MX12_isWord [vR 12 (some x0), vJ 26995] σ5 (fun v8 σ7 => ((¬ v8 = 0 → Q (some (vI 1)) σ7) ∧ (v8 = 0 → ACi g l d MX12_isWord [vR 12 (some x0), vJ 1651078259] σ7 (fun v10 σ9 => ((¬ v10 = 0 → Q (some (vI 1)) σ9) ∧ (v10 = 0 → ACi g l d MX12_isWord [vR 12 (some x0), vJ 1952807028] σ9 (fun v12 σ11 => ((¬ v12 = 0 → Q (some (vI 1)) σ11) ∧ (v12 = 0 → ACi g l d MX12_isWord [vR 12 (some x0), vJ 504364296556] σ11 (fun v14 σ13 => ((¬ v14 = 0 → Q (some (vI 1)) σ13) ∧ (v14 = 0 → ACi g l d MX12_isWord [vR 12 (some x0), vJ 504363577198] σ13 (fun v16 σ15 => ((¬ v16 = 0 → Q (some (vI 1)) σ15) ∧ (v16 = 0 → ACi g l d MX12_isWord [vR 12 (some x0), vJ 25209] σ15 (fun v18 σ17 => ((¬ v18 = 0 → Q (some (vI 1)) σ17) ∧ (v18 = 0 → ACi g l d MX12_isWord [vR 12 (some x0), vJ 1701606245] σ17 (fun v20 σ19 => ((¬ v20 = 0 → Q (some (vI 1)) σ19) ∧ (v20 = 0 → ACi g l d MX12_isWord [vR 12 (some x0), vJ 29807] σ19 (fun v22 σ21 => ((¬ v22 = 0 → Q (some (vI 1)) σ21) ∧ (v22 = 0 → ACi g l d MX12_isWord [vR 12 (some x0), vJ 1718775661] σ21 (fun v24 σ23 => ((¬ v24 = 0 → Q (some (vI 1)) σ23) ∧ (v24 = 0 → ACi g l d MX12_isWord [vR 12 (some x0), vJ 1751478885] σ23 (fun v26 σ25 => ((¬ v26 = 0 → Q (some (vI 1)) σ25) ∧ (v26 = 0 → ACi g l d MX12_isWord [vR 12 (some x0), vJ 499984983411] σ25 (fun v28 σ27 => ((¬ v28 = 0 → Q (some (vI 1)) σ27) ∧ (v28 = 0 → ACi g l d MX12_isWord [vR 12 (some x0), vJ 7364964] σ27 (fun v30 σ29 => ((¬ v30 = 0 → Q (some (vI 1)) σ29) ∧ (v30 = 0 → ACi g l d MX12_isWord [vR 12 (some x0), vJ 469785602403] σ29 (fun v32 σ31 => ((¬ v32 = 0 → Q (some (vI 1)) σ31) ∧ (v32 = 0 → ACi g l d MX12_isWord [vR 12 (some x0), vJ 7566701] σ31 (fun v34 σ33 => ((¬ v34 = 0 → Q (some (vI 1)) σ33) ∧ (v34 = 0 → ACi g l d MX12_isWord [vR 12 (some x0), vJ 6382692] σ33 (fun v36 σ35 => ((¬ v36 = 0 → Q (some (vI 1)) σ35) ∧ (v36 = 0 → ACi g l d MX12_isWord [vR 12 (some x0), vJ 7892850] σ35 (fun v38 σ37 => ((¬ v38 = 0 → Q (some (vI 1)) σ37) ∧ (v38 = 0 → ACi g l d MX12_isWord [vR 12 (some x0), vJ 1869505907] σ37 (fun v40 σ39 => ((¬ v40 = 0 → Q (some (vI 1)) σ39) ∧ (v40 = 0 → ACi g l d MX12_isWord [vR 12 (some x0), vJ 1919904876] σ39 (fun v42 σ41 => ((¬ v42 = 0 → Q (some (vI 1)) σ41) ∧ (v42 = 0 → ACi g l d MX12_isWord [vR 12 (some x0), vJ 28518] σ41 (fun v44 σ43 => ((¬ v44 = 0 → Q (some (vI 1)) σ43) ∧ (v44 = 0 → ACi g l d MX12_isWord [vR 12 (some x0), vJ 1818584692] σ43 (fun v46 σ45 => ((¬ v46 = 0 → Q (some (vI 1)) σ45) ∧ (v46 = 0 → ACi g l d MX12_isWord [vR 12 (some x0), vJ 422608071022] σ45 (fun v48 σ47 => ((¬ v48 = 0 → Q (some (vI 1)) σ47) ∧ (v48 = 0 → ACi g l d MX12_isWord [vR 12 (some x0), vJ 6385252] σ47 (fun v50 σ49 => ((¬ v50 = 0 → Q (some (vI 1)) σ49) ∧ (v50 = 0 → ACi g l d MX12_isWord [vR 12 (some x0), vJ 28530] σ49 (fun v52 σ51 => ((¬ v52 = 0 → Q (some (vI 1)) σ51) ∧ (v52 = 0 → ACi g l d MX12_isWord [vR 12 (some x0), vJ 7237492] σ51 (fun v54 σ53 => ((¬ v54 = 0 → Q (some (vI 1)) σ53) ∧ (v54 = 0 → ACi g l d MX12_whole [vR 12 (some x0)] σ53 (fun v56 σ55 => ((v56 ≤ 0 → Q (some (vI 0)) σ55) ∧ (¬ v56 ≤ 0 → Q (some (vI 1)) σ55))))))))))))))))))))))))))))))))))))))))))))))))))))))))))))))))))))))))))))))))))))) :
    AW g l (d + 1) MX12_isKeyword 0 [some (vR 12 (some x0))] [] σ Q := by
  refine aw_aload_n dX12_isKeyword_0 rfl rfl ?_
  refine aw_ldc2 lk_X12_332 dX12_isKeyword_1 ?_
  refine aw_invVi (M := MX12_isKeyword) (ci := 12) [vJ 1701737837] rfl mo_X12_isWord rfl lm_X12_334 li_X12_isWord ls_X12_isWord (by decide +kernel) dX12_isKeyword_4 rfl (Nat.le_of_ble_eq_true rfl) (ACi.mono (fun v2 σ1 h => ?_) h)
  refine aw_if_ne (tgt := 277) dX12_isKeyword_7 (by decide) (fun hc => ?_) (fun hc => ?_)
  · replace h := h.1 hc
    refine aw_iconst (x := 1) dX12_isKeyword_277 rfl ?_
    refine aw_goto (tgt := 282) dX12_isKeyword_278 (by decide) ?_
    exact aw_zreturn dX12_isKeyword_282 rfl (Or.inr rfl) h
  · replace h := h.2 hc
    refine aw_aload_n dX12_isKeyword_10 rfl rfl ?_
    refine aw_ldc2 lk_X12_338 dX12_isKeyword_11 ?_
    refine aw_invVi (M := MX12_isKeyword) (ci := 12) [vJ 126943973696372] rfl mo_X12_isWord rfl lm_X12_334 li_X12_isWord ls_X12_isWord (by decide +kernel) dX12_isKeyword_14 rfl (Nat.le_of_ble_eq_true rfl) (ACi.mono (fun v4 σ3 h => ?_) h)
    refine aw_if_ne (tgt := 277) dX12_isKeyword_17 (by decide) (fun hc => ?_) (fun hc => ?_)
    · replace h := h.1 hc
      refine aw_iconst (x := 1) dX12_isKeyword_277 rfl ?_
      refine aw_goto (tgt := 282) dX12_isKeyword_278 (by decide) ?_
      exact aw_zreturn dX12_isKeyword_282 rfl (Or.inr rfl) h
    · replace h := h.2 hc
      refine aw_aload_n dX12_isKeyword_20 rfl rfl ?_
      refine aw_ldc2 lk_X12_340 dX12_isKeyword_21 ?_
      refine aw_invVi (M := MX12_isKeyword) (ci := 12) [vJ 26982] rfl mo_X12_isWord rfl lm_X12_334 li_X12_isWord ls_X12_isWord (by decide +kernel) dX12_isKeyword_24 rfl (Nat.le_of_ble_eq_true rfl) (ACi.mono (fun v6 σ5 h => ?_) h)
      refine aw_if_ne (tgt := 277) dX12_isKeyword_27 (by decide) (fun hc => ?_) (fun hc => ?_)
      · replace h := h.1 hc
        refine aw_iconst (x := 1) dX12_isKeyword_277 rfl ?_
        refine aw_goto (tgt := 282) dX12_isKeyword_278 (by decide) ?_
        exact aw_zreturn dX12_isKeyword_282 rfl (Or.inr rfl) h
      · replace h := h.2 hc
        refine aw_aload_n dX12_isKeyword_30 rfl rfl ?_
        refine aw_ldc2 lk_X12_342 dX12_isKeyword_31 ?_
        refine aw_invVi (M := MX12_isKeyword) (ci := 12) [vJ 26995] rfl mo_X12_isWord rfl lm_X12_334 li_X12_isWord ls_X12_isWord (by decide +kernel) dX12_isKeyword_34 rfl (Nat.le_of_ble_eq_true rfl) (ACi.mono (fun v8 σ7 h => ?_) h)
        refine aw_if_ne (tgt := 277) dX12_isKeyword_37 (by decide) (fun hc => ?_) (fun hc => ?_)
        · replace h := h.1 hc
          refine aw_iconst (x := 1) dX12_isKeyword_277 rfl ?_
          refine aw_goto (tgt := 282) dX12_isKeyword_278 (by decide) ?_
          exact aw_zreturn dX12_isKeyword_282 rfl (Or.inr rfl) h
        · replace h := h.2 hc
          refine aw_aload_n dX12_isKeyword_40 rfl rfl ?_
          refine aw_ldc2 lk_X12_344 dX12_isKeyword_41 ?_
          refine aw_invVi (M := MX12_isKeyword) (ci := 12) [vJ 1651078259] rfl mo_X12_isWord rfl lm_X12_334 li_X12_isWord ls_X12_isWord (by decide +kernel) dX12_isKeyword_44 rfl (Nat.le_of_ble_eq_true rfl) (ACi.mono (fun v10 σ9 h => ?_) h)
          refine aw_if_ne (tgt := 277) dX12_isKeyword_47 (by decide) (fun hc => ?_) (fun hc => ?_)
          · replace h := h.1 hc
            refine aw_iconst (x := 1) dX12_isKeyword_277 rfl ?_
            refine aw_goto (tgt := 282) dX12_isKeyword_278 (by decide) ?_
            exact aw_zreturn dX12_isKeyword_282 rfl (Or.inr rfl) h
          · replace h := h.2 hc
            refine aw_aload_n dX12_isKeyword_50 rfl rfl ?_
            refine aw_ldc2 lk_X12_346 dX12_isKeyword_51 ?_
            refine aw_invVi (M := MX12_isKeyword) (ci := 12) [vJ 1952807028] rfl mo_X12_isWord rfl lm_X12_334 li_X12_isWord ls_X12_isWord (by decide +kernel) dX12_isKeyword_54 rfl (Nat.le_of_ble_eq_true rfl) (ACi.mono (fun v12 σ11 h => ?_) h)
            refine aw_if_ne (tgt := 277) dX12_isKeyword_57 (by decide) (fun hc => ?_) (fun hc => ?_)
            · replace h := h.1 hc
              refine aw_iconst (x := 1) dX12_isKeyword_277 rfl ?_
              refine aw_goto (tgt := 282) dX12_isKeyword_278 (by decide) ?_
              exact aw_zreturn dX12_isKeyword_282 rfl (Or.inr rfl) h
            · replace h := h.2 hc
              refine aw_aload_n dX12_isKeyword_60 rfl rfl ?_
              refine aw_ldc2 lk_X12_348 dX12_isKeyword_61 ?_
              refine aw_invVi (M := MX12_isKeyword) (ci := 12) [vJ 504364296556] rfl mo_X12_isWord rfl lm_X12_334 li_X12_isWord ls_X12_isWord (by decide +kernel) dX12_isKeyword_64 rfl (Nat.le_of_ble_eq_true rfl) (ACi.mono (fun v14 σ13 h => ?_) h)
              refine aw_if_ne (tgt := 277) dX12_isKeyword_67 (by decide) (fun hc => ?_) (fun hc => ?_)
              · replace h := h.1 hc
                refine aw_iconst (x := 1) dX12_isKeyword_277 rfl ?_
                refine aw_goto (tgt := 282) dX12_isKeyword_278 (by decide) ?_
                exact aw_zreturn dX12_isKeyword_282 rfl (Or.inr rfl) h
              · replace h := h.2 hc
                refine aw_aload_n dX12_isKeyword_70 rfl rfl ?_
                refine aw_ldc2 lk_X12_350 dX12_isKeyword_71 ?_
                refine aw_invVi (M := MX12_isKeyword) (ci := 12) [vJ 504363577198] rfl mo_X12_isWord rfl lm_X12_334 li_X12_isWord ls_X12_isWord (by decide +kernel) dX12_isKeyword_74 rfl (Nat.le_of_ble_eq_true rfl) (ACi.mono (fun v16 σ15 h => ?_) h)
                refine aw_if_ne (tgt := 277) dX12_isKeyword_77 (by decide) (fun hc => ?_) (fun hc => ?_)
                · replace h := h.1 hc
                  refine aw_iconst (x := 1) dX12_isKeyword_277 rfl ?_
                  refine aw_goto (tgt := 282) dX12_isKeyword_278 (by decide) ?_
                  exact aw_zreturn dX12_isKeyword_282 rfl (Or.inr rfl) h
                · replace h := h.2 hc
                  refine aw_aload_n dX12_isKeyword_80 rfl rfl ?_
                  refine aw_ldc2 lk_X12_352 dX12_isKeyword_81 ?_
                  refine aw_invVi (M := MX12_isKeyword) (ci := 12) [vJ 25209] rfl mo_X12_isWord rfl lm_X12_334 li_X12_isWord ls_X12_isWord (by decide +kernel) dX12_isKeyword_84 rfl (Nat.le_of_ble_eq_true rfl) (ACi.mono (fun v18 σ17 h => ?_) h)
                  refine aw_if_ne (tgt := 277) dX12_isKeyword_87 (by decide) (fun hc => ?_) (fun hc => ?_)
                  · replace h := h.1 hc
                    refine aw_iconst (x := 1) dX12_isKeyword_277 rfl ?_
                    refine aw_goto (tgt := 282) dX12_isKeyword_278 (by decide) ?_
                    exact aw_zreturn dX12_isKeyword_282 rfl (Or.inr rfl) h
                  · replace h := h.2 hc
                    refine aw_aload_n dX12_isKeyword_90 rfl rfl ?_
                    refine aw_ldc2 lk_X12_354 dX12_isKeyword_91 ?_
                    refine aw_invVi (M := MX12_isKeyword) (ci := 12) [vJ 1701606245] rfl mo_X12_isWord rfl lm_X12_334 li_X12_isWord ls_X12_isWord (by decide +kernel) dX12_isKeyword_94 rfl (Nat.le_of_ble_eq_true rfl) (ACi.mono (fun v20 σ19 h => ?_) h)
                    refine aw_if_ne (tgt := 277) dX12_isKeyword_97 (by decide) (fun hc => ?_) (fun hc => ?_)
                    · replace h := h.1 hc
                      refine aw_iconst (x := 1) dX12_isKeyword_277 rfl ?_
                      refine aw_goto (tgt := 282) dX12_isKeyword_278 (by decide) ?_
                      exact aw_zreturn dX12_isKeyword_282 rfl (Or.inr rfl) h
                    · replace h := h.2 hc
                      refine aw_aload_n dX12_isKeyword_100 rfl rfl ?_
                      refine aw_ldc2 lk_X12_356 dX12_isKeyword_101 ?_
                      refine aw_invVi (M := MX12_isKeyword) (ci := 12) [vJ 29807] rfl mo_X12_isWord rfl lm_X12_334 li_X12_isWord ls_X12_isWord (by decide +kernel) dX12_isKeyword_104 rfl (Nat.le_of_ble_eq_true rfl) (ACi.mono (fun v22 σ21 h => ?_) h)
                      refine aw_if_ne (tgt := 277) dX12_isKeyword_107 (by decide) (fun hc => ?_) (fun hc => ?_)
                      · replace h := h.1 hc
                        refine aw_iconst (x := 1) dX12_isKeyword_277 rfl ?_
                        refine aw_goto (tgt := 282) dX12_isKeyword_278 (by decide) ?_
                        exact aw_zreturn dX12_isKeyword_282 rfl (Or.inr rfl) h
                      · replace h := h.2 hc
                        refine aw_aload_n dX12_isKeyword_110 rfl rfl ?_
                        refine aw_ldc2 lk_X12_358 dX12_isKeyword_111 ?_
                        refine aw_invVi (M := MX12_isKeyword) (ci := 12) [vJ 1718775661] rfl mo_X12_isWord rfl lm_X12_334 li_X12_isWord ls_X12_isWord (by decide +kernel) dX12_isKeyword_114 rfl (Nat.le_of_ble_eq_true rfl) (ACi.mono (fun v24 σ23 h => ?_) h)
                        refine aw_if_ne (tgt := 277) dX12_isKeyword_117 (by decide) (fun hc => ?_) (fun hc => ?_)
                        · replace h := h.1 hc
                          refine aw_iconst (x := 1) dX12_isKeyword_277 rfl ?_
                          refine aw_goto (tgt := 282) dX12_isKeyword_278 (by decide) ?_
                          exact aw_zreturn dX12_isKeyword_282 rfl (Or.inr rfl) h
                        · replace h := h.2 hc
                          refine aw_aload_n dX12_isKeyword_120 rfl rfl ?_
                          refine aw_ldc2 lk_X12_360 dX12_isKeyword_121 ?_
                          refine aw_invVi (M := MX12_isKeyword) (ci := 12) [vJ 1751478885] rfl mo_X12_isWord rfl lm_X12_334 li_X12_isWord ls_X12_isWord (by decide +kernel) dX12_isKeyword_124 rfl (Nat.le_of_ble_eq_true rfl) (ACi.mono (fun v26 σ25 h => ?_) h)
                          refine aw_if_ne (tgt := 277) dX12_isKeyword_127 (by decide) (fun hc => ?_) (fun hc => ?_)
                          · replace h := h.1 hc
                            refine aw_iconst (x := 1) dX12_isKeyword_277 rfl ?_
                            refine aw_goto (tgt := 282) dX12_isKeyword_278 (by decide) ?_
                            exact aw_zreturn dX12_isKeyword_282 rfl (Or.inr rfl) h
                          · replace h := h.2 hc
                            refine aw_aload_n dX12_isKeyword_130 rfl rfl ?_
                            refine aw_ldc2 lk_X12_362 dX12_isKeyword_131 ?_
                            refine aw_invVi (M := MX12_isKeyword) (ci := 12) [vJ 499984983411] rfl mo_X12_isWord rfl lm_X12_334 li_X12_isWord ls_X12_isWord (by decide +kernel) dX12_isKeyword_134 rfl (Nat.le_of_ble_eq_true rfl) (ACi.mono (fun v28 σ27 h => ?_) h)
                            refine aw_if_ne (tgt := 277) dX12_isKeyword_137 (by decide) (fun hc => ?_) (fun hc => ?_)
                            · replace h := h.1 hc
                              refine aw_iconst (x := 1) dX12_isKeyword_277 rfl ?_
                              refine aw_goto (tgt := 282) dX12_isKeyword_278 (by decide) ?_
                              exact aw_zreturn dX12_isKeyword_282 rfl (Or.inr rfl) h
                            · replace h := h.2 hc
                              refine aw_aload_n dX12_isKeyword_140 rfl rfl ?_
                              refine aw_ldc2 lk_X12_364 dX12_isKeyword_141 ?_
                              refine aw_invVi (M := MX12_isKeyword) (ci := 12) [vJ 7364964] rfl mo_X12_isWord rfl lm_X12_334 li_X12_isWord ls_X12_isWord (by decide +kernel) dX12_isKeyword_144 rfl (Nat.le_of_ble_eq_true rfl) (ACi.mono (fun v30 σ29 h => ?_) h)
                              refine aw_if_ne (tgt := 277) dX12_isKeyword_147 (by decide) (fun hc => ?_) (fun hc => ?_)
                              · replace h := h.1 hc
                                refine aw_iconst (x := 1) dX12_isKeyword_277 rfl ?_
                                refine aw_goto (tgt := 282) dX12_isKeyword_278 (by decide) ?_
                                exact aw_zreturn dX12_isKeyword_282 rfl (Or.inr rfl) h
                              · replace h := h.2 hc
                                refine aw_aload_n dX12_isKeyword_150 rfl rfl ?_
                                refine aw_ldc2 lk_X12_366 dX12_isKeyword_151 ?_
                                refine aw_invVi (M := MX12_isKeyword) (ci := 12) [vJ 469785602403] rfl mo_X12_isWord rfl lm_X12_334 li_X12_isWord ls_X12_isWord (by decide +kernel) dX12_isKeyword_154 rfl (Nat.le_of_ble_eq_true rfl) (ACi.mono (fun v32 σ31 h => ?_) h)
                                refine aw_if_ne (tgt := 277) dX12_isKeyword_157 (by decide) (fun hc => ?_) (fun hc => ?_)
                                · replace h := h.1 hc
                                  refine aw_iconst (x := 1) dX12_isKeyword_277 rfl ?_
                                  refine aw_goto (tgt := 282) dX12_isKeyword_278 (by decide) ?_
                                  exact aw_zreturn dX12_isKeyword_282 rfl (Or.inr rfl) h
                                · replace h := h.2 hc
                                  refine aw_aload_n dX12_isKeyword_160 rfl rfl ?_
                                  refine aw_ldc2 lk_X12_368 dX12_isKeyword_161 ?_
                                  refine aw_invVi (M := MX12_isKeyword) (ci := 12) [vJ 7566701] rfl mo_X12_isWord rfl lm_X12_334 li_X12_isWord ls_X12_isWord (by decide +kernel) dX12_isKeyword_164 rfl (Nat.le_of_ble_eq_true rfl) (ACi.mono (fun v34 σ33 h => ?_) h)
                                  refine aw_if_ne (tgt := 277) dX12_isKeyword_167 (by decide) (fun hc => ?_) (fun hc => ?_)
                                  · replace h := h.1 hc
                                    refine aw_iconst (x := 1) dX12_isKeyword_277 rfl ?_
                                    refine aw_goto (tgt := 282) dX12_isKeyword_278 (by decide) ?_
                                    exact aw_zreturn dX12_isKeyword_282 rfl (Or.inr rfl) h
                                  · replace h := h.2 hc
                                    refine aw_aload_n dX12_isKeyword_170 rfl rfl ?_
                                    refine aw_ldc2 lk_X12_370 dX12_isKeyword_171 ?_
                                    refine aw_invVi (M := MX12_isKeyword) (ci := 12) [vJ 6382692] rfl mo_X12_isWord rfl lm_X12_334 li_X12_isWord ls_X12_isWord (by decide +kernel) dX12_isKeyword_174 rfl (Nat.le_of_ble_eq_true rfl) (ACi.mono (fun v36 σ35 h => ?_) h)
                                    refine aw_if_ne (tgt := 277) dX12_isKeyword_177 (by decide) (fun hc => ?_) (fun hc => ?_)
                                    · replace h := h.1 hc
                                      refine aw_iconst (x := 1) dX12_isKeyword_277 rfl ?_
                                      refine aw_goto (tgt := 282) dX12_isKeyword_278 (by decide) ?_
                                      exact aw_zreturn dX12_isKeyword_282 rfl (Or.inr rfl) h
                                    · replace h := h.2 hc
                                      refine aw_aload_n dX12_isKeyword_180 rfl rfl ?_
                                      refine aw_ldc2 lk_X12_372 dX12_isKeyword_181 ?_
                                      refine aw_invVi (M := MX12_isKeyword) (ci := 12) [vJ 7892850] rfl mo_X12_isWord rfl lm_X12_334 li_X12_isWord ls_X12_isWord (by decide +kernel) dX12_isKeyword_184 rfl (Nat.le_of_ble_eq_true rfl) (ACi.mono (fun v38 σ37 h => ?_) h)
                                      refine aw_if_ne (tgt := 277) dX12_isKeyword_187 (by decide) (fun hc => ?_) (fun hc => ?_)
                                      · replace h := h.1 hc
                                        refine aw_iconst (x := 1) dX12_isKeyword_277 rfl ?_
                                        refine aw_goto (tgt := 282) dX12_isKeyword_278 (by decide) ?_
                                        exact aw_zreturn dX12_isKeyword_282 rfl (Or.inr rfl) h
                                      · replace h := h.2 hc
                                        refine aw_aload_n dX12_isKeyword_190 rfl rfl ?_
                                        refine aw_ldc2 lk_X12_374 dX12_isKeyword_191 ?_
                                        refine aw_invVi (M := MX12_isKeyword) (ci := 12) [vJ 1869505907] rfl mo_X12_isWord rfl lm_X12_334 li_X12_isWord ls_X12_isWord (by decide +kernel) dX12_isKeyword_194 rfl (Nat.le_of_ble_eq_true rfl) (ACi.mono (fun v40 σ39 h => ?_) h)
                                        refine aw_if_ne (tgt := 277) dX12_isKeyword_197 (by decide) (fun hc => ?_) (fun hc => ?_)
                                        · replace h := h.1 hc
                                          refine aw_iconst (x := 1) dX12_isKeyword_277 rfl ?_
                                          refine aw_goto (tgt := 282) dX12_isKeyword_278 (by decide) ?_
                                          exact aw_zreturn dX12_isKeyword_282 rfl (Or.inr rfl) h
                                        · replace h := h.2 hc
                                          refine aw_aload_n dX12_isKeyword_200 rfl rfl ?_
                                          refine aw_ldc2 lk_X12_376 dX12_isKeyword_201 ?_
                                          refine aw_invVi (M := MX12_isKeyword) (ci := 12) [vJ 1919904876] rfl mo_X12_isWord rfl lm_X12_334 li_X12_isWord ls_X12_isWord (by decide +kernel) dX12_isKeyword_204 rfl (Nat.le_of_ble_eq_true rfl) (ACi.mono (fun v42 σ41 h => ?_) h)
                                          refine aw_if_ne (tgt := 277) dX12_isKeyword_207 (by decide) (fun hc => ?_) (fun hc => ?_)
                                          · replace h := h.1 hc
                                            refine aw_iconst (x := 1) dX12_isKeyword_277 rfl ?_
                                            refine aw_goto (tgt := 282) dX12_isKeyword_278 (by decide) ?_
                                            exact aw_zreturn dX12_isKeyword_282 rfl (Or.inr rfl) h
                                          · replace h := h.2 hc
                                            refine aw_aload_n dX12_isKeyword_210 rfl rfl ?_
                                            refine aw_ldc2 lk_X12_378 dX12_isKeyword_211 ?_
                                            refine aw_invVi (M := MX12_isKeyword) (ci := 12) [vJ 28518] rfl mo_X12_isWord rfl lm_X12_334 li_X12_isWord ls_X12_isWord (by decide +kernel) dX12_isKeyword_214 rfl (Nat.le_of_ble_eq_true rfl) (ACi.mono (fun v44 σ43 h => ?_) h)
                                            refine aw_if_ne (tgt := 277) dX12_isKeyword_217 (by decide) (fun hc => ?_) (fun hc => ?_)
                                            · replace h := h.1 hc
                                              refine aw_iconst (x := 1) dX12_isKeyword_277 rfl ?_
                                              refine aw_goto (tgt := 282) dX12_isKeyword_278 (by decide) ?_
                                              exact aw_zreturn dX12_isKeyword_282 rfl (Or.inr rfl) h
                                            · replace h := h.2 hc
                                              refine aw_aload_n dX12_isKeyword_220 rfl rfl ?_
                                              refine aw_ldc2 lk_X12_380 dX12_isKeyword_221 ?_
                                              refine aw_invVi (M := MX12_isKeyword) (ci := 12) [vJ 1818584692] rfl mo_X12_isWord rfl lm_X12_334 li_X12_isWord ls_X12_isWord (by decide +kernel) dX12_isKeyword_224 rfl (Nat.le_of_ble_eq_true rfl) (ACi.mono (fun v46 σ45 h => ?_) h)
                                              refine aw_if_ne (tgt := 277) dX12_isKeyword_227 (by decide) (fun hc => ?_) (fun hc => ?_)
                                              · replace h := h.1 hc
                                                refine aw_iconst (x := 1) dX12_isKeyword_277 rfl ?_
                                                refine aw_goto (tgt := 282) dX12_isKeyword_278 (by decide) ?_
                                                exact aw_zreturn dX12_isKeyword_282 rfl (Or.inr rfl) h
                                              · replace h := h.2 hc
                                                refine aw_aload_n dX12_isKeyword_230 rfl rfl ?_
                                                refine aw_ldc2 lk_X12_382 dX12_isKeyword_231 ?_
                                                refine aw_invVi (M := MX12_isKeyword) (ci := 12) [vJ 422608071022] rfl mo_X12_isWord rfl lm_X12_334 li_X12_isWord ls_X12_isWord (by decide +kernel) dX12_isKeyword_234 rfl (Nat.le_of_ble_eq_true rfl) (ACi.mono (fun v48 σ47 h => ?_) h)
                                                refine aw_if_ne (tgt := 277) dX12_isKeyword_237 (by decide) (fun hc => ?_) (fun hc => ?_)
                                                · replace h := h.1 hc
                                                  refine aw_iconst (x := 1) dX12_isKeyword_277 rfl ?_
                                                  refine aw_goto (tgt := 282) dX12_isKeyword_278 (by decide) ?_
                                                  exact aw_zreturn dX12_isKeyword_282 rfl (Or.inr rfl) h
                                                · replace h := h.2 hc
                                                  refine aw_aload_n dX12_isKeyword_240 rfl rfl ?_
                                                  refine aw_ldc2 lk_X12_384 dX12_isKeyword_241 ?_
                                                  refine aw_invVi (M := MX12_isKeyword) (ci := 12) [vJ 6385252] rfl mo_X12_isWord rfl lm_X12_334 li_X12_isWord ls_X12_isWord (by decide +kernel) dX12_isKeyword_244 rfl (Nat.le_of_ble_eq_true rfl) (ACi.mono (fun v50 σ49 h => ?_) h)
                                                  refine aw_if_ne (tgt := 277) dX12_isKeyword_247 (by decide) (fun hc => ?_) (fun hc => ?_)
                                                  · replace h := h.1 hc
                                                    refine aw_iconst (x := 1) dX12_isKeyword_277 rfl ?_
                                                    refine aw_goto (tgt := 282) dX12_isKeyword_278 (by decide) ?_
                                                    exact aw_zreturn dX12_isKeyword_282 rfl (Or.inr rfl) h
                                                  · replace h := h.2 hc
                                                    refine aw_aload_n dX12_isKeyword_250 rfl rfl ?_
                                                    refine aw_ldc2 lk_X12_386 dX12_isKeyword_251 ?_
                                                    refine aw_invVi (M := MX12_isKeyword) (ci := 12) [vJ 28530] rfl mo_X12_isWord rfl lm_X12_334 li_X12_isWord ls_X12_isWord (by decide +kernel) dX12_isKeyword_254 rfl (Nat.le_of_ble_eq_true rfl) (ACi.mono (fun v52 σ51 h => ?_) h)
                                                    refine aw_if_ne (tgt := 277) dX12_isKeyword_257 (by decide) (fun hc => ?_) (fun hc => ?_)
                                                    · replace h := h.1 hc
                                                      refine aw_iconst (x := 1) dX12_isKeyword_277 rfl ?_
                                                      refine aw_goto (tgt := 282) dX12_isKeyword_278 (by decide) ?_
                                                      exact aw_zreturn dX12_isKeyword_282 rfl (Or.inr rfl) h
                                                    · replace h := h.2 hc
                                                      refine aw_aload_n dX12_isKeyword_260 rfl rfl ?_
                                                      refine aw_ldc2 lk_X12_388 dX12_isKeyword_261 ?_
                                                      refine aw_invVi (M := MX12_isKeyword) (ci := 12) [vJ 7237492] rfl mo_X12_isWord rfl lm_X12_334 li_X12_isWord ls_X12_isWord (by decide +kernel) dX12_isKeyword_264 rfl (Nat.le_of_ble_eq_true rfl) (ACi.mono (fun v54 σ53 h => ?_) h)
                                                      refine aw_if_ne (tgt := 277) dX12_isKeyword_267 (by decide) (fun hc => ?_) (fun hc => ?_)
                                                      · replace h := h.1 hc
                                                        refine aw_iconst (x := 1) dX12_isKeyword_277 rfl ?_
                                                        refine aw_goto (tgt := 282) dX12_isKeyword_278 (by decide) ?_
                                                        exact aw_zreturn dX12_isKeyword_282 rfl (Or.inr rfl) h
                                                      · replace h := h.2 hc
                                                        refine aw_aload_n dX12_isKeyword_270 rfl rfl ?_
                                                        refine aw_invVi (M := MX12_isKeyword) (ci := 12) [] rfl mo_X12_whole rfl lm_X12_390 li_X12_whole ls_X12_whole (by decide +kernel) dX12_isKeyword_271 rfl (Nat.le_of_ble_eq_true rfl) (ACi.mono (fun v56 σ55 h => ?_) h)
                                                        refine aw_if_le (tgt := 281) dX12_isKeyword_274 (by decide) (fun hc => ?_) (fun hc => ?_)
                                                        · replace h := h.1 hc
                                                          refine aw_iconst (x := 0) dX12_isKeyword_281 rfl ?_
                                                          exact aw_zreturn dX12_isKeyword_282 rfl (Or.inl rfl) h
                                                        · replace h := h.2 hc
                                                          refine aw_iconst (x := 1) dX12_isKeyword_277 rfl ?_
                                                          refine aw_goto (tgt := 282) dX12_isKeyword_278 (by decide) ?_
                                                          exact aw_zreturn dX12_isKeyword_282 rfl (Or.inr rfl) h
set_option maxRecDepth 4000 in
theorem bk_X12_isName_0 {g : GP} {l : Launch} {d : Nat} {σ : St} {Q : Option AV → St → Prop} {x0 : Nat}
    (h : ((¬ (gI σ 1213 x0 0) = 1 → Q (some (vI 0)) σ) ∧ ((gI σ 1213 x0 0) = 1 → ACi g l d MX12_isKeyword [vR 12 (some x0)] σ (fun v2 σ1 => ((¬ v2 = 0 → Q (some (vI 0)) σ1) ∧ (v2 = 0 → Q (some (vI 1)) σ1)))))) :
    AW g l (d + 1) MX12_isName 0 [some (vR 12 (some x0))] [] σ Q := by
  refine aw_aload_n dX12_isName_0 rfl rfl ?_
  refine aw_getI' rfl fk_1213 lf_X12_51 dX12_isName_1 ?_
  refine aw_iconst (x := 1) dX12_isName_4 rfl ?_
  refine aw_icmp_ne (tgt := 19) dX12_isName_5 (by decide) (fun hc => ?_) (fun hc => ?_)
  · replace h := h.1 hc
    refine aw_iconst (x := 0) dX12_isName_19 rfl ?_
    exact aw_zreturn dX12_isName_20 rfl (Or.inl rfl) h
  · replace h := h.2 hc
    refine aw_aload_n dX12_isName_8 rfl rfl ?_
    refine aw_invVi (M := MX12_isName) (ci := 12) [] rfl mo_X12_isKeyword rfl lm_X12_394 li_X12_isKeyword ls_X12_isKeyword (by decide +kernel) dX12_isName_9 rfl (Nat.le_of_ble_eq_true rfl) (ACi.mono (fun v2 σ1 h => ?_) h)
    refine aw_if_ne (tgt := 19) dX12_isName_12 (by decide) (fun hc => ?_) (fun hc => ?_)
    · replace h := h.1 hc
      refine aw_iconst (x := 0) dX12_isName_19 rfl ?_
      exact aw_zreturn dX12_isName_20 rfl (Or.inl rfl) h
    · replace h := h.2 hc
      refine aw_iconst (x := 1) dX12_isName_15 rfl ?_
      refine aw_goto (tgt := 20) dX12_isName_16 (by decide) ?_
      exact aw_zreturn dX12_isName_20 rfl (Or.inr rfl) h
set_option maxRecDepth 4000 in
theorem bk_X12_isNode_0 {g : GP} {l : Launch} {d : Nat} {σ : St} {Q : Option AV → St → Prop} {x0 : Nat} {x1 : Int} {x2 : Int}
    (h : ((x1 < 0 → Q (some (vI 0)) σ) ∧ (¬ x1 < 0 → (((gI σ 1264 x0 0) ≤ x1 → Q (some (vI 0)) σ) ∧ (¬ (gI σ 1264 x0 0) ≤ x1 → ((x2 < 0 → Q (some (vI 0)) σ) ∧ (¬ x2 < 0 → gL σ 1266 x0 ≠ 0 ∧ ((0 : Int) ≤ x1 ∧ x1 < (gL σ 1266 x0 : Int)) ∧ ((x2 < (gI σ 1266 x0 x1.toNat) → gL (sI σ 1280 x0 0 x1) 1265 x0 ≠ 0 ∧ ((0 : Int) ≤ x1 ∧ x1 < (gL (sI σ 1280 x0 0 x1) 1265 x0 : Int)) ∧ Q (some (vI 1)) (sI (sI (sI σ 1280 x0 0 x1) 1281 x0 0 (gI (sI σ 1280 x0 0 x1) 1265 x0 x1.toNat)) 1253 x0 0 (gI (sI (sI σ 1280 x0 0 x1) 1281 x0 0 (gI (sI σ 1280 x0 0 x1) 1265 x0 x1.toNat)) 1218 x0 0))) ∧ (¬ x2 < (gI σ 1266 x0 x1.toNat) → Q (some (vI 0)) σ))))))))) :
    AW g l d MX12_isNode 0 [some (vR 12 (some x0)), some (vI x1), some (vI x2)] [] σ Q := by
  refine aw_iload_n dX12_isNode_0 rfl rfl ?_
  refine aw_if_lt (tgt := 26) dX12_isNode_1 (by decide) (fun hc => ?_) (fun hc => ?_)
  · replace h := h.1 hc
    refine aw_iconst (x := 0) dX12_isNode_26 rfl ?_
    exact aw_zreturn dX12_isNode_27 rfl (Or.inl rfl) h
  · replace h := h.2 hc
    refine aw_iload_n dX12_isNode_4 rfl rfl ?_
    refine aw_aload_n dX12_isNode_5 rfl rfl ?_
    refine aw_getI' rfl fk_1264 lf_X12_208 dX12_isNode_6 ?_
    refine aw_icmp_ge (tgt := 26) dX12_isNode_9 (by decide) (fun hc => ?_) (fun hc => ?_)
    · replace h := h.1 hc
      refine aw_iconst (x := 0) dX12_isNode_26 rfl ?_
      exact aw_zreturn dX12_isNode_27 rfl (Or.inl rfl) h
    · replace h := h.2 hc
      refine aw_iload_n dX12_isNode_12 rfl rfl ?_
      refine aw_if_lt (tgt := 26) dX12_isNode_13 (by decide) (fun hc => ?_) (fun hc => ?_)
      · replace h := h.1 hc
        refine aw_iconst (x := 0) dX12_isNode_26 rfl ?_
        exact aw_zreturn dX12_isNode_27 rfl (Or.inl rfl) h
      · replace h := h.2 hc
        refine aw_iload_n dX12_isNode_16 rfl rfl ?_
        refine aw_aload_n dX12_isNode_17 rfl rfl ?_
        obtain ⟨h0, h⟩ := h
        refine aw_getA' rfl fk_1266 (by decide) lf_X12_214 dX12_isNode_18 h0 ?_
        refine aw_iload_n dX12_isNode_21 rfl rfl ?_
        obtain ⟨⟨h0, h1⟩, h⟩ := h
        refine aw_iaload (by decide) rfl dX12_isNode_22 h0 h1 ?_
        refine aw_icmp_lt (tgt := 28) dX12_isNode_23 (by decide) (fun hc => ?_) (fun hc => ?_)
        · replace h := h.1 hc
          refine aw_aload_n dX12_isNode_28 rfl rfl ?_
          refine aw_iload_n dX12_isNode_29 rfl rfl ?_
          refine aw_putI' rfl fk_1280 (Or.inl rfl) lf_X12_256 dX12_isNode_30 ?_
          refine aw_aload_n dX12_isNode_33 rfl rfl ?_
          refine aw_aload_n dX12_isNode_34 rfl rfl ?_
          obtain ⟨h0, h⟩ := h
          refine aw_getA' rfl fk_1265 (by decide) lf_X12_211 dX12_isNode_35 h0 ?_
          refine aw_iload_n dX12_isNode_38 rfl rfl ?_
          obtain ⟨⟨h0, h1⟩, h⟩ := h
          refine aw_iaload (by decide) rfl dX12_isNode_39 h0 h1 ?_
          refine aw_putI' rfl fk_1281 (Or.inl rfl) lf_X12_259 dX12_isNode_40 ?_
          refine aw_aload_n dX12_isNode_43 rfl rfl ?_
          refine aw_aload_n dX12_isNode_44 rfl rfl ?_
          refine aw_getI' rfl fk_1218 lf_X12_67 dX12_isNode_45 ?_
          refine aw_putI' rfl fk_1253 (Or.inl rfl) lf_X12_173 dX12_isNode_48 ?_
          refine aw_iconst (x := 1) dX12_isNode_51 rfl ?_
          exact aw_zreturn dX12_isNode_52 rfl (Or.inr rfl) h
        · replace h := h.2 hc
          refine aw_iconst (x := 0) dX12_isNode_26 rfl ?_
          exact aw_zreturn dX12_isNode_27 rfl (Or.inl rfl) h
set_option maxRecDepth 4000 in
theorem bk_X12_isOpen_0 {g : GP} {l : Launch} {d : Nat} {σ : St} {Q : Option AV → St → Prop} {x0 : Nat}
    (h : AW g l d MX12_isOpen 2 [some (vR 12 (some x0)), some (vI 0)] [] σ Q) :
    AW g l d MX12_isOpen 0 [some (vR 12 (some x0)), none] [] σ Q := by
  refine aw_iconst (x := 0) dX12_isOpen_0 rfl ?_
  refine aw_istore_n dX12_isOpen_1 rfl (by decide) rfl ?_
  exact aw_fgt (L' := [some (vR 12 (some x0)), some (vI 0)]) ⟨rfl, ⟨rfl, trivial⟩⟩ h
set_option maxRecDepth 4000 in
theorem bk_X12_isOpen_2 {g : GP} {l : Launch} {d : Nat} {σ : St} {Q : Option AV → St → Prop} {x0 : Nat} {x1 : Int}
    (h : (((gI σ 1260 x0 0) ≤ x1 → Q (some (vI 0)) σ) ∧ (¬ (gI σ 1260 x0 0) ≤ x1 → gL σ 1258 x0 ≠ 0 ∧ ((0 : Int) ≤ x1 ∧ x1 < (gL σ 1258 x0 : Int)) ∧ ((¬ (gI σ 1258 x0 x1.toNat) = 18 → AW g l d MX12_isOpen 2 [some (vR 12 (some x0)), some (vI (w32 (x1 + 1)))] [] σ Q) ∧ ((gI σ 1258 x0 x1.toNat) = 18 → Q (some (vI 1)) σ))))) :
    AW g l d MX12_isOpen 2 [some (vR 12 (some x0)), some (vI x1)] [] σ Q := by
  refine aw_iload_n dX12_isOpen_2 rfl rfl ?_
  refine aw_aload_n dX12_isOpen_3 rfl rfl ?_
  refine aw_getI' rfl fk_1260 lf_X12_195 dX12_isOpen_4 ?_
  refine aw_icmp_ge (tgt := 29) dX12_isOpen_7 (by decide) (fun hc => ?_) (fun hc => ?_)
  · replace h := h.1 hc
    refine aw_iconst (x := 0) dX12_isOpen_29 rfl ?_
    exact aw_zreturn dX12_isOpen_30 rfl (Or.inl rfl) h
  · replace h := h.2 hc
    refine aw_aload_n dX12_isOpen_10 rfl rfl ?_
    obtain ⟨h0, h⟩ := h
    refine aw_getA' rfl fk_1258 (by decide) lf_X12_189 dX12_isOpen_11 h0 ?_
    refine aw_iload_n dX12_isOpen_14 rfl rfl ?_
    obtain ⟨⟨h0, h1⟩, h⟩ := h
    refine aw_iaload (by decide) rfl dX12_isOpen_15 h0 h1 ?_
    refine aw_bipush (x := 18) dX12_isOpen_16 rfl ?_
    refine aw_icmp_ne (tgt := 23) dX12_isOpen_18 (by decide) (fun hc => ?_) (fun hc => ?_)
    · replace h := h.1 hc
      refine aw_iinc dX12_isOpen_23 rfl (by decide) rfl rfl ?_
      refine aw_goto (tgt := 2) dX12_isOpen_26 (by decide) ?_
      exact aw_fgt (L' := [some (vR 12 (some x0)), some (vI (w32 (x1 + 1)))]) ⟨rfl, ⟨rfl, trivial⟩⟩ h
    · replace h := h.2 hc
      refine aw_iconst (x := 1) dX12_isOpen_21 rfl ?_
      exact aw_zreturn dX12_isOpen_22 rfl (Or.inr rfl) h
set_option maxRecDepth 4000 in
theorem bk_X12_isSign_0 {g : GP} {l : Launch} {d : Nat} {σ : St} {Q : Option AV → St → Prop} {x0 : Nat} {x1 : Int}
    (h : ((¬ (gI σ 1213 x0 0) = 3 → Q (some (vI 0)) σ) ∧ ((gI σ 1213 x0 0) = 3 → ((¬ (gJ σ 1217 x0 0) = (i2j x1) → Q (some (vI 0)) σ) ∧ ((gJ σ 1217 x0 0) = (i2j x1) → Q (some (vI 1)) σ))))) :
    AW g l d MX12_isSign 0 [some (vR 12 (some x0)), some (vI x1)] [] σ Q := by
  refine aw_aload_n dX12_isSign_0 rfl rfl ?_
  refine aw_getI' rfl fk_1213 lf_X12_51 dX12_isSign_1 ?_
  refine aw_iconst (x := 3) dX12_isSign_4 rfl ?_
  refine aw_icmp_ne (tgt := 22) dX12_isSign_5 (by decide) (fun hc => ?_) (fun hc => ?_)
  · replace h := h.1 hc
    refine aw_iconst (x := 0) dX12_isSign_22 rfl ?_
    exact aw_zreturn dX12_isSign_23 rfl (Or.inl rfl) h
  · replace h := h.2 hc
    refine aw_aload_n dX12_isSign_8 rfl rfl ?_
    refine aw_getJ' rfl fk_1217 lf_X12_64 dX12_isSign_9 ?_
    refine aw_iload_n dX12_isSign_12 rfl rfl ?_
    refine aw_i2l dX12_isSign_13 ?_
    refine aw_lcmp_ne (M := MX12_isSign) (tgt := 22) dX12_isSign_14 dX12_isSign_15 (by decide) (fun hc => ?_) (fun hc => ?_)
    · replace h := h.1 hc
      refine aw_iconst (x := 0) dX12_isSign_22 rfl ?_
      exact aw_zreturn dX12_isSign_23 rfl (Or.inl rfl) h
    · replace h := h.2 hc
      refine aw_iconst (x := 1) dX12_isSign_18 rfl ?_
      refine aw_goto (tgt := 23) dX12_isSign_19 (by decide) ?_
      exact aw_zreturn dX12_isSign_23 rfl (Or.inr rfl) h
set_option maxRecDepth 4000 in
theorem bk_X12_isStruct_0 {g : GP} {l : Launch} {d : Nat} {σ : St} {Q : Option AV → St → Prop} {x0 : Nat} {x1 : Int}
    (h : ((x1 < 0 → Q (some (vI 0)) σ) ∧ (¬ x1 < 0 → gL σ 1219 x0 ≠ 0 ∧ ((0 : Int) ≤ (gI σ 1218 x0 0) ∧ (gI σ 1218 x0 0) < (gL σ 1219 x0 : Int)) ∧ (((gI σ 1219 x0 (gI σ 1218 x0 0).toNat) ≤ x1 → Q (some (vI 0)) σ) ∧ (¬ (gI σ 1219 x0 (gI σ 1218 x0 0).toNat) ≤ x1 → Q (some (vI 1)) σ))))) :
    AW g l d MX12_isStruct 0 [some (vR 12 (some x0)), some (vI x1)] [] σ Q := by
  refine aw_iload_n dX12_isStruct_0 rfl rfl ?_
  refine aw_if_lt (tgt := 21) dX12_isStruct_1 (by decide) (fun hc => ?_) (fun hc => ?_)
  · replace h := h.1 hc
    refine aw_iconst (x := 0) dX12_isStruct_21 rfl ?_
    exact aw_zreturn dX12_isStruct_22 rfl (Or.inl rfl) h
  · replace h := h.2 hc
    refine aw_iload_n dX12_isStruct_4 rfl rfl ?_
    refine aw_aload_n dX12_isStruct_5 rfl rfl ?_
    obtain ⟨h0, h⟩ := h
    refine aw_getA' rfl fk_1219 (by decide) lf_X12_70 dX12_isStruct_6 h0 ?_
    refine aw_aload_n dX12_isStruct_9 rfl rfl ?_
    refine aw_getI' rfl fk_1218 lf_X12_67 dX12_isStruct_10 ?_
    obtain ⟨⟨h0, h1⟩, h⟩ := h
    refine aw_iaload (by decide) rfl dX12_isStruct_13 h0 h1 ?_
    refine aw_icmp_ge (tgt := 21) dX12_isStruct_14 (by decide) (fun hc => ?_) (fun hc => ?_)
    · replace h := h.1 hc
      refine aw_iconst (x := 0) dX12_isStruct_21 rfl ?_
      exact aw_zreturn dX12_isStruct_22 rfl (Or.inl rfl) h
    · replace h := h.2 hc
      refine aw_iconst (x := 1) dX12_isStruct_17 rfl ?_
      refine aw_goto (tgt := 22) dX12_isStruct_18 (by decide) ?_
      exact aw_zreturn dX12_isStruct_22 rfl (Or.inr rfl) h
set_option maxRecDepth 4000 in
theorem bk_X12_isWord_0 {g : GP} {l : Launch} {d : Nat} {σ : St} {Q : Option AV → St → Prop} {x0 : Nat} {x1 : Int64}
    (h : ((¬ (gI σ 1213 x0 0) = 1 → Q (some (vI 0)) σ) ∧ ((gI σ 1213 x0 0) = 1 → ((¬ (gJ σ 1216 x0 0) = x1 → Q (some (vI 0)) σ) ∧ ((gJ σ 1216 x0 0) = x1 → Q (some (vI 1)) σ))))) :
    AW g l d MX12_isWord 0 [some (vR 12 (some x0)), some (vJ x1), none] [] σ Q := by
  refine aw_aload_n dX12_isWord_0 rfl rfl ?_
  refine aw_getI' rfl fk_1213 lf_X12_51 dX12_isWord_1 ?_
  refine aw_iconst (x := 1) dX12_isWord_4 rfl ?_
  refine aw_icmp_ne (tgt := 21) dX12_isWord_5 (by decide) (fun hc => ?_) (fun hc => ?_)
  · replace h := h.1 hc
    refine aw_iconst (x := 0) dX12_isWord_21 rfl ?_
    exact aw_zreturn dX12_isWord_22 rfl (Or.inl rfl) h
  · replace h := h.2 hc
    refine aw_aload_n dX12_isWord_8 rfl rfl ?_
    refine aw_getJ' rfl fk_1216 lf_X12_60 dX12_isWord_9 ?_
    refine aw_lload_n dX12_isWord_12 rfl rfl ?_
    refine aw_lcmp_ne (M := MX12_isWord) (tgt := 21) dX12_isWord_13 dX12_isWord_14 (by decide) (fun hc => ?_) (fun hc => ?_)
    · replace h := h.1 hc
      refine aw_iconst (x := 0) dX12_isWord_21 rfl ?_
      exact aw_zreturn dX12_isWord_22 rfl (Or.inl rfl) h
    · replace h := h.2 hc
      refine aw_iconst (x := 1) dX12_isWord_17 rfl ?_
      refine aw_goto (tgt := 22) dX12_isWord_18 (by decide) ?_
      exact aw_zreturn dX12_isWord_22 rfl (Or.inr rfl) h
set_option maxRecDepth 4000 in
theorem bk_X12_item_0 {g : GP} {l : Launch} {d : Nat} {σ : St} {Q : Option AV → St → Prop} {x0 : Nat}
    (h : ACi g l d MX12_isWord [vR 12 (some x0), vJ 1701737837] σ (fun v2 σ1 => ((¬ v2 = 0 → AW g l (d + 1) MX12_item 28 [some (vR 12 (some x0)), some (vI v2)] [vI 1, vR 12 (some x0)] σ1 Q) ∧ (v2 = 0 → ACi g l d MX12_isWord [vR 12 (some x0), vJ 126943973696372] σ1 (fun v4 σ3 => ((v4 = 0 → AW g l (d + 1) MX12_item 28 [some (vR 12 (some x0)), some (vI v2)] [vI 0, vR 12 (some x0)] σ3 Q) ∧ (¬ v4 = 0 → AW g l (d + 1) MX12_item 28 [some (vR 12 (some x0)), some (vI v2)] [vI 1, vR 12 (some x0)] σ3 Q))))))) :
    AW g l (d + 1) MX12_item 0 [some (vR 12 (some x0)), none] [] σ Q := by
  refine aw_aload_n dX12_item_0 rfl rfl ?_
  refine aw_ldc2 lk_X12_332 dX12_item_1 ?_
  refine aw_invVi (M := MX12_item) (ci := 12) [vJ 1701737837] rfl mo_X12_isWord rfl lm_X12_334 li_X12_isWord ls_X12_isWord (by decide +kernel) dX12_item_4 rfl (Nat.le_of_ble_eq_true rfl) (ACi.mono (fun v2 σ1 h => ?_) h)
  refine aw_istore_n dX12_item_7 rfl (by decide) rfl ?_
  refine aw_aload_n dX12_item_8 rfl rfl ?_
  refine aw_iload_n dX12_item_9 rfl rfl ?_
  refine aw_if_ne (tgt := 23) dX12_item_10 (by decide) (fun hc => ?_) (fun hc => ?_)
  · replace h := h.1 hc
    refine aw_iconst (x := 1) dX12_item_23 rfl ?_
    refine aw_goto (tgt := 28) dX12_item_24 (by decide) ?_
    exact aw_fgt (L' := [some (vR 12 (some x0)), some (vI v2)]) ⟨rfl, ⟨rfl, trivial⟩⟩ h
  · replace h := h.2 hc
    refine aw_aload_n dX12_item_13 rfl rfl ?_
    refine aw_ldc2 lk_X12_338 dX12_item_14 ?_
    refine aw_invVi (M := MX12_item) (ci := 12) [vJ 126943973696372] rfl mo_X12_isWord rfl lm_X12_334 li_X12_isWord ls_X12_isWord (by decide +kernel) dX12_item_17 rfl (Nat.le_of_ble_eq_true rfl) (ACi.mono (fun v4 σ3 h => ?_) h)
    refine aw_if_eq (tgt := 27) dX12_item_20 (by decide) (fun hc => ?_) (fun hc => ?_)
    · replace h := h.1 hc
      refine aw_iconst (x := 0) dX12_item_27 rfl ?_
      exact aw_fgt (L' := [some (vR 12 (some x0)), some (vI v2)]) ⟨rfl, ⟨rfl, trivial⟩⟩ h
    · replace h := h.2 hc
      refine aw_iconst (x := 1) dX12_item_23 rfl ?_
      refine aw_goto (tgt := 28) dX12_item_24 (by decide) ?_
      exact aw_fgt (L' := [some (vR 12 (some x0)), some (vI v2)]) ⟨rfl, ⟨rfl, trivial⟩⟩ h
set_option maxRecDepth 4000 in
theorem bk_X12_item_28 {g : GP} {l : Launch} {d : Nat} {σ : St} {Q : Option AV → St → Prop} {x0 : Nat} {x1 : Int} {y0 : Int} {y1 : Option Nat}
    (h : ∃ r1, y1 = some r1 ∧ ACi g l d MX12_must [vR 12 (some r1), vI y0, vI 2] σ (fun v4 σ3 => ((v4 = 0 → Q none σ3) ∧ (¬ v4 = 0 → ((x1 = 0 → gL σ3 1219 x0 ≠ 0 ∧ ((0 : Int) ≤ (gI σ3 1253 x0 0) ∧ (gI σ3 1253 x0 0) < (gL σ3 1219 x0 : Int)) ∧ ((20 ≤ (gI σ3 1219 x0 (gI σ3 1253 x0 0).toNat) → AW g l (d + 1) MX12_item 81 [some (vR 12 (some x0)), some (vI x1)] [vI 0, vR 12 (some x0)] σ3 Q) ∧ (¬ 20 ≤ (gI σ3 1219 x0 (gI σ3 1253 x0 0).toNat) → AW g l (d + 1) MX12_item 81 [some (vR 12 (some x0)), some (vI x1)] [vI 1, vR 12 (some x0)] σ3 Q))) ∧ (¬ x1 = 0 → gL σ3 1220 x0 ≠ 0 ∧ ((0 : Int) ≤ (gI σ3 1253 x0 0) ∧ (gI σ3 1253 x0 0) < (gL σ3 1220 x0 : Int)) ∧ ((8 ≤ (gI σ3 1220 x0 (gI σ3 1253 x0 0).toNat) → AW g l (d + 1) MX12_item 81 [some (vR 12 (some x0)), some (vI x1)] [vI 0, vR 12 (some x0)] σ3 Q) ∧ (¬ 8 ≤ (gI σ3 1220 x0 (gI σ3 1253 x0 0).toNat) → AW g l (d + 1) MX12_item 81 [some (vR 12 (some x0)), some (vI x1)] [vI 1, vR 12 (some x0)] σ3 Q)))))))) :
    AW g l (d + 1) MX12_item 28 [some (vR 12 (some x0)), some (vI x1)] [vI y0, vR 12 y1] σ Q := by
  refine aw_iconst (x := 2) dX12_item_28 rfl ?_
  obtain ⟨r1, e2, h⟩ := h
  refine aw_invVi (M := MX12_item) (ci := 12) [vI y0, vI 2] e2 mo_X12_must rfl lm_X12_404 li_X12_must ls_X12_must (by decide +kernel) dX12_item_29 rfl (Nat.le_of_ble_eq_true rfl) (ACi.mono (fun v4 σ3 h => ?_) h)
  refine aw_if_eq (tgt := 88) dX12_item_32 (by decide) (fun hc => ?_) (fun hc => ?_)
  · replace h := h.1 hc
    exact aw_ret h rfl dX12_item_88
  · replace h := h.2 hc
    refine aw_aload_n dX12_item_35 rfl rfl ?_
    refine aw_iload_n dX12_item_36 rfl rfl ?_
    refine aw_if_eq (tgt := 62) dX12_item_37 (by decide) (fun hc => ?_) (fun hc => ?_)
    · replace h := h.1 hc
      refine aw_aload_n dX12_item_62 rfl rfl ?_
      obtain ⟨h0, h⟩ := h
      refine aw_getA' rfl fk_1219 (by decide) lf_X12_70 dX12_item_63 h0 ?_
      refine aw_aload_n dX12_item_66 rfl rfl ?_
      refine aw_getI' rfl fk_1253 lf_X12_173 dX12_item_67 ?_
      obtain ⟨⟨h0, h1⟩, h⟩ := h
      refine aw_iaload (by decide) rfl dX12_item_70 h0 h1 ?_
      refine aw_bipush (x := 20) dX12_item_71 rfl ?_
      refine aw_icmp_ge (tgt := 80) dX12_item_73 (by decide) (fun hc => ?_) (fun hc => ?_)
      · replace h := h.1 hc
        refine aw_iconst (x := 0) dX12_item_80 rfl ?_
        exact aw_fgt (L' := [some (vR 12 (some x0)), some (vI x1)]) ⟨rfl, ⟨rfl, trivial⟩⟩ h
      · replace h := h.2 hc
        refine aw_iconst (x := 1) dX12_item_76 rfl ?_
        refine aw_goto (tgt := 81) dX12_item_77 (by decide) ?_
        exact aw_fgt (L' := [some (vR 12 (some x0)), some (vI x1)]) ⟨rfl, ⟨rfl, trivial⟩⟩ h
    · replace h := h.2 hc
      refine aw_aload_n dX12_item_40 rfl rfl ?_
      obtain ⟨h0, h⟩ := h
      refine aw_getA' rfl fk_1220 (by decide) lf_X12_73 dX12_item_41 h0 ?_
      refine aw_aload_n dX12_item_44 rfl rfl ?_
      refine aw_getI' rfl fk_1253 lf_X12_173 dX12_item_45 ?_
      obtain ⟨⟨h0, h1⟩, h⟩ := h
      refine aw_iaload (by decide) rfl dX12_item_48 h0 h1 ?_
      refine aw_bipush (x := 8) dX12_item_49 rfl ?_
      refine aw_icmp_ge (tgt := 58) dX12_item_51 (by decide) (fun hc => ?_) (fun hc => ?_)
      · replace h := h.1 hc
        refine aw_iconst (x := 0) dX12_item_58 rfl ?_
        refine aw_goto (tgt := 81) dX12_item_59 (by decide) ?_
        exact aw_fgt (L' := [some (vR 12 (some x0)), some (vI x1)]) ⟨rfl, ⟨rfl, trivial⟩⟩ h
      · replace h := h.2 hc
        refine aw_iconst (x := 1) dX12_item_54 rfl ?_
        refine aw_goto (tgt := 81) dX12_item_55 (by decide) ?_
        exact aw_fgt (L' := [some (vR 12 (some x0)), some (vI x1)]) ⟨rfl, ⟨rfl, trivial⟩⟩ h
set_option maxRecDepth 4000 in
theorem bk_X12_item_81 {g : GP} {l : Launch} {d : Nat} {σ : St} {Q : Option AV → St → Prop} {x0 : Nat} {x1 : Int} {y0 : Int} {y1 : Option Nat}
    (h : ∃ r1, y1 = some r1 ∧ ACi g l d MX12_must [vR 12 (some r1), vI y0, vI 5] σ (fun v4 σ3 => ((¬ v4 = 0 → ACv g l d MX12_next [vR 12 (some x0)] σ3 (fun σ5 => ACi g l d MX12_isName [vR 12 (some x0)] σ5 (fun v7 σ6 => ACi g l d MX12_must [vR 12 (some x0), vI v7, vI 2] σ6 (fun v9 σ8 => ((v9 = 0 → Q none σ8) ∧ (¬ v9 = 0 → gL σ8 1219 x0 ≠ 0 ∧ ((0 : Int) ≤ (gI σ8 1253 x0 0) ∧ (gI σ8 1253 x0 0) < (gL σ8 1219 x0 : Int)) ∧ ACi g l d MX12_structNamed [vR 12 (some x0), vJ (gJ σ8 1216 x0 0), vI (gI σ8 1219 x0 (gI σ8 1253 x0 0).toNat)] σ8 (fun v11 σ10 => ((0 ≤ v11 → AW g l (d + 1) MX12_item 142 [some (vR 12 (some x0)), some (vI x1)] [vI 0, vR 12 (some x0)] σ10 Q) ∧ (¬ 0 ≤ v11 → ACi g l d MX12_enumNamed [vR 12 (some x0), vJ (gJ σ10 1216 x0 0)] σ10 (fun v13 σ12 => ((0 ≤ v13 → AW g l (d + 1) MX12_item 142 [some (vR 12 (some x0)), some (vI x1)] [vI 0, vR 12 (some x0)] σ12 Q) ∧ (¬ 0 ≤ v13 → AW g l (d + 1) MX12_item 142 [some (vR 12 (some x0)), some (vI x1)] [vI 1, vR 12 (some x0)] σ12 Q)))))))))))) ∧ (v4 = 0 → Q none σ3)))) :
    AW g l (d + 1) MX12_item 81 [some (vR 12 (some x0)), some (vI x1)] [vI y0, vR 12 y1] σ Q := by
  refine aw_iconst (x := 5) dX12_item_81 rfl ?_
  obtain ⟨r1, e2, h⟩ := h
  refine aw_invVi (M := MX12_item) (ci := 12) [vI y0, vI 5] e2 mo_X12_must rfl lm_X12_404 li_X12_must ls_X12_must (by decide +kernel) dX12_item_82 rfl (Nat.le_of_ble_eq_true rfl) (ACi.mono (fun v4 σ3 h => ?_) h)
  refine aw_if_ne (tgt := 89) dX12_item_85 (by decide) (fun hc => ?_) (fun hc => ?_)
  · replace h := h.1 hc
    refine aw_aload_n dX12_item_89 rfl rfl ?_
    refine aw_invVv (M := MX12_item) (ci := 12) [] rfl mo_X12_next rfl lm_X12_408 li_X12_next ls_X12_next (by decide +kernel) dX12_item_90 rfl (Nat.le_of_ble_eq_true rfl) (ACv.mono (fun σ5 h => ?_) h)
    refine aw_aload_n dX12_item_93 rfl rfl ?_
    refine aw_aload_n dX12_item_94 rfl rfl ?_
    refine aw_invVi (M := MX12_item) (ci := 12) [] rfl mo_X12_isName rfl lm_X12_418 li_X12_isName ls_X12_isName (by decide +kernel) dX12_item_95 rfl (Nat.le_of_ble_eq_true rfl) (ACi.mono (fun v7 σ6 h => ?_) h)
    refine aw_iconst (x := 2) dX12_item_98 rfl ?_
    refine aw_invVi (M := MX12_item) (ci := 12) [vI v7, vI 2] rfl mo_X12_must rfl lm_X12_404 li_X12_must ls_X12_must (by decide +kernel) dX12_item_99 rfl (Nat.le_of_ble_eq_true rfl) (ACi.mono (fun v9 σ8 h => ?_) h)
    refine aw_if_eq (tgt := 149) dX12_item_102 (by decide) (fun hc => ?_) (fun hc => ?_)
    · replace h := h.1 hc
      exact aw_ret h rfl dX12_item_149
    · replace h := h.2 hc
      refine aw_aload_n dX12_item_105 rfl rfl ?_
      refine aw_aload_n dX12_item_106 rfl rfl ?_
      refine aw_aload_n dX12_item_107 rfl rfl ?_
      refine aw_getJ' rfl fk_1216 lf_X12_60 dX12_item_108 ?_
      refine aw_aload_n dX12_item_111 rfl rfl ?_
      obtain ⟨h0, h⟩ := h
      refine aw_getA' rfl fk_1219 (by decide) lf_X12_70 dX12_item_112 h0 ?_
      refine aw_aload_n dX12_item_115 rfl rfl ?_
      refine aw_getI' rfl fk_1253 lf_X12_173 dX12_item_116 ?_
      obtain ⟨⟨h0, h1⟩, h⟩ := h
      refine aw_iaload (by decide) rfl dX12_item_119 h0 h1 ?_
      refine aw_invVi (M := MX12_item) (ci := 12) [vJ (gJ σ8 1216 x0 0), vI (gI σ8 1219 x0 (gI σ8 1253 x0 0).toNat)] rfl mo_X12_structNamed rfl lm_X12_414 li_X12_structNamed ls_X12_structNamed (by decide +kernel) dX12_item_120 rfl (Nat.le_of_ble_eq_true rfl) (ACi.mono (fun v11 σ10 h => ?_) h)
      refine aw_if_ge (tgt := 141) dX12_item_123 (by decide) (fun hc => ?_) (fun hc => ?_)
      · replace h := h.1 hc
        refine aw_iconst (x := 0) dX12_item_141 rfl ?_
        exact aw_fgt (L' := [some (vR 12 (some x0)), some (vI x1)]) ⟨rfl, ⟨rfl, trivial⟩⟩ h
      · replace h := h.2 hc
        refine aw_aload_n dX12_item_126 rfl rfl ?_
        refine aw_aload_n dX12_item_127 rfl rfl ?_
        refine aw_getJ' rfl fk_1216 lf_X12_60 dX12_item_128 ?_
        refine aw_invVi (M := MX12_item) (ci := 12) [vJ (gJ σ10 1216 x0 0)] rfl mo_X12_enumNamed rfl lm_X12_421 li_X12_enumNamed ls_X12_enumNamed (by decide +kernel) dX12_item_131 rfl (Nat.le_of_ble_eq_true rfl) (ACi.mono (fun v13 σ12 h => ?_) h)
        refine aw_if_ge (tgt := 141) dX12_item_134 (by decide) (fun hc => ?_) (fun hc => ?_)
        · replace h := h.1 hc
          refine aw_iconst (x := 0) dX12_item_141 rfl ?_
          exact aw_fgt (L' := [some (vR 12 (some x0)), some (vI x1)]) ⟨rfl, ⟨rfl, trivial⟩⟩ h
        · replace h := h.2 hc
          refine aw_iconst (x := 1) dX12_item_137 rfl ?_
          refine aw_goto (tgt := 142) dX12_item_138 (by decide) ?_
          exact aw_fgt (L' := [some (vR 12 (some x0)), some (vI x1)]) ⟨rfl, ⟨rfl, trivial⟩⟩ h
  · replace h := h.2 hc
    exact aw_ret h rfl dX12_item_88
set_option maxRecDepth 4000 in
theorem bk_X12_item_142 {g : GP} {l : Launch} {d : Nat} {σ : St} {Q : Option AV → St → Prop} {x0 : Nat} {x1 : Int} {y0 : Int} {y1 : Option Nat}
    (h : ∃ r1, y1 = some r1 ∧ ACi g l d MX12_must [vR 12 (some r1), vI y0, vI 3] σ (fun v4 σ3 => ((¬ v4 = 0 → ((x1 = 0 → ACv g l d MX12_readStruct [vR 12 (some x0)] σ3 (fun σ5 => Q none σ5)) ∧ (¬ x1 = 0 → ACv g l d MX12_readEnum [vR 12 (some x0)] σ3 (fun σ6 => Q none σ6)))) ∧ (v4 = 0 → Q none σ3)))) :
    AW g l (d + 1) MX12_item 142 [some (vR 12 (some x0)), some (vI x1)] [vI y0, vR 12 y1] σ Q := by
  refine aw_iconst (x := 3) dX12_item_142 rfl ?_
  obtain ⟨r1, e2, h⟩ := h
  refine aw_invVi (M := MX12_item) (ci := 12) [vI y0, vI 3] e2 mo_X12_must rfl lm_X12_404 li_X12_must ls_X12_must (by decide +kernel) dX12_item_143 rfl (Nat.le_of_ble_eq_true rfl) (ACi.mono (fun v4 σ3 h => ?_) h)
  refine aw_if_ne (tgt := 150) dX12_item_146 (by decide) (fun hc => ?_) (fun hc => ?_)
  · replace h := h.1 hc
    refine aw_iload_n dX12_item_150 rfl rfl ?_
    refine aw_if_eq (tgt := 161) dX12_item_151 (by decide) (fun hc => ?_) (fun hc => ?_)
    · replace h := h.1 hc
      refine aw_aload_n dX12_item_161 rfl rfl ?_
      refine aw_invVv (M := MX12_item) (ci := 12) [] rfl mo_X12_readStruct rfl lm_X12_428 li_X12_readStruct ls_X12_readStruct (by decide +kernel) dX12_item_162 rfl (Nat.le_of_ble_eq_true rfl) (ACv.mono (fun σ5 h => ?_) h)
      exact aw_ret h rfl dX12_item_165
    · replace h := h.2 hc
      refine aw_aload_n dX12_item_154 rfl rfl ?_
      refine aw_invVv (M := MX12_item) (ci := 12) [] rfl mo_X12_readEnum rfl lm_X12_425 li_X12_readEnum ls_X12_readEnum (by decide +kernel) dX12_item_155 rfl (Nat.le_of_ble_eq_true rfl) (ACv.mono (fun σ6 h => ?_) h)
      refine aw_goto (tgt := 165) dX12_item_158 (by decide) ?_
      exact aw_ret h rfl dX12_item_165
  · replace h := h.2 hc
    exact aw_ret h rfl dX12_item_149
set_option maxRecDepth 4000 in
theorem bk_X12_join_0 {g : GP} {l : Launch} {d : Nat} {σ : St} {Q : Option AV → St → Prop} {x0 : Nat}
    (h : gL (sI σ 1260 x0 0 (w32 ((gI σ 1260 x0 0) - 1))) 1258 x0 ≠ 0 ∧ ((0 : Int) ≤ (gI (sI σ 1260 x0 0 (w32 ((gI σ 1260 x0 0) - 1))) 1260 x0 0) ∧ (gI (sI σ 1260 x0 0 (w32 ((gI σ 1260 x0 0) - 1))) 1260 x0 0) < (gL (sI σ 1260 x0 0 (w32 ((gI σ 1260 x0 0) - 1))) 1258 x0 : Int)) ∧ ACi g l d MX12_strength [vR 12 (some x0), vI (gI (sI σ 1260 x0 0 (w32 ((gI σ 1260 x0 0) - 1))) 1258 x0 (gI (sI σ 1260 x0 0 (w32 ((gI σ 1260 x0 0) - 1))) 1260 x0 0).toNat)] (sI σ 1260 x0 0 (w32 ((gI σ 1260 x0 0) - 1))) (fun v2 σ1 => ((¬ v2 = 6 → gL σ1 1259 x0 ≠ 0 ∧ gL σ1 1259 x0 ≠ 0 ∧ ((0 : Int) ≤ (w32 ((gI σ1 1261 x0 0) - 2)) ∧ (w32 ((gI σ1 1261 x0 0) - 2)) < (gL σ1 1259 x0 : Int)) ∧ gL σ1 1259 x0 ≠ 0 ∧ ((0 : Int) ≤ (w32 ((gI σ1 1261 x0 0) - 1)) ∧ (w32 ((gI σ1 1261 x0 0) - 1)) < (gL σ1 1259 x0 : Int)) ∧ ACi g l d MX12_node [vR 12 (some x0), vI (gI (sI σ 1260 x0 0 (w32 ((gI σ 1260 x0 0) - 1))) 1258 x0 (gI (sI σ 1260 x0 0 (w32 ((gI σ 1260 x0 0) - 1))) 1260 x0 0).toNat), vI (gI σ1 1259 x0 (w32 ((gI σ1 1261 x0 0) - 2)).toNat), vI (gI σ1 1259 x0 (w32 ((gI σ1 1261 x0 0) - 1)).toNat), vJ 0] σ1 (fun v4 σ3 => ((0 : Int) ≤ (w32 ((gI σ1 1261 x0 0) - 2)) ∧ (w32 ((gI σ1 1261 x0 0) - 2)) < (gL σ3 1259 x0 : Int)) ∧ Q none (sI (sI σ3 1259 x0 (w32 ((gI σ1 1261 x0 0) - 2)).toNat v4) 1261 x0 0 (w32 ((gI (sI σ3 1259 x0 (w32 ((gI σ1 1261 x0 0) - 2)).toNat v4) 1261 x0 0) - 1))))) ∧ (v2 = 6 → gL σ1 1259 x0 ≠ 0 ∧ gL σ1 1259 x0 ≠ 0 ∧ ((0 : Int) ≤ (w32 ((gI σ1 1261 x0 0) - 1)) ∧ (w32 ((gI σ1 1261 x0 0) - 1)) < (gL σ1 1259 x0 : Int)) ∧ ACi g l d MX12_node [vR 12 (some x0), vI (gI (sI σ 1260 x0 0 (w32 ((gI σ 1260 x0 0) - 1))) 1258 x0 (gI (sI σ 1260 x0 0 (w32 ((gI σ 1260 x0 0) - 1))) 1260 x0 0).toNat), vI (gI σ1 1259 x0 (w32 ((gI σ1 1261 x0 0) - 1)).toNat), vI (-1), vJ 0] σ1 (fun v6 σ5 => ((0 : Int) ≤ (w32 ((gI σ1 1261 x0 0) - 1)) ∧ (w32 ((gI σ1 1261 x0 0) - 1)) < (gL σ5 1259 x0 : Int)) ∧ Q none (sI (sI σ5 1259 x0 (w32 ((gI σ1 1261 x0 0) - 1)).toNat v6) 1255 x0 0 (w32 ((gI (sI σ5 1259 x0 (w32 ((gI σ1 1261 x0 0) - 1)).toNat v6) 1255 x0 0) - 1)))))))) :
    AW g l (d + 1) MX12_join 0 [some (vR 12 (some x0)), none] [] σ Q := by
  refine aw_aload_n dX12_join_0 rfl rfl ?_
  refine aw_dup dX12_join_1 rfl ?_
  refine aw_getI' rfl fk_1260 lf_X12_195 dX12_join_2 ?_
  refine aw_iconst (x := 1) dX12_join_5 rfl ?_
  refine aw_isub dX12_join_6 ?_
  refine aw_putI' rfl fk_1260 (Or.inl rfl) lf_X12_195 dX12_join_7 ?_
  refine aw_aload_n dX12_join_10 rfl rfl ?_
  obtain ⟨h0, h⟩ := h
  refine aw_getA' rfl fk_1258 (by decide) lf_X12_189 dX12_join_11 h0 ?_
  refine aw_aload_n dX12_join_14 rfl rfl ?_
  refine aw_getI' rfl fk_1260 lf_X12_195 dX12_join_15 ?_
  obtain ⟨⟨h0, h1⟩, h⟩ := h
  refine aw_iaload (by decide) rfl dX12_join_18 h0 h1 ?_
  refine aw_istore_n dX12_join_19 rfl (by decide) rfl ?_
  refine aw_aload_n dX12_join_20 rfl rfl ?_
  refine aw_iload_n dX12_join_21 rfl rfl ?_
  refine aw_invVi (M := MX12_join) (ci := 12) [vI (gI (sI σ 1260 x0 0 (w32 ((gI σ 1260 x0 0) - 1))) 1258 x0 (gI (sI σ 1260 x0 0 (w32 ((gI σ 1260 x0 0) - 1))) 1260 x0 0).toNat)] rfl mo_X12_strength rfl lm_X12_526 li_X12_strength ls_X12_strength (by decide +kernel) dX12_join_22 rfl (Nat.le_of_ble_eq_true rfl) (ACi.mono (fun v2 σ1 h => ?_) h)
  refine aw_bipush (x := 6) dX12_join_25 rfl ?_
  refine aw_icmp_ne (tgt := 72) dX12_join_27 (by decide) (fun hc => ?_) (fun hc => ?_)
  · replace h := h.1 hc
    refine aw_aload_n dX12_join_72 rfl rfl ?_
    obtain ⟨h0, h⟩ := h
    refine aw_getA' rfl fk_1259 (by decide) lf_X12_192 dX12_join_73 h0 ?_
    refine aw_aload_n dX12_join_76 rfl rfl ?_
    refine aw_getI' rfl fk_1261 lf_X12_198 dX12_join_77 ?_
    refine aw_iconst (x := 2) dX12_join_80 rfl ?_
    refine aw_isub dX12_join_81 ?_
    refine aw_aload_n dX12_join_82 rfl rfl ?_
    refine aw_iload_n dX12_join_83 rfl rfl ?_
    refine aw_aload_n dX12_join_84 rfl rfl ?_
    obtain ⟨h0, h⟩ := h
    refine aw_getA' rfl fk_1259 (by decide) lf_X12_192 dX12_join_85 h0 ?_
    refine aw_aload_n dX12_join_88 rfl rfl ?_
    refine aw_getI' rfl fk_1261 lf_X12_198 dX12_join_89 ?_
    refine aw_iconst (x := 2) dX12_join_92 rfl ?_
    refine aw_isub dX12_join_93 ?_
    obtain ⟨⟨h0, h1⟩, h⟩ := h
    refine aw_iaload (by decide) rfl dX12_join_94 h0 h1 ?_
    refine aw_aload_n dX12_join_95 rfl rfl ?_
    obtain ⟨h0, h⟩ := h
    refine aw_getA' rfl fk_1259 (by decide) lf_X12_192 dX12_join_96 h0 ?_
    refine aw_aload_n dX12_join_99 rfl rfl ?_
    refine aw_getI' rfl fk_1261 lf_X12_198 dX12_join_100 ?_
    refine aw_iconst (x := 1) dX12_join_103 rfl ?_
    refine aw_isub dX12_join_104 ?_
    obtain ⟨⟨h0, h1⟩, h⟩ := h
    refine aw_iaload (by decide) rfl dX12_join_105 h0 h1 ?_
    refine aw_lconst (x := 0) dX12_join_106 rfl ?_
    refine aw_invVi (M := MX12_join) (ci := 12) [vI (gI (sI σ 1260 x0 0 (w32 ((gI σ 1260 x0 0) - 1))) 1258 x0 (gI (sI σ 1260 x0 0 (w32 ((gI σ 1260 x0 0) - 1))) 1260 x0 0).toNat), vI (gI σ1 1259 x0 (w32 ((gI σ1 1261 x0 0) - 2)).toNat), vI (gI σ1 1259 x0 (w32 ((gI σ1 1261 x0 0) - 1)).toNat), vJ 0] rfl mo_X12_node rfl lm_X12_529 li_X12_node ls_X12_node (by decide +kernel) dX12_join_107 rfl (Nat.le_of_ble_eq_true rfl) (ACi.mono (fun v4 σ3 h => ?_) h)
    obtain ⟨⟨h0, h1⟩, h⟩ := h
    refine aw_iastore (by decide) rfl dX12_join_110 h0 h1 ?_
    refine aw_aload_n dX12_join_111 rfl rfl ?_
    refine aw_dup dX12_join_112 rfl ?_
    refine aw_getI' rfl fk_1261 lf_X12_198 dX12_join_113 ?_
    refine aw_iconst (x := 1) dX12_join_116 rfl ?_
    refine aw_isub dX12_join_117 ?_
    refine aw_putI' rfl fk_1261 (Or.inl rfl) lf_X12_198 dX12_join_118 ?_
    exact aw_ret h rfl dX12_join_121
  · replace h := h.2 hc
    refine aw_aload_n dX12_join_30 rfl rfl ?_
    obtain ⟨h0, h⟩ := h
    refine aw_getA' rfl fk_1259 (by decide) lf_X12_192 dX12_join_31 h0 ?_
    refine aw_aload_n dX12_join_34 rfl rfl ?_
    refine aw_getI' rfl fk_1261 lf_X12_198 dX12_join_35 ?_
    refine aw_iconst (x := 1) dX12_join_38 rfl ?_
    refine aw_isub dX12_join_39 ?_
    refine aw_aload_n dX12_join_40 rfl rfl ?_
    refine aw_iload_n dX12_join_41 rfl rfl ?_
    refine aw_aload_n dX12_join_42 rfl rfl ?_
    obtain ⟨h0, h⟩ := h
    refine aw_getA' rfl fk_1259 (by decide) lf_X12_192 dX12_join_43 h0 ?_
    refine aw_aload_n dX12_join_46 rfl rfl ?_
    refine aw_getI' rfl fk_1261 lf_X12_198 dX12_join_47 ?_
    refine aw_iconst (x := 1) dX12_join_50 rfl ?_
    refine aw_isub dX12_join_51 ?_
    obtain ⟨⟨h0, h1⟩, h⟩ := h
    refine aw_iaload (by decide) rfl dX12_join_52 h0 h1 ?_
    refine aw_iconst (x := (-1)) dX12_join_53 rfl ?_
    refine aw_lconst (x := 0) dX12_join_54 rfl ?_
    refine aw_invVi (M := MX12_join) (ci := 12) [vI (gI (sI σ 1260 x0 0 (w32 ((gI σ 1260 x0 0) - 1))) 1258 x0 (gI (sI σ 1260 x0 0 (w32 ((gI σ 1260 x0 0) - 1))) 1260 x0 0).toNat), vI (gI σ1 1259 x0 (w32 ((gI σ1 1261 x0 0) - 1)).toNat), vI (-1), vJ 0] rfl mo_X12_node rfl lm_X12_529 li_X12_node ls_X12_node (by decide +kernel) dX12_join_55 rfl (Nat.le_of_ble_eq_true rfl) (ACi.mono (fun v6 σ5 h => ?_) h)
    obtain ⟨⟨h0, h1⟩, h⟩ := h
    refine aw_iastore (by decide) rfl dX12_join_58 h0 h1 ?_
    refine aw_aload_n dX12_join_59 rfl rfl ?_
    refine aw_dup dX12_join_60 rfl ?_
    refine aw_getI' rfl fk_1255 lf_X12_179 dX12_join_61 ?_
    refine aw_iconst (x := 1) dX12_join_64 rfl ?_
    refine aw_isub dX12_join_65 ?_
    refine aw_putI' rfl fk_1255 (Or.inl rfl) lf_X12_179 dX12_join_66 ?_
    refine aw_goto (tgt := 121) dX12_join_69 (by decide) ?_
    exact aw_ret h rfl dX12_join_121
set_option maxRecDepth 4000 in
theorem bk_X12_joinAll_0 {g : GP} {l : Launch} {d : Nat} {σ : St} {Q : Option AV → St → Prop} {x0 : Nat} {x1 : Int}
    (h : (((gI σ 1260 x0 0) ≤ 0 → Q none σ) ∧ (¬ (gI σ 1260 x0 0) ≤ 0 → gL σ 1258 x0 ≠ 0 ∧ ((0 : Int) ≤ (w32 ((gI σ 1260 x0 0) - 1)) ∧ (w32 ((gI σ 1260 x0 0) - 1)) < (gL σ 1258 x0 : Int)) ∧ ACi g l d MX12_strength [vR 12 (some x0), vI (gI σ 1258 x0 (w32 ((gI σ 1260 x0 0) - 1)).toNat)] σ (fun v2 σ1 => ((v2 < x1 → Q none σ1) ∧ (¬ v2 < x1 → gL σ1 1258 x0 ≠ 0 ∧ ((0 : Int) ≤ (w32 ((gI σ1 1260 x0 0) - 1)) ∧ (w32 ((gI σ1 1260 x0 0) - 1)) < (gL σ1 1258 x0 : Int)) ∧ (((gI σ1 1258 x0 (w32 ((gI σ1 1260 x0 0) - 1)).toNat) = 18 → Q none σ1) ∧ (¬ (gI σ1 1258 x0 (w32 ((gI σ1 1260 x0 0) - 1)).toNat) = 18 → ACv g l d MX12_join [vR 12 (some x0)] σ1 (fun σ3 => AW g l (d + 1) MX12_joinAll 0 [some (vR 12 (some x0)), some (vI x1)] [] σ3 Q))))))))) :
    AW g l (d + 1) MX12_joinAll 0 [some (vR 12 (some x0)), some (vI x1)] [] σ Q := by
  refine aw_aload_n dX12_joinAll_0 rfl rfl ?_
  refine aw_getI' rfl fk_1260 lf_X12_195 dX12_joinAll_1 ?_
  refine aw_if_le (tgt := 49) dX12_joinAll_4 (by decide) (fun hc => ?_) (fun hc => ?_)
  · replace h := h.1 hc
    exact aw_ret h rfl dX12_joinAll_49
  · replace h := h.2 hc
    refine aw_aload_n dX12_joinAll_7 rfl rfl ?_
    refine aw_aload_n dX12_joinAll_8 rfl rfl ?_
    obtain ⟨h0, h⟩ := h
    refine aw_getA' rfl fk_1258 (by decide) lf_X12_189 dX12_joinAll_9 h0 ?_
    refine aw_aload_n dX12_joinAll_12 rfl rfl ?_
    refine aw_getI' rfl fk_1260 lf_X12_195 dX12_joinAll_13 ?_
    refine aw_iconst (x := 1) dX12_joinAll_16 rfl ?_
    refine aw_isub dX12_joinAll_17 ?_
    obtain ⟨⟨h0, h1⟩, h⟩ := h
    refine aw_iaload (by decide) rfl dX12_joinAll_18 h0 h1 ?_
    refine aw_invVi (M := MX12_joinAll) (ci := 12) [vI (gI σ 1258 x0 (w32 ((gI σ 1260 x0 0) - 1)).toNat)] rfl mo_X12_strength rfl lm_X12_526 li_X12_strength ls_X12_strength (by decide +kernel) dX12_joinAll_19 rfl (Nat.le_of_ble_eq_true rfl) (ACi.mono (fun v2 σ1 h => ?_) h)
    refine aw_iload_n dX12_joinAll_22 rfl rfl ?_
    refine aw_icmp_lt (tgt := 49) dX12_joinAll_23 (by decide) (fun hc => ?_) (fun hc => ?_)
    · replace h := h.1 hc
      exact aw_ret h rfl dX12_joinAll_49
    · replace h := h.2 hc
      refine aw_aload_n dX12_joinAll_26 rfl rfl ?_
      obtain ⟨h0, h⟩ := h
      refine aw_getA' rfl fk_1258 (by decide) lf_X12_189 dX12_joinAll_27 h0 ?_
      refine aw_aload_n dX12_joinAll_30 rfl rfl ?_
      refine aw_getI' rfl fk_1260 lf_X12_195 dX12_joinAll_31 ?_
      refine aw_iconst (x := 1) dX12_joinAll_34 rfl ?_
      refine aw_isub dX12_joinAll_35 ?_
      obtain ⟨⟨h0, h1⟩, h⟩ := h
      refine aw_iaload (by decide) rfl dX12_joinAll_36 h0 h1 ?_
      refine aw_bipush (x := 18) dX12_joinAll_37 rfl ?_
      refine aw_icmp_eq (tgt := 49) dX12_joinAll_39 (by decide) (fun hc => ?_) (fun hc => ?_)
      · replace h := h.1 hc
        exact aw_ret h rfl dX12_joinAll_49
      · replace h := h.2 hc
        refine aw_aload_n dX12_joinAll_42 rfl rfl ?_
        refine aw_invVv (M := MX12_joinAll) (ci := 12) [] rfl mo_X12_join rfl lm_X12_533 li_X12_join ls_X12_join (by decide +kernel) dX12_joinAll_43 rfl (Nat.le_of_ble_eq_true rfl) (ACv.mono (fun σ3 h => ?_) h)
        refine aw_goto (tgt := 0) dX12_joinAll_46 (by decide) ?_
        exact aw_fgt (L' := [some (vR 12 (some x0)), some (vI x1)]) ⟨rfl, ⟨rfl, trivial⟩⟩ h
set_option maxRecDepth 4000 in
theorem bk_X12_joined_0 {g : GP} {l : Launch} {d : Nat} {σ : St} {Q : Option AV → St → Prop} {x0 : Nat} {x1 : Int} {x2 : Int64} {x4 : Int64}
    (h : ((x1 = 7 → Q (some (vJ (x2 + x4))) σ) ∧ (x1 = 8 → Q (some (vJ (x2 - x4))) σ) ∧ (x1 = 9 → Q (some (vJ (x2 * x4))) σ) ∧ (x1 = 10 → AW g l d MX12_joined 71 [some (vR 12 (some x0)), some (vI x1), some (vJ x2), none, some (vJ x4), none] [] σ Q) ∧ (x1 = 11 → AW g l d MX12_joined 71 [some (vR 12 (some x0)), some (vI x1), some (vJ x2), none, some (vJ x4), none] [] σ Q) ∧ (x1 = 12 → Q (some (vJ (x2 &&& x4))) σ) ∧ (x1 = 13 → ((¬ x2 = x4 → Q (some (vJ 0)) σ) ∧ (x2 = x4 → Q (some (vJ 1)) σ))) ∧ (x1 = 14 → ((x4.toInt ≤ x2.toInt → Q (some (vJ 0)) σ) ∧ (¬ x4.toInt ≤ x2.toInt → Q (some (vJ 1)) σ))) ∧ (x1 = 15 → ((x2.toInt ≤ x4.toInt → Q (some (vJ 0)) σ) ∧ (¬ x2.toInt ≤ x4.toInt → Q (some (vJ 1)) σ))) ∧ (x1 = 16 → ((x2 = (0 : Int64) → Q (some (vJ 0)) σ) ∧ (¬ x2 = (0 : Int64) → ((x4 = (0 : Int64) → Q (some (vJ 0)) σ) ∧ (¬ x4 = (0 : Int64) → Q (some (vJ 1)) σ))))) ∧ (x1 < 7 ∨ 16 < x1 → ((¬ x2 = (0 : Int64) → Q (some (vJ 1)) σ) ∧ (x2 = (0 : Int64) → ((x4 = (0 : Int64) → Q (some (vJ 0)) σ) ∧ (¬ x4 = (0 : Int64) → Q (some (vJ 1)) σ))))))) :
    AW g l d MX12_joined 0 [some (vR 12 (some x0)), some (vI x1), some (vJ x2), none, some (vJ x4), none] [] σ Q := by
  refine aw_iload_n dX12_joined_0 rfl rfl ?_
  obtain ⟨h0, h1, h2, h3, h4, h5, h6, h7, h8, h9, hd⟩ := h
  refine aw_table (M := MX12_joined) (dt := 166) [56, 61, 66, 71, 71, 103, 108, 121, 134, 147] dX12_joined_1 (by decide) (by decide) (by decide) ⟨fun hc => ?_, fun hc => ?_, fun hc => ?_, fun hc => ?_, fun hc => ?_, fun hc => ?_, fun hc => ?_, fun hc => ?_, fun hc => ?_, fun hc => ?_, trivial⟩ (fun hc => ?_)
  · have h := h0 hc; clear h0 h1 h2 h3 h4 h5 h6 h7 h8 h9 hd
    refine aw_lload_n dX12_joined_56 rfl rfl ?_
    refine aw_lload dX12_joined_57 rfl ?_
    refine aw_ladd dX12_joined_59 ?_
    exact aw_lreturn dX12_joined_60 rfl h
  · have h := h1 hc; clear h0 h1 h2 h3 h4 h5 h6 h7 h8 h9 hd
    refine aw_lload_n dX12_joined_61 rfl rfl ?_
    refine aw_lload dX12_joined_62 rfl ?_
    refine aw_lsub dX12_joined_64 ?_
    exact aw_lreturn dX12_joined_65 rfl h
  · have h := h2 hc; clear h0 h1 h2 h3 h4 h5 h6 h7 h8 h9 hd
    refine aw_lload_n dX12_joined_66 rfl rfl ?_
    refine aw_lload dX12_joined_67 rfl ?_
    refine aw_lmul dX12_joined_69 ?_
    exact aw_lreturn dX12_joined_70 rfl h
  · have h := h3 hc; clear h0 h1 h2 h3 h4 h5 h6 h7 h8 h9 hd
    exact aw_fgt (L' := [some (vR 12 (some x0)), some (vI x1), some (vJ x2), none, some (vJ x4), none]) ⟨rfl, ⟨rfl, ⟨rfl, ⟨rfl, trivial⟩⟩⟩⟩ h
  · have h := h4 hc; clear h0 h1 h2 h3 h4 h5 h6 h7 h8 h9 hd
    exact aw_fgt (L' := [some (vR 12 (some x0)), some (vI x1), some (vJ x2), none, some (vJ x4), none]) ⟨rfl, ⟨rfl, ⟨rfl, ⟨rfl, trivial⟩⟩⟩⟩ h
  · have h := h5 hc; clear h0 h1 h2 h3 h4 h5 h6 h7 h8 h9 hd
    refine aw_lload_n dX12_joined_103 rfl rfl ?_
    refine aw_lload dX12_joined_104 rfl ?_
    refine aw_land dX12_joined_106 ?_
    exact aw_lreturn dX12_joined_107 rfl h
  · have h := h6 hc; clear h0 h1 h2 h3 h4 h5 h6 h7 h8 h9 hd
    refine aw_lload_n dX12_joined_108 rfl rfl ?_
    refine aw_lload dX12_joined_109 rfl ?_
    refine aw_lcmp_ne (M := MX12_joined) (tgt := 119) dX12_joined_111 dX12_joined_112 (by decide) (fun hc => ?_) (fun hc => ?_)
    · replace h := h.1 hc
      refine aw_lconst (x := 0) dX12_joined_119 rfl ?_
      exact aw_lreturn dX12_joined_120 rfl h
    · replace h := h.2 hc
      refine aw_lconst (x := 1) dX12_joined_115 rfl ?_
      refine aw_goto (tgt := 120) dX12_joined_116 (by decide) ?_
      exact aw_lreturn dX12_joined_120 rfl h
  · have h := h7 hc; clear h0 h1 h2 h3 h4 h5 h6 h7 h8 h9 hd
    refine aw_lload_n dX12_joined_121 rfl rfl ?_
    refine aw_lload dX12_joined_122 rfl ?_
    refine aw_lcmp_ge (M := MX12_joined) (tgt := 132) dX12_joined_124 dX12_joined_125 (by decide) (fun hc => ?_) (fun hc => ?_)
    · replace h := h.1 hc
      refine aw_lconst (x := 0) dX12_joined_132 rfl ?_
      exact aw_lreturn dX12_joined_133 rfl h
    · replace h := h.2 hc
      refine aw_lconst (x := 1) dX12_joined_128 rfl ?_
      refine aw_goto (tgt := 133) dX12_joined_129 (by decide) ?_
      exact aw_lreturn dX12_joined_133 rfl h
  · have h := h8 hc; clear h0 h1 h2 h3 h4 h5 h6 h7 h8 h9 hd
    refine aw_lload_n dX12_joined_134 rfl rfl ?_
    refine aw_lload dX12_joined_135 rfl ?_
    refine aw_lcmp_le (M := MX12_joined) (tgt := 145) dX12_joined_137 dX12_joined_138 (by decide) (fun hc => ?_) (fun hc => ?_)
    · replace h := h.1 hc
      refine aw_lconst (x := 0) dX12_joined_145 rfl ?_
      exact aw_lreturn dX12_joined_146 rfl h
    · replace h := h.2 hc
      refine aw_lconst (x := 1) dX12_joined_141 rfl ?_
      refine aw_goto (tgt := 146) dX12_joined_142 (by decide) ?_
      exact aw_lreturn dX12_joined_146 rfl h
  · have h := h9 hc; clear h0 h1 h2 h3 h4 h5 h6 h7 h8 h9 hd
    refine aw_lload_n dX12_joined_147 rfl rfl ?_
    refine aw_lconst (x := 0) dX12_joined_148 rfl ?_
    refine aw_lcmp_eq (M := MX12_joined) (tgt := 164) dX12_joined_149 dX12_joined_150 (by decide) (fun hc => ?_) (fun hc => ?_)
    · replace h := h.1 hc
      refine aw_lconst (x := 0) dX12_joined_164 rfl ?_
      exact aw_lreturn dX12_joined_165 rfl h
    · replace h := h.2 hc
      refine aw_lload dX12_joined_153 rfl ?_
      refine aw_lconst (x := 0) dX12_joined_155 rfl ?_
      refine aw_lcmp_eq (M := MX12_joined) (tgt := 164) dX12_joined_156 dX12_joined_157 (by decide) (fun hc => ?_) (fun hc => ?_)
      · replace h := h.1 hc
        refine aw_lconst (x := 0) dX12_joined_164 rfl ?_
        exact aw_lreturn dX12_joined_165 rfl h
      · replace h := h.2 hc
        refine aw_lconst (x := 1) dX12_joined_160 rfl ?_
        refine aw_goto (tgt := 165) dX12_joined_161 (by decide) ?_
        exact aw_lreturn dX12_joined_165 rfl h
  · have h := hd hc; clear h0 h1 h2 h3 h4 h5 h6 h7 h8 h9 hd
    refine aw_lload_n dX12_joined_166 rfl rfl ?_
    refine aw_lconst (x := 0) dX12_joined_167 rfl ?_
    refine aw_lcmp_ne (M := MX12_joined) (tgt := 179) dX12_joined_168 dX12_joined_169 (by decide) (fun hc => ?_) (fun hc => ?_)
    · replace h := h.1 hc
      refine aw_lconst (x := 1) dX12_joined_179 rfl ?_
      refine aw_goto (tgt := 184) dX12_joined_180 (by decide) ?_
      exact aw_lreturn dX12_joined_184 rfl h
    · replace h := h.2 hc
      refine aw_lload dX12_joined_172 rfl ?_
      refine aw_lconst (x := 0) dX12_joined_174 rfl ?_
      refine aw_lcmp_eq (M := MX12_joined) (tgt := 183) dX12_joined_175 dX12_joined_176 (by decide) (fun hc => ?_) (fun hc => ?_)
      · replace h := h.1 hc
        refine aw_lconst (x := 0) dX12_joined_183 rfl ?_
        exact aw_lreturn dX12_joined_184 rfl h
      · replace h := h.2 hc
        refine aw_lconst (x := 1) dX12_joined_179 rfl ?_
        refine aw_goto (tgt := 184) dX12_joined_180 (by decide) ?_
        exact aw_lreturn dX12_joined_184 rfl h
set_option maxRecDepth 4000 in
theorem bk_X12_joined_71 {g : GP} {l : Launch} {d : Nat} {σ : St} {Q : Option AV → St → Prop} {x0 : Nat} {x1 : Int} {x2 : Int64} {x4 : Int64}
    (h : ((¬ x4 = (0 : Int64) → ((¬ x1 = 10 → ¬ x4 = 0 ∧ Q (some (vJ (j_rem x2 x4))) σ) ∧ (x1 = 10 → ¬ x4 = 0 ∧ Q (some (vJ (x2 / x4))) σ))) ∧ (x4 = (0 : Int64) → Q (some (vJ 0)) (sI σ 1286 x0 0 1)))) :
    AW g l d MX12_joined 71 [some (vR 12 (some x0)), some (vI x1), some (vJ x2), none, some (vJ x4), none] [] σ Q := by
  refine aw_lload dX12_joined_71 rfl ?_
  refine aw_lconst (x := 0) dX12_joined_73 rfl ?_
  refine aw_lcmp_ne (M := MX12_joined) (tgt := 85) dX12_joined_74 dX12_joined_75 (by decide) (fun hc => ?_) (fun hc => ?_)
  · replace h := h.1 hc
    refine aw_iload_n dX12_joined_85 rfl rfl ?_
    refine aw_bipush (x := 10) dX12_joined_86 rfl ?_
    refine aw_icmp_ne (tgt := 98) dX12_joined_88 (by decide) (fun hc => ?_) (fun hc => ?_)
    · replace h := h.1 hc
      refine aw_lload_n dX12_joined_98 rfl rfl ?_
      refine aw_lload dX12_joined_99 rfl ?_
      obtain ⟨h0, h⟩ := h
      refine aw_lrem dX12_joined_101 h0 ?_
      exact aw_lreturn dX12_joined_102 rfl h
    · replace h := h.2 hc
      refine aw_lload_n dX12_joined_91 rfl rfl ?_
      refine aw_lload dX12_joined_92 rfl ?_
      obtain ⟨h0, h⟩ := h
      refine aw_ldiv dX12_joined_94 h0 ?_
      refine aw_goto (tgt := 102) dX12_joined_95 (by decide) ?_
      exact aw_lreturn dX12_joined_102 rfl h
  · replace h := h.2 hc
    refine aw_aload_n dX12_joined_78 rfl rfl ?_
    refine aw_iconst (x := 1) dX12_joined_79 rfl ?_
    refine aw_putZ' rfl fk_1286 (Or.inl rfl) lf_X12_274 dX12_joined_80 (Or.inr rfl) ?_
    refine aw_lconst (x := 0) dX12_joined_83 rfl ?_
    exact aw_lreturn dX12_joined_84 rfl h
set_option maxRecDepth 4000 in
theorem bk_X12_kid_0 {g : GP} {l : Launch} {d : Nat} {σ : St} {Q : Option AV → St → Prop} {x0 : Nat} {x1 : Int} {x2 : Int} {x3 : Int}
    (h : ACi g l d MX12_isNode [vR 12 (some x0), vI x1, vI x2] σ (fun v2 σ1 => ((v2 = 0 → Q (some (vI (-1))) σ1) ∧ (¬ v2 = 0 → ACi g l d MX12_kidOf [vR 12 (some x0), vI (w32 ((w32 (400 * x1)) + x2)), vJ (i2j x3)] σ1 (fun v4 σ3 => ACi g l d MX12_outward [vR 12 (some x0), vI v4] σ3 (fun v6 σ5 => Q (some (vI v6)) σ5)))))) :
    AW g l (d + 1) MX12_kid 0 [some (vR 12 (some x0)), some (vI x1), some (vI x2), some (vI x3)] [] σ Q := by
  refine aw_aload_n dX12_kid_0 rfl rfl ?_
  refine aw_iload_n dX12_kid_1 rfl rfl ?_
  refine aw_iload_n dX12_kid_2 rfl rfl ?_
  refine aw_invVi (M := MX12_kid) (ci := 12) [vI x1, vI x2] rfl mo_X12_isNode rfl lm_X12_688 li_X12_isNode ls_X12_isNode (by decide +kernel) dX12_kid_3 rfl (Nat.le_of_ble_eq_true rfl) (ACi.mono (fun v2 σ1 h => ?_) h)
  refine aw_if_eq (tgt := 29) dX12_kid_6 (by decide) (fun hc => ?_) (fun hc => ?_)
  · replace h := h.1 hc
    refine aw_iconst (x := (-1)) dX12_kid_29 rfl ?_
    exact aw_ireturn dX12_kid_30 rfl h
  · replace h := h.2 hc
    refine aw_aload_n dX12_kid_9 rfl rfl ?_
    refine aw_aload_n dX12_kid_10 rfl rfl ?_
    refine aw_sipush (x := 400) dX12_kid_11 rfl ?_
    refine aw_iload_n dX12_kid_14 rfl rfl ?_
    refine aw_imul dX12_kid_15 ?_
    refine aw_iload_n dX12_kid_16 rfl rfl ?_
    refine aw_iadd dX12_kid_17 ?_
    refine aw_iload_n dX12_kid_18 rfl rfl ?_
    refine aw_i2l dX12_kid_19 ?_
    refine aw_invVi (M := MX12_kid) (ci := 12) [vI (w32 ((w32 (400 * x1)) + x2)), vJ (i2j x3)] rfl mo_X12_kidOf rfl lm_X12_694 li_X12_kidOf ls_X12_kidOf (by decide +kernel) dX12_kid_20 rfl (Nat.le_of_ble_eq_true rfl) (ACi.mono (fun v4 σ3 h => ?_) h)
    refine aw_invVi (M := MX12_kid) (ci := 12) [vI v4] rfl mo_X12_outward rfl lm_X12_691 li_X12_outward ls_X12_outward (by decide +kernel) dX12_kid_23 rfl (Nat.le_of_ble_eq_true rfl) (ACi.mono (fun v6 σ5 h => ?_) h)
    refine aw_goto (tgt := 30) dX12_kid_26 (by decide) ?_
    exact aw_ireturn dX12_kid_30 rfl h
set_option maxRecDepth 4000 in
theorem bk_X12_kidBegun_0 {g : GP} {l : Launch} {d : Nat} {σ : St} {Q : Option AV → St → Prop} {x0 : Nat} {x1 : Int} {x2 : Int}
    (h : gL σ 1228 x0 ≠ 0 ∧ ((0 : Int) ≤ x2 ∧ x2 < (gL σ 1228 x0 : Int)) ∧ (((gI σ 1228 x0 x2.toNat) = 1 → gL σ 1269 x0 ≠ 0 ∧ ((0 : Int) ≤ x1 ∧ x1 < (gL σ 1269 x0 : Int)) ∧ ACi g l d MX12_make [vR 12 (some x0), vI 1, vI x1, vI (gI σ 1269 x0 x1.toNat), vI x2] σ (fun v2 σ1 => (((gI σ1 1282 x0 0) = 0 → gL σ1 1229 x0 ≠ 0 ∧ ((0 : Int) ≤ x2 ∧ x2 < (gL σ1 1229 x0 : Int)) ∧ ACi g l d MX12_reaches [vR 12 (some x0), vI v2, vJ (i2j (i_and (gI σ1 1229 x0 x2.toNat) 15))] σ1 (fun v4 σ3 => ((v4 = 0 → gL σ3 1284 x0 ≠ 0 ∧ ((0 : Int) ≤ (w32 ((gI σ3 1285 x0 0) - 1)) ∧ (w32 ((gI σ3 1285 x0 0) - 1)) < (gL σ3 1284 x0 : Int)) ∧ ACv g l d MX12_stops [vR 12 (some x0)] (sI σ3 1284 x0 (w32 ((gI σ3 1285 x0 0) - 1)).toNat 0) (fun σ5 => Q none σ5)) ∧ (¬ v4 = 0 → gL σ3 1269 x0 ≠ 0 ∧ gL σ3 1269 x0 ≠ 0 ∧ ((0 : Int) ≤ v2 ∧ v2 < (gL σ3 1269 x0 : Int)) ∧ ((0 : Int) ≤ x1 ∧ x1 < (gL σ3 1269 x0 : Int)) ∧ Q none (sI σ3 1269 x0 x1.toNat (gI σ3 1269 x0 v2.toNat)))))) ∧ (¬ (gI σ1 1282 x0 0) = 0 → Q none σ1)))) ∧ (¬ (gI σ 1228 x0 x2.toNat) = 1 → gL σ 1231 x0 ≠ 0 ∧ ((0 : Int) ≤ x2 ∧ x2 < (gL σ 1231 x0 : Int)) ∧ gL σ 1269 x0 ≠ 0 ∧ ((0 : Int) ≤ x1 ∧ x1 < (gL σ 1269 x0 : Int)) ∧ ACv g l d MX12_begun [vR 12 (some x0), vI (gI σ 1231 x0 x2.toNat), vI x1, vI (gI σ 1269 x0 x1.toNat), vI (-1)] σ (fun σ6 => Q none σ6)))) :
    AW g l (d + 1) MX12_kidBegun 0 [some (vR 12 (some x0)), some (vI x1), some (vI x2), none] [] σ Q := by
  refine aw_aload_n dX12_kidBegun_0 rfl rfl ?_
  obtain ⟨h0, h⟩ := h
  refine aw_getA' rfl fk_1228 (by decide) lf_X12_98 dX12_kidBegun_1 h0 ?_
  refine aw_iload_n dX12_kidBegun_4 rfl rfl ?_
  obtain ⟨⟨h0, h1⟩, h⟩ := h
  refine aw_iaload (by decide) rfl dX12_kidBegun_5 h0 h1 ?_
  refine aw_iconst (x := 1) dX12_kidBegun_6 rfl ?_
  refine aw_icmp_eq (tgt := 29) dX12_kidBegun_7 (by decide) (fun hc => ?_) (fun hc => ?_)
  · replace h := h.1 hc
    refine aw_aload_n dX12_kidBegun_29 rfl rfl ?_
    refine aw_iconst (x := 1) dX12_kidBegun_30 rfl ?_
    refine aw_iload_n dX12_kidBegun_31 rfl rfl ?_
    refine aw_aload_n dX12_kidBegun_32 rfl rfl ?_
    obtain ⟨h0, h⟩ := h
    refine aw_getA' rfl fk_1269 (by decide) lf_X12_223 dX12_kidBegun_33 h0 ?_
    refine aw_iload_n dX12_kidBegun_36 rfl rfl ?_
    obtain ⟨⟨h0, h1⟩, h⟩ := h
    refine aw_iaload (by decide) rfl dX12_kidBegun_37 h0 h1 ?_
    refine aw_iload_n dX12_kidBegun_38 rfl rfl ?_
    refine aw_invVi (M := MX12_kidBegun) (ci := 12) [vI 1, vI x1, vI (gI σ 1269 x0 x1.toNat), vI x2] rfl mo_X12_make rfl lm_X12_580 li_X12_make ls_X12_make (by decide +kernel) dX12_kidBegun_39 rfl (Nat.le_of_ble_eq_true rfl) (ACi.mono (fun v2 σ1 h => ?_) h)
    refine aw_istore_n dX12_kidBegun_42 rfl (by decide) rfl ?_
    refine aw_aload_n dX12_kidBegun_43 rfl rfl ?_
    refine aw_getZ' rfl fk_1282 lf_X12_262 dX12_kidBegun_44 ?_
    refine aw_if_eq (tgt := 51) dX12_kidBegun_47 (by decide) (fun hc => ?_) (fun hc => ?_)
    · replace h := h.1 hc
      refine aw_aload_n dX12_kidBegun_51 rfl rfl ?_
      refine aw_iload_n dX12_kidBegun_52 rfl rfl ?_
      refine aw_aload_n dX12_kidBegun_53 rfl rfl ?_
      obtain ⟨h0, h⟩ := h
      refine aw_getA' rfl fk_1229 (by decide) lf_X12_101 dX12_kidBegun_54 h0 ?_
      refine aw_iload_n dX12_kidBegun_57 rfl rfl ?_
      obtain ⟨⟨h0, h1⟩, h⟩ := h
      refine aw_iaload (by decide) rfl dX12_kidBegun_58 h0 h1 ?_
      refine aw_bipush (x := 15) dX12_kidBegun_59 rfl ?_
      refine aw_iand dX12_kidBegun_61 ?_
      refine aw_i2l dX12_kidBegun_62 ?_
      refine aw_invVi (M := MX12_kidBegun) (ci := 12) [vI v2, vJ (i2j (i_and (gI σ1 1229 x0 x2.toNat) 15))] rfl mo_X12_reaches rfl lm_X12_602 li_X12_reaches ls_X12_reaches (by decide +kernel) dX12_kidBegun_63 rfl (Nat.le_of_ble_eq_true rfl) (ACi.mono (fun v4 σ3 h => ?_) h)
      refine aw_if_eq (tgt := 84) dX12_kidBegun_66 (by decide) (fun hc => ?_) (fun hc => ?_)
      · replace h := h.1 hc
        refine aw_aload_n dX12_kidBegun_84 rfl rfl ?_
        obtain ⟨h0, h⟩ := h
        refine aw_getA' rfl fk_1284 (by decide) lf_X12_268 dX12_kidBegun_85 h0 ?_
        refine aw_aload_n dX12_kidBegun_88 rfl rfl ?_
        refine aw_getI' rfl fk_1285 lf_X12_271 dX12_kidBegun_89 ?_
        refine aw_iconst (x := 1) dX12_kidBegun_92 rfl ?_
        refine aw_isub dX12_kidBegun_93 ?_
        refine aw_iconst (x := 0) dX12_kidBegun_94 rfl ?_
        obtain ⟨⟨h0, h1⟩, h⟩ := h
        refine aw_iastore (by decide) rfl dX12_kidBegun_95 h0 h1 ?_
        refine aw_aload_n dX12_kidBegun_96 rfl rfl ?_
        refine aw_invVv (M := MX12_kidBegun) (ci := 12) [] rfl mo_X12_stops rfl lm_X12_605 li_X12_stops ls_X12_stops (by decide +kernel) dX12_kidBegun_97 rfl (Nat.le_of_ble_eq_true rfl) (ACv.mono (fun σ5 h => ?_) h)
        exact aw_ret h rfl dX12_kidBegun_100
      · replace h := h.2 hc
        refine aw_aload_n dX12_kidBegun_69 rfl rfl ?_
        obtain ⟨h0, h⟩ := h
        refine aw_getA' rfl fk_1269 (by decide) lf_X12_223 dX12_kidBegun_70 h0 ?_
        refine aw_iload_n dX12_kidBegun_73 rfl rfl ?_
        refine aw_aload_n dX12_kidBegun_74 rfl rfl ?_
        obtain ⟨h0, h⟩ := h
        refine aw_getA' rfl fk_1269 (by decide) lf_X12_223 dX12_kidBegun_75 h0 ?_
        refine aw_iload_n dX12_kidBegun_78 rfl rfl ?_
        obtain ⟨⟨h0, h1⟩, h⟩ := h
        refine aw_iaload (by decide) rfl dX12_kidBegun_79 h0 h1 ?_
        obtain ⟨⟨h0, h1⟩, h⟩ := h
        refine aw_iastore (by decide) rfl dX12_kidBegun_80 h0 h1 ?_
        refine aw_goto (tgt := 100) dX12_kidBegun_81 (by decide) ?_
        exact aw_ret h rfl dX12_kidBegun_100
    · replace h := h.2 hc
      exact aw_ret h rfl dX12_kidBegun_50
  · replace h := h.2 hc
    refine aw_aload_n dX12_kidBegun_10 rfl rfl ?_
    refine aw_aload_n dX12_kidBegun_11 rfl rfl ?_
    obtain ⟨h0, h⟩ := h
    refine aw_getA' rfl fk_1231 (by decide) lf_X12_107 dX12_kidBegun_12 h0 ?_
    refine aw_iload_n dX12_kidBegun_15 rfl rfl ?_
    obtain ⟨⟨h0, h1⟩, h⟩ := h
    refine aw_iaload (by decide) rfl dX12_kidBegun_16 h0 h1 ?_
    refine aw_iload_n dX12_kidBegun_17 rfl rfl ?_
    refine aw_aload_n dX12_kidBegun_18 rfl rfl ?_
    obtain ⟨h0, h⟩ := h
    refine aw_getA' rfl fk_1269 (by decide) lf_X12_223 dX12_kidBegun_19 h0 ?_
    refine aw_iload_n dX12_kidBegun_22 rfl rfl ?_
    obtain ⟨⟨h0, h1⟩, h⟩ := h
    refine aw_iaload (by decide) rfl dX12_kidBegun_23 h0 h1 ?_
    refine aw_iconst (x := (-1)) dX12_kidBegun_24 rfl ?_
    refine aw_invVv (M := MX12_kidBegun) (ci := 12) [vI (gI σ 1231 x0 x2.toNat), vI x1, vI (gI σ 1269 x0 x1.toNat), vI (-1)] rfl mo_X12_begun rfl lm_X12_590 li_X12_begun ls_X12_begun (by decide +kernel) dX12_kidBegun_25 rfl (Nat.le_of_ble_eq_true rfl) (ACv.mono (fun σ6 h => ?_) h)
    exact aw_ret h rfl dX12_kidBegun_28
set_option maxRecDepth 4000 in
theorem bk_X12_kidOf_0 {g : GP} {l : Launch} {d : Nat} {σ : St} {Q : Option AV → St → Prop} {x0 : Nat} {x1 : Int} {x2 : Int64}
    (h : ((x2.toInt < (0 : Int64).toInt → Q (some (vI (-1))) σ) ∧ (¬ x2.toInt < (0 : Int64).toInt → gL σ 1271 x0 ≠ 0 ∧ ((0 : Int) ≤ x1 ∧ x1 < (gL σ 1271 x0 : Int)) ∧ ((x2.toInt < (i2j (gI σ 1271 x0 x1.toNat)).toInt → gL σ 1276 x0 ≠ 0 ∧ ((0 : Int) ≤ x1 ∧ x1 < (gL σ 1276 x0 : Int)) ∧ AW g l d MX12_kidOf 31 [some (vR 12 (some x0)), none, some (vJ x2), none, some (vI (gI σ 1276 x0 x1.toNat)), some (vI 0)] [] σ Q) ∧ (¬ x2.toInt < (i2j (gI σ 1271 x0 x1.toNat)).toInt → Q (some (vI (-1))) σ))))) :
    AW g l d MX12_kidOf 0 [some (vR 12 (some x0)), some (vI x1), some (vJ x2), none, none, none] [] σ Q := by
  refine aw_lload_n dX12_kidOf_0 rfl rfl ?_
  refine aw_lconst (x := 0) dX12_kidOf_1 rfl ?_
  refine aw_lcmp_lt (M := MX12_kidOf) (tgt := 18) dX12_kidOf_2 dX12_kidOf_3 (by decide) (fun hc => ?_) (fun hc => ?_)
  · replace h := h.1 hc
    refine aw_iconst (x := (-1)) dX12_kidOf_18 rfl ?_
    exact aw_ireturn dX12_kidOf_19 rfl h
  · replace h := h.2 hc
    refine aw_lload_n dX12_kidOf_6 rfl rfl ?_
    refine aw_aload_n dX12_kidOf_7 rfl rfl ?_
    obtain ⟨h0, h⟩ := h
    refine aw_getA' rfl fk_1271 (by decide) lf_X12_229 dX12_kidOf_8 h0 ?_
    refine aw_iload_n dX12_kidOf_11 rfl rfl ?_
    obtain ⟨⟨h0, h1⟩, h⟩ := h
    refine aw_iaload (by decide) rfl dX12_kidOf_12 h0 h1 ?_
    refine aw_i2l dX12_kidOf_13 ?_
    refine aw_lcmp_lt (M := MX12_kidOf) (tgt := 20) dX12_kidOf_14 dX12_kidOf_15 (by decide) (fun hc => ?_) (fun hc => ?_)
    · replace h := h.1 hc
      refine aw_aload_n dX12_kidOf_20 rfl rfl ?_
      obtain ⟨h0, h⟩ := h
      refine aw_getA' rfl fk_1276 (by decide) lf_X12_244 dX12_kidOf_21 h0 ?_
      refine aw_iload_n dX12_kidOf_24 rfl rfl ?_
      obtain ⟨⟨h0, h1⟩, h⟩ := h
      refine aw_iaload (by decide) rfl dX12_kidOf_25 h0 h1 ?_
      refine aw_istore dX12_kidOf_26 (by decide) rfl ?_
      refine aw_iconst (x := 0) dX12_kidOf_28 rfl ?_
      refine aw_istore dX12_kidOf_29 (by decide) rfl ?_
      exact aw_fgt (L' := [some (vR 12 (some x0)), none, some (vJ x2), none, some (vI (gI σ 1276 x0 x1.toNat)), some (vI 0)]) ⟨rfl, ⟨rfl, ⟨rfl, ⟨rfl, trivial⟩⟩⟩⟩ h
    · replace h := h.2 hc
      refine aw_iconst (x := (-1)) dX12_kidOf_18 rfl ?_
      exact aw_ireturn dX12_kidOf_19 rfl h
set_option maxRecDepth 4000 in
theorem bk_X12_kidOf_31 {g : GP} {l : Launch} {d : Nat} {σ : St} {Q : Option AV → St → Prop} {x0 : Nat} {x2 : Int64} {x4 : Int} {x5 : Int}
    (h : ((x2.toInt ≤ (i2j x5).toInt → Q (some (vI x4)) σ) ∧ (¬ x2.toInt ≤ (i2j x5).toInt → gL σ 1278 x0 ≠ 0 ∧ ((0 : Int) ≤ x4 ∧ x4 < (gL σ 1278 x0 : Int)) ∧ AW g l d MX12_kidOf 31 [some (vR 12 (some x0)), none, some (vJ x2), none, some (vI (gI σ 1278 x0 x4.toNat)), some (vI (w32 (x5 + 1)))] [] σ Q))) :
    AW g l d MX12_kidOf 31 [some (vR 12 (some x0)), none, some (vJ x2), none, some (vI x4), some (vI x5)] [] σ Q := by
  refine aw_iload dX12_kidOf_31 rfl ?_
  refine aw_i2l dX12_kidOf_33 ?_
  refine aw_lload_n dX12_kidOf_34 rfl rfl ?_
  refine aw_lcmp_ge (M := MX12_kidOf) (tgt := 54) dX12_kidOf_35 dX12_kidOf_36 (by decide) (fun hc => ?_) (fun hc => ?_)
  · replace h := h.1 hc
    refine aw_iload dX12_kidOf_54 rfl ?_
    exact aw_ireturn dX12_kidOf_56 rfl h
  · replace h := h.2 hc
    refine aw_aload_n dX12_kidOf_39 rfl rfl ?_
    obtain ⟨h0, h⟩ := h
    refine aw_getA' rfl fk_1278 (by decide) lf_X12_250 dX12_kidOf_40 h0 ?_
    refine aw_iload dX12_kidOf_43 rfl ?_
    obtain ⟨⟨h0, h1⟩, h⟩ := h
    refine aw_iaload (by decide) rfl dX12_kidOf_45 h0 h1 ?_
    refine aw_istore dX12_kidOf_46 (by decide) rfl ?_
    refine aw_iinc dX12_kidOf_48 rfl (by decide) rfl rfl ?_
    refine aw_goto (tgt := 31) dX12_kidOf_51 (by decide) ?_
    exact aw_fgt (L' := [some (vR 12 (some x0)), none, some (vJ x2), none, some (vI (gI σ 1278 x0 x4.toNat)), some (vI (w32 (x5 + 1)))]) ⟨rfl, ⟨rfl, ⟨rfl, ⟨rfl, trivial⟩⟩⟩⟩ h
set_option maxRecDepth 4000 in
theorem bk_X12_laid_0 {g : GP} {l : Launch} {d : Nat} {σ : St} {Q : Option AV → St → Prop} {x0 : Nat} {x1 : Int} {x2 : Int}
    (h : ACv g l d MX12_begun [vR 12 (some x0), vI x1, vI (-1), vI x2, vI (-1)] (sI σ 1285 x0 0 0) (fun σ1 => AW g l (d + 1) MX12_laid 13 [some (vR 12 (some x0)), none, none, none, none] [] σ1 Q)) :
    AW g l (d + 1) MX12_laid 0 [some (vR 12 (some x0)), some (vI x1), some (vI x2), none, none] [] σ Q := by
  refine aw_aload_n dX12_laid_0 rfl rfl ?_
  refine aw_iconst (x := 0) dX12_laid_1 rfl ?_
  refine aw_putI' rfl fk_1285 (Or.inl rfl) lf_X12_271 dX12_laid_2 ?_
  refine aw_aload_n dX12_laid_5 rfl rfl ?_
  refine aw_iload_n dX12_laid_6 rfl rfl ?_
  refine aw_iconst (x := (-1)) dX12_laid_7 rfl ?_
  refine aw_iload_n dX12_laid_8 rfl rfl ?_
  refine aw_iconst (x := (-1)) dX12_laid_9 rfl ?_
  refine aw_invVv (M := MX12_laid) (ci := 12) [vI x1, vI (-1), vI x2, vI (-1)] rfl mo_X12_begun rfl lm_X12_590 li_X12_begun ls_X12_begun (by decide +kernel) dX12_laid_10 rfl (Nat.le_of_ble_eq_true rfl) (ACv.mono (fun σ1 h => ?_) h)
  exact aw_fgt (L' := [some (vR 12 (some x0)), none, none, none, none]) ⟨rfl, trivial⟩ h
set_option maxRecDepth 4000 in
theorem bk_X12_laid_13 {g : GP} {l : Launch} {d : Nat} {σ : St} {Q : Option AV → St → Prop} {x0 : Nat}
    (h : (((gI σ 1285 x0 0) ≤ 0 → Q none σ) ∧ (¬ (gI σ 1285 x0 0) ≤ 0 → ((¬ (gI σ 1282 x0 0) = 0 → Q none σ) ∧ ((gI σ 1282 x0 0) = 0 → gL σ 1283 x0 ≠ 0 ∧ ((0 : Int) ≤ (w32 ((gI σ 1285 x0 0) - 1)) ∧ (w32 ((gI σ 1285 x0 0) - 1)) < (gL σ 1283 x0 : Int)) ∧ gL σ 1284 x0 ≠ 0 ∧ ((0 : Int) ≤ (w32 ((gI σ 1285 x0 0) - 1)) ∧ (w32 ((gI σ 1285 x0 0) - 1)) < (gL σ 1284 x0 : Int)) ∧ gL σ 1267 x0 ≠ 0 ∧ ((0 : Int) ≤ (gI σ 1283 x0 (w32 ((gI σ 1285 x0 0) - 1)).toNat) ∧ (gI σ 1283 x0 (w32 ((gI σ 1285 x0 0) - 1)).toNat) < (gL σ 1267 x0 : Int)) ∧ ((¬ (gI σ 1267 x0 (gI σ 1283 x0 (w32 ((gI σ 1285 x0 0) - 1)).toNat).toNat) = 0 → ((¬ (gI σ 1284 x0 (w32 ((gI σ 1285 x0 0) - 1)).toNat) = 0 → gL σ 1284 x0 ≠ 0 ∧ ((0 : Int) ≤ (w32 ((gI σ 1285 x0 0) - 1)) ∧ (w32 ((gI σ 1285 x0 0) - 1)) < (gL σ 1284 x0 : Int)) ∧ ((0 : Int) ≤ (w32 ((gI σ 1285 x0 0) - 1)) ∧ (w32 ((gI σ 1285 x0 0) - 1)) < (gL σ 1284 x0 : Int)) ∧ gL (sI σ 1284 x0 (w32 ((gI σ 1285 x0 0) - 1)).toNat (w32 ((gI σ 1284 x0 (w32 ((gI σ 1285 x0 0) - 1)).toNat) - 1))) 1274 x0 ≠ 0 ∧ ((0 : Int) ≤ (gI σ 1283 x0 (w32 ((gI σ 1285 x0 0) - 1)).toNat) ∧ (gI σ 1283 x0 (w32 ((gI σ 1285 x0 0) - 1)).toNat) < (gL (sI σ 1284 x0 (w32 ((gI σ 1285 x0 0) - 1)).toNat (w32 ((gI σ 1284 x0 (w32 ((gI σ 1285 x0 0) - 1)).toNat) - 1))) 1274 x0 : Int)) ∧ ACv g l d MX12_kidBegun [vR 12 (some x0), vI (gI σ 1283 x0 (w32 ((gI σ 1285 x0 0) - 1)).toNat), vI (gI (sI σ 1284 x0 (w32 ((gI σ 1285 x0 0) - 1)).toNat (w32 ((gI σ 1284 x0 (w32 ((gI σ 1285 x0 0) - 1)).toNat) - 1))) 1274 x0 (gI σ 1283 x0 (w32 ((gI σ 1285 x0 0) - 1)).toNat).toNat)] (sI σ 1284 x0 (w32 ((gI σ 1285 x0 0) - 1)).toNat (w32 ((gI σ 1284 x0 (w32 ((gI σ 1285 x0 0) - 1)).toNat) - 1))) (fun σ1 => AW g l (d + 1) MX12_laid 13 [some (vR 12 (some x0)), none, none, none, none] [] σ1 Q)) ∧ ((gI σ 1284 x0 (w32 ((gI σ 1285 x0 0) - 1)).toNat) = 0 → ACv g l d MX12_closes [vR 12 (some x0)] σ (fun σ2 => AW g l (d + 1) MX12_laid 13 [some (vR 12 (some x0)), none, none, none, none] [] σ2 Q)))) ∧ ((gI σ 1267 x0 (gI σ 1283 x0 (w32 ((gI σ 1285 x0 0) - 1)).toNat).toNat) = 0 → gL σ 1284 x0 ≠ 0 ∧ ((0 : Int) ≤ (w32 ((gI σ 1285 x0 0) - 1)) ∧ (w32 ((gI σ 1285 x0 0) - 1)) < (gL σ 1284 x0 : Int)) ∧ ((0 : Int) ≤ (w32 ((gI σ 1285 x0 0) - 1)) ∧ (w32 ((gI σ 1285 x0 0) - 1)) < (gL σ 1284 x0 : Int)) ∧ gL (sI σ 1284 x0 (w32 ((gI σ 1285 x0 0) - 1)).toNat (w32 ((gI σ 1284 x0 (w32 ((gI σ 1285 x0 0) - 1)).toNat) + 1))) 1222 x0 ≠ 0 ∧ gL (sI σ 1284 x0 (w32 ((gI σ 1285 x0 0) - 1)).toNat (w32 ((gI σ 1284 x0 (w32 ((gI σ 1285 x0 0) - 1)).toNat) + 1))) 1273 x0 ≠ 0 ∧ ((0 : Int) ≤ (gI σ 1283 x0 (w32 ((gI σ 1285 x0 0) - 1)).toNat) ∧ (gI σ 1283 x0 (w32 ((gI σ 1285 x0 0) - 1)).toNat) < (gL (sI σ 1284 x0 (w32 ((gI σ 1285 x0 0) - 1)).toNat (w32 ((gI σ 1284 x0 (w32 ((gI σ 1285 x0 0) - 1)).toNat) + 1))) 1273 x0 : Int)) ∧ ((0 : Int) ≤ (w32 ((w32 (20 * (gI (sI σ 1284 x0 (w32 ((gI σ 1285 x0 0) - 1)).toNat (w32 ((gI σ 1284 x0 (w32 ((gI σ 1285 x0 0) - 1)).toNat) + 1))) 1218 x0 0))) + (gI (sI σ 1284 x0 (w32 ((gI σ 1285 x0 0) - 1)).toNat (w32 ((gI σ 1284 x0 (w32 ((gI σ 1285 x0 0) - 1)).toNat) + 1))) 1273 x0 (gI σ 1283 x0 (w32 ((gI σ 1285 x0 0) - 1)).toNat).toNat))) ∧ (w32 ((w32 (20 * (gI (sI σ 1284 x0 (w32 ((gI σ 1285 x0 0) - 1)).toNat (w32 ((gI σ 1284 x0 (w32 ((gI σ 1285 x0 0) - 1)).toNat) + 1))) 1218 x0 0))) + (gI (sI σ 1284 x0 (w32 ((gI σ 1285 x0 0) - 1)).toNat (w32 ((gI σ 1284 x0 (w32 ((gI σ 1285 x0 0) - 1)).toNat) + 1))) 1273 x0 (gI σ 1283 x0 (w32 ((gI σ 1285 x0 0) - 1)).toNat).toNat))) < (gL (sI σ 1284 x0 (w32 ((gI σ 1285 x0 0) - 1)).toNat (w32 ((gI σ 1284 x0 (w32 ((gI σ 1285 x0 0) - 1)).toNat) + 1))) 1222 x0 : Int)) ∧ (((gI σ 1284 x0 (w32 ((gI σ 1285 x0 0) - 1)).toNat) < (gI (sI σ 1284 x0 (w32 ((gI σ 1285 x0 0) - 1)).toNat (w32 ((gI σ 1284 x0 (w32 ((gI σ 1285 x0 0) - 1)).toNat) + 1))) 1222 x0 (w32 ((w32 (20 * (gI (sI σ 1284 x0 (w32 ((gI σ 1285 x0 0) - 1)).toNat (w32 ((gI σ 1284 x0 (w32 ((gI σ 1285 x0 0) - 1)).toNat) + 1))) 1218 x0 0))) + (gI (sI σ 1284 x0 (w32 ((gI σ 1285 x0 0) - 1)).toNat (w32 ((gI σ 1284 x0 (w32 ((gI σ 1285 x0 0) - 1)).toNat) + 1))) 1273 x0 (gI σ 1283 x0 (w32 ((gI σ 1285 x0 0) - 1)).toNat).toNat))).toNat) → gL (sI σ 1284 x0 (w32 ((gI σ 1285 x0 0) - 1)).toNat (w32 ((gI σ 1284 x0 (w32 ((gI σ 1285 x0 0) - 1)).toNat) + 1))) 1273 x0 ≠ 0 ∧ ((0 : Int) ≤ (gI σ 1283 x0 (w32 ((gI σ 1285 x0 0) - 1)).toNat) ∧ (gI σ 1283 x0 (w32 ((gI σ 1285 x0 0) - 1)).toNat) < (gL (sI σ 1284 x0 (w32 ((gI σ 1285 x0 0) - 1)).toNat (w32 ((gI σ 1284 x0 (w32 ((gI σ 1285 x0 0) - 1)).toNat) + 1))) 1273 x0 : Int)) ∧ ACi g l d MX12_field [vR 12 (some x0), vI (gI (sI σ 1284 x0 (w32 ((gI σ 1285 x0 0) - 1)).toNat (w32 ((gI σ 1284 x0 (w32 ((gI σ 1285 x0 0) - 1)).toNat) + 1))) 1273 x0 (gI σ 1283 x0 (w32 ((gI σ 1285 x0 0) - 1)).toNat).toNat), vI (gI σ 1284 x0 (w32 ((gI σ 1285 x0 0) - 1)).toNat)] (sI σ 1284 x0 (w32 ((gI σ 1285 x0 0) - 1)).toNat (w32 ((gI σ 1284 x0 (w32 ((gI σ 1285 x0 0) - 1)).toNat) + 1))) (fun v4 σ3 => ACv g l d MX12_fieldBegun [vR 12 (some x0), vI (gI σ 1283 x0 (w32 ((gI σ 1285 x0 0) - 1)).toNat), vI v4] σ3 (fun σ5 => AW g l (d + 1) MX12_laid 13 [some (vR 12 (some x0)), none, none, none, none] [] σ5 Q))) ∧ (¬ (gI σ 1284 x0 (w32 ((gI σ 1285 x0 0) - 1)).toNat) < (gI (sI σ 1284 x0 (w32 ((gI σ 1285 x0 0) - 1)).toNat (w32 ((gI σ 1284 x0 (w32 ((gI σ 1285 x0 0) - 1)).toNat) + 1))) 1222 x0 (w32 ((w32 (20 * (gI (sI σ 1284 x0 (w32 ((gI σ 1285 x0 0) - 1)).toNat (w32 ((gI σ 1284 x0 (w32 ((gI σ 1285 x0 0) - 1)).toNat) + 1))) 1218 x0 0))) + (gI (sI σ 1284 x0 (w32 ((gI σ 1285 x0 0) - 1)).toNat (w32 ((gI σ 1284 x0 (w32 ((gI σ 1285 x0 0) - 1)).toNat) + 1))) 1273 x0 (gI σ 1283 x0 (w32 ((gI σ 1285 x0 0) - 1)).toNat).toNat))).toNat) → ACv g l d MX12_closes [vR 12 (some x0)] (sI σ 1284 x0 (w32 ((gI σ 1285 x0 0) - 1)).toNat (w32 ((gI σ 1284 x0 (w32 ((gI σ 1285 x0 0) - 1)).toNat) + 1))) (fun σ6 => AW g l (d + 1) MX12_laid 13 [some (vR 12 (some x0)), none, none, none, none] [] σ6 Q)))))))))) :
    AW g l (d + 1) MX12_laid 13 [some (vR 12 (some x0)), none, none, none, none] [] σ Q := by
  refine aw_aload_n dX12_laid_13 rfl rfl ?_
  refine aw_getI' rfl fk_1285 lf_X12_271 dX12_laid_14 ?_
  refine aw_if_le (tgt := 168) dX12_laid_17 (by decide) (fun hc => ?_) (fun hc => ?_)
  · replace h := h.1 hc
    exact aw_ret h rfl dX12_laid_168
  · replace h := h.2 hc
    refine aw_aload_n dX12_laid_20 rfl rfl ?_
    refine aw_getZ' rfl fk_1282 lf_X12_262 dX12_laid_21 ?_
    refine aw_if_ne (tgt := 168) dX12_laid_24 (by decide) (fun hc => ?_) (fun hc => ?_)
    · replace h := h.1 hc
      exact aw_ret h rfl dX12_laid_168
    · replace h := h.2 hc
      refine aw_aload_n dX12_laid_27 rfl rfl ?_
      obtain ⟨h0, h⟩ := h
      refine aw_getA' rfl fk_1283 (by decide) lf_X12_265 dX12_laid_28 h0 ?_
      refine aw_aload_n dX12_laid_31 rfl rfl ?_
      refine aw_getI' rfl fk_1285 lf_X12_271 dX12_laid_32 ?_
      refine aw_iconst (x := 1) dX12_laid_35 rfl ?_
      refine aw_isub dX12_laid_36 ?_
      obtain ⟨⟨h0, h1⟩, h⟩ := h
      refine aw_iaload (by decide) rfl dX12_laid_37 h0 h1 ?_
      refine aw_istore_n dX12_laid_38 rfl (by decide) rfl ?_
      refine aw_aload_n dX12_laid_39 rfl rfl ?_
      obtain ⟨h0, h⟩ := h
      refine aw_getA' rfl fk_1284 (by decide) lf_X12_268 dX12_laid_40 h0 ?_
      refine aw_aload_n dX12_laid_43 rfl rfl ?_
      refine aw_getI' rfl fk_1285 lf_X12_271 dX12_laid_44 ?_
      refine aw_iconst (x := 1) dX12_laid_47 rfl ?_
      refine aw_isub dX12_laid_48 ?_
      obtain ⟨⟨h0, h1⟩, h⟩ := h
      refine aw_iaload (by decide) rfl dX12_laid_49 h0 h1 ?_
      refine aw_istore dX12_laid_50 (by decide) rfl ?_
      refine aw_aload_n dX12_laid_52 rfl rfl ?_
      obtain ⟨h0, h⟩ := h
      refine aw_getA' rfl fk_1267 (by decide) lf_X12_217 dX12_laid_53 h0 ?_
      refine aw_iload_n dX12_laid_56 rfl rfl ?_
      obtain ⟨⟨h0, h1⟩, h⟩ := h
      refine aw_iaload (by decide) rfl dX12_laid_57 h0 h1 ?_
      refine aw_if_ne (tgt := 127) dX12_laid_58 (by decide) (fun hc => ?_) (fun hc => ?_)
      · replace h := h.1 hc
        refine aw_iload dX12_laid_127 rfl ?_
        refine aw_if_ne (tgt := 139) dX12_laid_129 (by decide) (fun hc => ?_) (fun hc => ?_)
        · replace h := h.1 hc
          refine aw_aload_n dX12_laid_139 rfl rfl ?_
          obtain ⟨h0, h⟩ := h
          refine aw_getA' rfl fk_1284 (by decide) lf_X12_268 dX12_laid_140 h0 ?_
          refine aw_aload_n dX12_laid_143 rfl rfl ?_
          refine aw_getI' rfl fk_1285 lf_X12_271 dX12_laid_144 ?_
          refine aw_iconst (x := 1) dX12_laid_147 rfl ?_
          refine aw_isub dX12_laid_148 ?_
          refine aw_dup2 dX12_laid_149 rfl rfl ?_
          obtain ⟨⟨h0, h1⟩, h⟩ := h
          refine aw_iaload (by decide) rfl dX12_laid_150 h0 h1 ?_
          refine aw_iconst (x := 1) dX12_laid_151 rfl ?_
          refine aw_isub dX12_laid_152 ?_
          obtain ⟨⟨h0, h1⟩, h⟩ := h
          refine aw_iastore (by decide) rfl dX12_laid_153 h0 h1 ?_
          refine aw_aload_n dX12_laid_154 rfl rfl ?_
          refine aw_iload_n dX12_laid_155 rfl rfl ?_
          refine aw_aload_n dX12_laid_156 rfl rfl ?_
          obtain ⟨h0, h⟩ := h
          refine aw_getA' rfl fk_1274 (by decide) lf_X12_238 dX12_laid_157 h0 ?_
          refine aw_iload_n dX12_laid_160 rfl rfl ?_
          obtain ⟨⟨h0, h1⟩, h⟩ := h
          refine aw_iaload (by decide) rfl dX12_laid_161 h0 h1 ?_
          refine aw_invVv (M := MX12_laid) (ci := 12) [vI (gI σ 1283 x0 (w32 ((gI σ 1285 x0 0) - 1)).toNat), vI (gI (sI σ 1284 x0 (w32 ((gI σ 1285 x0 0) - 1)).toNat (w32 ((gI σ 1284 x0 (w32 ((gI σ 1285 x0 0) - 1)).toNat) - 1))) 1274 x0 (gI σ 1283 x0 (w32 ((gI σ 1285 x0 0) - 1)).toNat).toNat)] rfl mo_X12_kidBegun rfl lm_X12_599 li_X12_kidBegun ls_X12_kidBegun (by decide +kernel) dX12_laid_162 rfl (Nat.le_of_ble_eq_true rfl) (ACv.mono (fun σ1 h => ?_) h)
          refine aw_goto (tgt := 13) dX12_laid_165 (by decide) ?_
          exact aw_fgt (L' := [some (vR 12 (some x0)), none, none, none, none]) ⟨rfl, trivial⟩ h
        · replace h := h.2 hc
          refine aw_aload_n dX12_laid_132 rfl rfl ?_
          refine aw_invVv (M := MX12_laid) (ci := 12) [] rfl mo_X12_closes rfl lm_X12_593 li_X12_closes ls_X12_closes (by decide +kernel) dX12_laid_133 rfl (Nat.le_of_ble_eq_true rfl) (ACv.mono (fun σ2 h => ?_) h)
          refine aw_goto (tgt := 165) dX12_laid_136 (by decide) ?_
          refine aw_goto (tgt := 13) dX12_laid_165 (by decide) ?_
          exact aw_fgt (L' := [some (vR 12 (some x0)), none, none, none, none]) ⟨rfl, trivial⟩ h
      · replace h := h.2 hc
        refine aw_aload_n dX12_laid_61 rfl rfl ?_
        obtain ⟨h0, h⟩ := h
        refine aw_getA' rfl fk_1284 (by decide) lf_X12_268 dX12_laid_62 h0 ?_
        refine aw_aload_n dX12_laid_65 rfl rfl ?_
        refine aw_getI' rfl fk_1285 lf_X12_271 dX12_laid_66 ?_
        refine aw_iconst (x := 1) dX12_laid_69 rfl ?_
        refine aw_isub dX12_laid_70 ?_
        refine aw_dup2 dX12_laid_71 rfl rfl ?_
        obtain ⟨⟨h0, h1⟩, h⟩ := h
        refine aw_iaload (by decide) rfl dX12_laid_72 h0 h1 ?_
        refine aw_iconst (x := 1) dX12_laid_73 rfl ?_
        refine aw_iadd dX12_laid_74 ?_
        obtain ⟨⟨h0, h1⟩, h⟩ := h
        refine aw_iastore (by decide) rfl dX12_laid_75 h0 h1 ?_
        refine aw_iload dX12_laid_76 rfl ?_
        refine aw_aload_n dX12_laid_78 rfl rfl ?_
        obtain ⟨h0, h⟩ := h
        refine aw_getA' rfl fk_1222 (by decide) lf_X12_80 dX12_laid_79 h0 ?_
        refine aw_bipush (x := 20) dX12_laid_82 rfl ?_
        refine aw_aload_n dX12_laid_84 rfl rfl ?_
        refine aw_getI' rfl fk_1218 lf_X12_67 dX12_laid_85 ?_
        refine aw_imul dX12_laid_88 ?_
        refine aw_aload_n dX12_laid_89 rfl rfl ?_
        obtain ⟨h0, h⟩ := h
        refine aw_getA' rfl fk_1273 (by decide) lf_X12_235 dX12_laid_90 h0 ?_
        refine aw_iload_n dX12_laid_93 rfl rfl ?_
        obtain ⟨⟨h0, h1⟩, h⟩ := h
        refine aw_iaload (by decide) rfl dX12_laid_94 h0 h1 ?_
        refine aw_iadd dX12_laid_95 ?_
        obtain ⟨⟨h0, h1⟩, h⟩ := h
        refine aw_iaload (by decide) rfl dX12_laid_96 h0 h1 ?_
        refine aw_icmp_lt (tgt := 107) dX12_laid_97 (by decide) (fun hc => ?_) (fun hc => ?_)
        · replace h := h.1 hc
          refine aw_aload_n dX12_laid_107 rfl rfl ?_
          refine aw_iload_n dX12_laid_108 rfl rfl ?_
          refine aw_aload_n dX12_laid_109 rfl rfl ?_
          refine aw_aload_n dX12_laid_110 rfl rfl ?_
          obtain ⟨h0, h⟩ := h
          refine aw_getA' rfl fk_1273 (by decide) lf_X12_235 dX12_laid_111 h0 ?_
          refine aw_iload_n dX12_laid_114 rfl rfl ?_
          obtain ⟨⟨h0, h1⟩, h⟩ := h
          refine aw_iaload (by decide) rfl dX12_laid_115 h0 h1 ?_
          refine aw_iload dX12_laid_116 rfl ?_
          refine aw_invVi (M := MX12_laid) (ci := 12) [vI (gI (sI σ 1284 x0 (w32 ((gI σ 1285 x0 0) - 1)).toNat (w32 ((gI σ 1284 x0 (w32 ((gI σ 1285 x0 0) - 1)).toNat) + 1))) 1273 x0 (gI σ 1283 x0 (w32 ((gI σ 1285 x0 0) - 1)).toNat).toNat), vI (gI σ 1284 x0 (w32 ((gI σ 1285 x0 0) - 1)).toNat)] rfl mo_X12_field rfl lm_X12_447 li_X12_field ls_X12_field (by decide +kernel) dX12_laid_118 rfl (Nat.le_of_ble_eq_true rfl) (ACi.mono (fun v4 σ3 h => ?_) h)
          refine aw_invVv (M := MX12_laid) (ci := 12) [vI (gI σ 1283 x0 (w32 ((gI σ 1285 x0 0) - 1)).toNat), vI v4] rfl mo_X12_fieldBegun rfl lm_X12_596 li_X12_fieldBegun ls_X12_fieldBegun (by decide +kernel) dX12_laid_121 rfl (Nat.le_of_ble_eq_true rfl) (ACv.mono (fun σ5 h => ?_) h)
          refine aw_goto (tgt := 165) dX12_laid_124 (by decide) ?_
          refine aw_goto (tgt := 13) dX12_laid_165 (by decide) ?_
          exact aw_fgt (L' := [some (vR 12 (some x0)), none, none, none, none]) ⟨rfl, trivial⟩ h
        · replace h := h.2 hc
          refine aw_aload_n dX12_laid_100 rfl rfl ?_
          refine aw_invVv (M := MX12_laid) (ci := 12) [] rfl mo_X12_closes rfl lm_X12_593 li_X12_closes ls_X12_closes (by decide +kernel) dX12_laid_101 rfl (Nat.le_of_ble_eq_true rfl) (ACv.mono (fun σ6 h => ?_) h)
          refine aw_goto (tgt := 165) dX12_laid_104 (by decide) ?_
          refine aw_goto (tgt := 13) dX12_laid_165 (by decide) ?_
          exact aw_fgt (L' := [some (vR 12 (some x0)), none, none, none, none]) ⟨rfl, trivial⟩ h
set_option maxRecDepth 4000 in
theorem bk_X12_laidAt_0 {g : GP} {l : Launch} {d : Nat} {σ : St} {Q : Option AV → St → Prop} {x0 : Nat} {x1 : Int} {x2 : Int} {x3 : Int} {x4 : Int}
    (h : gL (sI (sI (sI σ 1253 x0 0 (gI σ 1218 x0 0)) 1280 x0 0 x1) 1281 x0 0 x2) 1265 x0 ≠ 0 ∧ ((0 : Int) ≤ (gI (sI (sI (sI σ 1253 x0 0 (gI σ 1218 x0 0)) 1280 x0 0 x1) 1281 x0 0 x2) 1280 x0 0) ∧ (gI (sI (sI (sI σ 1253 x0 0 (gI σ 1218 x0 0)) 1280 x0 0 x1) 1281 x0 0 x2) 1280 x0 0) < (gL (sI (sI (sI σ 1253 x0 0 (gI σ 1218 x0 0)) 1280 x0 0 x1) 1281 x0 0 x2) 1265 x0 : Int)) ∧ gL (sI (sI (sI (sI σ 1253 x0 0 (gI σ 1218 x0 0)) 1280 x0 0 x1) 1281 x0 0 x2) 1265 x0 (gI (sI (sI (sI σ 1253 x0 0 (gI σ 1218 x0 0)) 1280 x0 0 x1) 1281 x0 0 x2) 1280 x0 0).toNat (gI (sI (sI (sI σ 1253 x0 0 (gI σ 1218 x0 0)) 1280 x0 0 x1) 1281 x0 0 x2) 1281 x0 0)) 1266 x0 ≠ 0 ∧ ((0 : Int) ≤ (gI (sI (sI (sI (sI σ 1253 x0 0 (gI σ 1218 x0 0)) 1280 x0 0 x1) 1281 x0 0 x2) 1265 x0 (gI (sI (sI (sI σ 1253 x0 0 (gI σ 1218 x0 0)) 1280 x0 0 x1) 1281 x0 0 x2) 1280 x0 0).toNat (gI (sI (sI (sI σ 1253 x0 0 (gI σ 1218 x0 0)) 1280 x0 0 x1) 1281 x0 0 x2) 1281 x0 0)) 1280 x0 0) ∧ (gI (sI (sI (sI (sI σ 1253 x0 0 (gI σ 1218 x0 0)) 1280 x0 0 x1) 1281 x0 0 x2) 1265 x0 (gI (sI (sI (sI σ 1253 x0 0 (gI σ 1218 x0 0)) 1280 x0 0 x1) 1281 x0 0 x2) 1280 x0 0).toNat (gI (sI (sI (sI σ 1253 x0 0 (gI σ 1218 x0 0)) 1280 x0 0 x1) 1281 x0 0 x2) 1281 x0 0)) 1280 x0 0) < (gL (sI (sI (sI (sI σ 1253 x0 0 (gI σ 1218 x0 0)) 1280 x0 0 x1) 1281 x0 0 x2) 1265 x0 (gI (sI (sI (sI σ 1253 x0 0 (gI σ 1218 x0 0)) 1280 x0 0 x1) 1281 x0 0 x2) 1280 x0 0).toNat (gI (sI (sI (sI σ 1253 x0 0 (gI σ 1218 x0 0)) 1280 x0 0 x1) 1281 x0 0 x2) 1281 x0 0)) 1266 x0 : Int)) ∧ AW g l (d + 1) MX12_laidAt 41 [some (vR 12 (some x0)), none, none, some (vI x3), some (vI x4)] [] (sI (sI (sI (sI (sI σ 1253 x0 0 (gI σ 1218 x0 0)) 1280 x0 0 x1) 1281 x0 0 x2) 1265 x0 (gI (sI (sI (sI σ 1253 x0 0 (gI σ 1218 x0 0)) 1280 x0 0 x1) 1281 x0 0 x2) 1280 x0 0).toNat (gI (sI (sI (sI σ 1253 x0 0 (gI σ 1218 x0 0)) 1280 x0 0 x1) 1281 x0 0 x2) 1281 x0 0)) 1266 x0 (gI (sI (sI (sI (sI σ 1253 x0 0 (gI σ 1218 x0 0)) 1280 x0 0 x1) 1281 x0 0 x2) 1265 x0 (gI (sI (sI (sI σ 1253 x0 0 (gI σ 1218 x0 0)) 1280 x0 0 x1) 1281 x0 0 x2) 1280 x0 0).toNat (gI (sI (sI (sI σ 1253 x0 0 (gI σ 1218 x0 0)) 1280 x0 0 x1) 1281 x0 0 x2) 1281 x0 0)) 1280 x0 0).toNat 0) Q) :
    AW g l (d + 1) MX12_laidAt 0 [some (vR 12 (some x0)), some (vI x1), some (vI x2), some (vI x3), some (vI x4)] [] σ Q := by
  refine aw_aload_n dX12_laidAt_0 rfl rfl ?_
  refine aw_aload_n dX12_laidAt_1 rfl rfl ?_
  refine aw_getI' rfl fk_1218 lf_X12_67 dX12_laidAt_2 ?_
  refine aw_putI' rfl fk_1253 (Or.inl rfl) lf_X12_173 dX12_laidAt_5 ?_
  refine aw_aload_n dX12_laidAt_8 rfl rfl ?_
  refine aw_iload_n dX12_laidAt_9 rfl rfl ?_
  refine aw_putI' rfl fk_1280 (Or.inl rfl) lf_X12_256 dX12_laidAt_10 ?_
  refine aw_aload_n dX12_laidAt_13 rfl rfl ?_
  refine aw_iload_n dX12_laidAt_14 rfl rfl ?_
  refine aw_putI' rfl fk_1281 (Or.inl rfl) lf_X12_259 dX12_laidAt_15 ?_
  refine aw_aload_n dX12_laidAt_18 rfl rfl ?_
  obtain ⟨h0, h⟩ := h
  refine aw_getA' rfl fk_1265 (by decide) lf_X12_211 dX12_laidAt_19 h0 ?_
  refine aw_aload_n dX12_laidAt_22 rfl rfl ?_
  refine aw_getI' rfl fk_1280 lf_X12_256 dX12_laidAt_23 ?_
  refine aw_aload_n dX12_laidAt_26 rfl rfl ?_
  refine aw_getI' rfl fk_1281 lf_X12_259 dX12_laidAt_27 ?_
  obtain ⟨⟨h0, h1⟩, h⟩ := h
  refine aw_iastore (by decide) rfl dX12_laidAt_30 h0 h1 ?_
  refine aw_aload_n dX12_laidAt_31 rfl rfl ?_
  obtain ⟨h0, h⟩ := h
  refine aw_getA' rfl fk_1266 (by decide) lf_X12_214 dX12_laidAt_32 h0 ?_
  refine aw_aload_n dX12_laidAt_35 rfl rfl ?_
  refine aw_getI' rfl fk_1280 lf_X12_256 dX12_laidAt_36 ?_
  refine aw_iconst (x := 0) dX12_laidAt_39 rfl ?_
  obtain ⟨⟨h0, h1⟩, h⟩ := h
  refine aw_iastore (by decide) rfl dX12_laidAt_40 h0 h1 ?_
  exact aw_fgt (L' := [some (vR 12 (some x0)), none, none, some (vI x3), some (vI x4)]) ⟨rfl, ⟨rfl, ⟨rfl, trivial⟩⟩⟩ h
set_option maxRecDepth 4000 in
theorem bk_X12_laidAt_41 {g : GP} {l : Launch} {d : Nat} {σ : St} {Q : Option AV → St → Prop} {x0 : Nat} {x3 : Int} {x4 : Int}
    (h : ACv g l d MX12_laid [vR 12 (some x0), vI x3, vI x4] (sI σ 1282 x0 0 0) (fun σ1 => ((¬ (gI σ1 1282 x0 0) = 0 → Q (some (vI 0)) σ1) ∧ ((gI σ1 1282 x0 0) = 0 → Q (some (vI 1)) σ1)))) :
    AW g l (d + 1) MX12_laidAt 41 [some (vR 12 (some x0)), none, none, some (vI x3), some (vI x4)] [] σ Q := by
  refine aw_aload_n dX12_laidAt_41 rfl rfl ?_
  refine aw_iconst (x := 0) dX12_laidAt_42 rfl ?_
  refine aw_putZ' rfl fk_1282 (Or.inl rfl) lf_X12_262 dX12_laidAt_43 (Or.inl rfl) ?_
  refine aw_aload_n dX12_laidAt_46 rfl rfl ?_
  refine aw_iload_n dX12_laidAt_47 rfl rfl ?_
  refine aw_iload dX12_laidAt_48 rfl ?_
  refine aw_invVv (M := MX12_laidAt) (ci := 12) [vI x3, vI x4] rfl mo_X12_laid rfl lm_X12_682 li_X12_laid ls_X12_laid (by decide +kernel) dX12_laidAt_50 rfl (Nat.le_of_ble_eq_true rfl) (ACv.mono (fun σ1 h => ?_) h)
  refine aw_aload_n dX12_laidAt_53 rfl rfl ?_
  refine aw_getZ' rfl fk_1282 lf_X12_262 dX12_laidAt_54 ?_
  refine aw_if_ne (tgt := 64) dX12_laidAt_57 (by decide) (fun hc => ?_) (fun hc => ?_)
  · replace h := h.1 hc
    refine aw_iconst (x := 0) dX12_laidAt_64 rfl ?_
    exact aw_zreturn dX12_laidAt_65 rfl (Or.inl rfl) h
  · replace h := h.2 hc
    refine aw_iconst (x := 1) dX12_laidAt_60 rfl ?_
    refine aw_goto (tgt := 65) dX12_laidAt_61 (by decide) ?_
    exact aw_zreturn dX12_laidAt_65 rfl (Or.inr rfl) h
set_option maxRecDepth 4000 in
theorem bk_X12_lay_0 {g : GP} {l : Launch} {d : Nat} {σ : St} {Q : Option AV → St → Prop} {x0 : Nat} {x1 : Int} {x2 : Int} {x3 : Int}
    (h : ACi g l d MX12_isImage [vR 12 (some x0), vI x1] σ (fun v2 σ1 => ((v2 = 0 → Q (some (vI (-1))) σ1) ∧ (¬ v2 = 0 → ACi g l d MX12_isStruct [vR 12 (some x0), vI x2] σ1 (fun v4 σ3 => ((¬ v4 = 0 → ((x3 < 0 → Q (some (vI (-3))) σ3) ∧ (¬ x3 < 0 → gL σ3 1201 x0 ≠ 0 ∧ ((0 : Int) ≤ x1 ∧ x1 < (gL σ3 1201 x0 : Int)) ∧ ((x3 ≤ (gI σ3 1201 x0 x1.toNat) → ((¬ (gI σ3 1264 x0 0) = 6 → ACi g l d MX12_laidAt [vR 12 (some x0), vI (gI σ3 1264 x0 0), vI x1, vI x2, vI x3] σ3 (fun v6 σ5 => ((¬ v6 = 0 → Q (some (vI (w32 ((gI (sI σ5 1264 x0 0 (w32 ((gI σ5 1264 x0 0) + 1))) 1264 x0 0) - 1)))) (sI σ5 1264 x0 0 (w32 ((gI σ5 1264 x0 0) + 1)))) ∧ (v6 = 0 → Q (some (vI (-6))) σ5)))) ∧ ((gI σ3 1264 x0 0) = 6 → Q (some (vI (-2))) σ3))) ∧ (¬ x3 ≤ (gI σ3 1201 x0 x1.toNat) → Q (some (vI (-3))) σ3))))) ∧ (v4 = 0 → Q (some (vI (-1))) σ3))))))) :
    AW g l (d + 1) MX12_lay 0 [some (vR 12 (some x0)), some (vI x1), some (vI x2), some (vI x3)] [] σ Q := by
  refine aw_aload_n dX12_lay_0 rfl rfl ?_
  refine aw_iload_n dX12_lay_1 rfl rfl ?_
  refine aw_invVi (M := MX12_lay) (ci := 12) [vI x1] rfl mo_X12_isImage rfl lm_X12_293 li_X12_isImage ls_X12_isImage (by decide +kernel) dX12_lay_2 rfl (Nat.le_of_ble_eq_true rfl) (ACi.mono (fun v2 σ1 h => ?_) h)
  refine aw_if_eq (tgt := 16) dX12_lay_5 (by decide) (fun hc => ?_) (fun hc => ?_)
  · replace h := h.1 hc
    refine aw_iconst (x := (-1)) dX12_lay_16 rfl ?_
    exact aw_ireturn dX12_lay_17 rfl h
  · replace h := h.2 hc
    refine aw_aload_n dX12_lay_8 rfl rfl ?_
    refine aw_iload_n dX12_lay_9 rfl rfl ?_
    refine aw_invVi (M := MX12_lay) (ci := 12) [vI x2] rfl mo_X12_isStruct rfl lm_X12_570 li_X12_isStruct ls_X12_isStruct (by decide +kernel) dX12_lay_10 rfl (Nat.le_of_ble_eq_true rfl) (ACi.mono (fun v4 σ3 h => ?_) h)
    refine aw_if_ne (tgt := 18) dX12_lay_13 (by decide) (fun hc => ?_) (fun hc => ?_)
    · replace h := h.1 hc
      refine aw_iload_n dX12_lay_18 rfl rfl ?_
      refine aw_if_lt (tgt := 32) dX12_lay_19 (by decide) (fun hc => ?_) (fun hc => ?_)
      · replace h := h.1 hc
        refine aw_bipush (x := (-3)) dX12_lay_32 rfl ?_
        exact aw_ireturn dX12_lay_34 rfl h
      · replace h := h.2 hc
        refine aw_iload_n dX12_lay_22 rfl rfl ?_
        refine aw_aload_n dX12_lay_23 rfl rfl ?_
        obtain ⟨h0, h⟩ := h
        refine aw_getA' rfl fk_1201 (by decide) lf_X12_13 dX12_lay_24 h0 ?_
        refine aw_iload_n dX12_lay_27 rfl rfl ?_
        obtain ⟨⟨h0, h1⟩, h⟩ := h
        refine aw_iaload (by decide) rfl dX12_lay_28 h0 h1 ?_
        refine aw_icmp_le (tgt := 35) dX12_lay_29 (by decide) (fun hc => ?_) (fun hc => ?_)
        · replace h := h.1 hc
          refine aw_aload_n dX12_lay_35 rfl rfl ?_
          refine aw_getI' rfl fk_1264 lf_X12_208 dX12_lay_36 ?_
          refine aw_bipush (x := 6) dX12_lay_39 rfl ?_
          refine aw_icmp_ne (tgt := 47) dX12_lay_41 (by decide) (fun hc => ?_) (fun hc => ?_)
          · replace h := h.1 hc
            refine aw_aload_n dX12_lay_47 rfl rfl ?_
            refine aw_aload_n dX12_lay_48 rfl rfl ?_
            refine aw_getI' rfl fk_1264 lf_X12_208 dX12_lay_49 ?_
            refine aw_iload_n dX12_lay_52 rfl rfl ?_
            refine aw_iload_n dX12_lay_53 rfl rfl ?_
            refine aw_iload_n dX12_lay_54 rfl rfl ?_
            refine aw_invVi (M := MX12_lay) (ci := 12) [vI (gI σ3 1264 x0 0), vI x1, vI x2, vI x3] rfl mo_X12_laidAt rfl lm_X12_678 li_X12_laidAt ls_X12_laidAt (by decide +kernel) dX12_lay_55 rfl (Nat.le_of_ble_eq_true rfl) (ACi.mono (fun v6 σ5 h => ?_) h)
            refine aw_if_ne (tgt := 64) dX12_lay_58 (by decide) (fun hc => ?_) (fun hc => ?_)
            · replace h := h.1 hc
              refine aw_aload_n dX12_lay_64 rfl rfl ?_
              refine aw_dup dX12_lay_65 rfl ?_
              refine aw_getI' rfl fk_1264 lf_X12_208 dX12_lay_66 ?_
              refine aw_iconst (x := 1) dX12_lay_69 rfl ?_
              refine aw_iadd dX12_lay_70 ?_
              refine aw_putI' rfl fk_1264 (Or.inl rfl) lf_X12_208 dX12_lay_71 ?_
              refine aw_aload_n dX12_lay_74 rfl rfl ?_
              refine aw_getI' rfl fk_1264 lf_X12_208 dX12_lay_75 ?_
              refine aw_iconst (x := 1) dX12_lay_78 rfl ?_
              refine aw_isub dX12_lay_79 ?_
              exact aw_ireturn dX12_lay_80 rfl h
            · replace h := h.2 hc
              refine aw_bipush (x := (-6)) dX12_lay_61 rfl ?_
              exact aw_ireturn dX12_lay_63 rfl h
          · replace h := h.2 hc
            refine aw_bipush (x := (-2)) dX12_lay_44 rfl ?_
            exact aw_ireturn dX12_lay_46 rfl h
        · replace h := h.2 hc
          refine aw_bipush (x := (-3)) dX12_lay_32 rfl ?_
          exact aw_ireturn dX12_lay_34 rfl h
    · replace h := h.2 hc
      refine aw_iconst (x := (-1)) dX12_lay_16 rfl ?_
      exact aw_ireturn dX12_lay_17 rfl h
set_option maxRecDepth 4000 in
theorem bk_X12_layer_0 {g : GP} {l : Launch} {d : Nat} {σ : St} {Q : Option AV → St → Prop} {x0 : Nat} {x1 : Int}
    (h : ACi g l d MX12_isImage [vR 12 (some x0), vI x1] σ (fun v2 σ1 => ((¬ v2 = 0 → gL σ1 1202 x0 ≠ 0 ∧ ((0 : Int) ≤ x1 ∧ x1 < (gL σ1 1202 x0 : Int)) ∧ ((¬ (gI σ1 1202 x0 x1.toNat) = 4 → AW g l (d + 1) MX12_layer 25 [some (vR 12 (some x0)), some (vI x1), some (vI 0)] [] σ1 Q) ∧ ((gI σ1 1202 x0 x1.toNat) = 4 → Q (some (vI (-2))) σ1))) ∧ (v2 = 0 → Q (some (vI (-1))) σ1)))) :
    AW g l (d + 1) MX12_layer 0 [some (vR 12 (some x0)), some (vI x1), none] [] σ Q := by
  refine aw_aload_n dX12_layer_0 rfl rfl ?_
  refine aw_iload_n dX12_layer_1 rfl rfl ?_
  refine aw_invVi (M := MX12_layer) (ci := 12) [vI x1] rfl mo_X12_isImage rfl lm_X12_293 li_X12_isImage ls_X12_isImage (by decide +kernel) dX12_layer_2 rfl (Nat.le_of_ble_eq_true rfl) (ACi.mono (fun v2 σ1 h => ?_) h)
  refine aw_if_ne (tgt := 10) dX12_layer_5 (by decide) (fun hc => ?_) (fun hc => ?_)
  · replace h := h.1 hc
    refine aw_aload_n dX12_layer_10 rfl rfl ?_
    obtain ⟨h0, h⟩ := h
    refine aw_getA' rfl fk_1202 (by decide) lf_X12_17 dX12_layer_11 h0 ?_
    refine aw_iload_n dX12_layer_14 rfl rfl ?_
    obtain ⟨⟨h0, h1⟩, h⟩ := h
    refine aw_iaload (by decide) rfl dX12_layer_15 h0 h1 ?_
    refine aw_iconst (x := 4) dX12_layer_16 rfl ?_
    refine aw_icmp_ne (tgt := 23) dX12_layer_17 (by decide) (fun hc => ?_) (fun hc => ?_)
    · replace h := h.1 hc
      refine aw_iconst (x := 0) dX12_layer_23 rfl ?_
      refine aw_istore_n dX12_layer_24 rfl (by decide) rfl ?_
      exact aw_fgt (L' := [some (vR 12 (some x0)), some (vI x1), some (vI 0)]) ⟨rfl, ⟨rfl, ⟨rfl, trivial⟩⟩⟩ h
    · replace h := h.2 hc
      refine aw_bipush (x := (-2)) dX12_layer_20 rfl ?_
      exact aw_ireturn dX12_layer_22 rfl h
  · replace h := h.2 hc
    refine aw_iconst (x := (-1)) dX12_layer_8 rfl ?_
    exact aw_ireturn dX12_layer_9 rfl h
set_option maxRecDepth 4000 in
theorem bk_X12_layer_25 {g : GP} {l : Launch} {d : Nat} {σ : St} {Q : Option AV → St → Prop} {x0 : Nat} {x1 : Int} {x2 : Int}
    (h : ((2000 ≤ x2 → gL σ 1205 x0 ≠ 0 ∧ gL σ 1202 x0 ≠ 0 ∧ ((0 : Int) ≤ x1 ∧ x1 < (gL σ 1202 x0 : Int)) ∧ ((0 : Int) ≤ (w32 ((w32 (4 * x1)) + (gI σ 1202 x0 x1.toNat))) ∧ (w32 ((w32 (4 * x1)) + (gI σ 1202 x0 x1.toNat))) < (gL σ 1205 x0 : Int)) ∧ gL (sI σ 1205 x0 (w32 ((w32 (4 * x1)) + (gI σ 1202 x0 x1.toNat))).toNat 0) 1202 x0 ≠ 0 ∧ ((0 : Int) ≤ x1 ∧ x1 < (gL (sI σ 1205 x0 (w32 ((w32 (4 * x1)) + (gI σ 1202 x0 x1.toNat))).toNat 0) 1202 x0 : Int)) ∧ ((0 : Int) ≤ x1 ∧ x1 < (gL (sI σ 1205 x0 (w32 ((w32 (4 * x1)) + (gI σ 1202 x0 x1.toNat))).toNat 0) 1202 x0 : Int)) ∧ gL (sI (sI σ 1205 x0 (w32 ((w32 (4 * x1)) + (gI σ 1202 x0 x1.toNat))).toNat 0) 1202 x0 x1.toNat (w32 ((gI (sI σ 1205 x0 (w32 ((w32 (4 * x1)) + (gI σ 1202 x0 x1.toNat))).toNat 0) 1202 x0 x1.toNat) + 1))) 1202 x0 ≠ 0 ∧ ((0 : Int) ≤ x1 ∧ x1 < (gL (sI (sI σ 1205 x0 (w32 ((w32 (4 * x1)) + (gI σ 1202 x0 x1.toNat))).toNat 0) 1202 x0 x1.toNat (w32 ((gI (sI σ 1205 x0 (w32 ((w32 (4 * x1)) + (gI σ 1202 x0 x1.toNat))).toNat 0) 1202 x0 x1.toNat) + 1))) 1202 x0 : Int)) ∧ Q (some (vI (gI (sI (sI σ 1205 x0 (w32 ((w32 (4 * x1)) + (gI σ 1202 x0 x1.toNat))).toNat 0) 1202 x0 x1.toNat (w32 ((gI (sI σ 1205 x0 (w32 ((w32 (4 * x1)) + (gI σ 1202 x0 x1.toNat))).toNat 0) 1202 x0 x1.toNat) + 1))) 1202 x0 x1.toNat))) (sI (sI σ 1205 x0 (w32 ((w32 (4 * x1)) + (gI σ 1202 x0 x1.toNat))).toNat 0) 1202 x0 x1.toNat (w32 ((gI (sI σ 1205 x0 (w32 ((w32 (4 * x1)) + (gI σ 1202 x0 x1.toNat))).toNat 0) 1202 x0 x1.toNat) + 1)))) ∧ (¬ 2000 ≤ x2 → gL σ 1204 x0 ≠ 0 ∧ gL σ 1202 x0 ≠ 0 ∧ ((0 : Int) ≤ x1 ∧ x1 < (gL σ 1202 x0 : Int)) ∧ ACi g l d MX12_cell [vR 12 (some x0), vI x1, vI (gI σ 1202 x0 x1.toNat), vI x2] σ (fun v2 σ1 => ((0 : Int) ≤ v2 ∧ v2 < (gL σ1 1204 x0 : Int)) ∧ AW g l (d + 1) MX12_layer 25 [some (vR 12 (some x0)), some (vI x1), some (vI (w32 (x2 + 1)))] [] (sI σ1 1204 x0 v2.toNat (-1)) Q)))) :
    AW g l (d + 1) MX12_layer 25 [some (vR 12 (some x0)), some (vI x1), some (vI x2)] [] σ Q := by
  refine aw_iload_n dX12_layer_25 rfl rfl ?_
  refine aw_sipush (x := 2000) dX12_layer_26 rfl ?_
  refine aw_icmp_ge (tgt := 56) dX12_layer_29 (by decide) (fun hc => ?_) (fun hc => ?_)
  · replace h := h.1 hc
    refine aw_aload_n dX12_layer_56 rfl rfl ?_
    obtain ⟨h0, h⟩ := h
    refine aw_getA' rfl fk_1205 (by decide) lf_X12_27 dX12_layer_57 h0 ?_
    refine aw_iconst (x := 4) dX12_layer_60 rfl ?_
    refine aw_iload_n dX12_layer_61 rfl rfl ?_
    refine aw_imul dX12_layer_62 ?_
    refine aw_aload_n dX12_layer_63 rfl rfl ?_
    obtain ⟨h0, h⟩ := h
    refine aw_getA' rfl fk_1202 (by decide) lf_X12_17 dX12_layer_64 h0 ?_
    refine aw_iload_n dX12_layer_67 rfl rfl ?_
    obtain ⟨⟨h0, h1⟩, h⟩ := h
    refine aw_iaload (by decide) rfl dX12_layer_68 h0 h1 ?_
    refine aw_iadd dX12_layer_69 ?_
    refine aw_iconst (x := 0) dX12_layer_70 rfl ?_
    obtain ⟨⟨h0, h1⟩, h⟩ := h
    refine aw_iastore (by decide) rfl dX12_layer_71 h0 h1 ?_
    refine aw_aload_n dX12_layer_72 rfl rfl ?_
    obtain ⟨h0, h⟩ := h
    refine aw_getA' rfl fk_1202 (by decide) lf_X12_17 dX12_layer_73 h0 ?_
    refine aw_iload_n dX12_layer_76 rfl rfl ?_
    refine aw_dup2 dX12_layer_77 rfl rfl ?_
    obtain ⟨⟨h0, h1⟩, h⟩ := h
    refine aw_iaload (by decide) rfl dX12_layer_78 h0 h1 ?_
    refine aw_iconst (x := 1) dX12_layer_79 rfl ?_
    refine aw_iadd dX12_layer_80 ?_
    obtain ⟨⟨h0, h1⟩, h⟩ := h
    refine aw_iastore (by decide) rfl dX12_layer_81 h0 h1 ?_
    refine aw_aload_n dX12_layer_82 rfl rfl ?_
    obtain ⟨h0, h⟩ := h
    refine aw_getA' rfl fk_1202 (by decide) lf_X12_17 dX12_layer_83 h0 ?_
    refine aw_iload_n dX12_layer_86 rfl rfl ?_
    obtain ⟨⟨h0, h1⟩, h⟩ := h
    refine aw_iaload (by decide) rfl dX12_layer_87 h0 h1 ?_
    exact aw_ireturn dX12_layer_88 rfl h
  · replace h := h.2 hc
    refine aw_aload_n dX12_layer_32 rfl rfl ?_
    obtain ⟨h0, h⟩ := h
    refine aw_getA' rfl fk_1204 (by decide) lf_X12_24 dX12_layer_33 h0 ?_
    refine aw_aload_n dX12_layer_36 rfl rfl ?_
    refine aw_iload_n dX12_layer_37 rfl rfl ?_
    refine aw_aload_n dX12_layer_38 rfl rfl ?_
    obtain ⟨h0, h⟩ := h
    refine aw_getA' rfl fk_1202 (by decide) lf_X12_17 dX12_layer_39 h0 ?_
    refine aw_iload_n dX12_layer_42 rfl rfl ?_
    obtain ⟨⟨h0, h1⟩, h⟩ := h
    refine aw_iaload (by decide) rfl dX12_layer_43 h0 h1 ?_
    refine aw_iload_n dX12_layer_44 rfl rfl ?_
    refine aw_invVi (M := MX12_layer) (ci := 12) [vI x1, vI (gI σ 1202 x0 x1.toNat), vI x2] rfl mo_X12_cell rfl lm_X12_289 li_X12_cell ls_X12_cell (by decide +kernel) dX12_layer_45 rfl (Nat.le_of_ble_eq_true rfl) (ACi.mono (fun v2 σ1 h => ?_) h)
    refine aw_iconst (x := (-1)) dX12_layer_48 rfl ?_
    obtain ⟨⟨h0, h1⟩, h⟩ := h
    refine aw_iastore (by decide) rfl dX12_layer_49 h0 h1 ?_
    refine aw_iinc dX12_layer_50 rfl (by decide) rfl rfl ?_
    refine aw_goto (tgt := 25) dX12_layer_53 (by decide) ?_
    exact aw_fgt (L' := [some (vR 12 (some x0)), some (vI x1), some (vI (w32 (x2 + 1)))]) ⟨rfl, ⟨rfl, ⟨rfl, trivial⟩⟩⟩ h
set_option maxRecDepth 4000 in
theorem bk_X12_length_0 {g : GP} {l : Launch} {d : Nat} {σ : St} {Q : Option AV → St → Prop} {x0 : Nat} {x1 : Int}
    (h : ACi g l d MX12_isImage [vR 12 (some x0), vI x1] σ (fun v2 σ1 => ((v2 = 0 → Q (some (vI (-1))) σ1) ∧ (¬ v2 = 0 → gL σ1 1201 x0 ≠ 0 ∧ ((0 : Int) ≤ x1 ∧ x1 < (gL σ1 1201 x0 : Int)) ∧ Q (some (vI (gI σ1 1201 x0 x1.toNat))) σ1)))) :
    AW g l (d + 1) MX12_length 0 [some (vR 12 (some x0)), some (vI x1)] [] σ Q := by
  refine aw_aload_n dX12_length_0 rfl rfl ?_
  refine aw_iload_n dX12_length_1 rfl rfl ?_
  refine aw_invVi (M := MX12_length) (ci := 12) [vI x1] rfl mo_X12_isImage rfl lm_X12_293 li_X12_isImage ls_X12_isImage (by decide +kernel) dX12_length_2 rfl (Nat.le_of_ble_eq_true rfl) (ACi.mono (fun v2 σ1 h => ?_) h)
  refine aw_if_eq (tgt := 17) dX12_length_5 (by decide) (fun hc => ?_) (fun hc => ?_)
  · replace h := h.1 hc
    refine aw_iconst (x := (-1)) dX12_length_17 rfl ?_
    exact aw_ireturn dX12_length_18 rfl h
  · replace h := h.2 hc
    refine aw_aload_n dX12_length_8 rfl rfl ?_
    obtain ⟨h0, h⟩ := h
    refine aw_getA' rfl fk_1201 (by decide) lf_X12_13 dX12_length_9 h0 ?_
    refine aw_iload_n dX12_length_12 rfl rfl ?_
    obtain ⟨⟨h0, h1⟩, h⟩ := h
    refine aw_iaload (by decide) rfl dX12_length_13 h0 h1 ?_
    refine aw_goto (tgt := 18) dX12_length_14 (by decide) ?_
    exact aw_ireturn dX12_length_18 rfl h
set_option maxRecDepth 4000 in
theorem bk_X12_letter_0 {g : GP} {l : Launch} {d : Nat} {σ : St} {Q : Option AV → St → Prop} {x1 : Int}
    (h : ((x1 < 97 → Q (some (vI 0)) σ) ∧ (¬ x1 < 97 → ((122 < x1 → Q (some (vI 0)) σ) ∧ (¬ 122 < x1 → Q (some (vI 1)) σ))))) :
    AW g l d MX12_letter 0 [none, some (vI x1)] [] σ Q := by
  refine aw_iload_n dX12_letter_0 rfl rfl ?_
  refine aw_bipush (x := 97) dX12_letter_1 rfl ?_
  refine aw_icmp_lt (tgt := 16) dX12_letter_3 (by decide) (fun hc => ?_) (fun hc => ?_)
  · replace h := h.1 hc
    refine aw_iconst (x := 0) dX12_letter_16 rfl ?_
    exact aw_zreturn dX12_letter_17 rfl (Or.inl rfl) h
  · replace h := h.2 hc
    refine aw_iload_n dX12_letter_6 rfl rfl ?_
    refine aw_bipush (x := 122) dX12_letter_7 rfl ?_
    refine aw_icmp_gt (tgt := 16) dX12_letter_9 (by decide) (fun hc => ?_) (fun hc => ?_)
    · replace h := h.1 hc
      refine aw_iconst (x := 0) dX12_letter_16 rfl ?_
      exact aw_zreturn dX12_letter_17 rfl (Or.inl rfl) h
    · replace h := h.2 hc
      refine aw_iconst (x := 1) dX12_letter_12 rfl ?_
      refine aw_goto (tgt := 17) dX12_letter_13 (by decide) ?_
      exact aw_zreturn dX12_letter_17 rfl (Or.inr rfl) h
set_option maxRecDepth 4000 in
theorem bk_X12_letter__0 {g : GP} {l : Launch} {d : Nat} {σ : St} {Q : Option AV → St → Prop} {x0 : Nat} {x1 : Int} {x2 : Int} {x3 : Int} {x4 : Int}
    (h : ACi g l d MX12_isNode [vR 12 (some x0), vI x1, vI x2] σ (fun v2 σ1 => ((¬ v2 = 0 → ((¬ x3 = 0 → AW g l (d + 1) MX12_letter_ 34 [some (vR 12 (some x0)), none, none, some (vI x3), some (vI x4), some (vI (w32 ((w32 (400 * x1)) + x2))), none, none, none, none, none] [vJ 0] σ1 Q) ∧ (x3 = 0 → ACj g l d MX12_nameOf [vR 12 (some x0), vI (w32 ((w32 (400 * x1)) + x2))] σ1 (fun v4 σ3 => AW g l (d + 1) MX12_letter_ 34 [some (vR 12 (some x0)), none, none, some (vI x3), some (vI x4), some (vI (w32 ((w32 (400 * x1)) + x2))), none, none, none, none, none] [vJ v4] σ3 Q)))) ∧ (v2 = 0 → Q (some (vI (-1))) σ1)))) :
    AW g l (d + 1) MX12_letter_ 0 [some (vR 12 (some x0)), some (vI x1), some (vI x2), some (vI x3), some (vI x4), none, none, none, none, none, none] [] σ Q := by
  refine aw_aload_n dX12_letter__0 rfl rfl ?_
  refine aw_iload_n dX12_letter__1 rfl rfl ?_
  refine aw_iload_n dX12_letter__2 rfl rfl ?_
  refine aw_invVi (M := MX12_letter_) (ci := 12) [vI x1, vI x2] rfl mo_X12_isNode rfl lm_X12_688 li_X12_isNode ls_X12_isNode (by decide +kernel) dX12_letter__3 rfl (Nat.le_of_ble_eq_true rfl) (ACi.mono (fun v2 σ1 h => ?_) h)
  refine aw_if_ne (tgt := 11) dX12_letter__6 (by decide) (fun hc => ?_) (fun hc => ?_)
  · replace h := h.1 hc
    refine aw_sipush (x := 400) dX12_letter__11 rfl ?_
    refine aw_iload_n dX12_letter__14 rfl rfl ?_
    refine aw_imul dX12_letter__15 ?_
    refine aw_iload_n dX12_letter__16 rfl rfl ?_
    refine aw_iadd dX12_letter__17 ?_
    refine aw_istore dX12_letter__18 (by decide) rfl ?_
    refine aw_iload_n dX12_letter__20 rfl rfl ?_
    refine aw_if_ne (tgt := 33) dX12_letter__21 (by decide) (fun hc => ?_) (fun hc => ?_)
    · replace h := h.1 hc
      refine aw_lconst (x := 0) dX12_letter__33 rfl ?_
      exact aw_fgt (L' := [some (vR 12 (some x0)), none, none, some (vI x3), some (vI x4), some (vI (w32 ((w32 (400 * x1)) + x2))), none, none, none, none, none]) ⟨rfl, ⟨rfl, ⟨rfl, ⟨rfl, trivial⟩⟩⟩⟩ h
    · replace h := h.2 hc
      refine aw_aload_n dX12_letter__24 rfl rfl ?_
      refine aw_iload dX12_letter__25 rfl ?_
      refine aw_invVj (M := MX12_letter_) (ci := 12) [vI (w32 ((w32 (400 * x1)) + x2))] rfl mo_X12_nameOf rfl lm_X12_698 li_X12_nameOf ls_X12_nameOf (by decide +kernel) dX12_letter__27 rfl (Nat.le_of_ble_eq_true rfl) (ACj.mono (fun v4 σ3 h => ?_) h)
      refine aw_goto (tgt := 34) dX12_letter__30 (by decide) ?_
      exact aw_fgt (L' := [some (vR 12 (some x0)), none, none, some (vI x3), some (vI x4), some (vI (w32 ((w32 (400 * x1)) + x2))), none, none, none, none, none]) ⟨rfl, ⟨rfl, ⟨rfl, ⟨rfl, trivial⟩⟩⟩⟩ h
  · replace h := h.2 hc
    refine aw_iconst (x := (-1)) dX12_letter__9 rfl ?_
    exact aw_ireturn dX12_letter__10 rfl h
set_option maxRecDepth 4000 in
theorem bk_X12_letter__34 {g : GP} {l : Launch} {d : Nat} {σ : St} {Q : Option AV → St → Prop} {x0 : Nat} {x3 : Int} {x4 : Int} {x5 : Int} {y0 : Int64}
    (h : ((¬ x3 = 1 → AW g l (d + 1) MX12_letter_ 122 [none, none, none, none, some (vI x4), none, some (vJ y0), none, some (vI 0), some (vJ y0), none] [] σ Q) ∧ (x3 = 1 → gL σ 1267 x0 ≠ 0 ∧ ((0 : Int) ≤ x5 ∧ x5 < (gL σ 1267 x0 : Int)) ∧ ((¬ (gI σ 1267 x0 x5.toNat) = 1 → AW g l (d + 1) MX12_letter_ 122 [none, none, none, none, some (vI x4), none, some (vJ y0), none, some (vI 0), some (vJ y0), none] [] σ Q) ∧ ((gI σ 1267 x0 x5.toNat) = 1 → gL σ 1228 x0 ≠ 0 ∧ gL σ 1274 x0 ≠ 0 ∧ ((0 : Int) ≤ x5 ∧ x5 < (gL σ 1274 x0 : Int)) ∧ ((0 : Int) ≤ (gI σ 1274 x0 x5.toNat) ∧ (gI σ 1274 x0 x5.toNat) < (gL σ 1228 x0 : Int)) ∧ ((¬ (gI σ 1228 x0 (gI σ 1274 x0 x5.toNat).toNat) = 0 → AW g l (d + 1) MX12_letter_ 122 [none, none, none, none, some (vI x4), none, some (vJ y0), none, some (vI 0), some (vJ y0), none] [] σ Q) ∧ ((gI σ 1228 x0 (gI σ 1274 x0 x5.toNat).toNat) = 0 → gL σ 1230 x0 ≠ 0 ∧ gL σ 1274 x0 ≠ 0 ∧ ((0 : Int) ≤ x5 ∧ x5 < (gL σ 1274 x0 : Int)) ∧ ((0 : Int) ≤ (gI σ 1274 x0 x5.toNat) ∧ (gI σ 1274 x0 x5.toNat) < (gL σ 1230 x0 : Int)) ∧ (((gI σ 1230 x0 (gI σ 1274 x0 x5.toNat).toNat) < 0 → AW g l (d + 1) MX12_letter_ 122 [none, none, none, none, some (vI x4), none, some (vJ y0), none, some (vI 0), some (vJ y0), none] [] σ Q) ∧ (¬ (gI σ 1230 x0 (gI σ 1274 x0 x5.toNat).toNat) < 0 → gL σ 1274 x0 ≠ 0 ∧ ((0 : Int) ≤ x5 ∧ x5 < (gL σ 1274 x0 : Int)) ∧ ACi g l d MX12_paired [vR 12 (some x0), vI x5, vI (gI σ 1274 x0 x5.toNat)] σ (fun v2 σ1 => ((0 ≤ v2 → gL σ1 1226 x0 ≠ 0 ∧ ((0 : Int) ≤ v2 ∧ v2 < (gL σ1 1226 x0 : Int)) ∧ AW g l (d + 1) MX12_letter_ 113 [none, none, none, none, some (vI x4), none, none, none, none, none, none] [vJ (gJ σ1 1226 x0 v2.toNat)] σ1 Q) ∧ (¬ 0 ≤ v2 → AW g l (d + 1) MX12_letter_ 113 [none, none, none, none, some (vI x4), none, none, none, none, none, none] [vJ 0] σ1 Q)))))))))))) :
    AW g l (d + 1) MX12_letter_ 34 [some (vR 12 (some x0)), none, none, some (vI x3), some (vI x4), some (vI x5), none, none, none, none, none] [vJ y0] σ Q := by
  refine aw_lstore dX12_letter__34 (by decide) rfl ?_
  refine aw_iload_n dX12_letter__36 rfl rfl ?_
  refine aw_iconst (x := 1) dX12_letter__37 rfl ?_
  refine aw_icmp_ne (tgt := 115) dX12_letter__38 (by decide) (fun hc => ?_) (fun hc => ?_)
  · replace h := h.1 hc
    refine aw_iconst (x := 0) dX12_letter__115 rfl ?_
    refine aw_istore dX12_letter__116 (by decide) rfl ?_
    refine aw_lload dX12_letter__118 rfl ?_
    refine aw_lstore dX12_letter__120 (by decide) rfl ?_
    exact aw_fgt (L' := [none, none, none, none, some (vI x4), none, some (vJ y0), none, some (vI 0), some (vJ y0), none]) ⟨rfl, ⟨rfl, ⟨rfl, ⟨rfl, trivial⟩⟩⟩⟩ h
  · replace h := h.2 hc
    refine aw_aload_n dX12_letter__41 rfl rfl ?_
    obtain ⟨h0, h⟩ := h
    refine aw_getA' rfl fk_1267 (by decide) lf_X12_217 dX12_letter__42 h0 ?_
    refine aw_iload dX12_letter__45 rfl ?_
    obtain ⟨⟨h0, h1⟩, h⟩ := h
    refine aw_iaload (by decide) rfl dX12_letter__47 h0 h1 ?_
    refine aw_iconst (x := 1) dX12_letter__48 rfl ?_
    refine aw_icmp_ne (tgt := 115) dX12_letter__49 (by decide) (fun hc => ?_) (fun hc => ?_)
    · replace h := h.1 hc
      refine aw_iconst (x := 0) dX12_letter__115 rfl ?_
      refine aw_istore dX12_letter__116 (by decide) rfl ?_
      refine aw_lload dX12_letter__118 rfl ?_
      refine aw_lstore dX12_letter__120 (by decide) rfl ?_
      exact aw_fgt (L' := [none, none, none, none, some (vI x4), none, some (vJ y0), none, some (vI 0), some (vJ y0), none]) ⟨rfl, ⟨rfl, ⟨rfl, ⟨rfl, trivial⟩⟩⟩⟩ h
    · replace h := h.2 hc
      refine aw_aload_n dX12_letter__52 rfl rfl ?_
      obtain ⟨h0, h⟩ := h
      refine aw_getA' rfl fk_1228 (by decide) lf_X12_98 dX12_letter__53 h0 ?_
      refine aw_aload_n dX12_letter__56 rfl rfl ?_
      obtain ⟨h0, h⟩ := h
      refine aw_getA' rfl fk_1274 (by decide) lf_X12_238 dX12_letter__57 h0 ?_
      refine aw_iload dX12_letter__60 rfl ?_
      obtain ⟨⟨h0, h1⟩, h⟩ := h
      refine aw_iaload (by decide) rfl dX12_letter__62 h0 h1 ?_
      obtain ⟨⟨h0, h1⟩, h⟩ := h
      refine aw_iaload (by decide) rfl dX12_letter__63 h0 h1 ?_
      refine aw_if_ne (tgt := 115) dX12_letter__64 (by decide) (fun hc => ?_) (fun hc => ?_)
      · replace h := h.1 hc
        refine aw_iconst (x := 0) dX12_letter__115 rfl ?_
        refine aw_istore dX12_letter__116 (by decide) rfl ?_
        refine aw_lload dX12_letter__118 rfl ?_
        refine aw_lstore dX12_letter__120 (by decide) rfl ?_
        exact aw_fgt (L' := [none, none, none, none, some (vI x4), none, some (vJ y0), none, some (vI 0), some (vJ y0), none]) ⟨rfl, ⟨rfl, ⟨rfl, ⟨rfl, trivial⟩⟩⟩⟩ h
      · replace h := h.2 hc
        refine aw_aload_n dX12_letter__67 rfl rfl ?_
        obtain ⟨h0, h⟩ := h
        refine aw_getA' rfl fk_1230 (by decide) lf_X12_104 dX12_letter__68 h0 ?_
        refine aw_aload_n dX12_letter__71 rfl rfl ?_
        obtain ⟨h0, h⟩ := h
        refine aw_getA' rfl fk_1274 (by decide) lf_X12_238 dX12_letter__72 h0 ?_
        refine aw_iload dX12_letter__75 rfl ?_
        obtain ⟨⟨h0, h1⟩, h⟩ := h
        refine aw_iaload (by decide) rfl dX12_letter__77 h0 h1 ?_
        obtain ⟨⟨h0, h1⟩, h⟩ := h
        refine aw_iaload (by decide) rfl dX12_letter__78 h0 h1 ?_
        refine aw_if_lt (tgt := 115) dX12_letter__79 (by decide) (fun hc => ?_) (fun hc => ?_)
        · replace h := h.1 hc
          refine aw_iconst (x := 0) dX12_letter__115 rfl ?_
          refine aw_istore dX12_letter__116 (by decide) rfl ?_
          refine aw_lload dX12_letter__118 rfl ?_
          refine aw_lstore dX12_letter__120 (by decide) rfl ?_
          exact aw_fgt (L' := [none, none, none, none, some (vI x4), none, some (vJ y0), none, some (vI 0), some (vJ y0), none]) ⟨rfl, ⟨rfl, ⟨rfl, ⟨rfl, trivial⟩⟩⟩⟩ h
        · replace h := h.2 hc
          refine aw_aload_n dX12_letter__82 rfl rfl ?_
          refine aw_iload dX12_letter__83 rfl ?_
          refine aw_aload_n dX12_letter__85 rfl rfl ?_
          obtain ⟨h0, h⟩ := h
          refine aw_getA' rfl fk_1274 (by decide) lf_X12_238 dX12_letter__86 h0 ?_
          refine aw_iload dX12_letter__89 rfl ?_
          obtain ⟨⟨h0, h1⟩, h⟩ := h
          refine aw_iaload (by decide) rfl dX12_letter__91 h0 h1 ?_
          refine aw_invVi (M := MX12_letter_) (ci := 12) [vI x5, vI (gI σ 1274 x0 x5.toNat)] rfl mo_X12_paired rfl lm_X12_640 li_X12_paired ls_X12_paired (by decide +kernel) dX12_letter__92 rfl (Nat.le_of_ble_eq_true rfl) (ACi.mono (fun v2 σ1 h => ?_) h)
          refine aw_istore dX12_letter__95 (by decide) rfl ?_
          refine aw_iload dX12_letter__97 rfl ?_
          refine aw_if_ge (tgt := 106) dX12_letter__99 (by decide) (fun hc => ?_) (fun hc => ?_)
          · replace h := h.1 hc
            refine aw_aload_n dX12_letter__106 rfl rfl ?_
            obtain ⟨h0, h⟩ := h
            refine aw_getA' rfl fk_1226 (by decide) lf_X12_92 dX12_letter__107 h0 ?_
            refine aw_iload dX12_letter__110 rfl ?_
            obtain ⟨⟨h0, h1⟩, h⟩ := h
            refine aw_laload (by decide) rfl dX12_letter__112 h0 h1 ?_
            exact aw_fgt (L' := [none, none, none, none, some (vI x4), none, none, none, none, none, none]) ⟨rfl, trivial⟩ h
          · replace h := h.2 hc
            refine aw_lconst (x := 0) dX12_letter__102 rfl ?_
            refine aw_goto (tgt := 113) dX12_letter__103 (by decide) ?_
            exact aw_fgt (L' := [none, none, none, none, some (vI x4), none, none, none, none, none, none]) ⟨rfl, trivial⟩ h
set_option maxRecDepth 4000 in
theorem bk_X12_letter__113 {g : GP} {l : Launch} {d : Nat} {σ : St} {Q : Option AV → St → Prop} {x4 : Int} {y0 : Int64}
    (h : AW g l (d + 1) MX12_letter_ 122 [none, none, none, none, some (vI x4), none, some (vJ y0), none, some (vI 0), some (vJ y0), none] [] σ Q) :
    AW g l (d + 1) MX12_letter_ 113 [none, none, none, none, some (vI x4), none, none, none, none, none, none] [vJ y0] σ Q := by
  refine aw_lstore dX12_letter__113 (by decide) rfl ?_
  refine aw_iconst (x := 0) dX12_letter__115 rfl ?_
  refine aw_istore dX12_letter__116 (by decide) rfl ?_
  refine aw_lload dX12_letter__118 rfl ?_
  refine aw_lstore dX12_letter__120 (by decide) rfl ?_
  exact aw_fgt (L' := [none, none, none, none, some (vI x4), none, some (vJ y0), none, some (vI 0), some (vJ y0), none]) ⟨rfl, ⟨rfl, ⟨rfl, ⟨rfl, trivial⟩⟩⟩⟩ h
set_option maxRecDepth 4000 in
theorem bk_X12_letter__122 {g : GP} {l : Launch} {d : Nat} {σ : St} {Q : Option AV → St → Prop} {x4 : Int} {x6 : Int64} {x8 : Int} {x9 : Int64}
    (h : ((x9 = (0 : Int64) → ((x4 < 0 → Q (some (vI (-1))) σ) ∧ (¬ x4 < 0 → ((x4 < x8 → Q (some (vI (j2i ((j_ushr x6 (w32 (8 * (w32 ((w32 (x8 - 1)) - x4))))) &&& (255 : Int64))))) σ) ∧ (¬ x4 < x8 → Q (some (vI (-1))) σ))))) ∧ (¬ x9 = (0 : Int64) → AW g l (d + 1) MX12_letter_ 122 [none, none, none, none, some (vI x4), none, some (vJ x6), none, some (vI (w32 (x8 + 1))), some (vJ (j_ushr x9 8)), none] [] σ Q))) :
    AW g l (d + 1) MX12_letter_ 122 [none, none, none, none, some (vI x4), none, some (vJ x6), none, some (vI x8), some (vJ x9), none] [] σ Q := by
  refine aw_lload dX12_letter__122 rfl ?_
  refine aw_lconst (x := 0) dX12_letter__124 rfl ?_
  refine aw_lcmp_eq (M := MX12_letter_) (tgt := 142) dX12_letter__125 dX12_letter__126 (by decide) (fun hc => ?_) (fun hc => ?_)
  · replace h := h.1 hc
    refine aw_iload dX12_letter__142 rfl ?_
    refine aw_if_lt (tgt := 154) dX12_letter__144 (by decide) (fun hc => ?_) (fun hc => ?_)
    · replace h := h.1 hc
      refine aw_iconst (x := (-1)) dX12_letter__154 rfl ?_
      refine aw_goto (tgt := 176) dX12_letter__155 (by decide) ?_
      exact aw_ireturn dX12_letter__176 rfl h
    · replace h := h.2 hc
      refine aw_iload dX12_letter__147 rfl ?_
      refine aw_iload dX12_letter__149 rfl ?_
      refine aw_icmp_lt (tgt := 158) dX12_letter__151 (by decide) (fun hc => ?_) (fun hc => ?_)
      · replace h := h.1 hc
        refine aw_lload dX12_letter__158 rfl ?_
        refine aw_bipush (x := 8) dX12_letter__160 rfl ?_
        refine aw_iload dX12_letter__162 rfl ?_
        refine aw_iconst (x := 1) dX12_letter__164 rfl ?_
        refine aw_isub dX12_letter__165 ?_
        refine aw_iload dX12_letter__166 rfl ?_
        refine aw_isub dX12_letter__168 ?_
        refine aw_imul dX12_letter__169 ?_
        refine aw_lushr dX12_letter__170 ?_
        refine aw_ldc2 lk_X12_297 dX12_letter__171 ?_
        refine aw_land dX12_letter__174 ?_
        refine aw_l2i dX12_letter__175 ?_
        exact aw_ireturn dX12_letter__176 rfl h
      · replace h := h.2 hc
        refine aw_iconst (x := (-1)) dX12_letter__154 rfl ?_
        refine aw_goto (tgt := 176) dX12_letter__155 (by decide) ?_
        exact aw_ireturn dX12_letter__176 rfl h
  · replace h := h.2 hc
    refine aw_iinc dX12_letter__129 rfl (by decide) rfl rfl ?_
    refine aw_lload dX12_letter__132 rfl ?_
    refine aw_bipush (x := 8) dX12_letter__134 rfl ?_
    refine aw_lushr dX12_letter__136 ?_
    refine aw_lstore dX12_letter__137 (by decide) rfl ?_
    refine aw_goto (tgt := 122) dX12_letter__139 (by decide) ?_
    exact aw_fgt (L' := [none, none, none, none, some (vI x4), none, some (vJ x6), none, some (vI (w32 (x8 + 1))), some (vJ (j_ushr x9 8)), none]) ⟨rfl, ⟨rfl, ⟨rfl, ⟨rfl, trivial⟩⟩⟩⟩ h
set_option maxRecDepth 4000 in
theorem bk_X12_lookedUp_0 {g : GP} {l : Launch} {d : Nat} {σ : St} {Q : Option AV → St → Prop} {x0 : Nat}
    (h : AW g l (d + 1) MX12_lookedUp 2 [some (vR 12 (some x0)), some (vI 0), none, none] [] σ Q) :
    AW g l (d + 1) MX12_lookedUp 0 [some (vR 12 (some x0)), none, none, none] [] σ Q := by
  refine aw_iconst (x := 0) dX12_lookedUp_0 rfl ?_
  refine aw_istore_n dX12_lookedUp_1 rfl (by decide) rfl ?_
  exact aw_fgt (L' := [some (vR 12 (some x0)), some (vI 0), none, none]) ⟨rfl, ⟨rfl, trivial⟩⟩ h
set_option maxRecDepth 4000 in
theorem bk_X12_lookedUp_2 {g : GP} {l : Launch} {d : Nat} {σ : St} {Q : Option AV → St → Prop} {x0 : Nat} {x1 : Int}
    (h : (((gI σ 1257 x0 0) ≤ x1 → Q (some (vI (-1))) σ) ∧ (¬ (gI σ 1257 x0 0) ≤ x1 → ACi g l d MX12_field [vR 12 (some x0), vI (gI σ 1254 x0 0), vI x1] σ (fun v2 σ1 => gL σ1 1228 x0 ≠ 0 ∧ ((0 : Int) ≤ v2 ∧ v2 < (gL σ1 1228 x0 : Int)) ∧ (((gI σ1 1228 x0 v2.toNat) = 0 → AW g l (d + 1) MX12_lookedUp 51 [some (vR 12 (some x0)), some (vI x1), some (vI v2), none] [] σ1 Q) ∧ (¬ (gI σ1 1228 x0 v2.toNat) = 0 → gL σ1 1228 x0 ≠ 0 ∧ ((0 : Int) ≤ v2 ∧ v2 < (gL σ1 1228 x0 : Int)) ∧ (((gI σ1 1228 x0 v2.toNat) = 11 → AW g l (d + 1) MX12_lookedUp 51 [some (vR 12 (some x0)), some (vI x1), some (vI v2), none] [] σ1 Q) ∧ (¬ (gI σ1 1228 x0 v2.toNat) = 11 → gL σ1 1228 x0 ≠ 0 ∧ ((0 : Int) ≤ v2 ∧ v2 < (gL σ1 1228 x0 : Int)) ∧ ((¬ (gI σ1 1228 x0 v2.toNat) = 8 → AW g l (d + 1) MX12_lookedUp 72 [some (vR 12 (some x0)), some (vI x1), some (vI v2), some (vI 0)] [] σ1 Q) ∧ ((gI σ1 1228 x0 v2.toNat) = 8 → AW g l (d + 1) MX12_lookedUp 51 [some (vR 12 (some x0)), some (vI x1), some (vI v2), none] [] σ1 Q)))))))))) :
    AW g l (d + 1) MX12_lookedUp 2 [some (vR 12 (some x0)), some (vI x1), none, none] [] σ Q := by
  refine aw_iload_n dX12_lookedUp_2 rfl rfl ?_
  refine aw_aload_n dX12_lookedUp_3 rfl rfl ?_
  refine aw_getI' rfl fk_1257 lf_X12_186 dX12_lookedUp_4 ?_
  refine aw_icmp_ge (tgt := 132) dX12_lookedUp_7 (by decide) (fun hc => ?_) (fun hc => ?_)
  · replace h := h.1 hc
    refine aw_iconst (x := (-1)) dX12_lookedUp_132 rfl ?_
    exact aw_ireturn dX12_lookedUp_133 rfl h
  · replace h := h.2 hc
    refine aw_aload_n dX12_lookedUp_10 rfl rfl ?_
    refine aw_aload_n dX12_lookedUp_11 rfl rfl ?_
    refine aw_getI' rfl fk_1254 lf_X12_176 dX12_lookedUp_12 ?_
    refine aw_iload_n dX12_lookedUp_15 rfl rfl ?_
    refine aw_invVi (M := MX12_lookedUp) (ci := 12) [vI (gI σ 1254 x0 0), vI x1] rfl mo_X12_field rfl lm_X12_447 li_X12_field ls_X12_field (by decide +kernel) dX12_lookedUp_16 rfl (Nat.le_of_ble_eq_true rfl) (ACi.mono (fun v2 σ1 h => ?_) h)
    refine aw_istore_n dX12_lookedUp_19 rfl (by decide) rfl ?_
    refine aw_aload_n dX12_lookedUp_20 rfl rfl ?_
    obtain ⟨h0, h⟩ := h
    refine aw_getA' rfl fk_1228 (by decide) lf_X12_98 dX12_lookedUp_21 h0 ?_
    refine aw_iload_n dX12_lookedUp_24 rfl rfl ?_
    obtain ⟨⟨h0, h1⟩, h⟩ := h
    refine aw_iaload (by decide) rfl dX12_lookedUp_25 h0 h1 ?_
    refine aw_if_eq (tgt := 51) dX12_lookedUp_26 (by decide) (fun hc => ?_) (fun hc => ?_)
    · replace h := h.1 hc
      exact aw_fgt (L' := [some (vR 12 (some x0)), some (vI x1), some (vI v2), none]) ⟨rfl, ⟨rfl, ⟨rfl, trivial⟩⟩⟩ h
    · replace h := h.2 hc
      refine aw_aload_n dX12_lookedUp_29 rfl rfl ?_
      obtain ⟨h0, h⟩ := h
      refine aw_getA' rfl fk_1228 (by decide) lf_X12_98 dX12_lookedUp_30 h0 ?_
      refine aw_iload_n dX12_lookedUp_33 rfl rfl ?_
      obtain ⟨⟨h0, h1⟩, h⟩ := h
      refine aw_iaload (by decide) rfl dX12_lookedUp_34 h0 h1 ?_
      refine aw_bipush (x := 11) dX12_lookedUp_35 rfl ?_
      refine aw_icmp_eq (tgt := 51) dX12_lookedUp_37 (by decide) (fun hc => ?_) (fun hc => ?_)
      · replace h := h.1 hc
        exact aw_fgt (L' := [some (vR 12 (some x0)), some (vI x1), some (vI v2), none]) ⟨rfl, ⟨rfl, ⟨rfl, trivial⟩⟩⟩ h
      · replace h := h.2 hc
        refine aw_aload_n dX12_lookedUp_40 rfl rfl ?_
        obtain ⟨h0, h⟩ := h
        refine aw_getA' rfl fk_1228 (by decide) lf_X12_98 dX12_lookedUp_41 h0 ?_
        refine aw_iload_n dX12_lookedUp_44 rfl rfl ?_
        obtain ⟨⟨h0, h1⟩, h⟩ := h
        refine aw_iaload (by decide) rfl dX12_lookedUp_45 h0 h1 ?_
        refine aw_bipush (x := 8) dX12_lookedUp_46 rfl ?_
        refine aw_icmp_ne (tgt := 70) dX12_lookedUp_48 (by decide) (fun hc => ?_) (fun hc => ?_)
        · replace h := h.1 hc
          refine aw_iconst (x := 0) dX12_lookedUp_70 rfl ?_
          refine aw_istore_n dX12_lookedUp_71 rfl (by decide) rfl ?_
          exact aw_fgt (L' := [some (vR 12 (some x0)), some (vI x1), some (vI v2), some (vI 0)]) ⟨rfl, ⟨rfl, ⟨rfl, ⟨rfl, trivial⟩⟩⟩⟩ h
        · replace h := h.2 hc
          exact aw_fgt (L' := [some (vR 12 (some x0)), some (vI x1), some (vI v2), none]) ⟨rfl, ⟨rfl, ⟨rfl, trivial⟩⟩⟩ h
set_option maxRecDepth 4000 in
theorem bk_X12_lookedUp_51 {g : GP} {l : Launch} {d : Nat} {σ : St} {Q : Option AV → St → Prop} {x0 : Nat} {x1 : Int} {x2 : Int}
    (h : gL σ 1238 x0 ≠ 0 ∧ ((0 : Int) ≤ x2 ∧ x2 < (gL σ 1238 x0 : Int)) ∧ ((¬ (gJ σ 1238 x0 x2.toNat) = (gJ σ 1216 x0 0) → AW g l (d + 1) MX12_lookedUp 72 [some (vR 12 (some x0)), some (vI x1), some (vI x2), some (vI 0)] [] σ Q) ∧ ((gJ σ 1238 x0 x2.toNat) = (gJ σ 1216 x0 0) → Q (some (vI (w32 (16 * x1)))) σ))) :
    AW g l (d + 1) MX12_lookedUp 51 [some (vR 12 (some x0)), some (vI x1), some (vI x2), none] [] σ Q := by
  refine aw_aload_n dX12_lookedUp_51 rfl rfl ?_
  obtain ⟨h0, h⟩ := h
  refine aw_getA' rfl fk_1238 (by decide) lf_X12_128 dX12_lookedUp_52 h0 ?_
  refine aw_iload_n dX12_lookedUp_55 rfl rfl ?_
  obtain ⟨⟨h0, h1⟩, h⟩ := h
  refine aw_laload (by decide) rfl dX12_lookedUp_56 h0 h1 ?_
  refine aw_aload_n dX12_lookedUp_57 rfl rfl ?_
  refine aw_getJ' rfl fk_1216 lf_X12_60 dX12_lookedUp_58 ?_
  refine aw_lcmp_ne (M := MX12_lookedUp) (tgt := 70) dX12_lookedUp_61 dX12_lookedUp_62 (by decide) (fun hc => ?_) (fun hc => ?_)
  · replace h := h.1 hc
    refine aw_iconst (x := 0) dX12_lookedUp_70 rfl ?_
    refine aw_istore_n dX12_lookedUp_71 rfl (by decide) rfl ?_
    exact aw_fgt (L' := [some (vR 12 (some x0)), some (vI x1), some (vI x2), some (vI 0)]) ⟨rfl, ⟨rfl, ⟨rfl, ⟨rfl, trivial⟩⟩⟩⟩ h
  · replace h := h.2 hc
    refine aw_bipush (x := 16) dX12_lookedUp_65 rfl ?_
    refine aw_iload_n dX12_lookedUp_67 rfl rfl ?_
    refine aw_imul dX12_lookedUp_68 ?_
    exact aw_ireturn dX12_lookedUp_69 rfl h
set_option maxRecDepth 4000 in
theorem bk_X12_lookedUp_72 {g : GP} {l : Launch} {d : Nat} {σ : St} {Q : Option AV → St → Prop} {x0 : Nat} {x1 : Int} {x2 : Int} {x3 : Int}
    (h : gL σ 1228 x0 ≠ 0 ∧ ((0 : Int) ≤ x2 ∧ x2 < (gL σ 1228 x0 : Int)) ∧ ((¬ (gI σ 1228 x0 x2.toNat) = 4 → AW g l (d + 1) MX12_lookedUp 2 [some (vR 12 (some x0)), some (vI (w32 (x1 + 1))), none, none] [] σ Q) ∧ ((gI σ 1228 x0 x2.toNat) = 4 → gL σ 1237 x0 ≠ 0 ∧ ((0 : Int) ≤ x2 ∧ x2 < (gL σ 1237 x0 : Int)) ∧ (((gI σ 1237 x0 x2.toNat) ≤ x3 → AW g l (d + 1) MX12_lookedUp 2 [some (vR 12 (some x0)), some (vI (w32 (x1 + 1))), none, none] [] σ Q) ∧ (¬ (gI σ 1237 x0 x2.toNat) ≤ x3 → gL σ 1239 x0 ≠ 0 ∧ ((0 : Int) ≤ (w32 ((w32 (16 * x2)) + x3)) ∧ (w32 ((w32 (16 * x2)) + x3)) < (gL σ 1239 x0 : Int)) ∧ ((¬ (gJ σ 1239 x0 (w32 ((w32 (16 * x2)) + x3)).toNat) = (gJ σ 1216 x0 0) → AW g l (d + 1) MX12_lookedUp 72 [some (vR 12 (some x0)), some (vI x1), some (vI x2), some (vI (w32 (x3 + 1)))] [] σ Q) ∧ ((gJ σ 1239 x0 (w32 ((w32 (16 * x2)) + x3)).toNat) = (gJ σ 1216 x0 0) → Q (some (vI (w32 ((w32 ((w32 (16 * x1)) + 1)) + x3)))) σ))))))) :
    AW g l (d + 1) MX12_lookedUp 72 [some (vR 12 (some x0)), some (vI x1), some (vI x2), some (vI x3)] [] σ Q := by
  refine aw_aload_n dX12_lookedUp_72 rfl rfl ?_
  obtain ⟨h0, h⟩ := h
  refine aw_getA' rfl fk_1228 (by decide) lf_X12_98 dX12_lookedUp_73 h0 ?_
  refine aw_iload_n dX12_lookedUp_76 rfl rfl ?_
  obtain ⟨⟨h0, h1⟩, h⟩ := h
  refine aw_iaload (by decide) rfl dX12_lookedUp_77 h0 h1 ?_
  refine aw_iconst (x := 4) dX12_lookedUp_78 rfl ?_
  refine aw_icmp_ne (tgt := 126) dX12_lookedUp_79 (by decide) (fun hc => ?_) (fun hc => ?_)
  · replace h := h.1 hc
    refine aw_iinc dX12_lookedUp_126 rfl (by decide) rfl rfl ?_
    refine aw_goto (tgt := 2) dX12_lookedUp_129 (by decide) ?_
    exact aw_fgt (L' := [some (vR 12 (some x0)), some (vI (w32 (x1 + 1))), none, none]) ⟨rfl, ⟨rfl, trivial⟩⟩ h
  · replace h := h.2 hc
    refine aw_iload_n dX12_lookedUp_82 rfl rfl ?_
    refine aw_aload_n dX12_lookedUp_83 rfl rfl ?_
    obtain ⟨h0, h⟩ := h
    refine aw_getA' rfl fk_1237 (by decide) lf_X12_125 dX12_lookedUp_84 h0 ?_
    refine aw_iload_n dX12_lookedUp_87 rfl rfl ?_
    obtain ⟨⟨h0, h1⟩, h⟩ := h
    refine aw_iaload (by decide) rfl dX12_lookedUp_88 h0 h1 ?_
    refine aw_icmp_ge (tgt := 126) dX12_lookedUp_89 (by decide) (fun hc => ?_) (fun hc => ?_)
    · replace h := h.1 hc
      refine aw_iinc dX12_lookedUp_126 rfl (by decide) rfl rfl ?_
      refine aw_goto (tgt := 2) dX12_lookedUp_129 (by decide) ?_
      exact aw_fgt (L' := [some (vR 12 (some x0)), some (vI (w32 (x1 + 1))), none, none]) ⟨rfl, ⟨rfl, trivial⟩⟩ h
    · replace h := h.2 hc
      refine aw_aload_n dX12_lookedUp_92 rfl rfl ?_
      obtain ⟨h0, h⟩ := h
      refine aw_getA' rfl fk_1239 (by decide) lf_X12_131 dX12_lookedUp_93 h0 ?_
      refine aw_bipush (x := 16) dX12_lookedUp_96 rfl ?_
      refine aw_iload_n dX12_lookedUp_98 rfl rfl ?_
      refine aw_imul dX12_lookedUp_99 ?_
      refine aw_iload_n dX12_lookedUp_100 rfl rfl ?_
      refine aw_iadd dX12_lookedUp_101 ?_
      obtain ⟨⟨h0, h1⟩, h⟩ := h
      refine aw_laload (by decide) rfl dX12_lookedUp_102 h0 h1 ?_
      refine aw_aload_n dX12_lookedUp_103 rfl rfl ?_
      refine aw_getJ' rfl fk_1216 lf_X12_60 dX12_lookedUp_104 ?_
      refine aw_lcmp_ne (M := MX12_lookedUp) (tgt := 120) dX12_lookedUp_107 dX12_lookedUp_108 (by decide) (fun hc => ?_) (fun hc => ?_)
      · replace h := h.1 hc
        refine aw_iinc dX12_lookedUp_120 rfl (by decide) rfl rfl ?_
        refine aw_goto (tgt := 72) dX12_lookedUp_123 (by decide) ?_
        exact aw_fgt (L' := [some (vR 12 (some x0)), some (vI x1), some (vI x2), some (vI (w32 (x3 + 1)))]) ⟨rfl, ⟨rfl, ⟨rfl, ⟨rfl, trivial⟩⟩⟩⟩ h
      · replace h := h.2 hc
        refine aw_bipush (x := 16) dX12_lookedUp_111 rfl ?_
        refine aw_iload_n dX12_lookedUp_113 rfl rfl ?_
        refine aw_imul dX12_lookedUp_114 ?_
        refine aw_iconst (x := 1) dX12_lookedUp_115 rfl ?_
        refine aw_iadd dX12_lookedUp_116 ?_
        refine aw_iload_n dX12_lookedUp_117 rfl rfl ?_
        refine aw_iadd dX12_lookedUp_118 ?_
        exact aw_ireturn dX12_lookedUp_119 rfl h
set_option maxRecDepth 4000 in
theorem bk_X12_magic_0 {g : GP} {l : Launch} {d : Nat} {σ : St} {Q : Option AV → St → Prop} {x0 : Nat} {x1 : Int} {x2 : Int} {x3 : Int}
    (h : ACi g l d MX12_isImage [vR 12 (some x0), vI x1] σ (fun v2 σ1 => ((v2 = 0 → Q (some (vI (-1))) σ1) ∧ (¬ v2 = 0 → ACi g l d MX12_isStruct [vR 12 (some x0), vI x2] σ1 (fun v4 σ3 => ((v4 = 0 → Q (some (vI (-1))) σ3) ∧ (¬ v4 = 0 → ((0 ≤ x3 → ACi g l d MX12_field [vR 12 (some x0), vI x2, vI 0] (sI (sI σ3 1253 x0 0 (gI σ3 1218 x0 0)) 1281 x0 0 x1) (fun v6 σ5 => gL σ5 1222 x0 ≠ 0 ∧ ((0 : Int) ≤ (w32 ((w32 (20 * (gI σ5 1218 x0 0))) + x2)) ∧ (w32 ((w32 (20 * (gI σ5 1218 x0 0))) + x2)) < (gL σ5 1222 x0 : Int)) ∧ (((gI σ5 1222 x0 (w32 ((w32 (20 * (gI σ5 1218 x0 0))) + x2)).toNat) = 0 → Q (some (vI (-1))) σ5) ∧ (¬ (gI σ5 1222 x0 (w32 ((w32 (20 * (gI σ5 1218 x0 0))) + x2)).toNat) = 0 → gL σ5 1228 x0 ≠ 0 ∧ ((0 : Int) ≤ v6 ∧ v6 < (gL σ5 1228 x0 : Int)) ∧ ((¬ (gI σ5 1228 x0 v6.toNat) = 10 → Q (some (vI (-1))) σ5) ∧ ((gI σ5 1228 x0 v6.toNat) = 10 → gL σ5 1232 x0 ≠ 0 ∧ ((0 : Int) ≤ v6 ∧ v6 < (gL σ5 1232 x0 : Int)) ∧ (((gI σ5 1232 x0 v6.toNat) < 0 → AW g l (d + 1) MX12_magic 90 [some (vR 12 (some x0)), none, none, none, some (vI v6), some (vI x3), some (vI 0)] [] σ5 Q) ∧ (¬ (gI σ5 1232 x0 v6.toNat) < 0 → Q (some (vI (-1))) σ5)))))))) ∧ (¬ 0 ≤ x3 → Q (some (vI (-1))) σ3))))))))) :
    AW g l (d + 1) MX12_magic 0 [some (vR 12 (some x0)), some (vI x1), some (vI x2), some (vI x3), none, none, none] [] σ Q := by
  refine aw_aload_n dX12_magic_0 rfl rfl ?_
  refine aw_iload_n dX12_magic_1 rfl rfl ?_
  refine aw_invVi (M := MX12_magic) (ci := 12) [vI x1] rfl mo_X12_isImage rfl lm_X12_293 li_X12_isImage ls_X12_isImage (by decide +kernel) dX12_magic_2 rfl (Nat.le_of_ble_eq_true rfl) (ACi.mono (fun v2 σ1 h => ?_) h)
  refine aw_if_eq (tgt := 20) dX12_magic_5 (by decide) (fun hc => ?_) (fun hc => ?_)
  · replace h := h.1 hc
    refine aw_iconst (x := (-1)) dX12_magic_20 rfl ?_
    exact aw_ireturn dX12_magic_21 rfl h
  · replace h := h.2 hc
    refine aw_aload_n dX12_magic_8 rfl rfl ?_
    refine aw_iload_n dX12_magic_9 rfl rfl ?_
    refine aw_invVi (M := MX12_magic) (ci := 12) [vI x2] rfl mo_X12_isStruct rfl lm_X12_570 li_X12_isStruct ls_X12_isStruct (by decide +kernel) dX12_magic_10 rfl (Nat.le_of_ble_eq_true rfl) (ACi.mono (fun v4 σ3 h => ?_) h)
    refine aw_if_eq (tgt := 20) dX12_magic_13 (by decide) (fun hc => ?_) (fun hc => ?_)
    · replace h := h.1 hc
      refine aw_iconst (x := (-1)) dX12_magic_20 rfl ?_
      exact aw_ireturn dX12_magic_21 rfl h
    · replace h := h.2 hc
      refine aw_iload_n dX12_magic_16 rfl rfl ?_
      refine aw_if_ge (tgt := 22) dX12_magic_17 (by decide) (fun hc => ?_) (fun hc => ?_)
      · replace h := h.1 hc
        refine aw_aload_n dX12_magic_22 rfl rfl ?_
        refine aw_aload_n dX12_magic_23 rfl rfl ?_
        refine aw_getI' rfl fk_1218 lf_X12_67 dX12_magic_24 ?_
        refine aw_putI' rfl fk_1253 (Or.inl rfl) lf_X12_173 dX12_magic_27 ?_
        refine aw_aload_n dX12_magic_30 rfl rfl ?_
        refine aw_iload_n dX12_magic_31 rfl rfl ?_
        refine aw_putI' rfl fk_1281 (Or.inl rfl) lf_X12_259 dX12_magic_32 ?_
        refine aw_aload_n dX12_magic_35 rfl rfl ?_
        refine aw_iload_n dX12_magic_36 rfl rfl ?_
        refine aw_iconst (x := 0) dX12_magic_37 rfl ?_
        refine aw_invVi (M := MX12_magic) (ci := 12) [vI x2, vI 0] rfl mo_X12_field rfl lm_X12_447 li_X12_field ls_X12_field (by decide +kernel) dX12_magic_38 rfl (Nat.le_of_ble_eq_true rfl) (ACi.mono (fun v6 σ5 h => ?_) h)
        refine aw_istore dX12_magic_41 (by decide) rfl ?_
        refine aw_aload_n dX12_magic_43 rfl rfl ?_
        obtain ⟨h0, h⟩ := h
        refine aw_getA' rfl fk_1222 (by decide) lf_X12_80 dX12_magic_44 h0 ?_
        refine aw_bipush (x := 20) dX12_magic_47 rfl ?_
        refine aw_aload_n dX12_magic_49 rfl rfl ?_
        refine aw_getI' rfl fk_1218 lf_X12_67 dX12_magic_50 ?_
        refine aw_imul dX12_magic_53 ?_
        refine aw_iload_n dX12_magic_54 rfl rfl ?_
        refine aw_iadd dX12_magic_55 ?_
        obtain ⟨⟨h0, h1⟩, h⟩ := h
        refine aw_iaload (by decide) rfl dX12_magic_56 h0 h1 ?_
        refine aw_if_eq (tgt := 82) dX12_magic_57 (by decide) (fun hc => ?_) (fun hc => ?_)
        · replace h := h.1 hc
          refine aw_iconst (x := (-1)) dX12_magic_82 rfl ?_
          exact aw_ireturn dX12_magic_83 rfl h
        · replace h := h.2 hc
          refine aw_aload_n dX12_magic_60 rfl rfl ?_
          obtain ⟨h0, h⟩ := h
          refine aw_getA' rfl fk_1228 (by decide) lf_X12_98 dX12_magic_61 h0 ?_
          refine aw_iload dX12_magic_64 rfl ?_
          obtain ⟨⟨h0, h1⟩, h⟩ := h
          refine aw_iaload (by decide) rfl dX12_magic_66 h0 h1 ?_
          refine aw_bipush (x := 10) dX12_magic_67 rfl ?_
          refine aw_icmp_ne (tgt := 82) dX12_magic_69 (by decide) (fun hc => ?_) (fun hc => ?_)
          · replace h := h.1 hc
            refine aw_iconst (x := (-1)) dX12_magic_82 rfl ?_
            exact aw_ireturn dX12_magic_83 rfl h
          · replace h := h.2 hc
            refine aw_aload_n dX12_magic_72 rfl rfl ?_
            obtain ⟨h0, h⟩ := h
            refine aw_getA' rfl fk_1232 (by decide) lf_X12_110 dX12_magic_73 h0 ?_
            refine aw_iload dX12_magic_76 rfl ?_
            obtain ⟨⟨h0, h1⟩, h⟩ := h
            refine aw_iaload (by decide) rfl dX12_magic_78 h0 h1 ?_
            refine aw_if_lt (tgt := 84) dX12_magic_79 (by decide) (fun hc => ?_) (fun hc => ?_)
            · replace h := h.1 hc
              refine aw_iload_n dX12_magic_84 rfl rfl ?_
              refine aw_istore dX12_magic_85 (by decide) rfl ?_
              refine aw_iconst (x := 0) dX12_magic_87 rfl ?_
              refine aw_istore dX12_magic_88 (by decide) rfl ?_
              exact aw_fgt (L' := [some (vR 12 (some x0)), none, none, none, some (vI v6), some (vI x3), some (vI 0)]) ⟨rfl, ⟨rfl, ⟨rfl, ⟨rfl, trivial⟩⟩⟩⟩ h
            · replace h := h.2 hc
              refine aw_iconst (x := (-1)) dX12_magic_82 rfl ?_
              exact aw_ireturn dX12_magic_83 rfl h
      · replace h := h.2 hc
        refine aw_iconst (x := (-1)) dX12_magic_20 rfl ?_
        exact aw_ireturn dX12_magic_21 rfl h
set_option maxRecDepth 4000 in
theorem bk_X12_magic_90 {g : GP} {l : Launch} {d : Nat} {σ : St} {Q : Option AV → St → Prop} {x0 : Nat} {x4 : Int} {x5 : Int} {x6 : Int}
    (h : gL σ 1237 x0 ≠ 0 ∧ ((0 : Int) ≤ x4 ∧ x4 < (gL σ 1237 x0 : Int)) ∧ gL σ 1201 x0 ≠ 0 ∧ ((0 : Int) ≤ (gI σ 1281 x0 0) ∧ (gI σ 1281 x0 0) < (gL σ 1201 x0 : Int)) ∧ (((gI σ 1201 x0 (gI σ 1281 x0 0).toNat) < (w32 (x6 + (gI σ 1237 x0 x4.toNat))) → Q (some (vI (-1))) σ) ∧ (¬ (gI σ 1201 x0 (gI σ 1281 x0 0).toNat) < (w32 (x6 + (gI σ 1237 x0 x4.toNat))) → ACi g l d MX12_magicAt [vR 12 (some x0), vI x4, vI x6] σ (fun v2 σ1 => ((¬ v2 = 0 → ((¬ x5 = 0 → AW g l (d + 1) MX12_magic 90 [some (vR 12 (some x0)), none, none, none, some (vI x4), some (vI (w32 (x5 + (-1)))), some (vI (w32 (x6 + 1)))] [] σ1 Q) ∧ (x5 = 0 → Q (some (vI x6)) σ1))) ∧ (v2 = 0 → AW g l (d + 1) MX12_magic 90 [some (vR 12 (some x0)), none, none, none, some (vI x4), some (vI x5), some (vI (w32 (x6 + 1)))] [] σ1 Q)))))) :
    AW g l (d + 1) MX12_magic 90 [some (vR 12 (some x0)), none, none, none, some (vI x4), some (vI x5), some (vI x6)] [] σ Q := by
  refine aw_iload dX12_magic_90 rfl ?_
  refine aw_aload_n dX12_magic_92 rfl rfl ?_
  obtain ⟨h0, h⟩ := h
  refine aw_getA' rfl fk_1237 (by decide) lf_X12_125 dX12_magic_93 h0 ?_
  refine aw_iload dX12_magic_96 rfl ?_
  obtain ⟨⟨h0, h1⟩, h⟩ := h
  refine aw_iaload (by decide) rfl dX12_magic_98 h0 h1 ?_
  refine aw_iadd dX12_magic_99 ?_
  refine aw_aload_n dX12_magic_100 rfl rfl ?_
  obtain ⟨h0, h⟩ := h
  refine aw_getA' rfl fk_1201 (by decide) lf_X12_13 dX12_magic_101 h0 ?_
  refine aw_aload_n dX12_magic_104 rfl rfl ?_
  refine aw_getI' rfl fk_1281 lf_X12_259 dX12_magic_105 ?_
  obtain ⟨⟨h0, h1⟩, h⟩ := h
  refine aw_iaload (by decide) rfl dX12_magic_108 h0 h1 ?_
  refine aw_icmp_gt (tgt := 143) dX12_magic_109 (by decide) (fun hc => ?_) (fun hc => ?_)
  · replace h := h.1 hc
    refine aw_iconst (x := (-1)) dX12_magic_143 rfl ?_
    exact aw_ireturn dX12_magic_144 rfl h
  · replace h := h.2 hc
    refine aw_aload_n dX12_magic_112 rfl rfl ?_
    refine aw_iload dX12_magic_113 rfl ?_
    refine aw_iload dX12_magic_115 rfl ?_
    refine aw_invVi (M := MX12_magic) (ci := 12) [vI x4, vI x6] rfl mo_X12_magicAt rfl lm_X12_667 li_X12_magicAt ls_X12_magicAt (by decide +kernel) dX12_magic_117 rfl (Nat.le_of_ble_eq_true rfl) (ACi.mono (fun v2 σ1 h => ?_) h)
    refine aw_if_ne (tgt := 126) dX12_magic_120 (by decide) (fun hc => ?_) (fun hc => ?_)
    · replace h := h.1 hc
      refine aw_iload dX12_magic_126 rfl ?_
      refine aw_if_ne (tgt := 134) dX12_magic_128 (by decide) (fun hc => ?_) (fun hc => ?_)
      · replace h := h.1 hc
        refine aw_iinc dX12_magic_134 rfl (by decide) rfl rfl ?_
        refine aw_iinc dX12_magic_137 rfl (by decide) rfl rfl ?_
        refine aw_goto (tgt := 90) dX12_magic_140 (by decide) ?_
        exact aw_fgt (L' := [some (vR 12 (some x0)), none, none, none, some (vI x4), some (vI (w32 (x5 + (-1)))), some (vI (w32 (x6 + 1)))]) ⟨rfl, ⟨rfl, ⟨rfl, ⟨rfl, trivial⟩⟩⟩⟩ h
      · replace h := h.2 hc
        refine aw_iload dX12_magic_131 rfl ?_
        exact aw_ireturn dX12_magic_133 rfl h
    · replace h := h.2 hc
      refine aw_goto (tgt := 137) dX12_magic_123 (by decide) ?_
      refine aw_iinc dX12_magic_137 rfl (by decide) rfl rfl ?_
      refine aw_goto (tgt := 90) dX12_magic_140 (by decide) ?_
      exact aw_fgt (L' := [some (vR 12 (some x0)), none, none, none, some (vI x4), some (vI x5), some (vI (w32 (x6 + 1)))]) ⟨rfl, ⟨rfl, ⟨rfl, ⟨rfl, trivial⟩⟩⟩⟩ h
set_option maxRecDepth 4000 in
theorem bk_X12_magicAt_0 {g : GP} {l : Launch} {d : Nat} {σ : St} {Q : Option AV → St → Prop} {x0 : Nat} {x1 : Int} {x2 : Int}
    (h : AW g l (d + 1) MX12_magicAt 2 [some (vR 12 (some x0)), some (vI x1), some (vI x2), some (vI 0)] [] σ Q) :
    AW g l (d + 1) MX12_magicAt 0 [some (vR 12 (some x0)), some (vI x1), some (vI x2), none] [] σ Q := by
  refine aw_iconst (x := 0) dX12_magicAt_0 rfl ?_
  refine aw_istore_n dX12_magicAt_1 rfl (by decide) rfl ?_
  exact aw_fgt (L' := [some (vR 12 (some x0)), some (vI x1), some (vI x2), some (vI 0)]) ⟨rfl, ⟨rfl, ⟨rfl, ⟨rfl, trivial⟩⟩⟩⟩ h
set_option maxRecDepth 4000 in
theorem bk_X12_magicAt_2 {g : GP} {l : Launch} {d : Nat} {σ : St} {Q : Option AV → St → Prop} {x0 : Nat} {x1 : Int} {x2 : Int} {x3 : Int}
    (h : gL σ 1237 x0 ≠ 0 ∧ ((0 : Int) ≤ x1 ∧ x1 < (gL σ 1237 x0 : Int)) ∧ (((gI σ 1237 x0 x1.toNat) ≤ x3 → Q (some (vI 1)) σ) ∧ (¬ (gI σ 1237 x0 x1.toNat) ≤ x3 → gL σ 1240 x0 ≠ 0 ∧ ((0 : Int) ≤ (w32 ((w32 (16 * x1)) + x3)) ∧ (w32 ((w32 (16 * x1)) + x3)) < (gL σ 1240 x0 : Int)) ∧ (((gJ σ 1240 x0 (w32 ((w32 (16 * x1)) + x3)).toNat).toInt < (0 : Int64).toInt → AW g l (d + 1) MX12_magicAt 2 [some (vR 12 (some x0)), some (vI x1), some (vI x2), some (vI (w32 (x3 + 1)))] [] σ Q) ∧ (¬ (gJ σ 1240 x0 (w32 ((w32 (16 * x1)) + x3)).toNat).toInt < (0 : Int64).toInt → gL σ 1240 x0 ≠ 0 ∧ ((0 : Int) ≤ (w32 ((w32 (16 * x1)) + x3)) ∧ (w32 ((w32 (16 * x1)) + x3)) < (gL σ 1240 x0 : Int)) ∧ ACi g l d MX12_has [vR 12 (some x0), vI (gI σ 1281 x0 0), vI (w32 (x2 + x3))] σ (fun v2 σ1 => (((gJ σ 1240 x0 (w32 ((w32 (16 * x1)) + x3)).toNat) = (i2j v2) → AW g l (d + 1) MX12_magicAt 2 [some (vR 12 (some x0)), some (vI x1), some (vI x2), some (vI (w32 (x3 + 1)))] [] σ1 Q) ∧ (¬ (gJ σ 1240 x0 (w32 ((w32 (16 * x1)) + x3)).toNat) = (i2j v2) → Q (some (vI 0)) σ1)))))))) :
    AW g l (d + 1) MX12_magicAt 2 [some (vR 12 (some x0)), some (vI x1), some (vI x2), some (vI x3)] [] σ Q := by
  refine aw_iload_n dX12_magicAt_2 rfl rfl ?_
  refine aw_aload_n dX12_magicAt_3 rfl rfl ?_
  obtain ⟨h0, h⟩ := h
  refine aw_getA' rfl fk_1237 (by decide) lf_X12_125 dX12_magicAt_4 h0 ?_
  refine aw_iload_n dX12_magicAt_7 rfl rfl ?_
  obtain ⟨⟨h0, h1⟩, h⟩ := h
  refine aw_iaload (by decide) rfl dX12_magicAt_8 h0 h1 ?_
  refine aw_icmp_ge (tgt := 63) dX12_magicAt_9 (by decide) (fun hc => ?_) (fun hc => ?_)
  · replace h := h.1 hc
    refine aw_iconst (x := 1) dX12_magicAt_63 rfl ?_
    exact aw_zreturn dX12_magicAt_64 rfl (Or.inr rfl) h
  · replace h := h.2 hc
    refine aw_aload_n dX12_magicAt_12 rfl rfl ?_
    obtain ⟨h0, h⟩ := h
    refine aw_getA' rfl fk_1240 (by decide) lf_X12_134 dX12_magicAt_13 h0 ?_
    refine aw_bipush (x := 16) dX12_magicAt_16 rfl ?_
    refine aw_iload_n dX12_magicAt_18 rfl rfl ?_
    refine aw_imul dX12_magicAt_19 ?_
    refine aw_iload_n dX12_magicAt_20 rfl rfl ?_
    refine aw_iadd dX12_magicAt_21 ?_
    obtain ⟨⟨h0, h1⟩, h⟩ := h
    refine aw_laload (by decide) rfl dX12_magicAt_22 h0 h1 ?_
    refine aw_lconst (x := 0) dX12_magicAt_23 rfl ?_
    refine aw_lcmp_lt (M := MX12_magicAt) (tgt := 57) dX12_magicAt_24 dX12_magicAt_25 (by decide) (fun hc => ?_) (fun hc => ?_)
    · replace h := h.1 hc
      refine aw_iinc dX12_magicAt_57 rfl (by decide) rfl rfl ?_
      refine aw_goto (tgt := 2) dX12_magicAt_60 (by decide) ?_
      exact aw_fgt (L' := [some (vR 12 (some x0)), some (vI x1), some (vI x2), some (vI (w32 (x3 + 1)))]) ⟨rfl, ⟨rfl, ⟨rfl, ⟨rfl, trivial⟩⟩⟩⟩ h
    · replace h := h.2 hc
      refine aw_aload_n dX12_magicAt_28 rfl rfl ?_
      obtain ⟨h0, h⟩ := h
      refine aw_getA' rfl fk_1240 (by decide) lf_X12_134 dX12_magicAt_29 h0 ?_
      refine aw_bipush (x := 16) dX12_magicAt_32 rfl ?_
      refine aw_iload_n dX12_magicAt_34 rfl rfl ?_
      refine aw_imul dX12_magicAt_35 ?_
      refine aw_iload_n dX12_magicAt_36 rfl rfl ?_
      refine aw_iadd dX12_magicAt_37 ?_
      obtain ⟨⟨h0, h1⟩, h⟩ := h
      refine aw_laload (by decide) rfl dX12_magicAt_38 h0 h1 ?_
      refine aw_aload_n dX12_magicAt_39 rfl rfl ?_
      refine aw_aload_n dX12_magicAt_40 rfl rfl ?_
      refine aw_getI' rfl fk_1281 lf_X12_259 dX12_magicAt_41 ?_
      refine aw_iload_n dX12_magicAt_44 rfl rfl ?_
      refine aw_iload_n dX12_magicAt_45 rfl rfl ?_
      refine aw_iadd dX12_magicAt_46 ?_
      refine aw_invVi (M := MX12_magicAt) (ci := 12) [vI (gI σ 1281 x0 0), vI (w32 (x2 + x3))] rfl mo_X12_has rfl lm_X12_299 li_X12_has ls_X12_has (by decide +kernel) dX12_magicAt_47 rfl (Nat.le_of_ble_eq_true rfl) (ACi.mono (fun v2 σ1 h => ?_) h)
      refine aw_i2l dX12_magicAt_50 ?_
      refine aw_lcmp_eq (M := MX12_magicAt) (tgt := 57) dX12_magicAt_51 dX12_magicAt_52 (by decide) (fun hc => ?_) (fun hc => ?_)
      · replace h := h.1 hc
        refine aw_iinc dX12_magicAt_57 rfl (by decide) rfl rfl ?_
        refine aw_goto (tgt := 2) dX12_magicAt_60 (by decide) ?_
        exact aw_fgt (L' := [some (vR 12 (some x0)), some (vI x1), some (vI x2), some (vI (w32 (x3 + 1)))]) ⟨rfl, ⟨rfl, ⟨rfl, ⟨rfl, trivial⟩⟩⟩⟩ h
      · replace h := h.2 hc
        refine aw_iconst (x := 0) dX12_magicAt_55 rfl ?_
        exact aw_zreturn dX12_magicAt_56 rfl (Or.inl rfl) h
set_option maxRecDepth 4000 in
theorem bk_X12_magicLaid_0 {g : GP} {l : Launch} {d : Nat} {σ : St} {Q : Option AV → St → Prop} {x0 : Nat} {x1 : Int} {x2 : Int}
    (h : gL σ 1237 x0 ≠ 0 ∧ ((0 : Int) ≤ x2 ∧ x2 < (gL σ 1237 x0 : Int)) ∧ ACi g l d MX12_reaches [vR 12 (some x0), vI x1, vJ (i2j (gI σ 1237 x0 x2.toNat))] σ (fun v2 σ1 => ((¬ v2 = 0 → gL σ1 1268 x0 ≠ 0 ∧ ((0 : Int) ≤ x1 ∧ x1 < (gL σ1 1268 x0 : Int)) ∧ ACi g l d MX12_magicAt [vR 12 (some x0), vI x2, vI (gI σ1 1268 x0 x1.toNat)] σ1 (fun v4 σ3 => ((¬ v4 = 0 → Q (some (vI 1)) σ3) ∧ (v4 = 0 → ACv g l d MX12_faulty [vR 12 (some x0), vI x1, vI 2] σ3 (fun σ5 => Q (some (vI 1)) σ5))))) ∧ (v2 = 0 → Q (some (vI 0)) σ1)))) :
    AW g l (d + 1) MX12_magicLaid 0 [some (vR 12 (some x0)), some (vI x1), some (vI x2)] [] σ Q := by
  refine aw_aload_n dX12_magicLaid_0 rfl rfl ?_
  refine aw_iload_n dX12_magicLaid_1 rfl rfl ?_
  refine aw_aload_n dX12_magicLaid_2 rfl rfl ?_
  obtain ⟨h0, h⟩ := h
  refine aw_getA' rfl fk_1237 (by decide) lf_X12_125 dX12_magicLaid_3 h0 ?_
  refine aw_iload_n dX12_magicLaid_6 rfl rfl ?_
  obtain ⟨⟨h0, h1⟩, h⟩ := h
  refine aw_iaload (by decide) rfl dX12_magicLaid_7 h0 h1 ?_
  refine aw_i2l dX12_magicLaid_8 ?_
  refine aw_invVi (M := MX12_magicLaid) (ci := 12) [vI x1, vJ (i2j (gI σ 1237 x0 x2.toNat))] rfl mo_X12_reaches rfl lm_X12_602 li_X12_reaches ls_X12_reaches (by decide +kernel) dX12_magicLaid_9 rfl (Nat.le_of_ble_eq_true rfl) (ACi.mono (fun v2 σ1 h => ?_) h)
  refine aw_if_ne (tgt := 17) dX12_magicLaid_12 (by decide) (fun hc => ?_) (fun hc => ?_)
  · replace h := h.1 hc
    refine aw_aload_n dX12_magicLaid_17 rfl rfl ?_
    refine aw_iload_n dX12_magicLaid_18 rfl rfl ?_
    refine aw_aload_n dX12_magicLaid_19 rfl rfl ?_
    obtain ⟨h0, h⟩ := h
    refine aw_getA' rfl fk_1268 (by decide) lf_X12_220 dX12_magicLaid_20 h0 ?_
    refine aw_iload_n dX12_magicLaid_23 rfl rfl ?_
    obtain ⟨⟨h0, h1⟩, h⟩ := h
    refine aw_iaload (by decide) rfl dX12_magicLaid_24 h0 h1 ?_
    refine aw_invVi (M := MX12_magicLaid) (ci := 12) [vI x2, vI (gI σ1 1268 x0 x1.toNat)] rfl mo_X12_magicAt rfl lm_X12_667 li_X12_magicAt ls_X12_magicAt (by decide +kernel) dX12_magicLaid_25 rfl (Nat.le_of_ble_eq_true rfl) (ACi.mono (fun v4 σ3 h => ?_) h)
    refine aw_if_ne (tgt := 37) dX12_magicLaid_28 (by decide) (fun hc => ?_) (fun hc => ?_)
    · replace h := h.1 hc
      refine aw_iconst (x := 1) dX12_magicLaid_37 rfl ?_
      exact aw_zreturn dX12_magicLaid_38 rfl (Or.inr rfl) h
    · replace h := h.2 hc
      refine aw_aload_n dX12_magicLaid_31 rfl rfl ?_
      refine aw_iload_n dX12_magicLaid_32 rfl rfl ?_
      refine aw_iconst (x := 2) dX12_magicLaid_33 rfl ?_
      refine aw_invVv (M := MX12_magicLaid) (ci := 12) [vI x1, vI 2] rfl mo_X12_faulty rfl lm_X12_577 li_X12_faulty ls_X12_faulty (by decide +kernel) dX12_magicLaid_34 rfl (Nat.le_of_ble_eq_true rfl) (ACv.mono (fun σ5 h => ?_) h)
      refine aw_iconst (x := 1) dX12_magicLaid_37 rfl ?_
      exact aw_zreturn dX12_magicLaid_38 rfl (Or.inr rfl) h
  · replace h := h.2 hc
    refine aw_iconst (x := 0) dX12_magicLaid_15 rfl ?_
    exact aw_zreturn dX12_magicLaid_16 rfl (Or.inl rfl) h
set_option maxRecDepth 4000 in
theorem bk_X12_make_0 {g : GP} {l : Launch} {d : Nat} {σ : St} {Q : Option AV → St → Prop} {x0 : Nat} {x1 : Int} {x2 : Int} {x3 : Int} {x4 : Int}
    (h : gL σ 1266 x0 ≠ 0 ∧ ((0 : Int) ≤ (gI σ 1280 x0 0) ∧ (gI σ 1280 x0 0) < (gL σ 1266 x0 : Int)) ∧ ((¬ (gI σ 1266 x0 (gI σ 1280 x0 0).toNat) = 400 → gL σ 1266 x0 ≠ 0 ∧ ((0 : Int) ≤ (gI σ 1280 x0 0) ∧ (gI σ 1280 x0 0) < (gL σ 1266 x0 : Int)) ∧ gL σ 1266 x0 ≠ 0 ∧ ((0 : Int) ≤ (gI σ 1280 x0 0) ∧ (gI σ 1280 x0 0) < (gL σ 1266 x0 : Int)) ∧ ((0 : Int) ≤ (gI σ 1280 x0 0) ∧ (gI σ 1280 x0 0) < (gL σ 1266 x0 : Int)) ∧ gL (sI σ 1266 x0 (gI σ 1280 x0 0).toNat (w32 ((gI σ 1266 x0 (gI σ 1280 x0 0).toNat) + 1))) 1267 x0 ≠ 0 ∧ ((0 : Int) ≤ (w32 ((w32 (400 * (gI σ 1280 x0 0))) + (gI σ 1266 x0 (gI σ 1280 x0 0).toNat))) ∧ (w32 ((w32 (400 * (gI σ 1280 x0 0))) + (gI σ 1266 x0 (gI σ 1280 x0 0).toNat))) < (gL (sI σ 1266 x0 (gI σ 1280 x0 0).toNat (w32 ((gI σ 1266 x0 (gI σ 1280 x0 0).toNat) + 1))) 1267 x0 : Int)) ∧ gL (sI (sI σ 1266 x0 (gI σ 1280 x0 0).toNat (w32 ((gI σ 1266 x0 (gI σ 1280 x0 0).toNat) + 1))) 1267 x0 (w32 ((w32 (400 * (gI σ 1280 x0 0))) + (gI σ 1266 x0 (gI σ 1280 x0 0).toNat))).toNat x1) 1268 x0 ≠ 0 ∧ ((0 : Int) ≤ (w32 ((w32 (400 * (gI σ 1280 x0 0))) + (gI σ 1266 x0 (gI σ 1280 x0 0).toNat))) ∧ (w32 ((w32 (400 * (gI σ 1280 x0 0))) + (gI σ 1266 x0 (gI σ 1280 x0 0).toNat))) < (gL (sI (sI σ 1266 x0 (gI σ 1280 x0 0).toNat (w32 ((gI σ 1266 x0 (gI σ 1280 x0 0).toNat) + 1))) 1267 x0 (w32 ((w32 (400 * (gI σ 1280 x0 0))) + (gI σ 1266 x0 (gI σ 1280 x0 0).toNat))).toNat x1) 1268 x0 : Int)) ∧ AW g l d MX12_make 71 [some (vR 12 (some x0)), none, some (vI x2), some (vI x3), some (vI x4), some (vI (w32 ((w32 (400 * (gI σ 1280 x0 0))) + (gI σ 1266 x0 (gI σ 1280 x0 0).toNat))))] [] (sI (sI (sI σ 1266 x0 (gI σ 1280 x0 0).toNat (w32 ((gI σ 1266 x0 (gI σ 1280 x0 0).toNat) + 1))) 1267 x0 (w32 ((w32 (400 * (gI σ 1280 x0 0))) + (gI σ 1266 x0 (gI σ 1280 x0 0).toNat))).toNat x1) 1268 x0 (w32 ((w32 (400 * (gI σ 1280 x0 0))) + (gI σ 1266 x0 (gI σ 1280 x0 0).toNat))).toNat x3) Q) ∧ ((gI σ 1266 x0 (gI σ 1280 x0 0).toNat) = 400 → Q (some (vI (-1))) (sI σ 1282 x0 0 1)))) :
    AW g l d MX12_make 0 [some (vR 12 (some x0)), some (vI x1), some (vI x2), some (vI x3), some (vI x4), none] [] σ Q := by
  refine aw_aload_n dX12_make_0 rfl rfl ?_
  obtain ⟨h0, h⟩ := h
  refine aw_getA' rfl fk_1266 (by decide) lf_X12_214 dX12_make_1 h0 ?_
  refine aw_aload_n dX12_make_4 rfl rfl ?_
  refine aw_getI' rfl fk_1280 lf_X12_256 dX12_make_5 ?_
  obtain ⟨⟨h0, h1⟩, h⟩ := h
  refine aw_iaload (by decide) rfl dX12_make_8 h0 h1 ?_
  refine aw_sipush (x := 400) dX12_make_9 rfl ?_
  refine aw_icmp_ne (tgt := 22) dX12_make_12 (by decide) (fun hc => ?_) (fun hc => ?_)
  · replace h := h.1 hc
    refine aw_sipush (x := 400) dX12_make_22 rfl ?_
    refine aw_aload_n dX12_make_25 rfl rfl ?_
    refine aw_getI' rfl fk_1280 lf_X12_256 dX12_make_26 ?_
    refine aw_imul dX12_make_29 ?_
    refine aw_aload_n dX12_make_30 rfl rfl ?_
    obtain ⟨h0, h⟩ := h
    refine aw_getA' rfl fk_1266 (by decide) lf_X12_214 dX12_make_31 h0 ?_
    refine aw_aload_n dX12_make_34 rfl rfl ?_
    refine aw_getI' rfl fk_1280 lf_X12_256 dX12_make_35 ?_
    obtain ⟨⟨h0, h1⟩, h⟩ := h
    refine aw_iaload (by decide) rfl dX12_make_38 h0 h1 ?_
    refine aw_iadd dX12_make_39 ?_
    refine aw_istore dX12_make_40 (by decide) rfl ?_
    refine aw_aload_n dX12_make_42 rfl rfl ?_
    obtain ⟨h0, h⟩ := h
    refine aw_getA' rfl fk_1266 (by decide) lf_X12_214 dX12_make_43 h0 ?_
    refine aw_aload_n dX12_make_46 rfl rfl ?_
    refine aw_getI' rfl fk_1280 lf_X12_256 dX12_make_47 ?_
    refine aw_dup2 dX12_make_50 rfl rfl ?_
    obtain ⟨⟨h0, h1⟩, h⟩ := h
    refine aw_iaload (by decide) rfl dX12_make_51 h0 h1 ?_
    refine aw_iconst (x := 1) dX12_make_52 rfl ?_
    refine aw_iadd dX12_make_53 ?_
    obtain ⟨⟨h0, h1⟩, h⟩ := h
    refine aw_iastore (by decide) rfl dX12_make_54 h0 h1 ?_
    refine aw_aload_n dX12_make_55 rfl rfl ?_
    obtain ⟨h0, h⟩ := h
    refine aw_getA' rfl fk_1267 (by decide) lf_X12_217 dX12_make_56 h0 ?_
    refine aw_iload dX12_make_59 rfl ?_
    refine aw_iload_n dX12_make_61 rfl rfl ?_
    obtain ⟨⟨h0, h1⟩, h⟩ := h
    refine aw_iastore (by decide) rfl dX12_make_62 h0 h1 ?_
    refine aw_aload_n dX12_make_63 rfl rfl ?_
    obtain ⟨h0, h⟩ := h
    refine aw_getA' rfl fk_1268 (by decide) lf_X12_220 dX12_make_64 h0 ?_
    refine aw_iload dX12_make_67 rfl ?_
    refine aw_iload_n dX12_make_69 rfl rfl ?_
    obtain ⟨⟨h0, h1⟩, h⟩ := h
    refine aw_iastore (by decide) rfl dX12_make_70 h0 h1 ?_
    exact aw_fgt (L' := [some (vR 12 (some x0)), none, some (vI x2), some (vI x3), some (vI x4), some (vI (w32 ((w32 (400 * (gI σ 1280 x0 0))) + (gI σ 1266 x0 (gI σ 1280 x0 0).toNat))))]) ⟨rfl, ⟨rfl, ⟨rfl, ⟨rfl, ⟨rfl, trivial⟩⟩⟩⟩⟩ h
  · replace h := h.2 hc
    refine aw_aload_n dX12_make_15 rfl rfl ?_
    refine aw_iconst (x := 1) dX12_make_16 rfl ?_
    refine aw_putZ' rfl fk_1282 (Or.inl rfl) lf_X12_262 dX12_make_17 (Or.inr rfl) ?_
    refine aw_iconst (x := (-1)) dX12_make_20 rfl ?_
    exact aw_ireturn dX12_make_21 rfl h
set_option maxRecDepth 4000 in
theorem bk_X12_make_71 {g : GP} {l : Launch} {d : Nat} {σ : St} {Q : Option AV → St → Prop} {x0 : Nat} {x2 : Int} {x3 : Int} {x4 : Int} {x5 : Int}
    (h : gL σ 1269 x0 ≠ 0 ∧ ((0 : Int) ≤ x5 ∧ x5 < (gL σ 1269 x0 : Int)) ∧ gL (sI σ 1269 x0 x5.toNat x3) 1270 x0 ≠ 0 ∧ ((0 : Int) ≤ x5 ∧ x5 < (gL (sI σ 1269 x0 x5.toNat x3) 1270 x0 : Int)) ∧ gL (sI (sI σ 1269 x0 x5.toNat x3) 1270 x0 x5.toNat x2) 1271 x0 ≠ 0 ∧ ((0 : Int) ≤ x5 ∧ x5 < (gL (sI (sI σ 1269 x0 x5.toNat x3) 1270 x0 x5.toNat x2) 1271 x0 : Int)) ∧ gL (sI (sI (sI σ 1269 x0 x5.toNat x3) 1270 x0 x5.toNat x2) 1271 x0 x5.toNat 0) 1272 x0 ≠ 0 ∧ ((0 : Int) ≤ x5 ∧ x5 < (gL (sI (sI (sI σ 1269 x0 x5.toNat x3) 1270 x0 x5.toNat x2) 1271 x0 x5.toNat 0) 1272 x0 : Int)) ∧ gL (sI (sI (sI (sI σ 1269 x0 x5.toNat x3) 1270 x0 x5.toNat x2) 1271 x0 x5.toNat 0) 1272 x0 x5.toNat 0) 1273 x0 ≠ 0 ∧ ((0 : Int) ≤ x5 ∧ x5 < (gL (sI (sI (sI (sI σ 1269 x0 x5.toNat x3) 1270 x0 x5.toNat x2) 1271 x0 x5.toNat 0) 1272 x0 x5.toNat 0) 1273 x0 : Int)) ∧ gL (sI (sI (sI (sI (sI σ 1269 x0 x5.toNat x3) 1270 x0 x5.toNat x2) 1271 x0 x5.toNat 0) 1272 x0 x5.toNat 0) 1273 x0 x5.toNat (-1)) 1274 x0 ≠ 0 ∧ ((0 : Int) ≤ x5 ∧ x5 < (gL (sI (sI (sI (sI (sI σ 1269 x0 x5.toNat x3) 1270 x0 x5.toNat x2) 1271 x0 x5.toNat 0) 1272 x0 x5.toNat 0) 1273 x0 x5.toNat (-1)) 1274 x0 : Int)) ∧ gL (sI (sI (sI (sI (sI (sI σ 1269 x0 x5.toNat x3) 1270 x0 x5.toNat x2) 1271 x0 x5.toNat 0) 1272 x0 x5.toNat 0) 1273 x0 x5.toNat (-1)) 1274 x0 x5.toNat x4) 1275 x0 ≠ 0 ∧ ((0 : Int) ≤ x5 ∧ x5 < (gL (sI (sI (sI (sI (sI (sI σ 1269 x0 x5.toNat x3) 1270 x0 x5.toNat x2) 1271 x0 x5.toNat 0) 1272 x0 x5.toNat 0) 1273 x0 x5.toNat (-1)) 1274 x0 x5.toNat x4) 1275 x0 : Int)) ∧ gL (sI (sI (sI (sI (sI (sI (sI σ 1269 x0 x5.toNat x3) 1270 x0 x5.toNat x2) 1271 x0 x5.toNat 0) 1272 x0 x5.toNat 0) 1273 x0 x5.toNat (-1)) 1274 x0 x5.toNat x4) 1275 x0 x5.toNat 0) 1276 x0 ≠ 0 ∧ ((0 : Int) ≤ x5 ∧ x5 < (gL (sI (sI (sI (sI (sI (sI (sI σ 1269 x0 x5.toNat x3) 1270 x0 x5.toNat x2) 1271 x0 x5.toNat 0) 1272 x0 x5.toNat 0) 1273 x0 x5.toNat (-1)) 1274 x0 x5.toNat x4) 1275 x0 x5.toNat 0) 1276 x0 : Int)) ∧ gL (sI (sI (sI (sI (sI (sI (sI (sI σ 1269 x0 x5.toNat x3) 1270 x0 x5.toNat x2) 1271 x0 x5.toNat 0) 1272 x0 x5.toNat 0) 1273 x0 x5.toNat (-1)) 1274 x0 x5.toNat x4) 1275 x0 x5.toNat 0) 1276 x0 x5.toNat (-1)) 1277 x0 ≠ 0 ∧ ((0 : Int) ≤ x5 ∧ x5 < (gL (sI (sI (sI (sI (sI (sI (sI (sI σ 1269 x0 x5.toNat x3) 1270 x0 x5.toNat x2) 1271 x0 x5.toNat 0) 1272 x0 x5.toNat 0) 1273 x0 x5.toNat (-1)) 1274 x0 x5.toNat x4) 1275 x0 x5.toNat 0) 1276 x0 x5.toNat (-1)) 1277 x0 : Int)) ∧ gL (sI (sI (sI (sI (sI (sI (sI (sI (sI σ 1269 x0 x5.toNat x3) 1270 x0 x5.toNat x2) 1271 x0 x5.toNat 0) 1272 x0 x5.toNat 0) 1273 x0 x5.toNat (-1)) 1274 x0 x5.toNat x4) 1275 x0 x5.toNat 0) 1276 x0 x5.toNat (-1)) 1277 x0 x5.toNat (-1)) 1278 x0 ≠ 0 ∧ ((0 : Int) ≤ x5 ∧ x5 < (gL (sI (sI (sI (sI (sI (sI (sI (sI (sI σ 1269 x0 x5.toNat x3) 1270 x0 x5.toNat x2) 1271 x0 x5.toNat 0) 1272 x0 x5.toNat 0) 1273 x0 x5.toNat (-1)) 1274 x0 x5.toNat x4) 1275 x0 x5.toNat 0) 1276 x0 x5.toNat (-1)) 1277 x0 x5.toNat (-1)) 1278 x0 : Int)) ∧ gL (sI (sI (sI (sI (sI (sI (sI (sI (sI (sI σ 1269 x0 x5.toNat x3) 1270 x0 x5.toNat x2) 1271 x0 x5.toNat 0) 1272 x0 x5.toNat 0) 1273 x0 x5.toNat (-1)) 1274 x0 x5.toNat x4) 1275 x0 x5.toNat 0) 1276 x0 x5.toNat (-1)) 1277 x0 x5.toNat (-1)) 1278 x0 x5.toNat (-1)) 1279 x0 ≠ 0 ∧ ((0 : Int) ≤ x5 ∧ x5 < (gL (sI (sI (sI (sI (sI (sI (sI (sI (sI (sI σ 1269 x0 x5.toNat x3) 1270 x0 x5.toNat x2) 1271 x0 x5.toNat 0) 1272 x0 x5.toNat 0) 1273 x0 x5.toNat (-1)) 1274 x0 x5.toNat x4) 1275 x0 x5.toNat 0) 1276 x0 x5.toNat (-1)) 1277 x0 x5.toNat (-1)) 1278 x0 x5.toNat (-1)) 1279 x0 : Int)) ∧ AW g l d MX12_make 160 [some (vR 12 (some x0)), none, some (vI x2), none, none, some (vI x5)] [] (sI (sI (sI (sI (sI (sI (sI (sI (sI (sI (sI σ 1269 x0 x5.toNat x3) 1270 x0 x5.toNat x2) 1271 x0 x5.toNat 0) 1272 x0 x5.toNat 0) 1273 x0 x5.toNat (-1)) 1274 x0 x5.toNat x4) 1275 x0 x5.toNat 0) 1276 x0 x5.toNat (-1)) 1277 x0 x5.toNat (-1)) 1278 x0 x5.toNat (-1)) 1279 x0 x5.toNat 0) Q) :
    AW g l d MX12_make 71 [some (vR 12 (some x0)), none, some (vI x2), some (vI x3), some (vI x4), some (vI x5)] [] σ Q := by
  refine aw_aload_n dX12_make_71 rfl rfl ?_
  obtain ⟨h0, h⟩ := h
  refine aw_getA' rfl fk_1269 (by decide) lf_X12_223 dX12_make_72 h0 ?_
  refine aw_iload dX12_make_75 rfl ?_
  refine aw_iload_n dX12_make_77 rfl rfl ?_
  obtain ⟨⟨h0, h1⟩, h⟩ := h
  refine aw_iastore (by decide) rfl dX12_make_78 h0 h1 ?_
  refine aw_aload_n dX12_make_79 rfl rfl ?_
  obtain ⟨h0, h⟩ := h
  refine aw_getA' rfl fk_1270 (by decide) lf_X12_226 dX12_make_80 h0 ?_
  refine aw_iload dX12_make_83 rfl ?_
  refine aw_iload_n dX12_make_85 rfl rfl ?_
  obtain ⟨⟨h0, h1⟩, h⟩ := h
  refine aw_iastore (by decide) rfl dX12_make_86 h0 h1 ?_
  refine aw_aload_n dX12_make_87 rfl rfl ?_
  obtain ⟨h0, h⟩ := h
  refine aw_getA' rfl fk_1271 (by decide) lf_X12_229 dX12_make_88 h0 ?_
  refine aw_iload dX12_make_91 rfl ?_
  refine aw_iconst (x := 0) dX12_make_93 rfl ?_
  obtain ⟨⟨h0, h1⟩, h⟩ := h
  refine aw_iastore (by decide) rfl dX12_make_94 h0 h1 ?_
  refine aw_aload_n dX12_make_95 rfl rfl ?_
  obtain ⟨h0, h⟩ := h
  refine aw_getA' rfl fk_1272 (by decide) lf_X12_232 dX12_make_96 h0 ?_
  refine aw_iload dX12_make_99 rfl ?_
  refine aw_iconst (x := 0) dX12_make_101 rfl ?_
  obtain ⟨⟨h0, h1⟩, h⟩ := h
  refine aw_iastore (by decide) rfl dX12_make_102 h0 h1 ?_
  refine aw_aload_n dX12_make_103 rfl rfl ?_
  obtain ⟨h0, h⟩ := h
  refine aw_getA' rfl fk_1273 (by decide) lf_X12_235 dX12_make_104 h0 ?_
  refine aw_iload dX12_make_107 rfl ?_
  refine aw_iconst (x := (-1)) dX12_make_109 rfl ?_
  obtain ⟨⟨h0, h1⟩, h⟩ := h
  refine aw_iastore (by decide) rfl dX12_make_110 h0 h1 ?_
  refine aw_aload_n dX12_make_111 rfl rfl ?_
  obtain ⟨h0, h⟩ := h
  refine aw_getA' rfl fk_1274 (by decide) lf_X12_238 dX12_make_112 h0 ?_
  refine aw_iload dX12_make_115 rfl ?_
  refine aw_iload dX12_make_117 rfl ?_
  obtain ⟨⟨h0, h1⟩, h⟩ := h
  refine aw_iastore (by decide) rfl dX12_make_119 h0 h1 ?_
  refine aw_aload_n dX12_make_120 rfl rfl ?_
  obtain ⟨h0, h⟩ := h
  refine aw_getA' rfl fk_1275 (by decide) lf_X12_241 dX12_make_121 h0 ?_
  refine aw_iload dX12_make_124 rfl ?_
  refine aw_iconst (x := 0) dX12_make_126 rfl ?_
  obtain ⟨⟨h0, h1⟩, h⟩ := h
  refine aw_iastore (by decide) rfl dX12_make_127 h0 h1 ?_
  refine aw_aload_n dX12_make_128 rfl rfl ?_
  obtain ⟨h0, h⟩ := h
  refine aw_getA' rfl fk_1276 (by decide) lf_X12_244 dX12_make_129 h0 ?_
  refine aw_iload dX12_make_132 rfl ?_
  refine aw_iconst (x := (-1)) dX12_make_134 rfl ?_
  obtain ⟨⟨h0, h1⟩, h⟩ := h
  refine aw_iastore (by decide) rfl dX12_make_135 h0 h1 ?_
  refine aw_aload_n dX12_make_136 rfl rfl ?_
  obtain ⟨h0, h⟩ := h
  refine aw_getA' rfl fk_1277 (by decide) lf_X12_247 dX12_make_137 h0 ?_
  refine aw_iload dX12_make_140 rfl ?_
  refine aw_iconst (x := (-1)) dX12_make_142 rfl ?_
  obtain ⟨⟨h0, h1⟩, h⟩ := h
  refine aw_iastore (by decide) rfl dX12_make_143 h0 h1 ?_
  refine aw_aload_n dX12_make_144 rfl rfl ?_
  obtain ⟨h0, h⟩ := h
  refine aw_getA' rfl fk_1278 (by decide) lf_X12_250 dX12_make_145 h0 ?_
  refine aw_iload dX12_make_148 rfl ?_
  refine aw_iconst (x := (-1)) dX12_make_150 rfl ?_
  obtain ⟨⟨h0, h1⟩, h⟩ := h
  refine aw_iastore (by decide) rfl dX12_make_151 h0 h1 ?_
  refine aw_aload_n dX12_make_152 rfl rfl ?_
  obtain ⟨h0, h⟩ := h
  refine aw_getA' rfl fk_1279 (by decide) lf_X12_253 dX12_make_153 h0 ?_
  refine aw_iload dX12_make_156 rfl ?_
  refine aw_iconst (x := 0) dX12_make_158 rfl ?_
  obtain ⟨⟨h0, h1⟩, h⟩ := h
  refine aw_bastore (by decide) rfl dX12_make_159 (Or.inl rfl) h0 h1 ?_
  exact aw_fgt (L' := [some (vR 12 (some x0)), none, some (vI x2), none, none, some (vI x5)]) ⟨rfl, ⟨rfl, ⟨rfl, trivial⟩⟩⟩ h
set_option maxRecDepth 4000 in
theorem bk_X12_make_160 {g : GP} {l : Launch} {d : Nat} {σ : St} {Q : Option AV → St → Prop} {x0 : Nat} {x2 : Int} {x5 : Int}
    (h : ((x2 < 0 → Q (some (vI x5)) σ) ∧ (¬ x2 < 0 → gL σ 1271 x0 ≠ 0 ∧ ((0 : Int) ≤ x2 ∧ x2 < (gL σ 1271 x0 : Int)) ∧ ((¬ (gI σ 1271 x0 x2.toNat) = 0 → gL σ 1278 x0 ≠ 0 ∧ gL σ 1277 x0 ≠ 0 ∧ ((0 : Int) ≤ x2 ∧ x2 < (gL σ 1277 x0 : Int)) ∧ ((0 : Int) ≤ (gI σ 1277 x0 x2.toNat) ∧ (gI σ 1277 x0 x2.toNat) < (gL σ 1278 x0 : Int)) ∧ AW g l d MX12_make 197 [some (vR 12 (some x0)), none, some (vI x2), none, none, some (vI x5)] [] (sI σ 1278 x0 (gI σ 1277 x0 x2.toNat).toNat x5) Q) ∧ ((gI σ 1271 x0 x2.toNat) = 0 → gL σ 1276 x0 ≠ 0 ∧ ((0 : Int) ≤ x2 ∧ x2 < (gL σ 1276 x0 : Int)) ∧ AW g l d MX12_make 197 [some (vR 12 (some x0)), none, some (vI x2), none, none, some (vI x5)] [] (sI σ 1276 x0 x2.toNat x5) Q))))) :
    AW g l d MX12_make 160 [some (vR 12 (some x0)), none, some (vI x2), none, none, some (vI x5)] [] σ Q := by
  refine aw_iload_n dX12_make_160 rfl rfl ?_
  refine aw_if_lt (tgt := 215) dX12_make_161 (by decide) (fun hc => ?_) (fun hc => ?_)
  · replace h := h.1 hc
    refine aw_iload dX12_make_215 rfl ?_
    exact aw_ireturn dX12_make_217 rfl h
  · replace h := h.2 hc
    refine aw_aload_n dX12_make_164 rfl rfl ?_
    obtain ⟨h0, h⟩ := h
    refine aw_getA' rfl fk_1271 (by decide) lf_X12_229 dX12_make_165 h0 ?_
    refine aw_iload_n dX12_make_168 rfl rfl ?_
    obtain ⟨⟨h0, h1⟩, h⟩ := h
    refine aw_iaload (by decide) rfl dX12_make_169 h0 h1 ?_
    refine aw_if_ne (tgt := 184) dX12_make_170 (by decide) (fun hc => ?_) (fun hc => ?_)
    · replace h := h.1 hc
      refine aw_aload_n dX12_make_184 rfl rfl ?_
      obtain ⟨h0, h⟩ := h
      refine aw_getA' rfl fk_1278 (by decide) lf_X12_250 dX12_make_185 h0 ?_
      refine aw_aload_n dX12_make_188 rfl rfl ?_
      obtain ⟨h0, h⟩ := h
      refine aw_getA' rfl fk_1277 (by decide) lf_X12_247 dX12_make_189 h0 ?_
      refine aw_iload_n dX12_make_192 rfl rfl ?_
      obtain ⟨⟨h0, h1⟩, h⟩ := h
      refine aw_iaload (by decide) rfl dX12_make_193 h0 h1 ?_
      refine aw_iload dX12_make_194 rfl ?_
      obtain ⟨⟨h0, h1⟩, h⟩ := h
      refine aw_iastore (by decide) rfl dX12_make_196 h0 h1 ?_
      exact aw_fgt (L' := [some (vR 12 (some x0)), none, some (vI x2), none, none, some (vI x5)]) ⟨rfl, ⟨rfl, ⟨rfl, trivial⟩⟩⟩ h
    · replace h := h.2 hc
      refine aw_aload_n dX12_make_173 rfl rfl ?_
      obtain ⟨h0, h⟩ := h
      refine aw_getA' rfl fk_1276 (by decide) lf_X12_244 dX12_make_174 h0 ?_
      refine aw_iload_n dX12_make_177 rfl rfl ?_
      refine aw_iload dX12_make_178 rfl ?_
      obtain ⟨⟨h0, h1⟩, h⟩ := h
      refine aw_iastore (by decide) rfl dX12_make_180 h0 h1 ?_
      refine aw_goto (tgt := 197) dX12_make_181 (by decide) ?_
      exact aw_fgt (L' := [some (vR 12 (some x0)), none, some (vI x2), none, none, some (vI x5)]) ⟨rfl, ⟨rfl, ⟨rfl, trivial⟩⟩⟩ h
set_option maxRecDepth 4000 in
theorem bk_X12_make_197 {g : GP} {l : Launch} {d : Nat} {σ : St} {Q : Option AV → St → Prop} {x0 : Nat} {x2 : Int} {x5 : Int}
    (h : gL σ 1277 x0 ≠ 0 ∧ ((0 : Int) ≤ x2 ∧ x2 < (gL σ 1277 x0 : Int)) ∧ gL (sI σ 1277 x0 x2.toNat x5) 1271 x0 ≠ 0 ∧ ((0 : Int) ≤ x2 ∧ x2 < (gL (sI σ 1277 x0 x2.toNat x5) 1271 x0 : Int)) ∧ ((0 : Int) ≤ x2 ∧ x2 < (gL (sI σ 1277 x0 x2.toNat x5) 1271 x0 : Int)) ∧ Q (some (vI x5)) (sI (sI σ 1277 x0 x2.toNat x5) 1271 x0 x2.toNat (w32 ((gI (sI σ 1277 x0 x2.toNat x5) 1271 x0 x2.toNat) + 1)))) :
    AW g l d MX12_make 197 [some (vR 12 (some x0)), none, some (vI x2), none, none, some (vI x5)] [] σ Q := by
  refine aw_aload_n dX12_make_197 rfl rfl ?_
  obtain ⟨h0, h⟩ := h
  refine aw_getA' rfl fk_1277 (by decide) lf_X12_247 dX12_make_198 h0 ?_
  refine aw_iload_n dX12_make_201 rfl rfl ?_
  refine aw_iload dX12_make_202 rfl ?_
  obtain ⟨⟨h0, h1⟩, h⟩ := h
  refine aw_iastore (by decide) rfl dX12_make_204 h0 h1 ?_
  refine aw_aload_n dX12_make_205 rfl rfl ?_
  obtain ⟨h0, h⟩ := h
  refine aw_getA' rfl fk_1271 (by decide) lf_X12_229 dX12_make_206 h0 ?_
  refine aw_iload_n dX12_make_209 rfl rfl ?_
  refine aw_dup2 dX12_make_210 rfl rfl ?_
  obtain ⟨⟨h0, h1⟩, h⟩ := h
  refine aw_iaload (by decide) rfl dX12_make_211 h0 h1 ?_
  refine aw_iconst (x := 1) dX12_make_212 rfl ?_
  refine aw_iadd dX12_make_213 ?_
  obtain ⟨⟨h0, h1⟩, h⟩ := h
  refine aw_iastore (by decide) rfl dX12_make_214 h0 h1 ?_
  refine aw_iload dX12_make_215 rfl ?_
  exact aw_ireturn dX12_make_217 rfl h
set_option maxRecDepth 4000 in
theorem bk_X12_mask_0 {g : GP} {l : Launch} {d : Nat} {σ : St} {Q : Option AV → St → Prop} {x1 : Int64}
    (h : ((x1.toInt < (64 : Int64).toInt → Q (some (vJ ((j_shl 1 (j2i x1)) - (1 : Int64)))) σ) ∧ (¬ x1.toInt < (64 : Int64).toInt → Q (some (vJ (-1))) σ))) :
    AW g l d MX12_mask 0 [none, some (vJ x1), none] [] σ Q := by
  refine aw_lload_n dX12_mask_0 rfl rfl ?_
  refine aw_ldc2 lk_X12_487 dX12_mask_1 ?_
  refine aw_lcmp_lt (M := MX12_mask) (tgt := 14) dX12_mask_4 dX12_mask_5 (by decide) (fun hc => ?_) (fun hc => ?_)
  · replace h := h.1 hc
    refine aw_lconst (x := 1) dX12_mask_14 rfl ?_
    refine aw_lload_n dX12_mask_15 rfl rfl ?_
    refine aw_l2i dX12_mask_16 ?_
    refine aw_lshl dX12_mask_17 ?_
    refine aw_lconst (x := 1) dX12_mask_18 rfl ?_
    refine aw_lsub dX12_mask_19 ?_
    exact aw_lreturn dX12_mask_20 rfl h
  · replace h := h.2 hc
    refine aw_ldc2 lk_X12_521 dX12_mask_8 ?_
    refine aw_goto (tgt := 20) dX12_mask_11 (by decide) ?_
    exact aw_lreturn dX12_mask_20 rfl h
set_option maxRecDepth 4000 in
theorem bk_X12_masked_0 {g : GP} {l : Launch} {d : Nat} {σ : St} {Q : Option AV → St → Prop} {x0 : Nat} {x1 : Int} {x2 : Int}
    (h : ACi g l d MX12_isImage [vR 12 (some x0), vI x1] σ (fun v2 σ1 => ((v2 = 0 → Q (some (vI (-1))) σ1) ∧ (¬ v2 = 0 → (((gI σ1 1211 x0 0) = 0 → Q (some (vI (-1))) σ1) ∧ (¬ (gI σ1 1211 x0 0) = 0 → (((i_rem (gI σ1 1211 x0 0) 2) = 1 → Q (some (vI (-1))) σ1) ∧ (¬ (i_rem (gI σ1 1211 x0 0) 2) = 1 → ((0 ≤ x2 → AW g l (d + 1) MX12_masked 36 [some (vR 12 (some x0)), some (vI x1), none, some (vI x2), some (vI 0), none, none] [] σ1 Q) ∧ (¬ 0 ≤ x2 → Q (some (vI (-1))) σ1)))))))))) :
    AW g l (d + 1) MX12_masked 0 [some (vR 12 (some x0)), some (vI x1), some (vI x2), none, none, none, none] [] σ Q := by
  refine aw_aload_n dX12_masked_0 rfl rfl ?_
  refine aw_iload_n dX12_masked_1 rfl rfl ?_
  refine aw_invVi (M := MX12_masked) (ci := 12) [vI x1] rfl mo_X12_isImage rfl lm_X12_293 li_X12_isImage ls_X12_isImage (by decide +kernel) dX12_masked_2 rfl (Nat.le_of_ble_eq_true rfl) (ACi.mono (fun v2 σ1 h => ?_) h)
  refine aw_if_eq (tgt := 29) dX12_masked_5 (by decide) (fun hc => ?_) (fun hc => ?_)
  · replace h := h.1 hc
    refine aw_iconst (x := (-1)) dX12_masked_29 rfl ?_
    exact aw_ireturn dX12_masked_30 rfl h
  · replace h := h.2 hc
    refine aw_aload_n dX12_masked_8 rfl rfl ?_
    refine aw_getI' rfl fk_1211 lf_X12_45 dX12_masked_9 ?_
    refine aw_if_eq (tgt := 29) dX12_masked_12 (by decide) (fun hc => ?_) (fun hc => ?_)
    · replace h := h.1 hc
      refine aw_iconst (x := (-1)) dX12_masked_29 rfl ?_
      exact aw_ireturn dX12_masked_30 rfl h
    · replace h := h.2 hc
      refine aw_aload_n dX12_masked_15 rfl rfl ?_
      refine aw_getI' rfl fk_1211 lf_X12_45 dX12_masked_16 ?_
      refine aw_iconst (x := 2) dX12_masked_19 rfl ?_
      refine aw_irem dX12_masked_20 (by decide) ?_
      refine aw_iconst (x := 1) dX12_masked_21 rfl ?_
      refine aw_icmp_eq (tgt := 29) dX12_masked_22 (by decide) (fun hc => ?_) (fun hc => ?_)
      · replace h := h.1 hc
        refine aw_iconst (x := (-1)) dX12_masked_29 rfl ?_
        exact aw_ireturn dX12_masked_30 rfl h
      · replace h := h.2 hc
        refine aw_iload_n dX12_masked_25 rfl rfl ?_
        refine aw_if_ge (tgt := 31) dX12_masked_26 (by decide) (fun hc => ?_) (fun hc => ?_)
        · replace h := h.1 hc
          refine aw_iload_n dX12_masked_31 rfl rfl ?_
          refine aw_istore_n dX12_masked_32 rfl (by decide) rfl ?_
          refine aw_iconst (x := 0) dX12_masked_33 rfl ?_
          refine aw_istore dX12_masked_34 (by decide) rfl ?_
          exact aw_fgt (L' := [some (vR 12 (some x0)), some (vI x1), none, some (vI x2), some (vI 0), none, none]) ⟨rfl, ⟨rfl, ⟨rfl, ⟨rfl, trivial⟩⟩⟩⟩ h
        · replace h := h.2 hc
          refine aw_iconst (x := (-1)) dX12_masked_29 rfl ?_
          exact aw_ireturn dX12_masked_30 rfl h
set_option maxRecDepth 4000 in
theorem bk_X12_masked_36 {g : GP} {l : Launch} {d : Nat} {σ : St} {Q : Option AV → St → Prop} {x0 : Nat} {x1 : Int} {x3 : Int} {x4 : Int}
    (h : gL σ 1201 x0 ≠ 0 ∧ ((0 : Int) ≤ x1 ∧ x1 < (gL σ 1201 x0 : Int)) ∧ (((gI σ 1201 x0 x1.toNat) < (w32 (x4 + (i_div (gI σ 1211 x0 0) 2))) → Q (some (vI (-1))) σ) ∧ (¬ (gI σ 1201 x0 x1.toNat) < (w32 (x4 + (i_div (gI σ 1211 x0 0) 2))) → AW g l (d + 1) MX12_masked 60 [some (vR 12 (some x0)), some (vI x1), none, some (vI x3), some (vI x4), some (vI 1), some (vI 0)] [] σ Q))) :
    AW g l (d + 1) MX12_masked 36 [some (vR 12 (some x0)), some (vI x1), none, some (vI x3), some (vI x4), none, none] [] σ Q := by
  refine aw_iload dX12_masked_36 rfl ?_
  refine aw_aload_n dX12_masked_38 rfl rfl ?_
  refine aw_getI' rfl fk_1211 lf_X12_45 dX12_masked_39 ?_
  refine aw_iconst (x := 2) dX12_masked_42 rfl ?_
  refine aw_idiv dX12_masked_43 (by decide) ?_
  refine aw_iadd dX12_masked_44 ?_
  refine aw_aload_n dX12_masked_45 rfl rfl ?_
  obtain ⟨h0, h⟩ := h
  refine aw_getA' rfl fk_1201 (by decide) lf_X12_13 dX12_masked_46 h0 ?_
  refine aw_iload_n dX12_masked_49 rfl rfl ?_
  obtain ⟨⟨h0, h1⟩, h⟩ := h
  refine aw_iaload (by decide) rfl dX12_masked_50 h0 h1 ?_
  refine aw_icmp_gt (tgt := 149) dX12_masked_51 (by decide) (fun hc => ?_) (fun hc => ?_)
  · replace h := h.1 hc
    refine aw_iconst (x := (-1)) dX12_masked_149 rfl ?_
    exact aw_ireturn dX12_masked_150 rfl h
  · replace h := h.2 hc
    refine aw_iconst (x := 1) dX12_masked_54 rfl ?_
    refine aw_istore dX12_masked_55 (by decide) rfl ?_
    refine aw_iconst (x := 0) dX12_masked_57 rfl ?_
    refine aw_istore dX12_masked_58 (by decide) rfl ?_
    exact aw_fgt (L' := [some (vR 12 (some x0)), some (vI x1), none, some (vI x3), some (vI x4), some (vI 1), some (vI 0)]) ⟨rfl, ⟨rfl, ⟨rfl, ⟨rfl, ⟨rfl, ⟨rfl, trivial⟩⟩⟩⟩⟩⟩ h
set_option maxRecDepth 4000 in
theorem bk_X12_masked_60 {g : GP} {l : Launch} {d : Nat} {σ : St} {Q : Option AV → St → Prop} {x0 : Nat} {x1 : Int} {x3 : Int} {x4 : Int} {x5 : Int} {x6 : Int}
    (h : (((i_div (gI σ 1211 x0 0) 2) ≤ x6 → ((¬ x5 = 0 → ((¬ x3 = 0 → AW g l (d + 1) MX12_masked 36 [some (vR 12 (some x0)), some (vI x1), none, some (vI (w32 (x3 + (-1)))), some (vI (w32 (x4 + 1))), none, none] [] σ Q) ∧ (x3 = 0 → Q (some (vI x4)) σ))) ∧ (x5 = 0 → AW g l (d + 1) MX12_masked 36 [some (vR 12 (some x0)), some (vI x1), none, some (vI x3), some (vI (w32 (x4 + 1))), none, none] [] σ Q))) ∧ (¬ (i_div (gI σ 1211 x0 0) 2) ≤ x6 → ((x5 = 0 → ((¬ x5 = 0 → ((¬ x3 = 0 → AW g l (d + 1) MX12_masked 36 [some (vR 12 (some x0)), some (vI x1), none, some (vI (w32 (x3 + (-1)))), some (vI (w32 (x4 + 1))), none, none] [] σ Q) ∧ (x3 = 0 → Q (some (vI x4)) σ))) ∧ (x5 = 0 → AW g l (d + 1) MX12_masked 36 [some (vR 12 (some x0)), some (vI x1), none, some (vI x3), some (vI (w32 (x4 + 1))), none, none] [] σ Q))) ∧ (¬ x5 = 0 → gL σ 1210 x0 ≠ 0 ∧ ((0 : Int) ≤ x6 ∧ x6 < (gL σ 1210 x0 : Int)) ∧ ACi g l d MX12_has [vR 12 (some x0), vI x1, vI (w32 (x4 + x6))] σ (fun v2 σ1 => gL σ1 1210 x0 ≠ 0 ∧ ((0 : Int) ≤ (w32 ((i_div (gI σ1 1211 x0 0) 2) + x6)) ∧ (w32 ((i_div (gI σ1 1211 x0 0) 2) + x6)) < (gL σ1 1210 x0 : Int)) ∧ ((¬ (i_and (i_xor (gI σ 1210 x0 x6.toNat) v2) (gI σ1 1210 x0 (w32 ((i_div (gI σ1 1211 x0 0) 2) + x6)).toNat)) = 0 → AW g l (d + 1) MX12_masked 60 [some (vR 12 (some x0)), some (vI x1), none, some (vI x3), some (vI x4), some (vI 0), some (vI (w32 (x6 + 1)))] [] σ1 Q) ∧ ((i_and (i_xor (gI σ 1210 x0 x6.toNat) v2) (gI σ1 1210 x0 (w32 ((i_div (gI σ1 1211 x0 0) 2) + x6)).toNat)) = 0 → AW g l (d + 1) MX12_masked 60 [some (vR 12 (some x0)), some (vI x1), none, some (vI x3), some (vI x4), some (vI 1), some (vI (w32 (x6 + 1)))] [] σ1 Q)))))))) :
    AW g l (d + 1) MX12_masked 60 [some (vR 12 (some x0)), some (vI x1), none, some (vI x3), some (vI x4), some (vI x5), some (vI x6)] [] σ Q := by
  refine aw_iload dX12_masked_60 rfl ?_
  refine aw_aload_n dX12_masked_62 rfl rfl ?_
  refine aw_getI' rfl fk_1211 lf_X12_45 dX12_masked_63 ?_
  refine aw_iconst (x := 2) dX12_masked_66 rfl ?_
  refine aw_idiv dX12_masked_67 (by decide) ?_
  refine aw_icmp_ge (tgt := 125) dX12_masked_68 (by decide) (fun hc => ?_) (fun hc => ?_)
  · replace h := h.1 hc
    refine aw_iload dX12_masked_125 rfl ?_
    refine aw_if_ne (tgt := 133) dX12_masked_127 (by decide) (fun hc => ?_) (fun hc => ?_)
    · replace h := h.1 hc
      refine aw_iload_n dX12_masked_133 rfl rfl ?_
      refine aw_if_ne (tgt := 140) dX12_masked_134 (by decide) (fun hc => ?_) (fun hc => ?_)
      · replace h := h.1 hc
        refine aw_iinc dX12_masked_140 rfl (by decide) rfl rfl ?_
        refine aw_iinc dX12_masked_143 rfl (by decide) rfl rfl ?_
        refine aw_goto (tgt := 36) dX12_masked_146 (by decide) ?_
        exact aw_fgt (L' := [some (vR 12 (some x0)), some (vI x1), none, some (vI (w32 (x3 + (-1)))), some (vI (w32 (x4 + 1))), none, none]) ⟨rfl, ⟨rfl, ⟨rfl, ⟨rfl, trivial⟩⟩⟩⟩ h
      · replace h := h.2 hc
        refine aw_iload dX12_masked_137 rfl ?_
        exact aw_ireturn dX12_masked_139 rfl h
    · replace h := h.2 hc
      refine aw_goto (tgt := 143) dX12_masked_130 (by decide) ?_
      refine aw_iinc dX12_masked_143 rfl (by decide) rfl rfl ?_
      refine aw_goto (tgt := 36) dX12_masked_146 (by decide) ?_
      exact aw_fgt (L' := [some (vR 12 (some x0)), some (vI x1), none, some (vI x3), some (vI (w32 (x4 + 1))), none, none]) ⟨rfl, ⟨rfl, ⟨rfl, ⟨rfl, trivial⟩⟩⟩⟩ h
  · replace h := h.2 hc
    refine aw_iload dX12_masked_71 rfl ?_
    refine aw_if_eq (tgt := 125) dX12_masked_73 (by decide) (fun hc => ?_) (fun hc => ?_)
    · replace h := h.1 hc
      refine aw_iload dX12_masked_125 rfl ?_
      refine aw_if_ne (tgt := 133) dX12_masked_127 (by decide) (fun hc => ?_) (fun hc => ?_)
      · replace h := h.1 hc
        refine aw_iload_n dX12_masked_133 rfl rfl ?_
        refine aw_if_ne (tgt := 140) dX12_masked_134 (by decide) (fun hc => ?_) (fun hc => ?_)
        · replace h := h.1 hc
          refine aw_iinc dX12_masked_140 rfl (by decide) rfl rfl ?_
          refine aw_iinc dX12_masked_143 rfl (by decide) rfl rfl ?_
          refine aw_goto (tgt := 36) dX12_masked_146 (by decide) ?_
          exact aw_fgt (L' := [some (vR 12 (some x0)), some (vI x1), none, some (vI (w32 (x3 + (-1)))), some (vI (w32 (x4 + 1))), none, none]) ⟨rfl, ⟨rfl, ⟨rfl, ⟨rfl, trivial⟩⟩⟩⟩ h
        · replace h := h.2 hc
          refine aw_iload dX12_masked_137 rfl ?_
          exact aw_ireturn dX12_masked_139 rfl h
      · replace h := h.2 hc
        refine aw_goto (tgt := 143) dX12_masked_130 (by decide) ?_
        refine aw_iinc dX12_masked_143 rfl (by decide) rfl rfl ?_
        refine aw_goto (tgt := 36) dX12_masked_146 (by decide) ?_
        exact aw_fgt (L' := [some (vR 12 (some x0)), some (vI x1), none, some (vI x3), some (vI (w32 (x4 + 1))), none, none]) ⟨rfl, ⟨rfl, ⟨rfl, ⟨rfl, trivial⟩⟩⟩⟩ h
    · replace h := h.2 hc
      refine aw_aload_n dX12_masked_76 rfl rfl ?_
      obtain ⟨h0, h⟩ := h
      refine aw_getA' rfl fk_1210 (by decide) lf_X12_42 dX12_masked_77 h0 ?_
      refine aw_iload dX12_masked_80 rfl ?_
      obtain ⟨⟨h0, h1⟩, h⟩ := h
      refine aw_iaload (by decide) rfl dX12_masked_82 h0 h1 ?_
      refine aw_aload_n dX12_masked_83 rfl rfl ?_
      refine aw_iload_n dX12_masked_84 rfl rfl ?_
      refine aw_iload dX12_masked_85 rfl ?_
      refine aw_iload dX12_masked_87 rfl ?_
      refine aw_iadd dX12_masked_89 ?_
      refine aw_invVi (M := MX12_masked) (ci := 12) [vI x1, vI (w32 (x4 + x6))] rfl mo_X12_has rfl lm_X12_299 li_X12_has ls_X12_has (by decide +kernel) dX12_masked_90 rfl (Nat.le_of_ble_eq_true rfl) (ACi.mono (fun v2 σ1 h => ?_) h)
      refine aw_ixor dX12_masked_93 ?_
      refine aw_aload_n dX12_masked_94 rfl rfl ?_
      obtain ⟨h0, h⟩ := h
      refine aw_getA' rfl fk_1210 (by decide) lf_X12_42 dX12_masked_95 h0 ?_
      refine aw_aload_n dX12_masked_98 rfl rfl ?_
      refine aw_getI' rfl fk_1211 lf_X12_45 dX12_masked_99 ?_
      refine aw_iconst (x := 2) dX12_masked_102 rfl ?_
      refine aw_idiv dX12_masked_103 (by decide) ?_
      refine aw_iload dX12_masked_104 rfl ?_
      refine aw_iadd dX12_masked_106 ?_
      obtain ⟨⟨h0, h1⟩, h⟩ := h
      refine aw_iaload (by decide) rfl dX12_masked_107 h0 h1 ?_
      refine aw_iand dX12_masked_108 ?_
      refine aw_if_ne (tgt := 116) dX12_masked_109 (by decide) (fun hc => ?_) (fun hc => ?_)
      · replace h := h.1 hc
        refine aw_iconst (x := 0) dX12_masked_116 rfl ?_
        refine aw_istore dX12_masked_117 (by decide) rfl ?_
        refine aw_iinc dX12_masked_119 rfl (by decide) rfl rfl ?_
        refine aw_goto (tgt := 60) dX12_masked_122 (by decide) ?_
        exact aw_fgt (L' := [some (vR 12 (some x0)), some (vI x1), none, some (vI x3), some (vI x4), some (vI 0), some (vI (w32 (x6 + 1)))]) ⟨rfl, ⟨rfl, ⟨rfl, ⟨rfl, ⟨rfl, ⟨rfl, trivial⟩⟩⟩⟩⟩⟩ h
      · replace h := h.2 hc
        refine aw_iconst (x := 1) dX12_masked_112 rfl ?_
        refine aw_goto (tgt := 117) dX12_masked_113 (by decide) ?_
        refine aw_istore dX12_masked_117 (by decide) rfl ?_
        refine aw_iinc dX12_masked_119 rfl (by decide) rfl rfl ?_
        refine aw_goto (tgt := 60) dX12_masked_122 (by decide) ?_
        exact aw_fgt (L' := [some (vR 12 (some x0)), some (vI x1), none, some (vI x3), some (vI x4), some (vI 1), some (vI (w32 (x6 + 1)))]) ⟨rfl, ⟨rfl, ⟨rfl, ⟨rfl, ⟨rfl, ⟨rfl, trivial⟩⟩⟩⟩⟩⟩ h
set_option maxRecDepth 4000 in
theorem bk_X12_moved_0 {g : GP} {l : Launch} {d : Nat} {σ : St} {Q : Option AV → St → Prop} {x1 : Int} {x2 : Int}
    (h : ((0 ≤ x1 → Q (some (vI (w32 (x1 - x2)))) σ) ∧ (¬ 0 ≤ x1 → Q (some (vI x1)) σ))) :
    AW g l d MX12_moved 0 [none, some (vI x1), some (vI x2)] [] σ Q := by
  refine aw_iload_n dX12_moved_0 rfl rfl ?_
  refine aw_if_ge (tgt := 8) dX12_moved_1 (by decide) (fun hc => ?_) (fun hc => ?_)
  · replace h := h.1 hc
    refine aw_iload_n dX12_moved_8 rfl rfl ?_
    refine aw_iload_n dX12_moved_9 rfl rfl ?_
    refine aw_isub dX12_moved_10 ?_
    exact aw_ireturn dX12_moved_11 rfl h
  · replace h := h.2 hc
    refine aw_iload_n dX12_moved_4 rfl rfl ?_
    refine aw_goto (tgt := 11) dX12_moved_5 (by decide) ?_
    exact aw_ireturn dX12_moved_11 rfl h
set_option maxRecDepth 4000 in
theorem bk_X12_must_0 {g : GP} {l : Launch} {d : Nat} {σ : St} {Q : Option AV → St → Prop} {x0 : Nat} {x1 : Int} {x2 : Int}
    (h : ((¬ x1 = 0 → ((¬ (gI σ 1251 x0 0) = 0 → Q (some (vI 0)) σ) ∧ ((gI σ 1251 x0 0) = 0 → Q (some (vI 1)) σ))) ∧ (x1 = 0 → ACv g l d MX12_fault [vR 12 (some x0), vI x2] σ (fun σ1 => ((¬ (gI σ1 1251 x0 0) = 0 → Q (some (vI 0)) σ1) ∧ ((gI σ1 1251 x0 0) = 0 → Q (some (vI 1)) σ1)))))) :
    AW g l (d + 1) MX12_must 0 [some (vR 12 (some x0)), some (vI x1), some (vI x2)] [] σ Q := by
  refine aw_iload_n dX12_must_0 rfl rfl ?_
  refine aw_if_ne (tgt := 9) dX12_must_1 (by decide) (fun hc => ?_) (fun hc => ?_)
  · replace h := h.1 hc
    refine aw_aload_n dX12_must_9 rfl rfl ?_
    refine aw_getI' rfl fk_1251 lf_X12_167 dX12_must_10 ?_
    refine aw_if_ne (tgt := 20) dX12_must_13 (by decide) (fun hc => ?_) (fun hc => ?_)
    · replace h := h.1 hc
      refine aw_iconst (x := 0) dX12_must_20 rfl ?_
      exact aw_zreturn dX12_must_21 rfl (Or.inl rfl) h
    · replace h := h.2 hc
      refine aw_iconst (x := 1) dX12_must_16 rfl ?_
      refine aw_goto (tgt := 21) dX12_must_17 (by decide) ?_
      exact aw_zreturn dX12_must_21 rfl (Or.inr rfl) h
  · replace h := h.2 hc
    refine aw_aload_n dX12_must_4 rfl rfl ?_
    refine aw_iload_n dX12_must_5 rfl rfl ?_
    refine aw_invVv (M := MX12_must) (ci := 12) [vI x2] rfl mo_X12_fault rfl lm_X12_397 li_X12_fault ls_X12_fault (by decide +kernel) dX12_must_6 rfl (Nat.le_of_ble_eq_true rfl) (ACv.mono (fun σ1 h => ?_) h)
    refine aw_aload_n dX12_must_9 rfl rfl ?_
    refine aw_getI' rfl fk_1251 lf_X12_167 dX12_must_10 ?_
    refine aw_if_ne (tgt := 20) dX12_must_13 (by decide) (fun hc => ?_) (fun hc => ?_)
    · replace h := h.1 hc
      refine aw_iconst (x := 0) dX12_must_20 rfl ?_
      exact aw_zreturn dX12_must_21 rfl (Or.inl rfl) h
    · replace h := h.2 hc
      refine aw_iconst (x := 1) dX12_must_16 rfl ?_
      refine aw_goto (tgt := 21) dX12_must_17 (by decide) ?_
      exact aw_zreturn dX12_must_21 rfl (Or.inr rfl) h
set_option maxRecDepth 4000 in
theorem bk_X12_nameOf_0 {g : GP} {l : Launch} {d : Nat} {σ : St} {Q : Option AV → St → Prop} {x0 : Nat} {x1 : Int}
    (h : gL σ 1270 x0 ≠ 0 ∧ ((0 : Int) ≤ x1 ∧ x1 < (gL σ 1270 x0 : Int)) ∧ (((gI σ 1270 x0 x1.toNat) < 0 → AW g l d MX12_nameOf 29 [some (vR 12 (some x0)), some (vI x1), none] [vI 0] σ Q) ∧ (¬ (gI σ 1270 x0 x1.toNat) < 0 → gL σ 1267 x0 ≠ 0 ∧ gL σ 1270 x0 ≠ 0 ∧ ((0 : Int) ≤ x1 ∧ x1 < (gL σ 1270 x0 : Int)) ∧ ((0 : Int) ≤ (gI σ 1270 x0 x1.toNat) ∧ (gI σ 1270 x0 x1.toNat) < (gL σ 1267 x0 : Int)) ∧ ((¬ (gI σ 1267 x0 (gI σ 1270 x0 x1.toNat).toNat) = 2 → AW g l d MX12_nameOf 29 [some (vR 12 (some x0)), some (vI x1), none] [vI 0] σ Q) ∧ ((gI σ 1267 x0 (gI σ 1270 x0 x1.toNat).toNat) = 2 → AW g l d MX12_nameOf 29 [some (vR 12 (some x0)), some (vI x1), none] [vI 1] σ Q))))) :
    AW g l d MX12_nameOf 0 [some (vR 12 (some x0)), some (vI x1), none] [] σ Q := by
  refine aw_aload_n dX12_nameOf_0 rfl rfl ?_
  obtain ⟨h0, h⟩ := h
  refine aw_getA' rfl fk_1270 (by decide) lf_X12_226 dX12_nameOf_1 h0 ?_
  refine aw_iload_n dX12_nameOf_4 rfl rfl ?_
  obtain ⟨⟨h0, h1⟩, h⟩ := h
  refine aw_iaload (by decide) rfl dX12_nameOf_5 h0 h1 ?_
  refine aw_if_lt (tgt := 28) dX12_nameOf_6 (by decide) (fun hc => ?_) (fun hc => ?_)
  · replace h := h.1 hc
    refine aw_iconst (x := 0) dX12_nameOf_28 rfl ?_
    exact aw_fgt (L' := [some (vR 12 (some x0)), some (vI x1), none]) ⟨rfl, ⟨rfl, trivial⟩⟩ h
  · replace h := h.2 hc
    refine aw_aload_n dX12_nameOf_9 rfl rfl ?_
    obtain ⟨h0, h⟩ := h
    refine aw_getA' rfl fk_1267 (by decide) lf_X12_217 dX12_nameOf_10 h0 ?_
    refine aw_aload_n dX12_nameOf_13 rfl rfl ?_
    obtain ⟨h0, h⟩ := h
    refine aw_getA' rfl fk_1270 (by decide) lf_X12_226 dX12_nameOf_14 h0 ?_
    refine aw_iload_n dX12_nameOf_17 rfl rfl ?_
    obtain ⟨⟨h0, h1⟩, h⟩ := h
    refine aw_iaload (by decide) rfl dX12_nameOf_18 h0 h1 ?_
    obtain ⟨⟨h0, h1⟩, h⟩ := h
    refine aw_iaload (by decide) rfl dX12_nameOf_19 h0 h1 ?_
    refine aw_iconst (x := 2) dX12_nameOf_20 rfl ?_
    refine aw_icmp_ne (tgt := 28) dX12_nameOf_21 (by decide) (fun hc => ?_) (fun hc => ?_)
    · replace h := h.1 hc
      refine aw_iconst (x := 0) dX12_nameOf_28 rfl ?_
      exact aw_fgt (L' := [some (vR 12 (some x0)), some (vI x1), none]) ⟨rfl, ⟨rfl, trivial⟩⟩ h
    · replace h := h.2 hc
      refine aw_iconst (x := 1) dX12_nameOf_24 rfl ?_
      refine aw_goto (tgt := 29) dX12_nameOf_25 (by decide) ?_
      exact aw_fgt (L' := [some (vR 12 (some x0)), some (vI x1), none]) ⟨rfl, ⟨rfl, trivial⟩⟩ h
set_option maxRecDepth 4000 in
theorem bk_X12_nameOf_29 {g : GP} {l : Launch} {d : Nat} {σ : St} {Q : Option AV → St → Prop} {x0 : Nat} {x1 : Int} {y0 : Int}
    (h : gL σ 1267 x0 ≠ 0 ∧ ((0 : Int) ≤ x1 ∧ x1 < (gL σ 1267 x0 : Int)) ∧ ((¬ (gI σ 1267 x0 x1.toNat) = 0 → AW g l d MX12_nameOf 68 [some (vR 12 (some x0)), some (vI x1), some (vI y0)] [] σ Q) ∧ ((gI σ 1267 x0 x1.toNat) = 0 → gL σ 1274 x0 ≠ 0 ∧ ((0 : Int) ≤ x1 ∧ x1 < (gL σ 1274 x0 : Int)) ∧ ((0 ≤ (gI σ 1274 x0 x1.toNat) → AW g l d MX12_nameOf 68 [some (vR 12 (some x0)), some (vI x1), some (vI y0)] [] σ Q) ∧ (¬ 0 ≤ (gI σ 1274 x0 x1.toNat) → gL σ 1221 x0 ≠ 0 ∧ gL σ 1273 x0 ≠ 0 ∧ ((0 : Int) ≤ x1 ∧ x1 < (gL σ 1273 x0 : Int)) ∧ ((0 : Int) ≤ (w32 ((w32 (20 * (gI σ 1218 x0 0))) + (gI σ 1273 x0 x1.toNat))) ∧ (w32 ((w32 (20 * (gI σ 1218 x0 0))) + (gI σ 1273 x0 x1.toNat))) < (gL σ 1221 x0 : Int)) ∧ Q (some (vJ (gJ σ 1221 x0 (w32 ((w32 (20 * (gI σ 1218 x0 0))) + (gI σ 1273 x0 x1.toNat))).toNat))) σ))))) :
    AW g l d MX12_nameOf 29 [some (vR 12 (some x0)), some (vI x1), none] [vI y0] σ Q := by
  refine aw_istore_n dX12_nameOf_29 rfl (by decide) rfl ?_
  refine aw_aload_n dX12_nameOf_30 rfl rfl ?_
  obtain ⟨h0, h⟩ := h
  refine aw_getA' rfl fk_1267 (by decide) lf_X12_217 dX12_nameOf_31 h0 ?_
  refine aw_iload_n dX12_nameOf_34 rfl rfl ?_
  obtain ⟨⟨h0, h1⟩, h⟩ := h
  refine aw_iaload (by decide) rfl dX12_nameOf_35 h0 h1 ?_
  refine aw_if_ne (tgt := 68) dX12_nameOf_36 (by decide) (fun hc => ?_) (fun hc => ?_)
  · replace h := h.1 hc
    exact aw_fgt (L' := [some (vR 12 (some x0)), some (vI x1), some (vI y0)]) ⟨rfl, ⟨rfl, ⟨rfl, trivial⟩⟩⟩ h
  · replace h := h.2 hc
    refine aw_aload_n dX12_nameOf_39 rfl rfl ?_
    obtain ⟨h0, h⟩ := h
    refine aw_getA' rfl fk_1274 (by decide) lf_X12_238 dX12_nameOf_40 h0 ?_
    refine aw_iload_n dX12_nameOf_43 rfl rfl ?_
    obtain ⟨⟨h0, h1⟩, h⟩ := h
    refine aw_iaload (by decide) rfl dX12_nameOf_44 h0 h1 ?_
    refine aw_if_ge (tgt := 68) dX12_nameOf_45 (by decide) (fun hc => ?_) (fun hc => ?_)
    · replace h := h.1 hc
      exact aw_fgt (L' := [some (vR 12 (some x0)), some (vI x1), some (vI y0)]) ⟨rfl, ⟨rfl, ⟨rfl, trivial⟩⟩⟩ h
    · replace h := h.2 hc
      refine aw_aload_n dX12_nameOf_48 rfl rfl ?_
      obtain ⟨h0, h⟩ := h
      refine aw_getA' rfl fk_1221 (by decide) lf_X12_76 dX12_nameOf_49 h0 ?_
      refine aw_bipush (x := 20) dX12_nameOf_52 rfl ?_
      refine aw_aload_n dX12_nameOf_54 rfl rfl ?_
      refine aw_getI' rfl fk_1218 lf_X12_67 dX12_nameOf_55 ?_
      refine aw_imul dX12_nameOf_58 ?_
      refine aw_aload_n dX12_nameOf_59 rfl rfl ?_
      obtain ⟨h0, h⟩ := h
      refine aw_getA' rfl fk_1273 (by decide) lf_X12_235 dX12_nameOf_60 h0 ?_
      refine aw_iload_n dX12_nameOf_63 rfl rfl ?_
      obtain ⟨⟨h0, h1⟩, h⟩ := h
      refine aw_iaload (by decide) rfl dX12_nameOf_64 h0 h1 ?_
      refine aw_iadd dX12_nameOf_65 ?_
      obtain ⟨⟨h0, h1⟩, h⟩ := h
      refine aw_laload (by decide) rfl dX12_nameOf_66 h0 h1 ?_
      exact aw_lreturn dX12_nameOf_67 rfl h
set_option maxRecDepth 4000 in
theorem bk_X12_nameOf_68 {g : GP} {l : Launch} {d : Nat} {σ : St} {Q : Option AV → St → Prop} {x0 : Nat} {x1 : Int} {x2 : Int}
    (h : gL σ 1267 x0 ≠ 0 ∧ ((0 : Int) ≤ x1 ∧ x1 < (gL σ 1267 x0 : Int)) ∧ (((gI σ 1267 x0 x1.toNat) = 8 → Q (some (vJ 0)) σ) ∧ (¬ (gI σ 1267 x0 x1.toNat) = 8 → ((x2 = 0 → gL σ 1267 x0 ≠ 0 ∧ ((0 : Int) ≤ x1 ∧ x1 < (gL σ 1267 x0 : Int)) ∧ ((¬ (gI σ 1267 x0 x1.toNat) = 4 → gL σ 1238 x0 ≠ 0 ∧ gL σ 1274 x0 ≠ 0 ∧ ((0 : Int) ≤ x1 ∧ x1 < (gL σ 1274 x0 : Int)) ∧ ((0 : Int) ≤ (gI σ 1274 x0 x1.toNat) ∧ (gI σ 1274 x0 x1.toNat) < (gL σ 1238 x0 : Int)) ∧ Q (some (vJ (gJ σ 1238 x0 (gI σ 1274 x0 x1.toNat).toNat))) σ) ∧ ((gI σ 1267 x0 x1.toNat) = 4 → gL σ 1239 x0 ≠ 0 ∧ gL σ 1274 x0 ≠ 0 ∧ ((0 : Int) ≤ x1 ∧ x1 < (gL σ 1274 x0 : Int)) ∧ gL σ 1275 x0 ≠ 0 ∧ ((0 : Int) ≤ x1 ∧ x1 < (gL σ 1275 x0 : Int)) ∧ ((0 : Int) ≤ (w32 ((w32 ((w32 (16 * (gI σ 1274 x0 x1.toNat))) + (gI σ 1275 x0 x1.toNat))) - 1)) ∧ (w32 ((w32 ((w32 (16 * (gI σ 1274 x0 x1.toNat))) + (gI σ 1275 x0 x1.toNat))) - 1)) < (gL σ 1239 x0 : Int)) ∧ Q (some (vJ (gJ σ 1239 x0 (w32 ((w32 ((w32 (16 * (gI σ 1274 x0 x1.toNat))) + (gI σ 1275 x0 x1.toNat))) - 1)).toNat))) σ))) ∧ (¬ x2 = 0 → Q (some (vJ 0)) σ))))) :
    AW g l d MX12_nameOf 68 [some (vR 12 (some x0)), some (vI x1), some (vI x2)] [] σ Q := by
  refine aw_aload_n dX12_nameOf_68 rfl rfl ?_
  obtain ⟨h0, h⟩ := h
  refine aw_getA' rfl fk_1267 (by decide) lf_X12_217 dX12_nameOf_69 h0 ?_
  refine aw_iload_n dX12_nameOf_72 rfl rfl ?_
  obtain ⟨⟨h0, h1⟩, h⟩ := h
  refine aw_iaload (by decide) rfl dX12_nameOf_73 h0 h1 ?_
  refine aw_bipush (x := 8) dX12_nameOf_74 rfl ?_
  refine aw_icmp_eq (tgt := 83) dX12_nameOf_76 (by decide) (fun hc => ?_) (fun hc => ?_)
  · replace h := h.1 hc
    refine aw_lconst (x := 0) dX12_nameOf_83 rfl ?_
    exact aw_lreturn dX12_nameOf_84 rfl h
  · replace h := h.2 hc
    refine aw_iload_n dX12_nameOf_79 rfl rfl ?_
    refine aw_if_eq (tgt := 85) dX12_nameOf_80 (by decide) (fun hc => ?_) (fun hc => ?_)
    · replace h := h.1 hc
      refine aw_aload_n dX12_nameOf_85 rfl rfl ?_
      obtain ⟨h0, h⟩ := h
      refine aw_getA' rfl fk_1267 (by decide) lf_X12_217 dX12_nameOf_86 h0 ?_
      refine aw_iload_n dX12_nameOf_89 rfl rfl ?_
      obtain ⟨⟨h0, h1⟩, h⟩ := h
      refine aw_iaload (by decide) rfl dX12_nameOf_90 h0 h1 ?_
      refine aw_iconst (x := 4) dX12_nameOf_91 rfl ?_
      refine aw_icmp_ne (tgt := 121) dX12_nameOf_92 (by decide) (fun hc => ?_) (fun hc => ?_)
      · replace h := h.1 hc
        refine aw_aload_n dX12_nameOf_121 rfl rfl ?_
        obtain ⟨h0, h⟩ := h
        refine aw_getA' rfl fk_1238 (by decide) lf_X12_128 dX12_nameOf_122 h0 ?_
        refine aw_aload_n dX12_nameOf_125 rfl rfl ?_
        obtain ⟨h0, h⟩ := h
        refine aw_getA' rfl fk_1274 (by decide) lf_X12_238 dX12_nameOf_126 h0 ?_
        refine aw_iload_n dX12_nameOf_129 rfl rfl ?_
        obtain ⟨⟨h0, h1⟩, h⟩ := h
        refine aw_iaload (by decide) rfl dX12_nameOf_130 h0 h1 ?_
        obtain ⟨⟨h0, h1⟩, h⟩ := h
        refine aw_laload (by decide) rfl dX12_nameOf_131 h0 h1 ?_
        exact aw_lreturn dX12_nameOf_132 rfl h
      · replace h := h.2 hc
        refine aw_aload_n dX12_nameOf_95 rfl rfl ?_
        obtain ⟨h0, h⟩ := h
        refine aw_getA' rfl fk_1239 (by decide) lf_X12_131 dX12_nameOf_96 h0 ?_
        refine aw_bipush (x := 16) dX12_nameOf_99 rfl ?_
        refine aw_aload_n dX12_nameOf_101 rfl rfl ?_
        obtain ⟨h0, h⟩ := h
        refine aw_getA' rfl fk_1274 (by decide) lf_X12_238 dX12_nameOf_102 h0 ?_
        refine aw_iload_n dX12_nameOf_105 rfl rfl ?_
        obtain ⟨⟨h0, h1⟩, h⟩ := h
        refine aw_iaload (by decide) rfl dX12_nameOf_106 h0 h1 ?_
        refine aw_imul dX12_nameOf_107 ?_
        refine aw_aload_n dX12_nameOf_108 rfl rfl ?_
        obtain ⟨h0, h⟩ := h
        refine aw_getA' rfl fk_1275 (by decide) lf_X12_241 dX12_nameOf_109 h0 ?_
        refine aw_iload_n dX12_nameOf_112 rfl rfl ?_
        obtain ⟨⟨h0, h1⟩, h⟩ := h
        refine aw_iaload (by decide) rfl dX12_nameOf_113 h0 h1 ?_
        refine aw_iadd dX12_nameOf_114 ?_
        refine aw_iconst (x := 1) dX12_nameOf_115 rfl ?_
        refine aw_isub dX12_nameOf_116 ?_
        obtain ⟨⟨h0, h1⟩, h⟩ := h
        refine aw_laload (by decide) rfl dX12_nameOf_117 h0 h1 ?_
        refine aw_goto (tgt := 132) dX12_nameOf_118 (by decide) ?_
        exact aw_lreturn dX12_nameOf_132 rfl h
    · replace h := h.2 hc
      refine aw_lconst (x := 0) dX12_nameOf_83 rfl ?_
      exact aw_lreturn dX12_nameOf_84 rfl h
set_option maxRecDepth 4000 in
theorem bk_X12_named_0 {g : GP} {l : Launch} {d : Nat} {σ : St} {Q : Option AV → St → Prop} {x0 : Nat} {x1 : Int}
    (h : ((0 < (gI σ 1251 x0 0) → Q none σ) ∧ (¬ 0 < (gI σ 1251 x0 0) → ACi g l d MX12_fresh [vR 12 (some x0), vI x1] σ (fun v2 σ1 => ((¬ v2 = 0 → gL σ1 1238 x0 ≠ 0 ∧ ((0 : Int) ≤ x1 ∧ x1 < (gL σ1 1238 x0 : Int)) ∧ ACv g l d MX12_next [vR 12 (some x0)] (sJ σ1 1238 x0 x1.toNat (gJ σ1 1216 x0 0)) (fun σ3 => Q none σ3)) ∧ (v2 = 0 → Q none σ1)))))) :
    AW g l (d + 1) MX12_named 0 [some (vR 12 (some x0)), some (vI x1)] [] σ Q := by
  refine aw_aload_n dX12_named_0 rfl rfl ?_
  refine aw_getI' rfl fk_1251 lf_X12_167 dX12_named_1 ?_
  refine aw_if_gt (tgt := 15) dX12_named_4 (by decide) (fun hc => ?_) (fun hc => ?_)
  · replace h := h.1 hc
    exact aw_ret h rfl dX12_named_15
  · replace h := h.2 hc
    refine aw_aload_n dX12_named_7 rfl rfl ?_
    refine aw_iload_n dX12_named_8 rfl rfl ?_
    refine aw_invVi (M := MX12_named) (ci := 12) [vI x1] rfl mo_X12_fresh rfl lm_X12_454 li_X12_fresh ls_X12_fresh (by decide +kernel) dX12_named_9 rfl (Nat.le_of_ble_eq_true rfl) (ACi.mono (fun v2 σ1 h => ?_) h)
    refine aw_if_ne (tgt := 16) dX12_named_12 (by decide) (fun hc => ?_) (fun hc => ?_)
    · replace h := h.1 hc
      refine aw_aload_n dX12_named_16 rfl rfl ?_
      obtain ⟨h0, h⟩ := h
      refine aw_getA' rfl fk_1238 (by decide) lf_X12_128 dX12_named_17 h0 ?_
      refine aw_iload_n dX12_named_20 rfl rfl ?_
      refine aw_aload_n dX12_named_21 rfl rfl ?_
      refine aw_getJ' rfl fk_1216 lf_X12_60 dX12_named_22 ?_
      obtain ⟨⟨h0, h1⟩, h⟩ := h
      refine aw_lastore (by decide) rfl dX12_named_25 h0 h1 ?_
      refine aw_aload_n dX12_named_26 rfl rfl ?_
      refine aw_invVv (M := MX12_named) (ci := 12) [] rfl mo_X12_next rfl lm_X12_408 li_X12_next ls_X12_next (by decide +kernel) dX12_named_27 rfl (Nat.le_of_ble_eq_true rfl) (ACv.mono (fun σ3 h => ?_) h)
      exact aw_ret h rfl dX12_named_30
    · replace h := h.2 hc
      exact aw_ret h rfl dX12_named_15
set_option maxRecDepth 4000 in
theorem bk_X12_named__0 {g : GP} {l : Launch} {d : Nat} {σ : St} {Q : Option AV → St → Prop} {x0 : Nat} {x1 : Int} {x2 : Int}
    (h : gL σ 1273 x0 ≠ 0 ∧ ((0 : Int) ≤ x1 ∧ x1 < (gL σ 1273 x0 : Int)) ∧ ACi g l d MX12_field [vR 12 (some x0), vI (gI σ 1273 x0 x1.toNat), vI (i_div x2 16)] σ (fun v2 σ1 => gL σ1 1276 x0 ≠ 0 ∧ ((0 : Int) ≤ x1 ∧ x1 < (gL σ1 1276 x0 : Int)) ∧ AW g l (d + 1) MX12_named_ 23 [some (vR 12 (some x0)), none, some (vI x2), some (vI v2), some (vI (gI σ1 1276 x0 x1.toNat)), none] [] σ1 Q)) :
    AW g l (d + 1) MX12_named_ 0 [some (vR 12 (some x0)), some (vI x1), some (vI x2), none, none, none] [] σ Q := by
  refine aw_aload_n dX12_named__0 rfl rfl ?_
  refine aw_aload_n dX12_named__1 rfl rfl ?_
  obtain ⟨h0, h⟩ := h
  refine aw_getA' rfl fk_1273 (by decide) lf_X12_235 dX12_named__2 h0 ?_
  refine aw_iload_n dX12_named__5 rfl rfl ?_
  obtain ⟨⟨h0, h1⟩, h⟩ := h
  refine aw_iaload (by decide) rfl dX12_named__6 h0 h1 ?_
  refine aw_iload_n dX12_named__7 rfl rfl ?_
  refine aw_bipush (x := 16) dX12_named__8 rfl ?_
  refine aw_idiv dX12_named__10 (by decide) ?_
  refine aw_invVi (M := MX12_named_) (ci := 12) [vI (gI σ 1273 x0 x1.toNat), vI (i_div x2 16)] rfl mo_X12_field rfl lm_X12_447 li_X12_field ls_X12_field (by decide +kernel) dX12_named__11 rfl (Nat.le_of_ble_eq_true rfl) (ACi.mono (fun v2 σ1 h => ?_) h)
  refine aw_istore_n dX12_named__14 rfl (by decide) rfl ?_
  refine aw_aload_n dX12_named__15 rfl rfl ?_
  obtain ⟨h0, h⟩ := h
  refine aw_getA' rfl fk_1276 (by decide) lf_X12_244 dX12_named__16 h0 ?_
  refine aw_iload_n dX12_named__19 rfl rfl ?_
  obtain ⟨⟨h0, h1⟩, h⟩ := h
  refine aw_iaload (by decide) rfl dX12_named__20 h0 h1 ?_
  refine aw_istore dX12_named__21 (by decide) rfl ?_
  exact aw_fgt (L' := [some (vR 12 (some x0)), none, some (vI x2), some (vI v2), some (vI (gI σ1 1276 x0 x1.toNat)), none]) ⟨rfl, ⟨rfl, ⟨rfl, ⟨rfl, trivial⟩⟩⟩⟩ h
set_option maxRecDepth 4000 in
theorem bk_X12_named__23 {g : GP} {l : Launch} {d : Nat} {σ : St} {Q : Option AV → St → Prop} {x0 : Nat} {x2 : Int} {x3 : Int} {x4 : Int}
    (h : ((x4 < 0 → Q (some (vJ 0)) (sI σ 1286 x0 0 1)) ∧ (¬ x4 < 0 → gL σ 1274 x0 ≠ 0 ∧ ((0 : Int) ≤ x4 ∧ x4 < (gL σ 1274 x0 : Int)) ∧ ((¬ (gI σ 1274 x0 x4.toNat) = x3 → gL σ 1278 x0 ≠ 0 ∧ ((0 : Int) ≤ x4 ∧ x4 < (gL σ 1278 x0 : Int)) ∧ AW g l (d + 1) MX12_named_ 23 [some (vR 12 (some x0)), none, some (vI x2), some (vI x3), some (vI (gI σ 1278 x0 x4.toNat)), none] [] σ Q) ∧ ((gI σ 1274 x0 x4.toNat) = x3 → gL σ 1272 x0 ≠ 0 ∧ ((0 : Int) ≤ x4 ∧ x4 < (gL σ 1272 x0 : Int)) ∧ ((¬ (gI σ 1272 x0 x4.toNat) = 1 → ((¬ (i_rem x2 16) = 0 → gL σ 1276 x0 ≠ 0 ∧ ((0 : Int) ≤ x4 ∧ x4 < (gL σ 1276 x0 : Int)) ∧ AW g l (d + 1) MX12_named_ 76 [some (vR 12 (some x0)), none, some (vI x2), some (vI x3), some (vI x4), some (vI (gI σ 1276 x0 x4.toNat))] [] σ Q) ∧ ((i_rem x2 16) = 0 → ACj g l d MX12_valueOf [vR 12 (some x0), vI x4] σ (fun v2 σ1 => Q (some (vJ v2)) σ1)))) ∧ ((gI σ 1272 x0 x4.toNat) = 1 → gL σ 1278 x0 ≠ 0 ∧ ((0 : Int) ≤ x4 ∧ x4 < (gL σ 1278 x0 : Int)) ∧ AW g l (d + 1) MX12_named_ 23 [some (vR 12 (some x0)), none, some (vI x2), some (vI x3), some (vI (gI σ 1278 x0 x4.toNat)), none] [] σ Q))))))) :
    AW g l (d + 1) MX12_named_ 23 [some (vR 12 (some x0)), none, some (vI x2), some (vI x3), some (vI x4), none] [] σ Q := by
  refine aw_iload dX12_named__23 rfl ?_
  refine aw_if_lt (tgt := 126) dX12_named__25 (by decide) (fun hc => ?_) (fun hc => ?_)
  · replace h := h.1 hc
    refine aw_aload_n dX12_named__126 rfl rfl ?_
    refine aw_iconst (x := 1) dX12_named__127 rfl ?_
    refine aw_putZ' rfl fk_1286 (Or.inl rfl) lf_X12_274 dX12_named__128 (Or.inr rfl) ?_
    refine aw_lconst (x := 0) dX12_named__131 rfl ?_
    exact aw_lreturn dX12_named__132 rfl h
  · replace h := h.2 hc
    refine aw_aload_n dX12_named__28 rfl rfl ?_
    obtain ⟨h0, h⟩ := h
    refine aw_getA' rfl fk_1274 (by decide) lf_X12_238 dX12_named__29 h0 ?_
    refine aw_iload dX12_named__32 rfl ?_
    obtain ⟨⟨h0, h1⟩, h⟩ := h
    refine aw_iaload (by decide) rfl dX12_named__34 h0 h1 ?_
    refine aw_iload_n dX12_named__35 rfl rfl ?_
    refine aw_icmp_ne (tgt := 114) dX12_named__36 (by decide) (fun hc => ?_) (fun hc => ?_)
    · replace h := h.1 hc
      refine aw_aload_n dX12_named__114 rfl rfl ?_
      obtain ⟨h0, h⟩ := h
      refine aw_getA' rfl fk_1278 (by decide) lf_X12_250 dX12_named__115 h0 ?_
      refine aw_iload dX12_named__118 rfl ?_
      obtain ⟨⟨h0, h1⟩, h⟩ := h
      refine aw_iaload (by decide) rfl dX12_named__120 h0 h1 ?_
      refine aw_istore dX12_named__121 (by decide) rfl ?_
      refine aw_goto (tgt := 23) dX12_named__123 (by decide) ?_
      exact aw_fgt (L' := [some (vR 12 (some x0)), none, some (vI x2), some (vI x3), some (vI (gI σ 1278 x0 x4.toNat)), none]) ⟨rfl, ⟨rfl, ⟨rfl, ⟨rfl, trivial⟩⟩⟩⟩ h
    · replace h := h.2 hc
      refine aw_aload_n dX12_named__39 rfl rfl ?_
      obtain ⟨h0, h⟩ := h
      refine aw_getA' rfl fk_1272 (by decide) lf_X12_232 dX12_named__40 h0 ?_
      refine aw_iload dX12_named__43 rfl ?_
      obtain ⟨⟨h0, h1⟩, h⟩ := h
      refine aw_iaload (by decide) rfl dX12_named__45 h0 h1 ?_
      refine aw_iconst (x := 1) dX12_named__46 rfl ?_
      refine aw_icmp_ne (tgt := 53) dX12_named__47 (by decide) (fun hc => ?_) (fun hc => ?_)
      · replace h := h.1 hc
        refine aw_iload_n dX12_named__53 rfl rfl ?_
        refine aw_bipush (x := 16) dX12_named__54 rfl ?_
        refine aw_irem dX12_named__56 (by decide) ?_
        refine aw_if_ne (tgt := 67) dX12_named__57 (by decide) (fun hc => ?_) (fun hc => ?_)
        · replace h := h.1 hc
          refine aw_aload_n dX12_named__67 rfl rfl ?_
          obtain ⟨h0, h⟩ := h
          refine aw_getA' rfl fk_1276 (by decide) lf_X12_244 dX12_named__68 h0 ?_
          refine aw_iload dX12_named__71 rfl ?_
          obtain ⟨⟨h0, h1⟩, h⟩ := h
          refine aw_iaload (by decide) rfl dX12_named__73 h0 h1 ?_
          refine aw_istore dX12_named__74 (by decide) rfl ?_
          exact aw_fgt (L' := [some (vR 12 (some x0)), none, some (vI x2), some (vI x3), some (vI x4), some (vI (gI σ 1276 x0 x4.toNat))]) ⟨rfl, ⟨rfl, ⟨rfl, ⟨rfl, ⟨rfl, trivial⟩⟩⟩⟩⟩ h
        · replace h := h.2 hc
          refine aw_aload_n dX12_named__60 rfl rfl ?_
          refine aw_iload dX12_named__61 rfl ?_
          refine aw_invVj (M := MX12_named_) (ci := 12) [vI x4] rfl mo_X12_valueOf rfl lm_X12_643 li_X12_valueOf ls_X12_valueOf (by decide +kernel) dX12_named__63 rfl (Nat.le_of_ble_eq_true rfl) (ACj.mono (fun v2 σ1 h => ?_) h)
          exact aw_lreturn dX12_named__66 rfl h
      · replace h := h.2 hc
        refine aw_goto (tgt := 114) dX12_named__50 (by decide) ?_
        refine aw_aload_n dX12_named__114 rfl rfl ?_
        obtain ⟨h0, h⟩ := h
        refine aw_getA' rfl fk_1278 (by decide) lf_X12_250 dX12_named__115 h0 ?_
        refine aw_iload dX12_named__118 rfl ?_
        obtain ⟨⟨h0, h1⟩, h⟩ := h
        refine aw_iaload (by decide) rfl dX12_named__120 h0 h1 ?_
        refine aw_istore dX12_named__121 (by decide) rfl ?_
        refine aw_goto (tgt := 23) dX12_named__123 (by decide) ?_
        exact aw_fgt (L' := [some (vR 12 (some x0)), none, some (vI x2), some (vI x3), some (vI (gI σ 1278 x0 x4.toNat)), none]) ⟨rfl, ⟨rfl, ⟨rfl, ⟨rfl, trivial⟩⟩⟩⟩ h
set_option maxRecDepth 4000 in
theorem bk_X12_named__76 {g : GP} {l : Launch} {d : Nat} {σ : St} {Q : Option AV → St → Prop} {x0 : Nat} {x2 : Int} {x3 : Int} {x4 : Int} {x5 : Int}
    (h : ((x5 < 0 → gL σ 1278 x0 ≠ 0 ∧ ((0 : Int) ≤ x4 ∧ x4 < (gL σ 1278 x0 : Int)) ∧ AW g l (d + 1) MX12_named_ 23 [some (vR 12 (some x0)), none, some (vI x2), some (vI x3), some (vI (gI σ 1278 x0 x4.toNat)), none] [] σ Q) ∧ (¬ x5 < 0 → gL σ 1275 x0 ≠ 0 ∧ ((0 : Int) ≤ x5 ∧ x5 < (gL σ 1275 x0 : Int)) ∧ ((¬ (gI σ 1275 x0 x5.toNat) = (i_rem x2 16) → gL σ 1278 x0 ≠ 0 ∧ ((0 : Int) ≤ x5 ∧ x5 < (gL σ 1278 x0 : Int)) ∧ AW g l (d + 1) MX12_named_ 76 [some (vR 12 (some x0)), none, some (vI x2), some (vI x3), some (vI x4), some (vI (gI σ 1278 x0 x5.toNat))] [] σ Q) ∧ ((gI σ 1275 x0 x5.toNat) = (i_rem x2 16) → ACj g l d MX12_valueOf [vR 12 (some x0), vI x5] σ (fun v2 σ1 => Q (some (vJ v2)) σ1)))))) :
    AW g l (d + 1) MX12_named_ 76 [some (vR 12 (some x0)), none, some (vI x2), some (vI x3), some (vI x4), some (vI x5)] [] σ Q := by
  refine aw_iload dX12_named__76 rfl ?_
  refine aw_if_lt (tgt := 114) dX12_named__78 (by decide) (fun hc => ?_) (fun hc => ?_)
  · replace h := h.1 hc
    refine aw_aload_n dX12_named__114 rfl rfl ?_
    obtain ⟨h0, h⟩ := h
    refine aw_getA' rfl fk_1278 (by decide) lf_X12_250 dX12_named__115 h0 ?_
    refine aw_iload dX12_named__118 rfl ?_
    obtain ⟨⟨h0, h1⟩, h⟩ := h
    refine aw_iaload (by decide) rfl dX12_named__120 h0 h1 ?_
    refine aw_istore dX12_named__121 (by decide) rfl ?_
    refine aw_goto (tgt := 23) dX12_named__123 (by decide) ?_
    exact aw_fgt (L' := [some (vR 12 (some x0)), none, some (vI x2), some (vI x3), some (vI (gI σ 1278 x0 x4.toNat)), none]) ⟨rfl, ⟨rfl, ⟨rfl, ⟨rfl, trivial⟩⟩⟩⟩ h
  · replace h := h.2 hc
    refine aw_aload_n dX12_named__81 rfl rfl ?_
    obtain ⟨h0, h⟩ := h
    refine aw_getA' rfl fk_1275 (by decide) lf_X12_241 dX12_named__82 h0 ?_
    refine aw_iload dX12_named__85 rfl ?_
    obtain ⟨⟨h0, h1⟩, h⟩ := h
    refine aw_iaload (by decide) rfl dX12_named__87 h0 h1 ?_
    refine aw_iload_n dX12_named__88 rfl rfl ?_
    refine aw_bipush (x := 16) dX12_named__89 rfl ?_
    refine aw_irem dX12_named__91 (by decide) ?_
    refine aw_icmp_ne (tgt := 102) dX12_named__92 (by decide) (fun hc => ?_) (fun hc => ?_)
    · replace h := h.1 hc
      refine aw_aload_n dX12_named__102 rfl rfl ?_
      obtain ⟨h0, h⟩ := h
      refine aw_getA' rfl fk_1278 (by decide) lf_X12_250 dX12_named__103 h0 ?_
      refine aw_iload dX12_named__106 rfl ?_
      obtain ⟨⟨h0, h1⟩, h⟩ := h
      refine aw_iaload (by decide) rfl dX12_named__108 h0 h1 ?_
      refine aw_istore dX12_named__109 (by decide) rfl ?_
      refine aw_goto (tgt := 76) dX12_named__111 (by decide) ?_
      exact aw_fgt (L' := [some (vR 12 (some x0)), none, some (vI x2), some (vI x3), some (vI x4), some (vI (gI σ 1278 x0 x5.toNat))]) ⟨rfl, ⟨rfl, ⟨rfl, ⟨rfl, ⟨rfl, trivial⟩⟩⟩⟩⟩ h
    · replace h := h.2 hc
      refine aw_aload_n dX12_named__95 rfl rfl ?_
      refine aw_iload dX12_named__96 rfl ?_
      refine aw_invVj (M := MX12_named_) (ci := 12) [vI x5] rfl mo_X12_valueOf rfl lm_X12_643 li_X12_valueOf ls_X12_valueOf (by decide +kernel) dX12_named__98 rfl (Nat.le_of_ble_eq_true rfl) (ACj.mono (fun v2 σ1 h => ?_) h)
      exact aw_lreturn dX12_named__101 rfl h
set_option maxRecDepth 4000 in
theorem bk_X12_names_0 {g : GP} {l : Launch} {d : Nat} {σ : St} {Q : Option AV → St → Prop} {x0 : Nat} {x1 : Int} {x2 : Int}
    (h : AW g l (d + 1) MX12_names 5 [some (vR 12 (some x0)), some (vI x1), some (vI x2), some (vI 0), some (vI 0), none, none] [] σ Q) :
    AW g l (d + 1) MX12_names 0 [some (vR 12 (some x0)), some (vI x1), some (vI x2), none, none, none, none] [] σ Q := by
  refine aw_iconst (x := 0) dX12_names_0 rfl ?_
  refine aw_istore_n dX12_names_1 rfl (by decide) rfl ?_
  refine aw_iconst (x := 0) dX12_names_2 rfl ?_
  refine aw_istore dX12_names_3 (by decide) rfl ?_
  exact aw_fgt (L' := [some (vR 12 (some x0)), some (vI x1), some (vI x2), some (vI 0), some (vI 0), none, none]) ⟨rfl, ⟨rfl, ⟨rfl, ⟨rfl, ⟨rfl, trivial⟩⟩⟩⟩⟩ h
set_option maxRecDepth 4000 in
theorem bk_X12_names_5 {g : GP} {l : Launch} {d : Nat} {σ : St} {Q : Option AV → St → Prop} {x0 : Nat} {x1 : Int} {x2 : Int} {x3 : Int} {x4 : Int}
    (h : gL σ 1222 x0 ≠ 0 ∧ ((0 : Int) ≤ (w32 ((w32 (20 * (gI σ 1253 x0 0))) + x1)) ∧ (w32 ((w32 (20 * (gI σ 1253 x0 0))) + x1)) < (gL σ 1222 x0 : Int)) ∧ (((gI σ 1222 x0 (w32 ((w32 (20 * (gI σ 1253 x0 0))) + x1)).toNat) ≤ x4 → ((x3 = 0 ∨ x3 = 1) ∧ Q (some (vI x3)) σ)) ∧ (¬ (gI σ 1222 x0 (w32 ((w32 (20 * (gI σ 1253 x0 0))) + x1)).toNat) ≤ x4 → ACi g l d MX12_field [vR 12 (some x0), vI x1, vI x4] σ (fun v2 σ1 => gL σ1 1228 x0 ≠ 0 ∧ ((0 : Int) ≤ v2 ∧ v2 < (gL σ1 1228 x0 : Int)) ∧ (((gI σ1 1228 x0 v2.toNat) = 2 → AW g l (d + 1) MX12_names 68 [some (vR 12 (some x0)), some (vI x1), some (vI x2), none, some (vI x4), some (vI v2), none] [vI x3] σ1 Q) ∧ (¬ (gI σ1 1228 x0 v2.toNat) = 2 → gL σ1 1228 x0 ≠ 0 ∧ ((0 : Int) ≤ v2 ∧ v2 < (gL σ1 1228 x0 : Int)) ∧ (((gI σ1 1228 x0 v2.toNat) = 3 → AW g l (d + 1) MX12_names 68 [some (vR 12 (some x0)), some (vI x1), some (vI x2), none, some (vI x4), some (vI v2), none] [vI x3] σ1 Q) ∧ (¬ (gI σ1 1228 x0 v2.toNat) = 3 → gL σ1 1228 x0 ≠ 0 ∧ ((0 : Int) ≤ v2 ∧ v2 < (gL σ1 1228 x0 : Int)) ∧ ((¬ (gI σ1 1228 x0 v2.toNat) = 8 → AW g l (d + 1) MX12_names 89 [some (vR 12 (some x0)), some (vI x1), some (vI x2), some (vI (i_or x3 0)), some (vI x4), some (vI v2), some (vI 0)] [] σ1 Q) ∧ ((gI σ1 1228 x0 v2.toNat) = 8 → AW g l (d + 1) MX12_names 68 [some (vR 12 (some x0)), some (vI x1), some (vI x2), none, some (vI x4), some (vI v2), none] [vI x3] σ1 Q)))))))))) :
    AW g l (d + 1) MX12_names 5 [some (vR 12 (some x0)), some (vI x1), some (vI x2), some (vI x3), some (vI x4), none, none] [] σ Q := by
  refine aw_iload dX12_names_5 rfl ?_
  refine aw_aload_n dX12_names_7 rfl rfl ?_
  obtain ⟨h0, h⟩ := h
  refine aw_getA' rfl fk_1222 (by decide) lf_X12_80 dX12_names_8 h0 ?_
  refine aw_bipush (x := 20) dX12_names_11 rfl ?_
  refine aw_aload_n dX12_names_13 rfl rfl ?_
  refine aw_getI' rfl fk_1253 lf_X12_173 dX12_names_14 ?_
  refine aw_imul dX12_names_17 ?_
  refine aw_iload_n dX12_names_18 rfl rfl ?_
  refine aw_iadd dX12_names_19 ?_
  obtain ⟨⟨h0, h1⟩, h⟩ := h
  refine aw_iaload (by decide) rfl dX12_names_20 h0 h1 ?_
  refine aw_icmp_ge (tgt := 181) dX12_names_21 (by decide) (fun hc => ?_) (fun hc => ?_)
  · replace h := h.1 hc
    refine aw_iload_n dX12_names_181 rfl rfl ?_
    exact aw_zreturn dX12_names_182 rfl h.1 h.2
  · replace h := h.2 hc
    refine aw_aload_n dX12_names_24 rfl rfl ?_
    refine aw_iload_n dX12_names_25 rfl rfl ?_
    refine aw_iload dX12_names_26 rfl ?_
    refine aw_invVi (M := MX12_names) (ci := 12) [vI x1, vI x4] rfl mo_X12_field rfl lm_X12_447 li_X12_field ls_X12_field (by decide +kernel) dX12_names_28 rfl (Nat.le_of_ble_eq_true rfl) (ACi.mono (fun v2 σ1 h => ?_) h)
    refine aw_istore dX12_names_31 (by decide) rfl ?_
    refine aw_iload_n dX12_names_33 rfl rfl ?_
    refine aw_aload_n dX12_names_34 rfl rfl ?_
    obtain ⟨h0, h⟩ := h
    refine aw_getA' rfl fk_1228 (by decide) lf_X12_98 dX12_names_35 h0 ?_
    refine aw_iload dX12_names_38 rfl ?_
    obtain ⟨⟨h0, h1⟩, h⟩ := h
    refine aw_iaload (by decide) rfl dX12_names_40 h0 h1 ?_
    refine aw_iconst (x := 2) dX12_names_41 rfl ?_
    refine aw_icmp_eq (tgt := 68) dX12_names_42 (by decide) (fun hc => ?_) (fun hc => ?_)
    · replace h := h.1 hc
      exact aw_fgt (L' := [some (vR 12 (some x0)), some (vI x1), some (vI x2), none, some (vI x4), some (vI v2), none]) ⟨rfl, ⟨rfl, ⟨rfl, ⟨rfl, ⟨rfl, trivial⟩⟩⟩⟩⟩ h
    · replace h := h.2 hc
      refine aw_aload_n dX12_names_45 rfl rfl ?_
      obtain ⟨h0, h⟩ := h
      refine aw_getA' rfl fk_1228 (by decide) lf_X12_98 dX12_names_46 h0 ?_
      refine aw_iload dX12_names_49 rfl ?_
      obtain ⟨⟨h0, h1⟩, h⟩ := h
      refine aw_iaload (by decide) rfl dX12_names_51 h0 h1 ?_
      refine aw_iconst (x := 3) dX12_names_52 rfl ?_
      refine aw_icmp_eq (tgt := 68) dX12_names_53 (by decide) (fun hc => ?_) (fun hc => ?_)
      · replace h := h.1 hc
        exact aw_fgt (L' := [some (vR 12 (some x0)), some (vI x1), some (vI x2), none, some (vI x4), some (vI v2), none]) ⟨rfl, ⟨rfl, ⟨rfl, ⟨rfl, ⟨rfl, trivial⟩⟩⟩⟩⟩ h
      · replace h := h.2 hc
        refine aw_aload_n dX12_names_56 rfl rfl ?_
        obtain ⟨h0, h⟩ := h
        refine aw_getA' rfl fk_1228 (by decide) lf_X12_98 dX12_names_57 h0 ?_
        refine aw_iload dX12_names_60 rfl ?_
        obtain ⟨⟨h0, h1⟩, h⟩ := h
        refine aw_iaload (by decide) rfl dX12_names_62 h0 h1 ?_
        refine aw_bipush (x := 8) dX12_names_63 rfl ?_
        refine aw_icmp_ne (tgt := 83) dX12_names_65 (by decide) (fun hc => ?_) (fun hc => ?_)
        · replace h := h.1 hc
          refine aw_iconst (x := 0) dX12_names_83 rfl ?_
          refine aw_ior dX12_names_84 ?_
          refine aw_istore_n dX12_names_85 rfl (by decide) rfl ?_
          refine aw_iconst (x := 0) dX12_names_86 rfl ?_
          refine aw_istore dX12_names_87 (by decide) rfl ?_
          exact aw_fgt (L' := [some (vR 12 (some x0)), some (vI x1), some (vI x2), some (vI (i_or x3 0)), some (vI x4), some (vI v2), some (vI 0)]) ⟨rfl, ⟨rfl, ⟨rfl, ⟨rfl, ⟨rfl, ⟨rfl, ⟨rfl, trivial⟩⟩⟩⟩⟩⟩⟩ h
        · replace h := h.2 hc
          exact aw_fgt (L' := [some (vR 12 (some x0)), some (vI x1), some (vI x2), none, some (vI x4), some (vI v2), none]) ⟨rfl, ⟨rfl, ⟨rfl, ⟨rfl, ⟨rfl, trivial⟩⟩⟩⟩⟩ h
set_option maxRecDepth 4000 in
theorem bk_X12_names_68 {g : GP} {l : Launch} {d : Nat} {σ : St} {Q : Option AV → St → Prop} {x0 : Nat} {x1 : Int} {x2 : Int} {x4 : Int} {x5 : Int} {y0 : Int}
    (h : gL σ 1231 x0 ≠ 0 ∧ ((0 : Int) ≤ x5 ∧ x5 < (gL σ 1231 x0 : Int)) ∧ ((¬ (gI σ 1231 x0 x5.toNat) = x2 → AW g l (d + 1) MX12_names 89 [some (vR 12 (some x0)), some (vI x1), some (vI x2), some (vI (i_or y0 0)), some (vI x4), some (vI x5), some (vI 0)] [] σ Q) ∧ ((gI σ 1231 x0 x5.toNat) = x2 → AW g l (d + 1) MX12_names 89 [some (vR 12 (some x0)), some (vI x1), some (vI x2), some (vI (i_or y0 1)), some (vI x4), some (vI x5), some (vI 0)] [] σ Q))) :
    AW g l (d + 1) MX12_names 68 [some (vR 12 (some x0)), some (vI x1), some (vI x2), none, some (vI x4), some (vI x5), none] [vI y0] σ Q := by
  refine aw_aload_n dX12_names_68 rfl rfl ?_
  obtain ⟨h0, h⟩ := h
  refine aw_getA' rfl fk_1231 (by decide) lf_X12_107 dX12_names_69 h0 ?_
  refine aw_iload dX12_names_72 rfl ?_
  obtain ⟨⟨h0, h1⟩, h⟩ := h
  refine aw_iaload (by decide) rfl dX12_names_74 h0 h1 ?_
  refine aw_iload_n dX12_names_75 rfl rfl ?_
  refine aw_icmp_ne (tgt := 83) dX12_names_76 (by decide) (fun hc => ?_) (fun hc => ?_)
  · replace h := h.1 hc
    refine aw_iconst (x := 0) dX12_names_83 rfl ?_
    refine aw_ior dX12_names_84 ?_
    refine aw_istore_n dX12_names_85 rfl (by decide) rfl ?_
    refine aw_iconst (x := 0) dX12_names_86 rfl ?_
    refine aw_istore dX12_names_87 (by decide) rfl ?_
    exact aw_fgt (L' := [some (vR 12 (some x0)), some (vI x1), some (vI x2), some (vI (i_or y0 0)), some (vI x4), some (vI x5), some (vI 0)]) ⟨rfl, ⟨rfl, ⟨rfl, ⟨rfl, ⟨rfl, ⟨rfl, ⟨rfl, trivial⟩⟩⟩⟩⟩⟩⟩ h
  · replace h := h.2 hc
    refine aw_iconst (x := 1) dX12_names_79 rfl ?_
    refine aw_goto (tgt := 84) dX12_names_80 (by decide) ?_
    refine aw_ior dX12_names_84 ?_
    refine aw_istore_n dX12_names_85 rfl (by decide) rfl ?_
    refine aw_iconst (x := 0) dX12_names_86 rfl ?_
    refine aw_istore dX12_names_87 (by decide) rfl ?_
    exact aw_fgt (L' := [some (vR 12 (some x0)), some (vI x1), some (vI x2), some (vI (i_or y0 1)), some (vI x4), some (vI x5), some (vI 0)]) ⟨rfl, ⟨rfl, ⟨rfl, ⟨rfl, ⟨rfl, ⟨rfl, ⟨rfl, trivial⟩⟩⟩⟩⟩⟩⟩ h
set_option maxRecDepth 4000 in
theorem bk_X12_names_89 {g : GP} {l : Launch} {d : Nat} {σ : St} {Q : Option AV → St → Prop} {x0 : Nat} {x1 : Int} {x2 : Int} {x3 : Int} {x4 : Int} {x5 : Int} {x6 : Int}
    (h : gL σ 1228 x0 ≠ 0 ∧ ((0 : Int) ≤ x5 ∧ x5 < (gL σ 1228 x0 : Int)) ∧ ((¬ (gI σ 1228 x0 x5.toNat) = 7 → AW g l (d + 1) MX12_names 144 [some (vR 12 (some x0)), some (vI x1), some (vI x2), some (vI x3), some (vI x4), some (vI x5), none] [] σ Q) ∧ ((gI σ 1228 x0 x5.toNat) = 7 → gL σ 1237 x0 ≠ 0 ∧ ((0 : Int) ≤ x5 ∧ x5 < (gL σ 1237 x0 : Int)) ∧ (((gI σ 1237 x0 x5.toNat) ≤ x6 → AW g l (d + 1) MX12_names 144 [some (vR 12 (some x0)), some (vI x1), some (vI x2), some (vI x3), some (vI x4), some (vI x5), none] [] σ Q) ∧ (¬ (gI σ 1237 x0 x5.toNat) ≤ x6 → gL σ 1241 x0 ≠ 0 ∧ ((0 : Int) ≤ (w32 ((w32 (16 * x5)) + x6)) ∧ (w32 ((w32 (16 * x5)) + x6)) < (gL σ 1241 x0 : Int)) ∧ ((¬ (gI σ 1241 x0 (w32 ((w32 (16 * x5)) + x6)).toNat) = x2 → AW g l (d + 1) MX12_names 89 [some (vR 12 (some x0)), some (vI x1), some (vI x2), some (vI (i_or x3 0)), some (vI x4), some (vI x5), some (vI (w32 (x6 + 1)))] [] σ Q) ∧ ((gI σ 1241 x0 (w32 ((w32 (16 * x5)) + x6)).toNat) = x2 → AW g l (d + 1) MX12_names 89 [some (vR 12 (some x0)), some (vI x1), some (vI x2), some (vI (i_or x3 1)), some (vI x4), some (vI x5), some (vI (w32 (x6 + 1)))] [] σ Q))))))) :
    AW g l (d + 1) MX12_names 89 [some (vR 12 (some x0)), some (vI x1), some (vI x2), some (vI x3), some (vI x4), some (vI x5), some (vI x6)] [] σ Q := by
  refine aw_aload_n dX12_names_89 rfl rfl ?_
  obtain ⟨h0, h⟩ := h
  refine aw_getA' rfl fk_1228 (by decide) lf_X12_98 dX12_names_90 h0 ?_
  refine aw_iload dX12_names_93 rfl ?_
  obtain ⟨⟨h0, h1⟩, h⟩ := h
  refine aw_iaload (by decide) rfl dX12_names_95 h0 h1 ?_
  refine aw_bipush (x := 7) dX12_names_96 rfl ?_
  refine aw_icmp_ne (tgt := 144) dX12_names_98 (by decide) (fun hc => ?_) (fun hc => ?_)
  · replace h := h.1 hc
    exact aw_fgt (L' := [some (vR 12 (some x0)), some (vI x1), some (vI x2), some (vI x3), some (vI x4), some (vI x5), none]) ⟨rfl, ⟨rfl, ⟨rfl, ⟨rfl, ⟨rfl, ⟨rfl, trivial⟩⟩⟩⟩⟩⟩ h
  · replace h := h.2 hc
    refine aw_iload dX12_names_101 rfl ?_
    refine aw_aload_n dX12_names_103 rfl rfl ?_
    obtain ⟨h0, h⟩ := h
    refine aw_getA' rfl fk_1237 (by decide) lf_X12_125 dX12_names_104 h0 ?_
    refine aw_iload dX12_names_107 rfl ?_
    obtain ⟨⟨h0, h1⟩, h⟩ := h
    refine aw_iaload (by decide) rfl dX12_names_109 h0 h1 ?_
    refine aw_icmp_ge (tgt := 144) dX12_names_110 (by decide) (fun hc => ?_) (fun hc => ?_)
    · replace h := h.1 hc
      exact aw_fgt (L' := [some (vR 12 (some x0)), some (vI x1), some (vI x2), some (vI x3), some (vI x4), some (vI x5), none]) ⟨rfl, ⟨rfl, ⟨rfl, ⟨rfl, ⟨rfl, ⟨rfl, trivial⟩⟩⟩⟩⟩⟩ h
    · replace h := h.2 hc
      refine aw_iload_n dX12_names_113 rfl rfl ?_
      refine aw_aload_n dX12_names_114 rfl rfl ?_
      obtain ⟨h0, h⟩ := h
      refine aw_getA' rfl fk_1241 (by decide) lf_X12_137 dX12_names_115 h0 ?_
      refine aw_bipush (x := 16) dX12_names_118 rfl ?_
      refine aw_iload dX12_names_120 rfl ?_
      refine aw_imul dX12_names_122 ?_
      refine aw_iload dX12_names_123 rfl ?_
      refine aw_iadd dX12_names_125 ?_
      obtain ⟨⟨h0, h1⟩, h⟩ := h
      refine aw_iaload (by decide) rfl dX12_names_126 h0 h1 ?_
      refine aw_iload_n dX12_names_127 rfl rfl ?_
      refine aw_icmp_ne (tgt := 135) dX12_names_128 (by decide) (fun hc => ?_) (fun hc => ?_)
      · replace h := h.1 hc
        refine aw_iconst (x := 0) dX12_names_135 rfl ?_
        refine aw_ior dX12_names_136 ?_
        refine aw_istore_n dX12_names_137 rfl (by decide) rfl ?_
        refine aw_iinc dX12_names_138 rfl (by decide) rfl rfl ?_
        refine aw_goto (tgt := 89) dX12_names_141 (by decide) ?_
        exact aw_fgt (L' := [some (vR 12 (some x0)), some (vI x1), some (vI x2), some (vI (i_or x3 0)), some (vI x4), some (vI x5), some (vI (w32 (x6 + 1)))]) ⟨rfl, ⟨rfl, ⟨rfl, ⟨rfl, ⟨rfl, ⟨rfl, ⟨rfl, trivial⟩⟩⟩⟩⟩⟩⟩ h
      · replace h := h.2 hc
        refine aw_iconst (x := 1) dX12_names_131 rfl ?_
        refine aw_goto (tgt := 136) dX12_names_132 (by decide) ?_
        refine aw_ior dX12_names_136 ?_
        refine aw_istore_n dX12_names_137 rfl (by decide) rfl ?_
        refine aw_iinc dX12_names_138 rfl (by decide) rfl rfl ?_
        refine aw_goto (tgt := 89) dX12_names_141 (by decide) ?_
        exact aw_fgt (L' := [some (vR 12 (some x0)), some (vI x1), some (vI x2), some (vI (i_or x3 1)), some (vI x4), some (vI x5), some (vI (w32 (x6 + 1)))]) ⟨rfl, ⟨rfl, ⟨rfl, ⟨rfl, ⟨rfl, ⟨rfl, ⟨rfl, trivial⟩⟩⟩⟩⟩⟩⟩ h
set_option maxRecDepth 4000 in
theorem bk_X12_names_144 {g : GP} {l : Launch} {d : Nat} {σ : St} {Q : Option AV → St → Prop} {x0 : Nat} {x1 : Int} {x2 : Int} {x3 : Int} {x4 : Int} {x5 : Int}
    (h : gL σ 1228 x0 ≠ 0 ∧ ((0 : Int) ≤ x5 ∧ x5 < (gL σ 1228 x0 : Int)) ∧ ((¬ (gI σ 1228 x0 x5.toNat) = 7 → AW g l (d + 1) MX12_names 5 [some (vR 12 (some x0)), some (vI x1), some (vI x2), some (vI (i_or x3 0)), some (vI (w32 (x4 + 1))), none, none] [] σ Q) ∧ ((gI σ 1228 x0 x5.toNat) = 7 → gL σ 1236 x0 ≠ 0 ∧ ((0 : Int) ≤ x5 ∧ x5 < (gL σ 1236 x0 : Int)) ∧ ((¬ (gI σ 1236 x0 x5.toNat) = x2 → AW g l (d + 1) MX12_names 5 [some (vR 12 (some x0)), some (vI x1), some (vI x2), some (vI (i_or x3 0)), some (vI (w32 (x4 + 1))), none, none] [] σ Q) ∧ ((gI σ 1236 x0 x5.toNat) = x2 → AW g l (d + 1) MX12_names 5 [some (vR 12 (some x0)), some (vI x1), some (vI x2), some (vI (i_or x3 1)), some (vI (w32 (x4 + 1))), none, none] [] σ Q))))) :
    AW g l (d + 1) MX12_names 144 [some (vR 12 (some x0)), some (vI x1), some (vI x2), some (vI x3), some (vI x4), some (vI x5), none] [] σ Q := by
  refine aw_iload_n dX12_names_144 rfl rfl ?_
  refine aw_aload_n dX12_names_145 rfl rfl ?_
  obtain ⟨h0, h⟩ := h
  refine aw_getA' rfl fk_1228 (by decide) lf_X12_98 dX12_names_146 h0 ?_
  refine aw_iload dX12_names_149 rfl ?_
  obtain ⟨⟨h0, h1⟩, h⟩ := h
  refine aw_iaload (by decide) rfl dX12_names_151 h0 h1 ?_
  refine aw_bipush (x := 7) dX12_names_152 rfl ?_
  refine aw_icmp_ne (tgt := 172) dX12_names_154 (by decide) (fun hc => ?_) (fun hc => ?_)
  · replace h := h.1 hc
    refine aw_iconst (x := 0) dX12_names_172 rfl ?_
    refine aw_ior dX12_names_173 ?_
    refine aw_istore_n dX12_names_174 rfl (by decide) rfl ?_
    refine aw_iinc dX12_names_175 rfl (by decide) rfl rfl ?_
    refine aw_goto (tgt := 5) dX12_names_178 (by decide) ?_
    exact aw_fgt (L' := [some (vR 12 (some x0)), some (vI x1), some (vI x2), some (vI (i_or x3 0)), some (vI (w32 (x4 + 1))), none, none]) ⟨rfl, ⟨rfl, ⟨rfl, ⟨rfl, ⟨rfl, trivial⟩⟩⟩⟩⟩ h
  · replace h := h.2 hc
    refine aw_aload_n dX12_names_157 rfl rfl ?_
    obtain ⟨h0, h⟩ := h
    refine aw_getA' rfl fk_1236 (by decide) lf_X12_122 dX12_names_158 h0 ?_
    refine aw_iload dX12_names_161 rfl ?_
    obtain ⟨⟨h0, h1⟩, h⟩ := h
    refine aw_iaload (by decide) rfl dX12_names_163 h0 h1 ?_
    refine aw_iload_n dX12_names_164 rfl rfl ?_
    refine aw_icmp_ne (tgt := 172) dX12_names_165 (by decide) (fun hc => ?_) (fun hc => ?_)
    · replace h := h.1 hc
      refine aw_iconst (x := 0) dX12_names_172 rfl ?_
      refine aw_ior dX12_names_173 ?_
      refine aw_istore_n dX12_names_174 rfl (by decide) rfl ?_
      refine aw_iinc dX12_names_175 rfl (by decide) rfl rfl ?_
      refine aw_goto (tgt := 5) dX12_names_178 (by decide) ?_
      exact aw_fgt (L' := [some (vR 12 (some x0)), some (vI x1), some (vI x2), some (vI (i_or x3 0)), some (vI (w32 (x4 + 1))), none, none]) ⟨rfl, ⟨rfl, ⟨rfl, ⟨rfl, ⟨rfl, trivial⟩⟩⟩⟩⟩ h
    · replace h := h.2 hc
      refine aw_iconst (x := 1) dX12_names_168 rfl ?_
      refine aw_goto (tgt := 173) dX12_names_169 (by decide) ?_
      refine aw_ior dX12_names_173 ?_
      refine aw_istore_n dX12_names_174 rfl (by decide) rfl ?_
      refine aw_iinc dX12_names_175 rfl (by decide) rfl rfl ?_
      refine aw_goto (tgt := 5) dX12_names_178 (by decide) ?_
      exact aw_fgt (L' := [some (vR 12 (some x0)), some (vI x1), some (vI x2), some (vI (i_or x3 1)), some (vI (w32 (x4 + 1))), none, none]) ⟨rfl, ⟨rfl, ⟨rfl, ⟨rfl, ⟨rfl, trivial⟩⟩⟩⟩⟩ h
set_option maxRecDepth 4000 in
theorem bk_X12_next_0 {g : GP} {l : Launch} {d : Nat} {σ : St} {Q : Option AV → St → Prop} {x0 : Nat}
    (h : AW g l (d + 1) MX12_next 8 [some (vR 12 (some x0)), none, none] [] (sI σ 1214 x0 0 (gI σ 1215 x0 0)) Q) :
    AW g l (d + 1) MX12_next 0 [some (vR 12 (some x0)), none, none] [] σ Q := by
  refine aw_aload_n dX12_next_0 rfl rfl ?_
  refine aw_aload_n dX12_next_1 rfl rfl ?_
  refine aw_getI' rfl fk_1215 lf_X12_57 dX12_next_2 ?_
  refine aw_putI' rfl fk_1214 (Or.inl rfl) lf_X12_54 dX12_next_5 ?_
  exact aw_fgt (L' := [some (vR 12 (some x0)), none, none]) ⟨rfl, trivial⟩ h
set_option maxRecDepth 4000 in
theorem bk_X12_next_8 {g : GP} {l : Launch} {d : Nat} {σ : St} {Q : Option AV → St → Prop} {x0 : Nat}
    (h : (((gI σ 1211 x0 0) ≤ (gI σ 1214 x0 0) → AW g l (d + 1) MX12_next 60 [some (vR 12 (some x0)), none, none] [] σ Q) ∧ (¬ (gI σ 1211 x0 0) ≤ (gI σ 1214 x0 0) → gL σ 1210 x0 ≠ 0 ∧ ((0 : Int) ≤ (gI σ 1214 x0 0) ∧ (gI σ 1214 x0 0) < (gL σ 1210 x0 : Int)) ∧ (((gI σ 1210 x0 (gI σ 1214 x0 0).toNat) = 32 → AW g l (d + 1) MX12_next 8 [some (vR 12 (some x0)), none, none] [] (sI σ 1214 x0 0 (w32 ((gI σ 1214 x0 0) + 1))) Q) ∧ (¬ (gI σ 1210 x0 (gI σ 1214 x0 0).toNat) = 32 → gL σ 1210 x0 ≠ 0 ∧ ((0 : Int) ≤ (gI σ 1214 x0 0) ∧ (gI σ 1214 x0 0) < (gL σ 1210 x0 : Int)) ∧ ((¬ (gI σ 1210 x0 (gI σ 1214 x0 0).toNat) = 10 → AW g l (d + 1) MX12_next 60 [some (vR 12 (some x0)), none, none] [] σ Q) ∧ ((gI σ 1210 x0 (gI σ 1214 x0 0).toNat) = 10 → AW g l (d + 1) MX12_next 8 [some (vR 12 (some x0)), none, none] [] (sI σ 1214 x0 0 (w32 ((gI σ 1214 x0 0) + 1))) Q))))))) :
    AW g l (d + 1) MX12_next 8 [some (vR 12 (some x0)), none, none] [] σ Q := by
  refine aw_aload_n dX12_next_8 rfl rfl ?_
  refine aw_getI' rfl fk_1214 lf_X12_54 dX12_next_9 ?_
  refine aw_aload_n dX12_next_12 rfl rfl ?_
  refine aw_getI' rfl fk_1211 lf_X12_45 dX12_next_13 ?_
  refine aw_icmp_ge (tgt := 60) dX12_next_16 (by decide) (fun hc => ?_) (fun hc => ?_)
  · replace h := h.1 hc
    exact aw_fgt (L' := [some (vR 12 (some x0)), none, none]) ⟨rfl, trivial⟩ h
  · replace h := h.2 hc
    refine aw_aload_n dX12_next_19 rfl rfl ?_
    obtain ⟨h0, h⟩ := h
    refine aw_getA' rfl fk_1210 (by decide) lf_X12_42 dX12_next_20 h0 ?_
    refine aw_aload_n dX12_next_23 rfl rfl ?_
    refine aw_getI' rfl fk_1214 lf_X12_54 dX12_next_24 ?_
    obtain ⟨⟨h0, h1⟩, h⟩ := h
    refine aw_iaload (by decide) rfl dX12_next_27 h0 h1 ?_
    refine aw_bipush (x := 32) dX12_next_28 rfl ?_
    refine aw_icmp_eq (tgt := 47) dX12_next_30 (by decide) (fun hc => ?_) (fun hc => ?_)
    · replace h := h.1 hc
      refine aw_aload_n dX12_next_47 rfl rfl ?_
      refine aw_dup dX12_next_48 rfl ?_
      refine aw_getI' rfl fk_1214 lf_X12_54 dX12_next_49 ?_
      refine aw_iconst (x := 1) dX12_next_52 rfl ?_
      refine aw_iadd dX12_next_53 ?_
      refine aw_putI' rfl fk_1214 (Or.inl rfl) lf_X12_54 dX12_next_54 ?_
      refine aw_goto (tgt := 8) dX12_next_57 (by decide) ?_
      exact aw_fgt (L' := [some (vR 12 (some x0)), none, none]) ⟨rfl, trivial⟩ h
    · replace h := h.2 hc
      refine aw_aload_n dX12_next_33 rfl rfl ?_
      obtain ⟨h0, h⟩ := h
      refine aw_getA' rfl fk_1210 (by decide) lf_X12_42 dX12_next_34 h0 ?_
      refine aw_aload_n dX12_next_37 rfl rfl ?_
      refine aw_getI' rfl fk_1214 lf_X12_54 dX12_next_38 ?_
      obtain ⟨⟨h0, h1⟩, h⟩ := h
      refine aw_iaload (by decide) rfl dX12_next_41 h0 h1 ?_
      refine aw_bipush (x := 10) dX12_next_42 rfl ?_
      refine aw_icmp_ne (tgt := 60) dX12_next_44 (by decide) (fun hc => ?_) (fun hc => ?_)
      · replace h := h.1 hc
        exact aw_fgt (L' := [some (vR 12 (some x0)), none, none]) ⟨rfl, trivial⟩ h
      · replace h := h.2 hc
        refine aw_aload_n dX12_next_47 rfl rfl ?_
        refine aw_dup dX12_next_48 rfl ?_
        refine aw_getI' rfl fk_1214 lf_X12_54 dX12_next_49 ?_
        refine aw_iconst (x := 1) dX12_next_52 rfl ?_
        refine aw_iadd dX12_next_53 ?_
        refine aw_putI' rfl fk_1214 (Or.inl rfl) lf_X12_54 dX12_next_54 ?_
        refine aw_goto (tgt := 8) dX12_next_57 (by decide) ?_
        exact aw_fgt (L' := [some (vR 12 (some x0)), none, none]) ⟨rfl, trivial⟩ h
set_option maxRecDepth 4000 in
theorem bk_X12_next_60 {g : GP} {l : Launch} {d : Nat} {σ : St} {Q : Option AV → St → Prop} {x0 : Nat}
    (h : ACi g l d MX12_tapeAt [vR 12 (some x0), vI (gI (sI σ 1215 x0 0 (gI σ 1214 x0 0)) 1214 x0 0)] (sI σ 1215 x0 0 (gI σ 1214 x0 0)) (fun v2 σ1 => (((gI σ1 1214 x0 0) < (gI σ1 1211 x0 0) → ACi g l d MX12_letter [vR 12 (some x0), vI v2] σ1 (fun v4 σ3 => ((¬ v4 = 0 → AW g l (d + 1) MX12_next 112 [some (vR 12 (some x0)), some (vI v2), none] [] σ3 Q) ∧ (v4 = 0 → ACi g l d MX12_digit [vR 12 (some x0), vI v2] σ3 (fun v6 σ5 => ((v6 = 0 → ACi g l d MX12_sign [vR 12 (some x0), vI v2] (sI σ5 1215 x0 0 (w32 ((gI σ5 1215 x0 0) + 1))) (fun v8 σ7 => ((v8 = 0 → Q none (sJ (sI σ7 1213 x0 0 4) 1217 x0 0 (i2j v2))) ∧ (¬ v8 = 0 → Q none (sJ (sI σ7 1213 x0 0 3) 1217 x0 0 (i2j v2)))))) ∧ (¬ v6 = 0 → AW g l (d + 1) MX12_next 112 [some (vR 12 (some x0)), some (vI v2), none] [] σ5 Q))))))) ∧ (¬ (gI σ1 1214 x0 0) < (gI σ1 1211 x0 0) → Q none (sI σ1 1213 x0 0 0))))) :
    AW g l (d + 1) MX12_next 60 [some (vR 12 (some x0)), none, none] [] σ Q := by
  refine aw_aload_n dX12_next_60 rfl rfl ?_
  refine aw_aload_n dX12_next_61 rfl rfl ?_
  refine aw_getI' rfl fk_1214 lf_X12_54 dX12_next_62 ?_
  refine aw_putI' rfl fk_1215 (Or.inl rfl) lf_X12_57 dX12_next_65 ?_
  refine aw_aload_n dX12_next_68 rfl rfl ?_
  refine aw_aload_n dX12_next_69 rfl rfl ?_
  refine aw_getI' rfl fk_1214 lf_X12_54 dX12_next_70 ?_
  refine aw_invVi (M := MX12_next) (ci := 12) [vI (gI (sI σ 1215 x0 0 (gI σ 1214 x0 0)) 1214 x0 0)] rfl mo_X12_tapeAt rfl lm_X12_311 li_X12_tapeAt ls_X12_tapeAt (by decide +kernel) dX12_next_73 rfl (Nat.le_of_ble_eq_true rfl) (ACi.mono (fun v2 σ1 h => ?_) h)
  refine aw_istore_n dX12_next_76 rfl (by decide) rfl ?_
  refine aw_aload_n dX12_next_77 rfl rfl ?_
  refine aw_getI' rfl fk_1214 lf_X12_54 dX12_next_78 ?_
  refine aw_aload_n dX12_next_81 rfl rfl ?_
  refine aw_getI' rfl fk_1211 lf_X12_45 dX12_next_82 ?_
  refine aw_icmp_lt (tgt := 96) dX12_next_85 (by decide) (fun hc => ?_) (fun hc => ?_)
  · replace h := h.1 hc
    refine aw_aload_n dX12_next_96 rfl rfl ?_
    refine aw_iload_n dX12_next_97 rfl rfl ?_
    refine aw_invVi (M := MX12_next) (ci := 12) [vI v2] rfl mo_X12_letter rfl lm_X12_315 li_X12_letter ls_X12_letter (by decide +kernel) dX12_next_98 rfl (Nat.le_of_ble_eq_true rfl) (ACi.mono (fun v4 σ3 h => ?_) h)
    refine aw_if_ne (tgt := 112) dX12_next_101 (by decide) (fun hc => ?_) (fun hc => ?_)
    · replace h := h.1 hc
      exact aw_fgt (L' := [some (vR 12 (some x0)), some (vI v2), none]) ⟨rfl, ⟨rfl, trivial⟩⟩ h
    · replace h := h.2 hc
      refine aw_aload_n dX12_next_104 rfl rfl ?_
      refine aw_iload_n dX12_next_105 rfl rfl ?_
      refine aw_invVi (M := MX12_next) (ci := 12) [vI v2] rfl mo_X12_digit rfl lm_X12_318 li_X12_digit ls_X12_digit (by decide +kernel) dX12_next_106 rfl (Nat.le_of_ble_eq_true rfl) (ACi.mono (fun v6 σ5 h => ?_) h)
      refine aw_if_eq (tgt := 259) dX12_next_109 (by decide) (fun hc => ?_) (fun hc => ?_)
      · replace h := h.1 hc
        refine aw_aload_n dX12_next_259 rfl rfl ?_
        refine aw_dup dX12_next_260 rfl ?_
        refine aw_getI' rfl fk_1215 lf_X12_57 dX12_next_261 ?_
        refine aw_iconst (x := 1) dX12_next_264 rfl ?_
        refine aw_iadd dX12_next_265 ?_
        refine aw_putI' rfl fk_1215 (Or.inl rfl) lf_X12_57 dX12_next_266 ?_
        refine aw_aload_n dX12_next_269 rfl rfl ?_
        refine aw_aload_n dX12_next_270 rfl rfl ?_
        refine aw_iload_n dX12_next_271 rfl rfl ?_
        refine aw_invVi (M := MX12_next) (ci := 12) [vI v2] rfl mo_X12_sign rfl lm_X12_325 li_X12_sign ls_X12_sign (by decide +kernel) dX12_next_272 rfl (Nat.le_of_ble_eq_true rfl) (ACi.mono (fun v8 σ7 h => ?_) h)
        refine aw_if_eq (tgt := 282) dX12_next_275 (by decide) (fun hc => ?_) (fun hc => ?_)
        · replace h := h.1 hc
          refine aw_iconst (x := 4) dX12_next_282 rfl ?_
          refine aw_putI' rfl fk_1213 (Or.inl rfl) lf_X12_51 dX12_next_283 ?_
          refine aw_aload_n dX12_next_286 rfl rfl ?_
          refine aw_iload_n dX12_next_287 rfl rfl ?_
          refine aw_i2l dX12_next_288 ?_
          refine aw_putJ' rfl fk_1217 (Or.inl rfl) lf_X12_64 dX12_next_289 ?_
          exact aw_ret h rfl dX12_next_292
        · replace h := h.2 hc
          refine aw_iconst (x := 3) dX12_next_278 rfl ?_
          refine aw_goto (tgt := 283) dX12_next_279 (by decide) ?_
          refine aw_putI' rfl fk_1213 (Or.inl rfl) lf_X12_51 dX12_next_283 ?_
          refine aw_aload_n dX12_next_286 rfl rfl ?_
          refine aw_iload_n dX12_next_287 rfl rfl ?_
          refine aw_i2l dX12_next_288 ?_
          refine aw_putJ' rfl fk_1217 (Or.inl rfl) lf_X12_64 dX12_next_289 ?_
          exact aw_ret h rfl dX12_next_292
      · replace h := h.2 hc
        exact aw_fgt (L' := [some (vR 12 (some x0)), some (vI v2), none]) ⟨rfl, ⟨rfl, trivial⟩⟩ h
  · replace h := h.2 hc
    refine aw_aload_n dX12_next_88 rfl rfl ?_
    refine aw_iconst (x := 0) dX12_next_89 rfl ?_
    refine aw_putI' rfl fk_1213 (Or.inl rfl) lf_X12_51 dX12_next_90 ?_
    refine aw_goto (tgt := 292) dX12_next_93 (by decide) ?_
    exact aw_ret h rfl dX12_next_292
set_option maxRecDepth 4000 in
theorem bk_X12_next_112 {g : GP} {l : Launch} {d : Nat} {σ : St} {Q : Option AV → St → Prop} {x0 : Nat} {x1 : Int}
    (h : ACi g l d MX12_tapeAt [vR 12 (some x0), vI (gI σ 1215 x0 0)] σ (fun v2 σ1 => ACi g l d MX12_letter [vR 12 (some x0), vI v2] σ1 (fun v4 σ3 => ((¬ v4 = 0 → AW g l (d + 1) MX12_next 112 [some (vR 12 (some x0)), some (vI x1), none] [] (sI σ3 1215 x0 0 (w32 ((gI σ3 1215 x0 0) + 1))) Q) ∧ (v4 = 0 → ACi g l d MX12_tapeAt [vR 12 (some x0), vI (gI σ3 1215 x0 0)] σ3 (fun v6 σ5 => ACi g l d MX12_digit [vR 12 (some x0), vI v6] σ5 (fun v8 σ7 => ((v8 = 0 → ACi g l d MX12_letter [vR 12 (some x0), vI x1] σ7 (fun v10 σ9 => ((v10 = 0 → ACi g l d MX12_numeral [vR 12 (some x0)] σ9 (fun v12 σ11 => ((v12 = 0 → AW g l (d + 1) MX12_next 215 [some (vR 12 (some x0)), none, some (vI (gI (sJ (sI σ11 1213 x0 0 4) 1216 x0 0 0) 1214 x0 0))] [] (sJ (sI σ11 1213 x0 0 4) 1216 x0 0 0) Q) ∧ (¬ v12 = 0 → AW g l (d + 1) MX12_next 215 [some (vR 12 (some x0)), none, some (vI (gI (sJ (sI σ11 1213 x0 0 2) 1216 x0 0 0) 1214 x0 0))] [] (sJ (sI σ11 1213 x0 0 2) 1216 x0 0 0) Q)))) ∧ (¬ v10 = 0 → (((w32 ((gI σ9 1215 x0 0) - (gI σ9 1214 x0 0))) ≤ 8 → AW g l (d + 1) MX12_next 215 [some (vR 12 (some x0)), none, some (vI (gI (sJ (sI σ9 1213 x0 0 1) 1216 x0 0 0) 1214 x0 0))] [] (sJ (sI σ9 1213 x0 0 1) 1216 x0 0 0) Q) ∧ (¬ (w32 ((gI σ9 1215 x0 0) - (gI σ9 1214 x0 0))) ≤ 8 → AW g l (d + 1) MX12_next 215 [some (vR 12 (some x0)), none, some (vI (gI (sJ (sI σ9 1213 x0 0 4) 1216 x0 0 0) 1214 x0 0))] [] (sJ (sI σ9 1213 x0 0 4) 1216 x0 0 0) Q)))))) ∧ (¬ v8 = 0 → AW g l (d + 1) MX12_next 112 [some (vR 12 (some x0)), some (vI x1), none] [] (sI σ7 1215 x0 0 (w32 ((gI σ7 1215 x0 0) + 1))) Q))))))))) :
    AW g l (d + 1) MX12_next 112 [some (vR 12 (some x0)), some (vI x1), none] [] σ Q := by
  refine aw_aload_n dX12_next_112 rfl rfl ?_
  refine aw_aload_n dX12_next_113 rfl rfl ?_
  refine aw_aload_n dX12_next_114 rfl rfl ?_
  refine aw_getI' rfl fk_1215 lf_X12_57 dX12_next_115 ?_
  refine aw_invVi (M := MX12_next) (ci := 12) [vI (gI σ 1215 x0 0)] rfl mo_X12_tapeAt rfl lm_X12_311 li_X12_tapeAt ls_X12_tapeAt (by decide +kernel) dX12_next_118 rfl (Nat.le_of_ble_eq_true rfl) (ACi.mono (fun v2 σ1 h => ?_) h)
  refine aw_invVi (M := MX12_next) (ci := 12) [vI v2] rfl mo_X12_letter rfl lm_X12_315 li_X12_letter ls_X12_letter (by decide +kernel) dX12_next_121 rfl (Nat.le_of_ble_eq_true rfl) (ACi.mono (fun v4 σ3 h => ?_) h)
  refine aw_if_ne (tgt := 142) dX12_next_124 (by decide) (fun hc => ?_) (fun hc => ?_)
  · replace h := h.1 hc
    refine aw_aload_n dX12_next_142 rfl rfl ?_
    refine aw_dup dX12_next_143 rfl ?_
    refine aw_getI' rfl fk_1215 lf_X12_57 dX12_next_144 ?_
    refine aw_iconst (x := 1) dX12_next_147 rfl ?_
    refine aw_iadd dX12_next_148 ?_
    refine aw_putI' rfl fk_1215 (Or.inl rfl) lf_X12_57 dX12_next_149 ?_
    refine aw_goto (tgt := 112) dX12_next_152 (by decide) ?_
    exact aw_fgt (L' := [some (vR 12 (some x0)), some (vI x1), none]) ⟨rfl, ⟨rfl, trivial⟩⟩ h
  · replace h := h.2 hc
    refine aw_aload_n dX12_next_127 rfl rfl ?_
    refine aw_aload_n dX12_next_128 rfl rfl ?_
    refine aw_aload_n dX12_next_129 rfl rfl ?_
    refine aw_getI' rfl fk_1215 lf_X12_57 dX12_next_130 ?_
    refine aw_invVi (M := MX12_next) (ci := 12) [vI (gI σ3 1215 x0 0)] rfl mo_X12_tapeAt rfl lm_X12_311 li_X12_tapeAt ls_X12_tapeAt (by decide +kernel) dX12_next_133 rfl (Nat.le_of_ble_eq_true rfl) (ACi.mono (fun v6 σ5 h => ?_) h)
    refine aw_invVi (M := MX12_next) (ci := 12) [vI v6] rfl mo_X12_digit rfl lm_X12_318 li_X12_digit ls_X12_digit (by decide +kernel) dX12_next_136 rfl (Nat.le_of_ble_eq_true rfl) (ACi.mono (fun v8 σ7 h => ?_) h)
    refine aw_if_eq (tgt := 155) dX12_next_139 (by decide) (fun hc => ?_) (fun hc => ?_)
    · replace h := h.1 hc
      refine aw_aload_n dX12_next_155 rfl rfl ?_
      refine aw_iload_n dX12_next_156 rfl rfl ?_
      refine aw_invVi (M := MX12_next) (ci := 12) [vI x1] rfl mo_X12_letter rfl lm_X12_315 li_X12_letter ls_X12_letter (by decide +kernel) dX12_next_157 rfl (Nat.le_of_ble_eq_true rfl) (ACi.mono (fun v10 σ9 h => ?_) h)
      refine aw_if_eq (tgt := 189) dX12_next_160 (by decide) (fun hc => ?_) (fun hc => ?_)
      · replace h := h.1 hc
        refine aw_aload_n dX12_next_189 rfl rfl ?_
        refine aw_aload_n dX12_next_190 rfl rfl ?_
        refine aw_invVi (M := MX12_next) (ci := 12) [] rfl mo_X12_numeral rfl lm_X12_321 li_X12_numeral ls_X12_numeral (by decide +kernel) dX12_next_191 rfl (Nat.le_of_ble_eq_true rfl) (ACi.mono (fun v12 σ11 h => ?_) h)
        refine aw_if_eq (tgt := 201) dX12_next_194 (by decide) (fun hc => ?_) (fun hc => ?_)
        · replace h := h.1 hc
          refine aw_iconst (x := 4) dX12_next_201 rfl ?_
          refine aw_putI' rfl fk_1213 (Or.inl rfl) lf_X12_51 dX12_next_202 ?_
          refine aw_aload_n dX12_next_205 rfl rfl ?_
          refine aw_lconst (x := 0) dX12_next_206 rfl ?_
          refine aw_putJ' rfl fk_1216 (Or.inl rfl) lf_X12_60 dX12_next_207 ?_
          refine aw_aload_n dX12_next_210 rfl rfl ?_
          refine aw_getI' rfl fk_1214 lf_X12_54 dX12_next_211 ?_
          refine aw_istore_n dX12_next_214 rfl (by decide) rfl ?_
          exact aw_fgt (L' := [some (vR 12 (some x0)), none, some (vI (gI (sJ (sI σ11 1213 x0 0 4) 1216 x0 0 0) 1214 x0 0))]) ⟨rfl, ⟨rfl, trivial⟩⟩ h
        · replace h := h.2 hc
          refine aw_iconst (x := 2) dX12_next_197 rfl ?_
          refine aw_goto (tgt := 202) dX12_next_198 (by decide) ?_
          refine aw_putI' rfl fk_1213 (Or.inl rfl) lf_X12_51 dX12_next_202 ?_
          refine aw_aload_n dX12_next_205 rfl rfl ?_
          refine aw_lconst (x := 0) dX12_next_206 rfl ?_
          refine aw_putJ' rfl fk_1216 (Or.inl rfl) lf_X12_60 dX12_next_207 ?_
          refine aw_aload_n dX12_next_210 rfl rfl ?_
          refine aw_getI' rfl fk_1214 lf_X12_54 dX12_next_211 ?_
          refine aw_istore_n dX12_next_214 rfl (by decide) rfl ?_
          exact aw_fgt (L' := [some (vR 12 (some x0)), none, some (vI (gI (sJ (sI σ11 1213 x0 0 2) 1216 x0 0 0) 1214 x0 0))]) ⟨rfl, ⟨rfl, trivial⟩⟩ h
      · replace h := h.2 hc
        refine aw_aload_n dX12_next_163 rfl rfl ?_
        refine aw_aload_n dX12_next_164 rfl rfl ?_
        refine aw_getI' rfl fk_1215 lf_X12_57 dX12_next_165 ?_
        refine aw_aload_n dX12_next_168 rfl rfl ?_
        refine aw_getI' rfl fk_1214 lf_X12_54 dX12_next_169 ?_
        refine aw_isub dX12_next_172 ?_
        refine aw_bipush (x := 8) dX12_next_173 rfl ?_
        refine aw_icmp_le (tgt := 182) dX12_next_175 (by decide) (fun hc => ?_) (fun hc => ?_)
        · replace h := h.1 hc
          refine aw_iconst (x := 1) dX12_next_182 rfl ?_
          refine aw_putI' rfl fk_1213 (Or.inl rfl) lf_X12_51 dX12_next_183 ?_
          refine aw_goto (tgt := 205) dX12_next_186 (by decide) ?_
          refine aw_aload_n dX12_next_205 rfl rfl ?_
          refine aw_lconst (x := 0) dX12_next_206 rfl ?_
          refine aw_putJ' rfl fk_1216 (Or.inl rfl) lf_X12_60 dX12_next_207 ?_
          refine aw_aload_n dX12_next_210 rfl rfl ?_
          refine aw_getI' rfl fk_1214 lf_X12_54 dX12_next_211 ?_
          refine aw_istore_n dX12_next_214 rfl (by decide) rfl ?_
          exact aw_fgt (L' := [some (vR 12 (some x0)), none, some (vI (gI (sJ (sI σ9 1213 x0 0 1) 1216 x0 0 0) 1214 x0 0))]) ⟨rfl, ⟨rfl, trivial⟩⟩ h
        · replace h := h.2 hc
          refine aw_iconst (x := 4) dX12_next_178 rfl ?_
          refine aw_goto (tgt := 183) dX12_next_179 (by decide) ?_
          refine aw_putI' rfl fk_1213 (Or.inl rfl) lf_X12_51 dX12_next_183 ?_
          refine aw_goto (tgt := 205) dX12_next_186 (by decide) ?_
          refine aw_aload_n dX12_next_205 rfl rfl ?_
          refine aw_lconst (x := 0) dX12_next_206 rfl ?_
          refine aw_putJ' rfl fk_1216 (Or.inl rfl) lf_X12_60 dX12_next_207 ?_
          refine aw_aload_n dX12_next_210 rfl rfl ?_
          refine aw_getI' rfl fk_1214 lf_X12_54 dX12_next_211 ?_
          refine aw_istore_n dX12_next_214 rfl (by decide) rfl ?_
          exact aw_fgt (L' := [some (vR 12 (some x0)), none, some (vI (gI (sJ (sI σ9 1213 x0 0 4) 1216 x0 0 0) 1214 x0 0))]) ⟨rfl, ⟨rfl, trivial⟩⟩ h
    · replace h := h.2 hc
      refine aw_aload_n dX12_next_142 rfl rfl ?_
      refine aw_dup dX12_next_143 rfl ?_
      refine aw_getI' rfl fk_1215 lf_X12_57 dX12_next_144 ?_
      refine aw_iconst (x := 1) dX12_next_147 rfl ?_
      refine aw_iadd dX12_next_148 ?_
      refine aw_putI' rfl fk_1215 (Or.inl rfl) lf_X12_57 dX12_next_149 ?_
      refine aw_goto (tgt := 112) dX12_next_152 (by decide) ?_
      exact aw_fgt (L' := [some (vR 12 (some x0)), some (vI x1), none]) ⟨rfl, ⟨rfl, trivial⟩⟩ h
set_option maxRecDepth 4000 in
theorem bk_X12_next_215 {g : GP} {l : Launch} {d : Nat} {σ : St} {Q : Option AV → St → Prop} {x0 : Nat} {x2 : Int}
    (h : (((gI σ 1215 x0 0) ≤ x2 → Q none σ) ∧ (¬ (gI σ 1215 x0 0) ≤ x2 → ((¬ (gI σ 1213 x0 0) = 1 → Q none σ) ∧ ((gI σ 1213 x0 0) = 1 → gL σ 1210 x0 ≠ 0 ∧ ((0 : Int) ≤ x2 ∧ x2 < (gL σ 1210 x0 : Int)) ∧ AW g l (d + 1) MX12_next 215 [some (vR 12 (some x0)), none, some (vI (w32 (x2 + 1)))] [] (sJ σ 1216 x0 0 ((j_shl (gJ σ 1216 x0 0) 8) ||| (i2j (gI σ 1210 x0 x2.toNat)))) Q))))) :
    AW g l (d + 1) MX12_next 215 [some (vR 12 (some x0)), none, some (vI x2)] [] σ Q := by
  refine aw_iload_n dX12_next_215 rfl rfl ?_
  refine aw_aload_n dX12_next_216 rfl rfl ?_
  refine aw_getI' rfl fk_1215 lf_X12_57 dX12_next_217 ?_
  refine aw_icmp_ge (tgt := 256) dX12_next_220 (by decide) (fun hc => ?_) (fun hc => ?_)
  · replace h := h.1 hc
    refine aw_goto (tgt := 292) dX12_next_256 (by decide) ?_
    exact aw_ret h rfl dX12_next_292
  · replace h := h.2 hc
    refine aw_aload_n dX12_next_223 rfl rfl ?_
    refine aw_getI' rfl fk_1213 lf_X12_51 dX12_next_224 ?_
    refine aw_iconst (x := 1) dX12_next_227 rfl ?_
    refine aw_icmp_ne (tgt := 256) dX12_next_228 (by decide) (fun hc => ?_) (fun hc => ?_)
    · replace h := h.1 hc
      refine aw_goto (tgt := 292) dX12_next_256 (by decide) ?_
      exact aw_ret h rfl dX12_next_292
    · replace h := h.2 hc
      refine aw_aload_n dX12_next_231 rfl rfl ?_
      refine aw_aload_n dX12_next_232 rfl rfl ?_
      refine aw_getJ' rfl fk_1216 lf_X12_60 dX12_next_233 ?_
      refine aw_bipush (x := 8) dX12_next_236 rfl ?_
      refine aw_lshl dX12_next_238 ?_
      refine aw_aload_n dX12_next_239 rfl rfl ?_
      obtain ⟨h0, h⟩ := h
      refine aw_getA' rfl fk_1210 (by decide) lf_X12_42 dX12_next_240 h0 ?_
      refine aw_iload_n dX12_next_243 rfl rfl ?_
      obtain ⟨⟨h0, h1⟩, h⟩ := h
      refine aw_iaload (by decide) rfl dX12_next_244 h0 h1 ?_
      refine aw_i2l dX12_next_245 ?_
      refine aw_lor dX12_next_246 ?_
      refine aw_putJ' rfl fk_1216 (Or.inl rfl) lf_X12_60 dX12_next_247 ?_
      refine aw_iinc dX12_next_250 rfl (by decide) rfl rfl ?_
      refine aw_goto (tgt := 215) dX12_next_253 (by decide) ?_
      exact aw_fgt (L' := [some (vR 12 (some x0)), none, some (vI (w32 (x2 + 1)))]) ⟨rfl, ⟨rfl, trivial⟩⟩ h
set_option maxRecDepth 4000 in
theorem bk_X12_node__0 {g : GP} {l : Launch} {d : Nat} {σ : St} {Q : Option AV → St → Prop} {x0 : Nat} {x1 : Int} {x2 : Int} {x3 : Int}
    (h : ACi g l d MX12_isNode [vR 12 (some x0), vI x1, vI x2] σ (fun v2 σ1 => ((¬ v2 = 0 → ((x3 = 0 → gL σ1 1267 x0 ≠ 0 ∧ ((0 : Int) ≤ (w32 ((w32 (400 * x1)) + x2)) ∧ (w32 ((w32 (400 * x1)) + x2)) < (gL σ1 1267 x0 : Int)) ∧ Q (some (vI (gI σ1 1267 x0 (w32 ((w32 (400 * x1)) + x2)).toNat))) σ1) ∧ (x3 = 1 → gL σ1 1268 x0 ≠ 0 ∧ ((0 : Int) ≤ (w32 ((w32 (400 * x1)) + x2)) ∧ (w32 ((w32 (400 * x1)) + x2)) < (gL σ1 1268 x0 : Int)) ∧ Q (some (vI (gI σ1 1268 x0 (w32 ((w32 (400 * x1)) + x2)).toNat))) σ1) ∧ (x3 = 2 → gL σ1 1269 x0 ≠ 0 ∧ ((0 : Int) ≤ (w32 ((w32 (400 * x1)) + x2)) ∧ (w32 ((w32 (400 * x1)) + x2)) < (gL σ1 1269 x0 : Int)) ∧ Q (some (vI (gI σ1 1269 x0 (w32 ((w32 (400 * x1)) + x2)).toNat))) σ1) ∧ (x3 = 3 → gL σ1 1270 x0 ≠ 0 ∧ ((0 : Int) ≤ (w32 ((w32 (400 * x1)) + x2)) ∧ (w32 ((w32 (400 * x1)) + x2)) < (gL σ1 1270 x0 : Int)) ∧ ACi g l d MX12_outward [vR 12 (some x0), vI (gI σ1 1270 x0 (w32 ((w32 (400 * x1)) + x2)).toNat)] σ1 (fun v4 σ3 => Q (some (vI v4)) σ3)) ∧ (x3 = 4 → gL σ1 1271 x0 ≠ 0 ∧ ((0 : Int) ≤ (w32 ((w32 (400 * x1)) + x2)) ∧ (w32 ((w32 (400 * x1)) + x2)) < (gL σ1 1271 x0 : Int)) ∧ Q (some (vI (gI σ1 1271 x0 (w32 ((w32 (400 * x1)) + x2)).toNat))) σ1) ∧ (x3 = 5 → gL σ1 1272 x0 ≠ 0 ∧ ((0 : Int) ≤ (w32 ((w32 (400 * x1)) + x2)) ∧ (w32 ((w32 (400 * x1)) + x2)) < (gL σ1 1272 x0 : Int)) ∧ Q (some (vI (gI σ1 1272 x0 (w32 ((w32 (400 * x1)) + x2)).toNat))) σ1) ∧ (x3 = 6 → gL σ1 1279 x0 ≠ 0 ∧ ((0 : Int) ≤ (w32 ((w32 (400 * x1)) + x2)) ∧ (w32 ((w32 (400 * x1)) + x2)) < (gL σ1 1279 x0 : Int)) ∧ (((gI σ1 1279 x0 (w32 ((w32 (400 * x1)) + x2)).toNat) = 0 → Q (some (vI 0)) σ1) ∧ (¬ (gI σ1 1279 x0 (w32 ((w32 (400 * x1)) + x2)).toNat) = 0 → Q (some (vI 1)) σ1))) ∧ (x3 = 7 → gL σ1 1267 x0 ≠ 0 ∧ ((0 : Int) ≤ (w32 ((w32 (400 * x1)) + x2)) ∧ (w32 ((w32 (400 * x1)) + x2)) < (gL σ1 1267 x0 : Int)) ∧ ((¬ (gI σ1 1267 x0 (w32 ((w32 (400 * x1)) + x2)).toNat) = 0 → Q (some (vI (-1))) σ1) ∧ ((gI σ1 1267 x0 (w32 ((w32 (400 * x1)) + x2)).toNat) = 0 → gL σ1 1273 x0 ≠ 0 ∧ ((0 : Int) ≤ (w32 ((w32 (400 * x1)) + x2)) ∧ (w32 ((w32 (400 * x1)) + x2)) < (gL σ1 1273 x0 : Int)) ∧ Q (some (vI (gI σ1 1273 x0 (w32 ((w32 (400 * x1)) + x2)).toNat))) σ1))) ∧ (x3 < 0 ∨ 7 < x3 → Q (some (vI (-1))) σ1))) ∧ (v2 = 0 → Q (some (vI (-1))) σ1)))) :
    AW g l (d + 1) MX12_node_ 0 [some (vR 12 (some x0)), some (vI x1), some (vI x2), some (vI x3), none] [] σ Q := by
  refine aw_aload_n dX12_node__0 rfl rfl ?_
  refine aw_iload_n dX12_node__1 rfl rfl ?_
  refine aw_iload_n dX12_node__2 rfl rfl ?_
  refine aw_invVi (M := MX12_node_) (ci := 12) [vI x1, vI x2] rfl mo_X12_isNode rfl lm_X12_688 li_X12_isNode ls_X12_isNode (by decide +kernel) dX12_node__3 rfl (Nat.le_of_ble_eq_true rfl) (ACi.mono (fun v2 σ1 h => ?_) h)
  refine aw_if_ne (tgt := 11) dX12_node__6 (by decide) (fun hc => ?_) (fun hc => ?_)
  · replace h := h.1 hc
    refine aw_sipush (x := 400) dX12_node__11 rfl ?_
    refine aw_iload_n dX12_node__14 rfl rfl ?_
    refine aw_imul dX12_node__15 ?_
    refine aw_iload_n dX12_node__16 rfl rfl ?_
    refine aw_iadd dX12_node__17 ?_
    refine aw_istore dX12_node__18 (by decide) rfl ?_
    refine aw_iload_n dX12_node__20 rfl rfl ?_
    obtain ⟨h0, h1, h2, h3, h4, h5, h6, h7, hd⟩ := h
    refine aw_table (M := MX12_node_) (dt := 158) [68, 76, 84, 92, 104, 112, 120, 136] dX12_node__21 (by decide) (by decide) (by decide) ⟨fun hc => ?_, fun hc => ?_, fun hc => ?_, fun hc => ?_, fun hc => ?_, fun hc => ?_, fun hc => ?_, fun hc => ?_, trivial⟩ (fun hc => ?_)
    · have h := h0 hc; clear h0 h1 h2 h3 h4 h5 h6 h7 hd
      refine aw_aload_n dX12_node__68 rfl rfl ?_
      obtain ⟨h0, h⟩ := h
      refine aw_getA' rfl fk_1267 (by decide) lf_X12_217 dX12_node__69 h0 ?_
      refine aw_iload dX12_node__72 rfl ?_
      obtain ⟨⟨h0, h1⟩, h⟩ := h
      refine aw_iaload (by decide) rfl dX12_node__74 h0 h1 ?_
      exact aw_ireturn dX12_node__75 rfl h
    · have h := h1 hc; clear h0 h1 h2 h3 h4 h5 h6 h7 hd
      refine aw_aload_n dX12_node__76 rfl rfl ?_
      obtain ⟨h0, h⟩ := h
      refine aw_getA' rfl fk_1268 (by decide) lf_X12_220 dX12_node__77 h0 ?_
      refine aw_iload dX12_node__80 rfl ?_
      obtain ⟨⟨h0, h1⟩, h⟩ := h
      refine aw_iaload (by decide) rfl dX12_node__82 h0 h1 ?_
      exact aw_ireturn dX12_node__83 rfl h
    · have h := h2 hc; clear h0 h1 h2 h3 h4 h5 h6 h7 hd
      refine aw_aload_n dX12_node__84 rfl rfl ?_
      obtain ⟨h0, h⟩ := h
      refine aw_getA' rfl fk_1269 (by decide) lf_X12_223 dX12_node__85 h0 ?_
      refine aw_iload dX12_node__88 rfl ?_
      obtain ⟨⟨h0, h1⟩, h⟩ := h
      refine aw_iaload (by decide) rfl dX12_node__90 h0 h1 ?_
      exact aw_ireturn dX12_node__91 rfl h
    · have h := h3 hc; clear h0 h1 h2 h3 h4 h5 h6 h7 hd
      refine aw_aload_n dX12_node__92 rfl rfl ?_
      refine aw_aload_n dX12_node__93 rfl rfl ?_
      obtain ⟨h0, h⟩ := h
      refine aw_getA' rfl fk_1270 (by decide) lf_X12_226 dX12_node__94 h0 ?_
      refine aw_iload dX12_node__97 rfl ?_
      obtain ⟨⟨h0, h1⟩, h⟩ := h
      refine aw_iaload (by decide) rfl dX12_node__99 h0 h1 ?_
      refine aw_invVi (M := MX12_node_) (ci := 12) [vI (gI σ1 1270 x0 (w32 ((w32 (400 * x1)) + x2)).toNat)] rfl mo_X12_outward rfl lm_X12_691 li_X12_outward ls_X12_outward (by decide +kernel) dX12_node__100 rfl (Nat.le_of_ble_eq_true rfl) (ACi.mono (fun v4 σ3 h => ?_) h)
      exact aw_ireturn dX12_node__103 rfl h
    · have h := h4 hc; clear h0 h1 h2 h3 h4 h5 h6 h7 hd
      refine aw_aload_n dX12_node__104 rfl rfl ?_
      obtain ⟨h0, h⟩ := h
      refine aw_getA' rfl fk_1271 (by decide) lf_X12_229 dX12_node__105 h0 ?_
      refine aw_iload dX12_node__108 rfl ?_
      obtain ⟨⟨h0, h1⟩, h⟩ := h
      refine aw_iaload (by decide) rfl dX12_node__110 h0 h1 ?_
      exact aw_ireturn dX12_node__111 rfl h
    · have h := h5 hc; clear h0 h1 h2 h3 h4 h5 h6 h7 hd
      refine aw_aload_n dX12_node__112 rfl rfl ?_
      obtain ⟨h0, h⟩ := h
      refine aw_getA' rfl fk_1272 (by decide) lf_X12_232 dX12_node__113 h0 ?_
      refine aw_iload dX12_node__116 rfl ?_
      obtain ⟨⟨h0, h1⟩, h⟩ := h
      refine aw_iaload (by decide) rfl dX12_node__118 h0 h1 ?_
      exact aw_ireturn dX12_node__119 rfl h
    · have h := h6 hc; clear h0 h1 h2 h3 h4 h5 h6 h7 hd
      refine aw_aload_n dX12_node__120 rfl rfl ?_
      obtain ⟨h0, h⟩ := h
      refine aw_getA' rfl fk_1279 (by decide) lf_X12_253 dX12_node__121 h0 ?_
      refine aw_iload dX12_node__124 rfl ?_
      obtain ⟨⟨h0, h1⟩, h⟩ := h
      refine aw_baload (by decide) rfl dX12_node__126 h0 h1 ?_
      refine aw_if_eq (tgt := 134) dX12_node__127 (by decide) (fun hc => ?_) (fun hc => ?_)
      · replace h := h.1 hc
        refine aw_iconst (x := 0) dX12_node__134 rfl ?_
        exact aw_ireturn dX12_node__135 rfl h
      · replace h := h.2 hc
        refine aw_iconst (x := 1) dX12_node__130 rfl ?_
        refine aw_goto (tgt := 135) dX12_node__131 (by decide) ?_
        exact aw_ireturn dX12_node__135 rfl h
    · have h := h7 hc; clear h0 h1 h2 h3 h4 h5 h6 h7 hd
      refine aw_aload_n dX12_node__136 rfl rfl ?_
      obtain ⟨h0, h⟩ := h
      refine aw_getA' rfl fk_1267 (by decide) lf_X12_217 dX12_node__137 h0 ?_
      refine aw_iload dX12_node__140 rfl ?_
      obtain ⟨⟨h0, h1⟩, h⟩ := h
      refine aw_iaload (by decide) rfl dX12_node__142 h0 h1 ?_
      refine aw_if_ne (tgt := 156) dX12_node__143 (by decide) (fun hc => ?_) (fun hc => ?_)
      · replace h := h.1 hc
        refine aw_iconst (x := (-1)) dX12_node__156 rfl ?_
        exact aw_ireturn dX12_node__157 rfl h
      · replace h := h.2 hc
        refine aw_aload_n dX12_node__146 rfl rfl ?_
        obtain ⟨h0, h⟩ := h
        refine aw_getA' rfl fk_1273 (by decide) lf_X12_235 dX12_node__147 h0 ?_
        refine aw_iload dX12_node__150 rfl ?_
        obtain ⟨⟨h0, h1⟩, h⟩ := h
        refine aw_iaload (by decide) rfl dX12_node__152 h0 h1 ?_
        refine aw_goto (tgt := 157) dX12_node__153 (by decide) ?_
        exact aw_ireturn dX12_node__157 rfl h
    · have h := hd hc; clear h0 h1 h2 h3 h4 h5 h6 h7 hd
      refine aw_iconst (x := (-1)) dX12_node__158 rfl ?_
      exact aw_ireturn dX12_node__159 rfl h
  · replace h := h.2 hc
    refine aw_iconst (x := (-1)) dX12_node__9 rfl ?_
    exact aw_ireturn dX12_node__10 rfl h
set_option maxRecDepth 4000 in
theorem bk_X12_node_0 {g : GP} {l : Launch} {d : Nat} {σ : St} {Q : Option AV → St → Prop} {x0 : Nat} {x1 : Int} {x2 : Int} {x3 : Int} {x4 : Int64}
    (h : gL σ 1242 x0 ≠ 0 ∧ ((0 : Int) ≤ (gI σ 1246 x0 0) ∧ (gI σ 1246 x0 0) < (gL σ 1242 x0 : Int)) ∧ gL (sI σ 1242 x0 (gI σ 1246 x0 0).toNat x1) 1243 x0 ≠ 0 ∧ ((0 : Int) ≤ (gI σ 1246 x0 0) ∧ (gI σ 1246 x0 0) < (gL (sI σ 1242 x0 (gI σ 1246 x0 0).toNat x1) 1243 x0 : Int)) ∧ gL (sI (sI σ 1242 x0 (gI σ 1246 x0 0).toNat x1) 1243 x0 (gI σ 1246 x0 0).toNat x2) 1244 x0 ≠ 0 ∧ ((0 : Int) ≤ (gI σ 1246 x0 0) ∧ (gI σ 1246 x0 0) < (gL (sI (sI σ 1242 x0 (gI σ 1246 x0 0).toNat x1) 1243 x0 (gI σ 1246 x0 0).toNat x2) 1244 x0 : Int)) ∧ gL (sI (sI (sI σ 1242 x0 (gI σ 1246 x0 0).toNat x1) 1243 x0 (gI σ 1246 x0 0).toNat x2) 1244 x0 (gI σ 1246 x0 0).toNat x3) 1245 x0 ≠ 0 ∧ ((0 : Int) ≤ (gI σ 1246 x0 0) ∧ (gI σ 1246 x0 0) < (gL (sI (sI (sI σ 1242 x0 (gI σ 1246 x0 0).toNat x1) 1243 x0 (gI σ 1246 x0 0).toNat x2) 1244 x0 (gI σ 1246 x0 0).toNat x3) 1245 x0 : Int)) ∧ AW g l d MX12_node 49 [none, none, none, none, none, none, some (vI (gI σ 1246 x0 0))] [] (sI (sJ (sI (sI (sI σ 1242 x0 (gI σ 1246 x0 0).toNat x1) 1243 x0 (gI σ 1246 x0 0).toNat x2) 1244 x0 (gI σ 1246 x0 0).toNat x3) 1245 x0 (gI σ 1246 x0 0).toNat x4) 1246 x0 0 (w32 ((gI (sJ (sI (sI (sI σ 1242 x0 (gI σ 1246 x0 0).toNat x1) 1243 x0 (gI σ 1246 x0 0).toNat x2) 1244 x0 (gI σ 1246 x0 0).toNat x3) 1245 x0 (gI σ 1246 x0 0).toNat x4) 1246 x0 0) + 1))) Q) :
    AW g l d MX12_node 0 [some (vR 12 (some x0)), some (vI x1), some (vI x2), some (vI x3), some (vJ x4), none, none] [] σ Q := by
  refine aw_aload_n dX12_node_0 rfl rfl ?_
  refine aw_getI' rfl fk_1246 lf_X12_152 dX12_node_1 ?_
  refine aw_istore dX12_node_4 (by decide) rfl ?_
  refine aw_aload_n dX12_node_6 rfl rfl ?_
  obtain ⟨h0, h⟩ := h
  refine aw_getA' rfl fk_1242 (by decide) lf_X12_140 dX12_node_7 h0 ?_
  refine aw_iload dX12_node_10 rfl ?_
  refine aw_iload_n dX12_node_12 rfl rfl ?_
  obtain ⟨⟨h0, h1⟩, h⟩ := h
  refine aw_iastore (by decide) rfl dX12_node_13 h0 h1 ?_
  refine aw_aload_n dX12_node_14 rfl rfl ?_
  obtain ⟨h0, h⟩ := h
  refine aw_getA' rfl fk_1243 (by decide) lf_X12_143 dX12_node_15 h0 ?_
  refine aw_iload dX12_node_18 rfl ?_
  refine aw_iload_n dX12_node_20 rfl rfl ?_
  obtain ⟨⟨h0, h1⟩, h⟩ := h
  refine aw_iastore (by decide) rfl dX12_node_21 h0 h1 ?_
  refine aw_aload_n dX12_node_22 rfl rfl ?_
  obtain ⟨h0, h⟩ := h
  refine aw_getA' rfl fk_1244 (by decide) lf_X12_146 dX12_node_23 h0 ?_
  refine aw_iload dX12_node_26 rfl ?_
  refine aw_iload_n dX12_node_28 rfl rfl ?_
  obtain ⟨⟨h0, h1⟩, h⟩ := h
  refine aw_iastore (by decide) rfl dX12_node_29 h0 h1 ?_
  refine aw_aload_n dX12_node_30 rfl rfl ?_
  obtain ⟨h0, h⟩ := h
  refine aw_getA' rfl fk_1245 (by decide) lf_X12_149 dX12_node_31 h0 ?_
  refine aw_iload dX12_node_34 rfl ?_
  refine aw_lload dX12_node_36 rfl ?_
  obtain ⟨⟨h0, h1⟩, h⟩ := h
  refine aw_lastore (by decide) rfl dX12_node_38 h0 h1 ?_
  refine aw_aload_n dX12_node_39 rfl rfl ?_
  refine aw_dup dX12_node_40 rfl ?_
  refine aw_getI' rfl fk_1246 lf_X12_152 dX12_node_41 ?_
  refine aw_iconst (x := 1) dX12_node_44 rfl ?_
  refine aw_iadd dX12_node_45 ?_
  refine aw_putI' rfl fk_1246 (Or.inl rfl) lf_X12_152 dX12_node_46 ?_
  exact aw_fgt (L' := [none, none, none, none, none, none, some (vI (gI σ 1246 x0 0))]) ⟨rfl, trivial⟩ h
set_option maxRecDepth 4000 in
theorem bk_X12_node_49 {g : GP} {l : Launch} {d : Nat} {σ : St} {Q : Option AV → St → Prop} {x6 : Int}
    (h : Q (some (vI x6)) σ) :
    AW g l d MX12_node 49 [none, none, none, none, none, none, some (vI x6)] [] σ Q := by
  refine aw_iload dX12_node_49 rfl ?_
  exact aw_ireturn dX12_node_51 rfl h
set_option maxRecDepth 4000 in
theorem bk_X12_numeral_0 {g : GP} {l : Launch} {d : Nat} {σ : St} {Q : Option AV → St → Prop} {x0 : Nat}
    (h : gL σ 1210 x0 ≠ 0 ∧ ((0 : Int) ≤ (gI σ 1214 x0 0) ∧ (gI σ 1214 x0 0) < (gL σ 1210 x0 : Int)) ∧ ((¬ (gI σ 1210 x0 (gI σ 1214 x0 0).toNat) = 48 → AW g l (d + 1) MX12_numeral 47 [some (vR 12 (some x0)), none, none, none, none, none] [vI 0] σ Q) ∧ ((gI σ 1210 x0 (gI σ 1214 x0 0).toNat) = 48 → ACi g l d MX12_tapeAt [vR 12 (some x0), vI (w32 ((gI σ 1214 x0 0) + 1))] σ (fun v2 σ1 => ((¬ v2 = 120 → AW g l (d + 1) MX12_numeral 47 [some (vR 12 (some x0)), none, none, none, none, none] [vI 0] σ1 Q) ∧ (v2 = 120 → (((gI σ1 1215 x0 0) ≤ (w32 ((gI σ1 1214 x0 0) + 1)) → AW g l (d + 1) MX12_numeral 47 [some (vR 12 (some x0)), none, none, none, none, none] [vI 0] σ1 Q) ∧ (¬ (gI σ1 1215 x0 0) ≤ (w32 ((gI σ1 1214 x0 0) + 1)) → AW g l (d + 1) MX12_numeral 47 [some (vR 12 (some x0)), none, none, none, none, none] [vI 1] σ1 Q)))))))) :
    AW g l (d + 1) MX12_numeral 0 [some (vR 12 (some x0)), none, none, none, none, none] [] σ Q := by
  refine aw_aload_n dX12_numeral_0 rfl rfl ?_
  obtain ⟨h0, h⟩ := h
  refine aw_getA' rfl fk_1210 (by decide) lf_X12_42 dX12_numeral_1 h0 ?_
  refine aw_aload_n dX12_numeral_4 rfl rfl ?_
  refine aw_getI' rfl fk_1214 lf_X12_54 dX12_numeral_5 ?_
  obtain ⟨⟨h0, h1⟩, h⟩ := h
  refine aw_iaload (by decide) rfl dX12_numeral_8 h0 h1 ?_
  refine aw_bipush (x := 48) dX12_numeral_9 rfl ?_
  refine aw_icmp_ne (tgt := 46) dX12_numeral_11 (by decide) (fun hc => ?_) (fun hc => ?_)
  · replace h := h.1 hc
    refine aw_iconst (x := 0) dX12_numeral_46 rfl ?_
    exact aw_fgt (L' := [some (vR 12 (some x0)), none, none, none, none, none]) ⟨rfl, trivial⟩ h
  · replace h := h.2 hc
    refine aw_aload_n dX12_numeral_14 rfl rfl ?_
    refine aw_aload_n dX12_numeral_15 rfl rfl ?_
    refine aw_getI' rfl fk_1214 lf_X12_54 dX12_numeral_16 ?_
    refine aw_iconst (x := 1) dX12_numeral_19 rfl ?_
    refine aw_iadd dX12_numeral_20 ?_
    refine aw_invVi (M := MX12_numeral) (ci := 12) [vI (w32 ((gI σ 1214 x0 0) + 1))] rfl mo_X12_tapeAt rfl lm_X12_311 li_X12_tapeAt ls_X12_tapeAt (by decide +kernel) dX12_numeral_21 rfl (Nat.le_of_ble_eq_true rfl) (ACi.mono (fun v2 σ1 h => ?_) h)
    refine aw_bipush (x := 120) dX12_numeral_24 rfl ?_
    refine aw_icmp_ne (tgt := 46) dX12_numeral_26 (by decide) (fun hc => ?_) (fun hc => ?_)
    · replace h := h.1 hc
      refine aw_iconst (x := 0) dX12_numeral_46 rfl ?_
      exact aw_fgt (L' := [some (vR 12 (some x0)), none, none, none, none, none]) ⟨rfl, trivial⟩ h
    · replace h := h.2 hc
      refine aw_aload_n dX12_numeral_29 rfl rfl ?_
      refine aw_getI' rfl fk_1215 lf_X12_57 dX12_numeral_30 ?_
      refine aw_aload_n dX12_numeral_33 rfl rfl ?_
      refine aw_getI' rfl fk_1214 lf_X12_54 dX12_numeral_34 ?_
      refine aw_iconst (x := 1) dX12_numeral_37 rfl ?_
      refine aw_iadd dX12_numeral_38 ?_
      refine aw_icmp_le (tgt := 46) dX12_numeral_39 (by decide) (fun hc => ?_) (fun hc => ?_)
      · replace h := h.1 hc
        refine aw_iconst (x := 0) dX12_numeral_46 rfl ?_
        exact aw_fgt (L' := [some (vR 12 (some x0)), none, none, none, none, none]) ⟨rfl, trivial⟩ h
      · replace h := h.2 hc
        refine aw_iconst (x := 1) dX12_numeral_42 rfl ?_
        refine aw_goto (tgt := 47) dX12_numeral_43 (by decide) ?_
        exact aw_fgt (L' := [some (vR 12 (some x0)), none, none, none, none, none]) ⟨rfl, trivial⟩ h
set_option maxRecDepth 4000 in
theorem bk_X12_numeral_47 {g : GP} {l : Launch} {d : Nat} {σ : St} {Q : Option AV → St → Prop} {x0 : Nat} {y0 : Int}
    (h : ((y0 = 0 → AW g l (d + 1) MX12_numeral 81 [some (vR 12 (some x0)), some (vI y0), none, some (vI (w32 ((gI σ 1215 x0 0) - (gI σ 1214 x0 0)))), some (vI (gI σ 1214 x0 0)), none] [] (sJ σ 1217 x0 0 0) Q) ∧ (¬ y0 = 0 → AW g l (d + 1) MX12_numeral 81 [some (vR 12 (some x0)), some (vI y0), none, some (vI (w32 ((gI σ 1215 x0 0) - (w32 ((gI σ 1214 x0 0) + 2))))), some (vI (w32 ((gI σ 1214 x0 0) + 2))), none] [] (sJ σ 1217 x0 0 0) Q))) :
    AW g l (d + 1) MX12_numeral 47 [some (vR 12 (some x0)), none, none, none, none, none] [vI y0] σ Q := by
  refine aw_istore_n dX12_numeral_47 rfl (by decide) rfl ?_
  refine aw_iload_n dX12_numeral_48 rfl rfl ?_
  refine aw_if_eq (tgt := 61) dX12_numeral_49 (by decide) (fun hc => ?_) (fun hc => ?_)
  · replace h := h.1 hc
    refine aw_aload_n dX12_numeral_61 rfl rfl ?_
    refine aw_getI' rfl fk_1214 lf_X12_54 dX12_numeral_62 ?_
    refine aw_istore_n dX12_numeral_65 rfl (by decide) rfl ?_
    refine aw_aload_n dX12_numeral_66 rfl rfl ?_
    refine aw_getI' rfl fk_1215 lf_X12_57 dX12_numeral_67 ?_
    refine aw_iload_n dX12_numeral_70 rfl rfl ?_
    refine aw_isub dX12_numeral_71 ?_
    refine aw_istore_n dX12_numeral_72 rfl (by decide) rfl ?_
    refine aw_aload_n dX12_numeral_73 rfl rfl ?_
    refine aw_lconst (x := 0) dX12_numeral_74 rfl ?_
    refine aw_putJ' rfl fk_1217 (Or.inl rfl) lf_X12_64 dX12_numeral_75 ?_
    refine aw_iload_n dX12_numeral_78 rfl rfl ?_
    refine aw_istore dX12_numeral_79 (by decide) rfl ?_
    exact aw_fgt (L' := [some (vR 12 (some x0)), some (vI y0), none, some (vI (w32 ((gI σ 1215 x0 0) - (gI σ 1214 x0 0)))), some (vI (gI σ 1214 x0 0)), none]) ⟨rfl, ⟨rfl, ⟨rfl, ⟨rfl, trivial⟩⟩⟩⟩ h
  · replace h := h.2 hc
    refine aw_aload_n dX12_numeral_52 rfl rfl ?_
    refine aw_getI' rfl fk_1214 lf_X12_54 dX12_numeral_53 ?_
    refine aw_iconst (x := 2) dX12_numeral_56 rfl ?_
    refine aw_iadd dX12_numeral_57 ?_
    refine aw_goto (tgt := 65) dX12_numeral_58 (by decide) ?_
    refine aw_istore_n dX12_numeral_65 rfl (by decide) rfl ?_
    refine aw_aload_n dX12_numeral_66 rfl rfl ?_
    refine aw_getI' rfl fk_1215 lf_X12_57 dX12_numeral_67 ?_
    refine aw_iload_n dX12_numeral_70 rfl rfl ?_
    refine aw_isub dX12_numeral_71 ?_
    refine aw_istore_n dX12_numeral_72 rfl (by decide) rfl ?_
    refine aw_aload_n dX12_numeral_73 rfl rfl ?_
    refine aw_lconst (x := 0) dX12_numeral_74 rfl ?_
    refine aw_putJ' rfl fk_1217 (Or.inl rfl) lf_X12_64 dX12_numeral_75 ?_
    refine aw_iload_n dX12_numeral_78 rfl rfl ?_
    refine aw_istore dX12_numeral_79 (by decide) rfl ?_
    exact aw_fgt (L' := [some (vR 12 (some x0)), some (vI y0), none, some (vI (w32 ((gI σ 1215 x0 0) - (w32 ((gI σ 1214 x0 0) + 2))))), some (vI (w32 ((gI σ 1214 x0 0) + 2))), none]) ⟨rfl, ⟨rfl, ⟨rfl, ⟨rfl, trivial⟩⟩⟩⟩ h
set_option maxRecDepth 4000 in
theorem bk_X12_numeral_81 {g : GP} {l : Launch} {d : Nat} {σ : St} {Q : Option AV → St → Prop} {x0 : Nat} {x1 : Int} {x3 : Int} {x4 : Int}
    (h : (((gI σ 1215 x0 0) ≤ x4 → ((x3 ≤ 0 → Q (some (vI 0)) σ) ∧ (¬ x3 ≤ 0 → ((x1 = 0 → ((9 < x3 → Q (some (vI 0)) σ) ∧ (¬ 9 < x3 → Q (some (vI 1)) σ))) ∧ (¬ x1 = 0 → ((8 < x3 → Q (some (vI 0)) σ) ∧ (¬ 8 < x3 → Q (some (vI 1)) σ))))))) ∧ (¬ (gI σ 1215 x0 0) ≤ x4 → gL σ 1210 x0 ≠ 0 ∧ ((0 : Int) ≤ x4 ∧ x4 < (gL σ 1210 x0 : Int)) ∧ ACi g l d MX12_digit [vR 12 (some x0), vI (gI σ 1210 x0 x4.toNat)] σ (fun v2 σ1 => ((¬ v2 = 0 → ((x1 = 0 → AW g l (d + 1) MX12_numeral 146 [some (vR 12 (some x0)), some (vI x1), none, some (vI x3), some (vI x4), some (vI (gI σ 1210 x0 x4.toNat))] [vJ 10, vJ (gJ σ1 1217 x0 0), vR 12 (some x0)] σ1 Q) ∧ (¬ x1 = 0 → AW g l (d + 1) MX12_numeral 146 [some (vR 12 (some x0)), some (vI x1), none, some (vI x3), some (vI x4), some (vI (gI σ 1210 x0 x4.toNat))] [vJ 16, vJ (gJ σ1 1217 x0 0), vR 12 (some x0)] σ1 Q))) ∧ (v2 = 0 → ((x1 = 0 → Q (some (vI 0)) σ1) ∧ (¬ x1 = 0 → (((gI σ 1210 x0 x4.toNat) < 97 → Q (some (vI 0)) σ1) ∧ (¬ (gI σ 1210 x0 x4.toNat) < 97 → (((gI σ 1210 x0 x4.toNat) ≤ 102 → ((x1 = 0 → AW g l (d + 1) MX12_numeral 146 [some (vR 12 (some x0)), some (vI x1), none, some (vI x3), some (vI x4), some (vI (gI σ 1210 x0 x4.toNat))] [vJ 10, vJ (gJ σ1 1217 x0 0), vR 12 (some x0)] σ1 Q) ∧ (¬ x1 = 0 → AW g l (d + 1) MX12_numeral 146 [some (vR 12 (some x0)), some (vI x1), none, some (vI x3), some (vI x4), some (vI (gI σ 1210 x0 x4.toNat))] [vJ 16, vJ (gJ σ1 1217 x0 0), vR 12 (some x0)] σ1 Q))) ∧ (¬ (gI σ 1210 x0 x4.toNat) ≤ 102 → Q (some (vI 0)) σ1)))))))))))) :
    AW g l (d + 1) MX12_numeral 81 [some (vR 12 (some x0)), some (vI x1), none, some (vI x3), some (vI x4), none] [] σ Q := by
  refine aw_iload dX12_numeral_81 rfl ?_
  refine aw_aload_n dX12_numeral_83 rfl rfl ?_
  refine aw_getI' rfl fk_1215 lf_X12_57 dX12_numeral_84 ?_
  refine aw_icmp_ge (tgt := 183) dX12_numeral_87 (by decide) (fun hc => ?_) (fun hc => ?_)
  · replace h := h.1 hc
    refine aw_iload_n dX12_numeral_183 rfl rfl ?_
    refine aw_if_le (tgt := 206) dX12_numeral_184 (by decide) (fun hc => ?_) (fun hc => ?_)
    · replace h := h.1 hc
      refine aw_iconst (x := 0) dX12_numeral_206 rfl ?_
      exact aw_zreturn dX12_numeral_207 rfl (Or.inl rfl) h
    · replace h := h.2 hc
      refine aw_iload_n dX12_numeral_187 rfl rfl ?_
      refine aw_iload_n dX12_numeral_188 rfl rfl ?_
      refine aw_if_eq (tgt := 197) dX12_numeral_189 (by decide) (fun hc => ?_) (fun hc => ?_)
      · replace h := h.1 hc
        refine aw_bipush (x := 9) dX12_numeral_197 rfl ?_
        refine aw_icmp_gt (tgt := 206) dX12_numeral_199 (by decide) (fun hc => ?_) (fun hc => ?_)
        · replace h := h.1 hc
          refine aw_iconst (x := 0) dX12_numeral_206 rfl ?_
          exact aw_zreturn dX12_numeral_207 rfl (Or.inl rfl) h
        · replace h := h.2 hc
          refine aw_iconst (x := 1) dX12_numeral_202 rfl ?_
          refine aw_goto (tgt := 207) dX12_numeral_203 (by decide) ?_
          exact aw_zreturn dX12_numeral_207 rfl (Or.inr rfl) h
      · replace h := h.2 hc
        refine aw_bipush (x := 8) dX12_numeral_192 rfl ?_
        refine aw_goto (tgt := 199) dX12_numeral_194 (by decide) ?_
        refine aw_icmp_gt (tgt := 206) dX12_numeral_199 (by decide) (fun hc => ?_) (fun hc => ?_)
        · replace h := h.1 hc
          refine aw_iconst (x := 0) dX12_numeral_206 rfl ?_
          exact aw_zreturn dX12_numeral_207 rfl (Or.inl rfl) h
        · replace h := h.2 hc
          refine aw_iconst (x := 1) dX12_numeral_202 rfl ?_
          refine aw_goto (tgt := 207) dX12_numeral_203 (by decide) ?_
          exact aw_zreturn dX12_numeral_207 rfl (Or.inr rfl) h
  · replace h := h.2 hc
    refine aw_aload_n dX12_numeral_90 rfl rfl ?_
    obtain ⟨h0, h⟩ := h
    refine aw_getA' rfl fk_1210 (by decide) lf_X12_42 dX12_numeral_91 h0 ?_
    refine aw_iload dX12_numeral_94 rfl ?_
    obtain ⟨⟨h0, h1⟩, h⟩ := h
    refine aw_iaload (by decide) rfl dX12_numeral_96 h0 h1 ?_
    refine aw_istore dX12_numeral_97 (by decide) rfl ?_
    refine aw_aload_n dX12_numeral_99 rfl rfl ?_
    refine aw_iload dX12_numeral_100 rfl ?_
    refine aw_invVi (M := MX12_numeral) (ci := 12) [vI (gI σ 1210 x0 x4.toNat)] rfl mo_X12_digit rfl lm_X12_318 li_X12_digit ls_X12_digit (by decide +kernel) dX12_numeral_102 rfl (Nat.le_of_ble_eq_true rfl) (ACi.mono (fun v2 σ1 h => ?_) h)
    refine aw_if_ne (tgt := 128) dX12_numeral_105 (by decide) (fun hc => ?_) (fun hc => ?_)
    · replace h := h.1 hc
      refine aw_aload_n dX12_numeral_128 rfl rfl ?_
      refine aw_aload_n dX12_numeral_129 rfl rfl ?_
      refine aw_getJ' rfl fk_1217 lf_X12_64 dX12_numeral_130 ?_
      refine aw_iload_n dX12_numeral_133 rfl rfl ?_
      refine aw_if_eq (tgt := 143) dX12_numeral_134 (by decide) (fun hc => ?_) (fun hc => ?_)
      · replace h := h.1 hc
        refine aw_ldc2 lk_X12_330 dX12_numeral_143 ?_
        exact aw_fgt (L' := [some (vR 12 (some x0)), some (vI x1), none, some (vI x3), some (vI x4), some (vI (gI σ 1210 x0 x4.toNat))]) ⟨rfl, ⟨rfl, ⟨rfl, ⟨rfl, ⟨rfl, trivial⟩⟩⟩⟩⟩ h
      · replace h := h.2 hc
        refine aw_ldc2 lk_X12_328 dX12_numeral_137 ?_
        refine aw_goto (tgt := 146) dX12_numeral_140 (by decide) ?_
        exact aw_fgt (L' := [some (vR 12 (some x0)), some (vI x1), none, some (vI x3), some (vI x4), some (vI (gI σ 1210 x0 x4.toNat))]) ⟨rfl, ⟨rfl, ⟨rfl, ⟨rfl, ⟨rfl, trivial⟩⟩⟩⟩⟩ h
    · replace h := h.2 hc
      refine aw_iload_n dX12_numeral_108 rfl rfl ?_
      refine aw_if_eq (tgt := 126) dX12_numeral_109 (by decide) (fun hc => ?_) (fun hc => ?_)
      · replace h := h.1 hc
        refine aw_iconst (x := 0) dX12_numeral_126 rfl ?_
        exact aw_zreturn dX12_numeral_127 rfl (Or.inl rfl) h
      · replace h := h.2 hc
        refine aw_iload dX12_numeral_112 rfl ?_
        refine aw_bipush (x := 97) dX12_numeral_114 rfl ?_
        refine aw_icmp_lt (tgt := 126) dX12_numeral_116 (by decide) (fun hc => ?_) (fun hc => ?_)
        · replace h := h.1 hc
          refine aw_iconst (x := 0) dX12_numeral_126 rfl ?_
          exact aw_zreturn dX12_numeral_127 rfl (Or.inl rfl) h
        · replace h := h.2 hc
          refine aw_iload dX12_numeral_119 rfl ?_
          refine aw_bipush (x := 102) dX12_numeral_121 rfl ?_
          refine aw_icmp_le (tgt := 128) dX12_numeral_123 (by decide) (fun hc => ?_) (fun hc => ?_)
          · replace h := h.1 hc
            refine aw_aload_n dX12_numeral_128 rfl rfl ?_
            refine aw_aload_n dX12_numeral_129 rfl rfl ?_
            refine aw_getJ' rfl fk_1217 lf_X12_64 dX12_numeral_130 ?_
            refine aw_iload_n dX12_numeral_133 rfl rfl ?_
            refine aw_if_eq (tgt := 143) dX12_numeral_134 (by decide) (fun hc => ?_) (fun hc => ?_)
            · replace h := h.1 hc
              refine aw_ldc2 lk_X12_330 dX12_numeral_143 ?_
              exact aw_fgt (L' := [some (vR 12 (some x0)), some (vI x1), none, some (vI x3), some (vI x4), some (vI (gI σ 1210 x0 x4.toNat))]) ⟨rfl, ⟨rfl, ⟨rfl, ⟨rfl, ⟨rfl, trivial⟩⟩⟩⟩⟩ h
            · replace h := h.2 hc
              refine aw_ldc2 lk_X12_328 dX12_numeral_137 ?_
              refine aw_goto (tgt := 146) dX12_numeral_140 (by decide) ?_
              exact aw_fgt (L' := [some (vR 12 (some x0)), some (vI x1), none, some (vI x3), some (vI x4), some (vI (gI σ 1210 x0 x4.toNat))]) ⟨rfl, ⟨rfl, ⟨rfl, ⟨rfl, ⟨rfl, trivial⟩⟩⟩⟩⟩ h
          · replace h := h.2 hc
            refine aw_iconst (x := 0) dX12_numeral_126 rfl ?_
            exact aw_zreturn dX12_numeral_127 rfl (Or.inl rfl) h
set_option maxRecDepth 4000 in
theorem bk_X12_numeral_146 {g : GP} {l : Launch} {d : Nat} {σ : St} {Q : Option AV → St → Prop} {x0 : Nat} {x1 : Int} {x3 : Int} {x4 : Int} {x5 : Int} {y0 : Int64} {y1 : Int64} {y2 : Option Nat}
    (h : ACi g l d MX12_digit [vR 12 (some x0), vI x5] σ (fun v2 σ1 => ((v2 = 0 → ∃ r3, y2 = some r3 ∧ AW g l (d + 1) MX12_numeral 81 [some (vR 12 (some x0)), some (vI x1), none, some (vI x3), some (vI (w32 (x4 + 1))), none] [] (sJ σ1 1217 r3 0 ((y1 * y0) + (i2j (w32 ((w32 (x5 - 97)) + 10))))) Q) ∧ (¬ v2 = 0 → ∃ r5, y2 = some r5 ∧ AW g l (d + 1) MX12_numeral 81 [some (vR 12 (some x0)), some (vI x1), none, some (vI x3), some (vI (w32 (x4 + 1))), none] [] (sJ σ1 1217 r5 0 ((y1 * y0) + (i2j (w32 (x5 - 48))))) Q)))) :
    AW g l (d + 1) MX12_numeral 146 [some (vR 12 (some x0)), some (vI x1), none, some (vI x3), some (vI x4), some (vI x5)] [vJ y0, vJ y1, vR 12 y2] σ Q := by
  refine aw_lmul dX12_numeral_146 ?_
  refine aw_aload_n dX12_numeral_147 rfl rfl ?_
  refine aw_iload dX12_numeral_148 rfl ?_
  refine aw_invVi (M := MX12_numeral) (ci := 12) [vI x5] rfl mo_X12_digit rfl lm_X12_318 li_X12_digit ls_X12_digit (by decide +kernel) dX12_numeral_150 rfl (Nat.le_of_ble_eq_true rfl) (ACi.mono (fun v2 σ1 h => ?_) h)
  refine aw_if_eq (tgt := 164) dX12_numeral_153 (by decide) (fun hc => ?_) (fun hc => ?_)
  · replace h := h.1 hc
    refine aw_iload dX12_numeral_164 rfl ?_
    refine aw_bipush (x := 97) dX12_numeral_166 rfl ?_
    refine aw_isub dX12_numeral_168 ?_
    refine aw_bipush (x := 10) dX12_numeral_169 rfl ?_
    refine aw_iadd dX12_numeral_171 ?_
    refine aw_i2l dX12_numeral_172 ?_
    refine aw_ladd dX12_numeral_173 ?_
    obtain ⟨r3, e4, h⟩ := h
    refine aw_putJ' e4 fk_1217 (Or.inl rfl) lf_X12_64 dX12_numeral_174 ?_
    refine aw_iinc dX12_numeral_177 rfl (by decide) rfl rfl ?_
    refine aw_goto (tgt := 81) dX12_numeral_180 (by decide) ?_
    exact aw_fgt (L' := [some (vR 12 (some x0)), some (vI x1), none, some (vI x3), some (vI (w32 (x4 + 1))), none]) ⟨rfl, ⟨rfl, ⟨rfl, ⟨rfl, trivial⟩⟩⟩⟩ h
  · replace h := h.2 hc
    refine aw_iload dX12_numeral_156 rfl ?_
    refine aw_bipush (x := 48) dX12_numeral_158 rfl ?_
    refine aw_isub dX12_numeral_160 ?_
    refine aw_goto (tgt := 172) dX12_numeral_161 (by decide) ?_
    refine aw_i2l dX12_numeral_172 ?_
    refine aw_ladd dX12_numeral_173 ?_
    obtain ⟨r5, e6, h⟩ := h
    refine aw_putJ' e6 fk_1217 (Or.inl rfl) lf_X12_64 dX12_numeral_174 ?_
    refine aw_iinc dX12_numeral_177 rfl (by decide) rfl rfl ?_
    refine aw_goto (tgt := 81) dX12_numeral_180 (by decide) ?_
    exact aw_fgt (L' := [some (vR 12 (some x0)), some (vI x1), none, some (vI x3), some (vI (w32 (x4 + 1))), none]) ⟨rfl, ⟨rfl, ⟨rfl, ⟨rfl, trivial⟩⟩⟩⟩ h
set_option maxRecDepth 4000 in
theorem bk_X12_opens_0 {g : GP} {l : Launch} {d : Nat} {σ : St} {Q : Option AV → St → Prop} {x0 : Nat} {x1 : Int} {x2 : Int}
    (h : gL σ 1283 x0 ≠ 0 ∧ ((0 : Int) ≤ (gI σ 1285 x0 0) ∧ (gI σ 1285 x0 0) < (gL σ 1283 x0 : Int)) ∧ gL (sI σ 1283 x0 (gI σ 1285 x0 0).toNat x1) 1284 x0 ≠ 0 ∧ ((0 : Int) ≤ (gI (sI σ 1283 x0 (gI σ 1285 x0 0).toNat x1) 1285 x0 0) ∧ (gI (sI σ 1283 x0 (gI σ 1285 x0 0).toNat x1) 1285 x0 0) < (gL (sI σ 1283 x0 (gI σ 1285 x0 0).toNat x1) 1284 x0 : Int)) ∧ Q none (sI (sI (sI σ 1283 x0 (gI σ 1285 x0 0).toNat x1) 1284 x0 (gI (sI σ 1283 x0 (gI σ 1285 x0 0).toNat x1) 1285 x0 0).toNat x2) 1285 x0 0 (w32 ((gI (sI (sI σ 1283 x0 (gI σ 1285 x0 0).toNat x1) 1284 x0 (gI (sI σ 1283 x0 (gI σ 1285 x0 0).toNat x1) 1285 x0 0).toNat x2) 1285 x0 0) + 1)))) :
    AW g l d MX12_opens 0 [some (vR 12 (some x0)), some (vI x1), some (vI x2)] [] σ Q := by
  refine aw_aload_n dX12_opens_0 rfl rfl ?_
  obtain ⟨h0, h⟩ := h
  refine aw_getA' rfl fk_1283 (by decide) lf_X12_265 dX12_opens_1 h0 ?_
  refine aw_aload_n dX12_opens_4 rfl rfl ?_
  refine aw_getI' rfl fk_1285 lf_X12_271 dX12_opens_5 ?_
  refine aw_iload_n dX12_opens_8 rfl rfl ?_
  obtain ⟨⟨h0, h1⟩, h⟩ := h
  refine aw_iastore (by decide) rfl dX12_opens_9 h0 h1 ?_
  refine aw_aload_n dX12_opens_10 rfl rfl ?_
  obtain ⟨h0, h⟩ := h
  refine aw_getA' rfl fk_1284 (by decide) lf_X12_268 dX12_opens_11 h0 ?_
  refine aw_aload_n dX12_opens_14 rfl rfl ?_
  refine aw_getI' rfl fk_1285 lf_X12_271 dX12_opens_15 ?_
  refine aw_iload_n dX12_opens_18 rfl rfl ?_
  obtain ⟨⟨h0, h1⟩, h⟩ := h
  refine aw_iastore (by decide) rfl dX12_opens_19 h0 h1 ?_
  refine aw_aload_n dX12_opens_20 rfl rfl ?_
  refine aw_dup dX12_opens_21 rfl ?_
  refine aw_getI' rfl fk_1285 lf_X12_271 dX12_opens_22 ?_
  refine aw_iconst (x := 1) dX12_opens_25 rfl ?_
  refine aw_iadd dX12_opens_26 ?_
  refine aw_putI' rfl fk_1285 (Or.inl rfl) lf_X12_271 dX12_opens_27 ?_
  exact aw_ret h rfl dX12_opens_30
set_option maxRecDepth 4000 in
theorem bk_X12_operand_0 {g : GP} {l : Launch} {d : Nat} {σ : St} {Q : Option AV → St → Prop} {x0 : Nat}
    (h : AW g l (d + 1) MX12_operand 2 [some (vR 12 (some x0)), some (vI 0), none] [] σ Q) :
    AW g l (d + 1) MX12_operand 0 [some (vR 12 (some x0)), none, none] [] σ Q := by
  refine aw_iconst (x := 0) dX12_operand_0 rfl ?_
  refine aw_istore_n dX12_operand_1 rfl (by decide) rfl ?_
  exact aw_fgt (L' := [some (vR 12 (some x0)), some (vI 0), none]) ⟨rfl, ⟨rfl, trivial⟩⟩ h
set_option maxRecDepth 4000 in
theorem bk_X12_operand_2 {g : GP} {l : Launch} {d : Nat} {σ : St} {Q : Option AV → St → Prop} {x0 : Nat} {x1 : Int}
    (h : ((¬ x1 = 0 → AW g l (d + 1) MX12_operand 126 [some (vR 12 (some x0)), none, none] [] σ Q) ∧ (x1 = 0 → ((¬ (gI σ 1251 x0 0) = 0 → AW g l (d + 1) MX12_operand 126 [some (vR 12 (some x0)), none, none] [] σ Q) ∧ ((gI σ 1251 x0 0) = 0 → ACi g l d MX12_isSign [vR 12 (some x0), vI 45] σ (fun v2 σ1 => ((v2 = 0 → ACi g l d MX12_isWord [vR 12 (some x0), vJ 7237492] σ1 (fun v4 σ3 => ((v4 = 0 → ACi g l d MX12_isSign [vR 12 (some x0), vI 40] σ3 (fun v6 σ5 => ((v6 = 0 → AW g l (d + 1) MX12_operand 56 [some (vR 12 (some x0)), some (vI x1), none] [vI (-1)] σ5 Q) ∧ (¬ v6 = 0 → AW g l (d + 1) MX12_operand 56 [some (vR 12 (some x0)), some (vI x1), none] [vI 18] σ5 Q)))) ∧ (¬ v4 = 0 → AW g l (d + 1) MX12_operand 56 [some (vR 12 (some x0)), some (vI x1), none] [vI 6] σ3 Q)))) ∧ (¬ v2 = 0 → AW g l (d + 1) MX12_operand 56 [some (vR 12 (some x0)), some (vI x1), none] [vI 5] σ1 Q)))))))) :
    AW g l (d + 1) MX12_operand 2 [some (vR 12 (some x0)), some (vI x1), none] [] σ Q := by
  refine aw_iload_n dX12_operand_2 rfl rfl ?_
  refine aw_if_ne (tgt := 126) dX12_operand_3 (by decide) (fun hc => ?_) (fun hc => ?_)
  · replace h := h.1 hc
    exact aw_fgt (L' := [some (vR 12 (some x0)), none, none]) ⟨rfl, trivial⟩ h
  · replace h := h.2 hc
    refine aw_aload_n dX12_operand_6 rfl rfl ?_
    refine aw_getI' rfl fk_1251 lf_X12_167 dX12_operand_7 ?_
    refine aw_if_ne (tgt := 126) dX12_operand_10 (by decide) (fun hc => ?_) (fun hc => ?_)
    · replace h := h.1 hc
      exact aw_fgt (L' := [some (vR 12 (some x0)), none, none]) ⟨rfl, trivial⟩ h
    · replace h := h.2 hc
      refine aw_aload_n dX12_operand_13 rfl rfl ?_
      refine aw_bipush (x := 45) dX12_operand_14 rfl ?_
      refine aw_invVi (M := MX12_operand) (ci := 12) [vI 45] rfl mo_X12_isSign rfl lm_X12_401 li_X12_isSign ls_X12_isSign (by decide +kernel) dX12_operand_16 rfl (Nat.le_of_ble_eq_true rfl) (ACi.mono (fun v2 σ1 h => ?_) h)
      refine aw_if_eq (tgt := 26) dX12_operand_19 (by decide) (fun hc => ?_) (fun hc => ?_)
      · replace h := h.1 hc
        refine aw_aload_n dX12_operand_26 rfl rfl ?_
        refine aw_ldc2 lk_X12_388 dX12_operand_27 ?_
        refine aw_invVi (M := MX12_operand) (ci := 12) [vJ 7237492] rfl mo_X12_isWord rfl lm_X12_334 li_X12_isWord ls_X12_isWord (by decide +kernel) dX12_operand_30 rfl (Nat.le_of_ble_eq_true rfl) (ACi.mono (fun v4 σ3 h => ?_) h)
        refine aw_if_eq (tgt := 41) dX12_operand_33 (by decide) (fun hc => ?_) (fun hc => ?_)
        · replace h := h.1 hc
          refine aw_aload_n dX12_operand_41 rfl rfl ?_
          refine aw_bipush (x := 40) dX12_operand_42 rfl ?_
          refine aw_invVi (M := MX12_operand) (ci := 12) [vI 40] rfl mo_X12_isSign rfl lm_X12_401 li_X12_isSign ls_X12_isSign (by decide +kernel) dX12_operand_44 rfl (Nat.le_of_ble_eq_true rfl) (ACi.mono (fun v6 σ5 h => ?_) h)
          refine aw_if_eq (tgt := 55) dX12_operand_47 (by decide) (fun hc => ?_) (fun hc => ?_)
          · replace h := h.1 hc
            refine aw_iconst (x := (-1)) dX12_operand_55 rfl ?_
            exact aw_fgt (L' := [some (vR 12 (some x0)), some (vI x1), none]) ⟨rfl, ⟨rfl, trivial⟩⟩ h
          · replace h := h.2 hc
            refine aw_bipush (x := 18) dX12_operand_50 rfl ?_
            refine aw_goto (tgt := 56) dX12_operand_52 (by decide) ?_
            exact aw_fgt (L' := [some (vR 12 (some x0)), some (vI x1), none]) ⟨rfl, ⟨rfl, trivial⟩⟩ h
        · replace h := h.2 hc
          refine aw_bipush (x := 6) dX12_operand_36 rfl ?_
          refine aw_goto (tgt := 56) dX12_operand_38 (by decide) ?_
          exact aw_fgt (L' := [some (vR 12 (some x0)), some (vI x1), none]) ⟨rfl, ⟨rfl, trivial⟩⟩ h
      · replace h := h.2 hc
        refine aw_iconst (x := 5) dX12_operand_22 rfl ?_
        refine aw_goto (tgt := 56) dX12_operand_23 (by decide) ?_
        exact aw_fgt (L' := [some (vR 12 (some x0)), some (vI x1), none]) ⟨rfl, ⟨rfl, trivial⟩⟩ h
set_option maxRecDepth 4000 in
theorem bk_X12_operand_56 {g : GP} {l : Launch} {d : Nat} {σ : St} {Q : Option AV → St → Prop} {x0 : Nat} {x1 : Int} {y0 : Int}
    (h : ((¬ y0 = (-1) → ((15 ≤ (gI σ 1255 x0 0) → AW g l (d + 1) MX12_operand 82 [some (vR 12 (some x0)), some (vI x1), some (vI y0)] [vI 0, vR 12 (some x0)] σ Q) ∧ (¬ 15 ≤ (gI σ 1255 x0 0) → AW g l (d + 1) MX12_operand 82 [some (vR 12 (some x0)), some (vI x1), some (vI y0)] [vI 1, vR 12 (some x0)] σ Q))) ∧ (y0 = (-1) → AW g l (d + 1) MX12_operand 2 [some (vR 12 (some x0)), some (vI 1), none] [] σ Q))) :
    AW g l (d + 1) MX12_operand 56 [some (vR 12 (some x0)), some (vI x1), none] [vI y0] σ Q := by
  refine aw_istore_n dX12_operand_56 rfl (by decide) rfl ?_
  refine aw_iload_n dX12_operand_57 rfl rfl ?_
  refine aw_iconst (x := (-1)) dX12_operand_58 rfl ?_
  refine aw_icmp_ne (tgt := 67) dX12_operand_59 (by decide) (fun hc => ?_) (fun hc => ?_)
  · replace h := h.1 hc
    refine aw_aload_n dX12_operand_67 rfl rfl ?_
    refine aw_aload_n dX12_operand_68 rfl rfl ?_
    refine aw_getI' rfl fk_1255 lf_X12_179 dX12_operand_69 ?_
    refine aw_bipush (x := 15) dX12_operand_72 rfl ?_
    refine aw_icmp_ge (tgt := 81) dX12_operand_74 (by decide) (fun hc => ?_) (fun hc => ?_)
    · replace h := h.1 hc
      refine aw_iconst (x := 0) dX12_operand_81 rfl ?_
      exact aw_fgt (L' := [some (vR 12 (some x0)), some (vI x1), some (vI y0)]) ⟨rfl, ⟨rfl, ⟨rfl, trivial⟩⟩⟩ h
    · replace h := h.2 hc
      refine aw_iconst (x := 1) dX12_operand_77 rfl ?_
      refine aw_goto (tgt := 82) dX12_operand_78 (by decide) ?_
      exact aw_fgt (L' := [some (vR 12 (some x0)), some (vI x1), some (vI y0)]) ⟨rfl, ⟨rfl, ⟨rfl, trivial⟩⟩⟩ h
  · replace h := h.2 hc
    refine aw_iconst (x := 1) dX12_operand_62 rfl ?_
    refine aw_istore_n dX12_operand_63 rfl (by decide) rfl ?_
    refine aw_goto (tgt := 123) dX12_operand_64 (by decide) ?_
    refine aw_goto (tgt := 2) dX12_operand_123 (by decide) ?_
    exact aw_fgt (L' := [some (vR 12 (some x0)), some (vI 1), none]) ⟨rfl, ⟨rfl, trivial⟩⟩ h
set_option maxRecDepth 4000 in
theorem bk_X12_operand_82 {g : GP} {l : Launch} {d : Nat} {σ : St} {Q : Option AV → St → Prop} {x0 : Nat} {x1 : Int} {x2 : Int} {y0 : Int} {y1 : Option Nat}
    (h : ∃ r1, y1 = some r1 ∧ ACi g l d MX12_must [vR 12 (some r1), vI y0, vI 5] σ (fun v4 σ3 => ((v4 = 0 → AW g l (d + 1) MX12_operand 2 [some (vR 12 (some x0)), some (vI x1), none] [] σ3 Q) ∧ (¬ v4 = 0 → gL (sI σ3 1255 x0 0 (w32 ((gI σ3 1255 x0 0) + 1))) 1258 x0 ≠ 0 ∧ ((0 : Int) ≤ (gI (sI σ3 1255 x0 0 (w32 ((gI σ3 1255 x0 0) + 1))) 1260 x0 0) ∧ (gI (sI σ3 1255 x0 0 (w32 ((gI σ3 1255 x0 0) + 1))) 1260 x0 0) < (gL (sI σ3 1255 x0 0 (w32 ((gI σ3 1255 x0 0) + 1))) 1258 x0 : Int)) ∧ AW g l (d + 1) MX12_operand 119 [some (vR 12 (some x0)), some (vI x1), none] [] (sI (sI (sI σ3 1255 x0 0 (w32 ((gI σ3 1255 x0 0) + 1))) 1258 x0 (gI (sI σ3 1255 x0 0 (w32 ((gI σ3 1255 x0 0) + 1))) 1260 x0 0).toNat x2) 1260 x0 0 (w32 ((gI (sI (sI σ3 1255 x0 0 (w32 ((gI σ3 1255 x0 0) + 1))) 1258 x0 (gI (sI σ3 1255 x0 0 (w32 ((gI σ3 1255 x0 0) + 1))) 1260 x0 0).toNat x2) 1260 x0 0) + 1))) Q)))) :
    AW g l (d + 1) MX12_operand 82 [some (vR 12 (some x0)), some (vI x1), some (vI x2)] [vI y0, vR 12 y1] σ Q := by
  refine aw_iconst (x := 5) dX12_operand_82 rfl ?_
  obtain ⟨r1, e2, h⟩ := h
  refine aw_invVi (M := MX12_operand) (ci := 12) [vI y0, vI 5] e2 mo_X12_must rfl lm_X12_404 li_X12_must ls_X12_must (by decide +kernel) dX12_operand_83 rfl (Nat.le_of_ble_eq_true rfl) (ACi.mono (fun v4 σ3 h => ?_) h)
  refine aw_if_eq (tgt := 123) dX12_operand_86 (by decide) (fun hc => ?_) (fun hc => ?_)
  · replace h := h.1 hc
    refine aw_goto (tgt := 2) dX12_operand_123 (by decide) ?_
    exact aw_fgt (L' := [some (vR 12 (some x0)), some (vI x1), none]) ⟨rfl, ⟨rfl, trivial⟩⟩ h
  · replace h := h.2 hc
    refine aw_aload_n dX12_operand_89 rfl rfl ?_
    refine aw_dup dX12_operand_90 rfl ?_
    refine aw_getI' rfl fk_1255 lf_X12_179 dX12_operand_91 ?_
    refine aw_iconst (x := 1) dX12_operand_94 rfl ?_
    refine aw_iadd dX12_operand_95 ?_
    refine aw_putI' rfl fk_1255 (Or.inl rfl) lf_X12_179 dX12_operand_96 ?_
    refine aw_aload_n dX12_operand_99 rfl rfl ?_
    obtain ⟨h0, h⟩ := h
    refine aw_getA' rfl fk_1258 (by decide) lf_X12_189 dX12_operand_100 h0 ?_
    refine aw_aload_n dX12_operand_103 rfl rfl ?_
    refine aw_getI' rfl fk_1260 lf_X12_195 dX12_operand_104 ?_
    refine aw_iload_n dX12_operand_107 rfl rfl ?_
    obtain ⟨⟨h0, h1⟩, h⟩ := h
    refine aw_iastore (by decide) rfl dX12_operand_108 h0 h1 ?_
    refine aw_aload_n dX12_operand_109 rfl rfl ?_
    refine aw_dup dX12_operand_110 rfl ?_
    refine aw_getI' rfl fk_1260 lf_X12_195 dX12_operand_111 ?_
    refine aw_iconst (x := 1) dX12_operand_114 rfl ?_
    refine aw_iadd dX12_operand_115 ?_
    refine aw_putI' rfl fk_1260 (Or.inl rfl) lf_X12_195 dX12_operand_116 ?_
    exact aw_fgt (L' := [some (vR 12 (some x0)), some (vI x1), none]) ⟨rfl, ⟨rfl, trivial⟩⟩ h
set_option maxRecDepth 4000 in
theorem bk_X12_operand_119 {g : GP} {l : Launch} {d : Nat} {σ : St} {Q : Option AV → St → Prop} {x0 : Nat} {x1 : Int}
    (h : ACv g l d MX12_next [vR 12 (some x0)] σ (fun σ1 => AW g l (d + 1) MX12_operand 2 [some (vR 12 (some x0)), some (vI x1), none] [] σ1 Q)) :
    AW g l (d + 1) MX12_operand 119 [some (vR 12 (some x0)), some (vI x1), none] [] σ Q := by
  refine aw_aload_n dX12_operand_119 rfl rfl ?_
  refine aw_invVv (M := MX12_operand) (ci := 12) [] rfl mo_X12_next rfl lm_X12_408 li_X12_next ls_X12_next (by decide +kernel) dX12_operand_120 rfl (Nat.le_of_ble_eq_true rfl) (ACv.mono (fun σ1 h => ?_) h)
  refine aw_goto (tgt := 2) dX12_operand_123 (by decide) ?_
  exact aw_fgt (L' := [some (vR 12 (some x0)), some (vI x1), none]) ⟨rfl, ⟨rfl, trivial⟩⟩ h
set_option maxRecDepth 4000 in
theorem bk_X12_operand_126 {g : GP} {l : Launch} {d : Nat} {σ : St} {Q : Option AV → St → Prop} {x0 : Nat}
    (h : (((gI σ 1251 x0 0) ≤ 0 → ACi g l d MX12_single [vR 12 (some x0)] σ (fun v2 σ1 => (((gI σ1 1251 x0 0) ≤ 0 → gL σ1 1259 x0 ≠ 0 ∧ ((0 : Int) ≤ (gI σ1 1261 x0 0) ∧ (gI σ1 1261 x0 0) < (gL σ1 1259 x0 : Int)) ∧ ACv g l d MX12_joinAll [vR 12 (some x0), vI 6] (sI (sI σ1 1259 x0 (gI σ1 1261 x0 0).toNat v2) 1261 x0 0 (w32 ((gI (sI σ1 1259 x0 (gI σ1 1261 x0 0).toNat v2) 1261 x0 0) + 1))) (fun σ3 => Q none σ3)) ∧ (¬ (gI σ1 1251 x0 0) ≤ 0 → Q none σ1)))) ∧ (¬ (gI σ 1251 x0 0) ≤ 0 → Q none σ))) :
    AW g l (d + 1) MX12_operand 126 [some (vR 12 (some x0)), none, none] [] σ Q := by
  refine aw_aload_n dX12_operand_126 rfl rfl ?_
  refine aw_getI' rfl fk_1251 lf_X12_167 dX12_operand_127 ?_
  refine aw_if_le (tgt := 134) dX12_operand_130 (by decide) (fun hc => ?_) (fun hc => ?_)
  · replace h := h.1 hc
    refine aw_aload_n dX12_operand_134 rfl rfl ?_
    refine aw_invVi (M := MX12_operand) (ci := 12) [] rfl mo_X12_single rfl lm_X12_545 li_X12_single ls_X12_single (by decide +kernel) dX12_operand_135 rfl (Nat.le_of_ble_eq_true rfl) (ACi.mono (fun v2 σ1 h => ?_) h)
    refine aw_istore_n dX12_operand_138 rfl (by decide) rfl ?_
    refine aw_aload_n dX12_operand_139 rfl rfl ?_
    refine aw_getI' rfl fk_1251 lf_X12_167 dX12_operand_140 ?_
    refine aw_if_le (tgt := 147) dX12_operand_143 (by decide) (fun hc => ?_) (fun hc => ?_)
    · replace h := h.1 hc
      refine aw_aload_n dX12_operand_147 rfl rfl ?_
      obtain ⟨h0, h⟩ := h
      refine aw_getA' rfl fk_1259 (by decide) lf_X12_192 dX12_operand_148 h0 ?_
      refine aw_aload_n dX12_operand_151 rfl rfl ?_
      refine aw_getI' rfl fk_1261 lf_X12_198 dX12_operand_152 ?_
      refine aw_iload_n dX12_operand_155 rfl rfl ?_
      obtain ⟨⟨h0, h1⟩, h⟩ := h
      refine aw_iastore (by decide) rfl dX12_operand_156 h0 h1 ?_
      refine aw_aload_n dX12_operand_157 rfl rfl ?_
      refine aw_dup dX12_operand_158 rfl ?_
      refine aw_getI' rfl fk_1261 lf_X12_198 dX12_operand_159 ?_
      refine aw_iconst (x := 1) dX12_operand_162 rfl ?_
      refine aw_iadd dX12_operand_163 ?_
      refine aw_putI' rfl fk_1261 (Or.inl rfl) lf_X12_198 dX12_operand_164 ?_
      refine aw_aload_n dX12_operand_167 rfl rfl ?_
      refine aw_bipush (x := 6) dX12_operand_168 rfl ?_
      refine aw_invVv (M := MX12_operand) (ci := 12) [vI 6] rfl mo_X12_joinAll rfl lm_X12_542 li_X12_joinAll ls_X12_joinAll (by decide +kernel) dX12_operand_170 rfl (Nat.le_of_ble_eq_true rfl) (ACv.mono (fun σ3 h => ?_) h)
      exact aw_ret h rfl dX12_operand_173
    · replace h := h.2 hc
      exact aw_ret h rfl dX12_operand_146
  · replace h := h.2 hc
    exact aw_ret h rfl dX12_operand_133
set_option maxRecDepth 4000 in
theorem bk_X12_operator_0 {g : GP} {l : Launch} {d : Nat} {σ : St} {Q : Option AV → St → Prop} {x0 : Nat}
    (h : ACi g l d MX12_isWord [vR 12 (some x0), vJ 28530] σ (fun v2 σ1 => ((v2 = 0 → ACi g l d MX12_isWord [vR 12 (some x0), vJ 6385252] σ1 (fun v4 σ3 => ((v4 = 0 → (((gI σ3 1213 x0 0) = 3 → ((¬ (j2i (gJ σ3 1217 x0 0)) = 61 → ((¬ (j2i (gJ σ3 1217 x0 0)) = 60 → ((¬ (j2i (gJ σ3 1217 x0 0)) = 62 → ((¬ (j2i (gJ σ3 1217 x0 0)) = 43 → ((¬ (j2i (gJ σ3 1217 x0 0)) = 45 → ((¬ (j2i (gJ σ3 1217 x0 0)) = 42 → ((¬ (j2i (gJ σ3 1217 x0 0)) = 47 → ((¬ (j2i (gJ σ3 1217 x0 0)) = 37 → ((¬ (j2i (gJ σ3 1217 x0 0)) = 38 → Q (some (vI (-1))) σ3) ∧ ((j2i (gJ σ3 1217 x0 0)) = 38 → Q (some (vI 12)) σ3))) ∧ ((j2i (gJ σ3 1217 x0 0)) = 37 → Q (some (vI 11)) σ3))) ∧ ((j2i (gJ σ3 1217 x0 0)) = 47 → Q (some (vI 10)) σ3))) ∧ ((j2i (gJ σ3 1217 x0 0)) = 42 → Q (some (vI 9)) σ3))) ∧ ((j2i (gJ σ3 1217 x0 0)) = 45 → Q (some (vI 8)) σ3))) ∧ ((j2i (gJ σ3 1217 x0 0)) = 43 → Q (some (vI 7)) σ3))) ∧ ((j2i (gJ σ3 1217 x0 0)) = 62 → Q (some (vI 15)) σ3))) ∧ ((j2i (gJ σ3 1217 x0 0)) = 60 → Q (some (vI 14)) σ3))) ∧ ((j2i (gJ σ3 1217 x0 0)) = 61 → Q (some (vI 13)) σ3))) ∧ (¬ (gI σ3 1213 x0 0) = 3 → Q (some (vI (-1))) σ3))) ∧ (¬ v4 = 0 → Q (some (vI 16)) σ3)))) ∧ (¬ v2 = 0 → Q (some (vI 17)) σ1)))) :
    AW g l (d + 1) MX12_operator 0 [some (vR 12 (some x0)), none] [] σ Q := by
  refine aw_aload_n dX12_operator_0 rfl rfl ?_
  refine aw_ldc2 lk_X12_386 dX12_operator_1 ?_
  refine aw_invVi (M := MX12_operator) (ci := 12) [vJ 28530] rfl mo_X12_isWord rfl lm_X12_334 li_X12_isWord ls_X12_isWord (by decide +kernel) dX12_operator_4 rfl (Nat.le_of_ble_eq_true rfl) (ACi.mono (fun v2 σ1 h => ?_) h)
  refine aw_if_eq (tgt := 13) dX12_operator_7 (by decide) (fun hc => ?_) (fun hc => ?_)
  · replace h := h.1 hc
    refine aw_aload_n dX12_operator_13 rfl rfl ?_
    refine aw_ldc2 lk_X12_384 dX12_operator_14 ?_
    refine aw_invVi (M := MX12_operator) (ci := 12) [vJ 6385252] rfl mo_X12_isWord rfl lm_X12_334 li_X12_isWord ls_X12_isWord (by decide +kernel) dX12_operator_17 rfl (Nat.le_of_ble_eq_true rfl) (ACi.mono (fun v4 σ3 h => ?_) h)
    refine aw_if_eq (tgt := 26) dX12_operator_20 (by decide) (fun hc => ?_) (fun hc => ?_)
    · replace h := h.1 hc
      refine aw_aload_n dX12_operator_26 rfl rfl ?_
      refine aw_getI' rfl fk_1213 lf_X12_51 dX12_operator_27 ?_
      refine aw_iconst (x := 3) dX12_operator_30 rfl ?_
      refine aw_icmp_eq (tgt := 36) dX12_operator_31 (by decide) (fun hc => ?_) (fun hc => ?_)
      · replace h := h.1 hc
        refine aw_aload_n dX12_operator_36 rfl rfl ?_
        refine aw_getJ' rfl fk_1217 lf_X12_64 dX12_operator_37 ?_
        refine aw_l2i dX12_operator_40 ?_
        refine aw_istore_n dX12_operator_41 rfl (by decide) rfl ?_
        refine aw_iload_n dX12_operator_42 rfl rfl ?_
        refine aw_bipush (x := 61) dX12_operator_43 rfl ?_
        refine aw_icmp_ne (tgt := 53) dX12_operator_45 (by decide) (fun hc => ?_) (fun hc => ?_)
        · replace h := h.1 hc
          refine aw_iload_n dX12_operator_53 rfl rfl ?_
          refine aw_bipush (x := 60) dX12_operator_54 rfl ?_
          refine aw_icmp_ne (tgt := 64) dX12_operator_56 (by decide) (fun hc => ?_) (fun hc => ?_)
          · replace h := h.1 hc
            refine aw_iload_n dX12_operator_64 rfl rfl ?_
            refine aw_bipush (x := 62) dX12_operator_65 rfl ?_
            refine aw_icmp_ne (tgt := 75) dX12_operator_67 (by decide) (fun hc => ?_) (fun hc => ?_)
            · replace h := h.1 hc
              refine aw_iload_n dX12_operator_75 rfl rfl ?_
              refine aw_bipush (x := 43) dX12_operator_76 rfl ?_
              refine aw_icmp_ne (tgt := 86) dX12_operator_78 (by decide) (fun hc => ?_) (fun hc => ?_)
              · replace h := h.1 hc
                refine aw_iload_n dX12_operator_86 rfl rfl ?_
                refine aw_bipush (x := 45) dX12_operator_87 rfl ?_
                refine aw_icmp_ne (tgt := 97) dX12_operator_89 (by decide) (fun hc => ?_) (fun hc => ?_)
                · replace h := h.1 hc
                  refine aw_iload_n dX12_operator_97 rfl rfl ?_
                  refine aw_bipush (x := 42) dX12_operator_98 rfl ?_
                  refine aw_icmp_ne (tgt := 108) dX12_operator_100 (by decide) (fun hc => ?_) (fun hc => ?_)
                  · replace h := h.1 hc
                    refine aw_iload_n dX12_operator_108 rfl rfl ?_
                    refine aw_bipush (x := 47) dX12_operator_109 rfl ?_
                    refine aw_icmp_ne (tgt := 119) dX12_operator_111 (by decide) (fun hc => ?_) (fun hc => ?_)
                    · replace h := h.1 hc
                      refine aw_iload_n dX12_operator_119 rfl rfl ?_
                      refine aw_bipush (x := 37) dX12_operator_120 rfl ?_
                      refine aw_icmp_ne (tgt := 130) dX12_operator_122 (by decide) (fun hc => ?_) (fun hc => ?_)
                      · replace h := h.1 hc
                        refine aw_iload_n dX12_operator_130 rfl rfl ?_
                        refine aw_bipush (x := 38) dX12_operator_131 rfl ?_
                        refine aw_icmp_ne (tgt := 141) dX12_operator_133 (by decide) (fun hc => ?_) (fun hc => ?_)
                        · replace h := h.1 hc
                          refine aw_iconst (x := (-1)) dX12_operator_141 rfl ?_
                          exact aw_ireturn dX12_operator_142 rfl h
                        · replace h := h.2 hc
                          refine aw_bipush (x := 12) dX12_operator_136 rfl ?_
                          refine aw_goto (tgt := 142) dX12_operator_138 (by decide) ?_
                          exact aw_ireturn dX12_operator_142 rfl h
                      · replace h := h.2 hc
                        refine aw_bipush (x := 11) dX12_operator_125 rfl ?_
                        refine aw_goto (tgt := 142) dX12_operator_127 (by decide) ?_
                        exact aw_ireturn dX12_operator_142 rfl h
                    · replace h := h.2 hc
                      refine aw_bipush (x := 10) dX12_operator_114 rfl ?_
                      refine aw_goto (tgt := 142) dX12_operator_116 (by decide) ?_
                      exact aw_ireturn dX12_operator_142 rfl h
                  · replace h := h.2 hc
                    refine aw_bipush (x := 9) dX12_operator_103 rfl ?_
                    refine aw_goto (tgt := 142) dX12_operator_105 (by decide) ?_
                    exact aw_ireturn dX12_operator_142 rfl h
                · replace h := h.2 hc
                  refine aw_bipush (x := 8) dX12_operator_92 rfl ?_
                  refine aw_goto (tgt := 142) dX12_operator_94 (by decide) ?_
                  exact aw_ireturn dX12_operator_142 rfl h
              · replace h := h.2 hc
                refine aw_bipush (x := 7) dX12_operator_81 rfl ?_
                refine aw_goto (tgt := 142) dX12_operator_83 (by decide) ?_
                exact aw_ireturn dX12_operator_142 rfl h
            · replace h := h.2 hc
              refine aw_bipush (x := 15) dX12_operator_70 rfl ?_
              refine aw_goto (tgt := 142) dX12_operator_72 (by decide) ?_
              exact aw_ireturn dX12_operator_142 rfl h
          · replace h := h.2 hc
            refine aw_bipush (x := 14) dX12_operator_59 rfl ?_
            refine aw_goto (tgt := 142) dX12_operator_61 (by decide) ?_
            exact aw_ireturn dX12_operator_142 rfl h
        · replace h := h.2 hc
          refine aw_bipush (x := 13) dX12_operator_48 rfl ?_
          refine aw_goto (tgt := 142) dX12_operator_50 (by decide) ?_
          exact aw_ireturn dX12_operator_142 rfl h
      · replace h := h.2 hc
        refine aw_iconst (x := (-1)) dX12_operator_34 rfl ?_
        exact aw_ireturn dX12_operator_35 rfl h
    · replace h := h.2 hc
      refine aw_bipush (x := 16) dX12_operator_23 rfl ?_
      exact aw_ireturn dX12_operator_25 rfl h
  · replace h := h.2 hc
    refine aw_bipush (x := 17) dX12_operator_10 rfl ?_
    exact aw_ireturn dX12_operator_12 rfl h
set_option maxRecDepth 4000 in
theorem bk_X12_out_0 {g : GP} {l : Launch} {d : Nat} {σ : St} {Q : Option AV → St → Prop} {x0 : Nat}
    (h : Q (some (vJ (gJ σ 1290 x0 0))) σ) :
    AW g l d MX12_out 0 [some (vR 12 (some x0))] [] σ Q := by
  refine aw_aload_n dX12_out_0 rfl rfl ?_
  refine aw_getJ' rfl fk_1290 lf_X12_286 dX12_out_1 ?_
  exact aw_lreturn dX12_out_4 rfl h
set_option maxRecDepth 4000 in
theorem bk_X12_outward_0 {g : GP} {l : Launch} {d : Nat} {σ : St} {Q : Option AV → St → Prop} {x0 : Nat} {x1 : Int}
    (h : ((0 ≤ x1 → Q (some (vI (w32 (x1 - (w32 (400 * (gI σ 1280 x0 0))))))) σ) ∧ (¬ 0 ≤ x1 → Q (some (vI (-1))) σ))) :
    AW g l d MX12_outward 0 [some (vR 12 (some x0)), some (vI x1)] [] σ Q := by
  refine aw_iload_n dX12_outward_0 rfl rfl ?_
  refine aw_if_ge (tgt := 8) dX12_outward_1 (by decide) (fun hc => ?_) (fun hc => ?_)
  · replace h := h.1 hc
    refine aw_iload_n dX12_outward_8 rfl rfl ?_
    refine aw_sipush (x := 400) dX12_outward_9 rfl ?_
    refine aw_aload_n dX12_outward_12 rfl rfl ?_
    refine aw_getI' rfl fk_1280 lf_X12_256 dX12_outward_13 ?_
    refine aw_imul dX12_outward_16 ?_
    refine aw_isub dX12_outward_17 ?_
    exact aw_ireturn dX12_outward_18 rfl h
  · replace h := h.2 hc
    refine aw_iconst (x := (-1)) dX12_outward_4 rfl ?_
    refine aw_goto (tgt := 18) dX12_outward_5 (by decide) ?_
    exact aw_ireturn dX12_outward_18 rfl h
set_option maxRecDepth 4000 in
theorem bk_X12_pair_0 {g : GP} {l : Launch} {d : Nat} {σ : St} {Q : Option AV → St → Prop} {x0 : Nat} {x1 : Int}
    (h : ((0 < (gI σ 1251 x0 0) → Q none σ) ∧ (¬ 0 < (gI σ 1251 x0 0) → ACi g l d MX12_isName [vR 12 (some x0)] σ (fun v2 σ1 => ACi g l d MX12_must [vR 12 (some x0), vI v2, vI 2] σ1 (fun v4 σ3 => ((¬ v4 = 0 → AW g l (d + 1) MX12_pair 22 [some (vR 12 (some x0)), some (vI x1), some (vI 0)] [] σ3 Q) ∧ (v4 = 0 → Q none σ3))))))) :
    AW g l (d + 1) MX12_pair 0 [some (vR 12 (some x0)), some (vI x1), none] [] σ Q := by
  refine aw_aload_n dX12_pair_0 rfl rfl ?_
  refine aw_getI' rfl fk_1251 lf_X12_167 dX12_pair_1 ?_
  refine aw_if_gt (tgt := 19) dX12_pair_4 (by decide) (fun hc => ?_) (fun hc => ?_)
  · replace h := h.1 hc
    exact aw_ret h rfl dX12_pair_19
  · replace h := h.2 hc
    refine aw_aload_n dX12_pair_7 rfl rfl ?_
    refine aw_aload_n dX12_pair_8 rfl rfl ?_
    refine aw_invVi (M := MX12_pair) (ci := 12) [] rfl mo_X12_isName rfl lm_X12_418 li_X12_isName ls_X12_isName (by decide +kernel) dX12_pair_9 rfl (Nat.le_of_ble_eq_true rfl) (ACi.mono (fun v2 σ1 h => ?_) h)
    refine aw_iconst (x := 2) dX12_pair_12 rfl ?_
    refine aw_invVi (M := MX12_pair) (ci := 12) [vI v2, vI 2] rfl mo_X12_must rfl lm_X12_404 li_X12_must ls_X12_must (by decide +kernel) dX12_pair_13 rfl (Nat.le_of_ble_eq_true rfl) (ACi.mono (fun v4 σ3 h => ?_) h)
    refine aw_if_ne (tgt := 20) dX12_pair_16 (by decide) (fun hc => ?_) (fun hc => ?_)
    · replace h := h.1 hc
      refine aw_iconst (x := 0) dX12_pair_20 rfl ?_
      refine aw_istore_n dX12_pair_21 rfl (by decide) rfl ?_
      exact aw_fgt (L' := [some (vR 12 (some x0)), some (vI x1), some (vI 0)]) ⟨rfl, ⟨rfl, ⟨rfl, trivial⟩⟩⟩ h
    · replace h := h.2 hc
      exact aw_ret h rfl dX12_pair_19
set_option maxRecDepth 4000 in
theorem bk_X12_pair_22 {g : GP} {l : Launch} {d : Nat} {σ : St} {Q : Option AV → St → Prop} {x0 : Nat} {x1 : Int} {x2 : Int}
    (h : gL σ 1225 x0 ≠ 0 ∧ ((0 : Int) ≤ x1 ∧ x1 < (gL σ 1225 x0 : Int)) ∧ (((gI σ 1225 x0 x1.toNat) ≤ x2 → gL σ 1225 x0 ≠ 0 ∧ ((0 : Int) ≤ x1 ∧ x1 < (gL σ 1225 x0 : Int)) ∧ ((10 ≤ (gI σ 1225 x0 x1.toNat) → AW g l (d + 1) MX12_pair 79 [some (vR 12 (some x0)), some (vI x1), none] [vI 0, vR 12 (some x0)] σ Q) ∧ (¬ 10 ≤ (gI σ 1225 x0 x1.toNat) → AW g l (d + 1) MX12_pair 79 [some (vR 12 (some x0)), some (vI x1), none] [vI 1, vR 12 (some x0)] σ Q))) ∧ (¬ (gI σ 1225 x0 x1.toNat) ≤ x2 → gL σ 1226 x0 ≠ 0 ∧ ((0 : Int) ≤ (w32 ((w32 (10 * x1)) + x2)) ∧ (w32 ((w32 (10 * x1)) + x2)) < (gL σ 1226 x0 : Int)) ∧ ((¬ (gJ σ 1226 x0 (w32 ((w32 (10 * x1)) + x2)).toNat) = (gJ σ 1216 x0 0) → AW g l (d + 1) MX12_pair 22 [some (vR 12 (some x0)), some (vI x1), some (vI (w32 (x2 + 1)))] [] σ Q) ∧ ((gJ σ 1226 x0 (w32 ((w32 (10 * x1)) + x2)).toNat) = (gJ σ 1216 x0 0) → ACv g l d MX12_fault [vR 12 (some x0), vI 3] σ (fun σ1 => AW g l (d + 1) MX12_pair 22 [some (vR 12 (some x0)), some (vI x1), some (vI (w32 (x2 + 1)))] [] σ1 Q)))))) :
    AW g l (d + 1) MX12_pair 22 [some (vR 12 (some x0)), some (vI x1), some (vI x2)] [] σ Q := by
  refine aw_iload_n dX12_pair_22 rfl rfl ?_
  refine aw_aload_n dX12_pair_23 rfl rfl ?_
  obtain ⟨h0, h⟩ := h
  refine aw_getA' rfl fk_1225 (by decide) lf_X12_89 dX12_pair_24 h0 ?_
  refine aw_iload_n dX12_pair_27 rfl rfl ?_
  obtain ⟨⟨h0, h1⟩, h⟩ := h
  refine aw_iaload (by decide) rfl dX12_pair_28 h0 h1 ?_
  refine aw_icmp_ge (tgt := 62) dX12_pair_29 (by decide) (fun hc => ?_) (fun hc => ?_)
  · replace h := h.1 hc
    refine aw_aload_n dX12_pair_62 rfl rfl ?_
    refine aw_aload_n dX12_pair_63 rfl rfl ?_
    obtain ⟨h0, h⟩ := h
    refine aw_getA' rfl fk_1225 (by decide) lf_X12_89 dX12_pair_64 h0 ?_
    refine aw_iload_n dX12_pair_67 rfl rfl ?_
    obtain ⟨⟨h0, h1⟩, h⟩ := h
    refine aw_iaload (by decide) rfl dX12_pair_68 h0 h1 ?_
    refine aw_bipush (x := 10) dX12_pair_69 rfl ?_
    refine aw_icmp_ge (tgt := 78) dX12_pair_71 (by decide) (fun hc => ?_) (fun hc => ?_)
    · replace h := h.1 hc
      refine aw_iconst (x := 0) dX12_pair_78 rfl ?_
      exact aw_fgt (L' := [some (vR 12 (some x0)), some (vI x1), none]) ⟨rfl, ⟨rfl, trivial⟩⟩ h
    · replace h := h.2 hc
      refine aw_iconst (x := 1) dX12_pair_74 rfl ?_
      refine aw_goto (tgt := 79) dX12_pair_75 (by decide) ?_
      exact aw_fgt (L' := [some (vR 12 (some x0)), some (vI x1), none]) ⟨rfl, ⟨rfl, trivial⟩⟩ h
  · replace h := h.2 hc
    refine aw_aload_n dX12_pair_32 rfl rfl ?_
    obtain ⟨h0, h⟩ := h
    refine aw_getA' rfl fk_1226 (by decide) lf_X12_92 dX12_pair_33 h0 ?_
    refine aw_bipush (x := 10) dX12_pair_36 rfl ?_
    refine aw_iload_n dX12_pair_38 rfl rfl ?_
    refine aw_imul dX12_pair_39 ?_
    refine aw_iload_n dX12_pair_40 rfl rfl ?_
    refine aw_iadd dX12_pair_41 ?_
    obtain ⟨⟨h0, h1⟩, h⟩ := h
    refine aw_laload (by decide) rfl dX12_pair_42 h0 h1 ?_
    refine aw_aload_n dX12_pair_43 rfl rfl ?_
    refine aw_getJ' rfl fk_1216 lf_X12_60 dX12_pair_44 ?_
    refine aw_lcmp_ne (M := MX12_pair) (tgt := 56) dX12_pair_47 dX12_pair_48 (by decide) (fun hc => ?_) (fun hc => ?_)
    · replace h := h.1 hc
      refine aw_iinc dX12_pair_56 rfl (by decide) rfl rfl ?_
      refine aw_goto (tgt := 22) dX12_pair_59 (by decide) ?_
      exact aw_fgt (L' := [some (vR 12 (some x0)), some (vI x1), some (vI (w32 (x2 + 1)))]) ⟨rfl, ⟨rfl, ⟨rfl, trivial⟩⟩⟩ h
    · replace h := h.2 hc
      refine aw_aload_n dX12_pair_51 rfl rfl ?_
      refine aw_iconst (x := 3) dX12_pair_52 rfl ?_
      refine aw_invVv (M := MX12_pair) (ci := 12) [vI 3] rfl mo_X12_fault rfl lm_X12_397 li_X12_fault ls_X12_fault (by decide +kernel) dX12_pair_53 rfl (Nat.le_of_ble_eq_true rfl) (ACv.mono (fun σ1 h => ?_) h)
      refine aw_iinc dX12_pair_56 rfl (by decide) rfl rfl ?_
      refine aw_goto (tgt := 22) dX12_pair_59 (by decide) ?_
      exact aw_fgt (L' := [some (vR 12 (some x0)), some (vI x1), some (vI (w32 (x2 + 1)))]) ⟨rfl, ⟨rfl, ⟨rfl, trivial⟩⟩⟩ h
set_option maxRecDepth 4000 in
theorem bk_X12_pair_79 {g : GP} {l : Launch} {d : Nat} {σ : St} {Q : Option AV → St → Prop} {x0 : Nat} {x1 : Int} {y0 : Int} {y1 : Option Nat}
    (h : ∃ r1, y1 = some r1 ∧ ACi g l d MX12_must [vR 12 (some r1), vI y0, vI 5] σ (fun v4 σ3 => ((¬ v4 = 0 → gL σ3 1226 x0 ≠ 0 ∧ gL σ3 1225 x0 ≠ 0 ∧ ((0 : Int) ≤ x1 ∧ x1 < (gL σ3 1225 x0 : Int)) ∧ ((0 : Int) ≤ (w32 ((w32 (10 * x1)) + (gI σ3 1225 x0 x1.toNat))) ∧ (w32 ((w32 (10 * x1)) + (gI σ3 1225 x0 x1.toNat))) < (gL σ3 1226 x0 : Int)) ∧ ACv g l d MX12_next [vR 12 (some x0)] (sJ σ3 1226 x0 (w32 ((w32 (10 * x1)) + (gI σ3 1225 x0 x1.toNat))).toNat (gJ σ3 1216 x0 0)) (fun σ5 => ACv g l d MX12_take [vR 12 (some x0), vI 61] σ5 (fun σ6 => gL σ6 1227 x0 ≠ 0 ∧ gL σ6 1225 x0 ≠ 0 ∧ ((0 : Int) ≤ x1 ∧ x1 < (gL σ6 1225 x0 : Int)) ∧ ACj g l d MX12_signed [vR 12 (some x0)] σ6 (fun v8 σ7 => ((0 : Int) ≤ (w32 ((w32 (10 * x1)) + (gI σ6 1225 x0 x1.toNat))) ∧ (w32 ((w32 (10 * x1)) + (gI σ6 1225 x0 x1.toNat))) < (gL σ7 1227 x0 : Int)) ∧ gL (sJ σ7 1227 x0 (w32 ((w32 (10 * x1)) + (gI σ6 1225 x0 x1.toNat))).toNat v8) 1225 x0 ≠ 0 ∧ ((0 : Int) ≤ x1 ∧ x1 < (gL (sJ σ7 1227 x0 (w32 ((w32 (10 * x1)) + (gI σ6 1225 x0 x1.toNat))).toNat v8) 1225 x0 : Int)) ∧ ((0 : Int) ≤ x1 ∧ x1 < (gL (sJ σ7 1227 x0 (w32 ((w32 (10 * x1)) + (gI σ6 1225 x0 x1.toNat))).toNat v8) 1225 x0 : Int)) ∧ Q none (sI (sJ σ7 1227 x0 (w32 ((w32 (10 * x1)) + (gI σ6 1225 x0 x1.toNat))).toNat v8) 1225 x0 x1.toNat (w32 ((gI (sJ σ7 1227 x0 (w32 ((w32 (10 * x1)) + (gI σ6 1225 x0 x1.toNat))).toNat v8) 1225 x0 x1.toNat) + 1))))))) ∧ (v4 = 0 → Q none σ3)))) :
    AW g l (d + 1) MX12_pair 79 [some (vR 12 (some x0)), some (vI x1), none] [vI y0, vR 12 y1] σ Q := by
  refine aw_iconst (x := 5) dX12_pair_79 rfl ?_
  obtain ⟨r1, e2, h⟩ := h
  refine aw_invVi (M := MX12_pair) (ci := 12) [vI y0, vI 5] e2 mo_X12_must rfl lm_X12_404 li_X12_must ls_X12_must (by decide +kernel) dX12_pair_80 rfl (Nat.le_of_ble_eq_true rfl) (ACi.mono (fun v4 σ3 h => ?_) h)
  refine aw_if_ne (tgt := 87) dX12_pair_83 (by decide) (fun hc => ?_) (fun hc => ?_)
  · replace h := h.1 hc
    refine aw_aload_n dX12_pair_87 rfl rfl ?_
    obtain ⟨h0, h⟩ := h
    refine aw_getA' rfl fk_1226 (by decide) lf_X12_92 dX12_pair_88 h0 ?_
    refine aw_bipush (x := 10) dX12_pair_91 rfl ?_
    refine aw_iload_n dX12_pair_93 rfl rfl ?_
    refine aw_imul dX12_pair_94 ?_
    refine aw_aload_n dX12_pair_95 rfl rfl ?_
    obtain ⟨h0, h⟩ := h
    refine aw_getA' rfl fk_1225 (by decide) lf_X12_89 dX12_pair_96 h0 ?_
    refine aw_iload_n dX12_pair_99 rfl rfl ?_
    obtain ⟨⟨h0, h1⟩, h⟩ := h
    refine aw_iaload (by decide) rfl dX12_pair_100 h0 h1 ?_
    refine aw_iadd dX12_pair_101 ?_
    refine aw_aload_n dX12_pair_102 rfl rfl ?_
    refine aw_getJ' rfl fk_1216 lf_X12_60 dX12_pair_103 ?_
    obtain ⟨⟨h0, h1⟩, h⟩ := h
    refine aw_lastore (by decide) rfl dX12_pair_106 h0 h1 ?_
    refine aw_aload_n dX12_pair_107 rfl rfl ?_
    refine aw_invVv (M := MX12_pair) (ci := 12) [] rfl mo_X12_next rfl lm_X12_408 li_X12_next ls_X12_next (by decide +kernel) dX12_pair_108 rfl (Nat.le_of_ble_eq_true rfl) (ACv.mono (fun σ5 h => ?_) h)
    refine aw_aload_n dX12_pair_111 rfl rfl ?_
    refine aw_bipush (x := 61) dX12_pair_112 rfl ?_
    refine aw_invVv (M := MX12_pair) (ci := 12) [vI 61] rfl mo_X12_take rfl lm_X12_431 li_X12_take ls_X12_take (by decide +kernel) dX12_pair_114 rfl (Nat.le_of_ble_eq_true rfl) (ACv.mono (fun σ6 h => ?_) h)
    refine aw_aload_n dX12_pair_117 rfl rfl ?_
    obtain ⟨h0, h⟩ := h
    refine aw_getA' rfl fk_1227 (by decide) lf_X12_95 dX12_pair_118 h0 ?_
    refine aw_bipush (x := 10) dX12_pair_121 rfl ?_
    refine aw_iload_n dX12_pair_123 rfl rfl ?_
    refine aw_imul dX12_pair_124 ?_
    refine aw_aload_n dX12_pair_125 rfl rfl ?_
    obtain ⟨h0, h⟩ := h
    refine aw_getA' rfl fk_1225 (by decide) lf_X12_89 dX12_pair_126 h0 ?_
    refine aw_iload_n dX12_pair_129 rfl rfl ?_
    obtain ⟨⟨h0, h1⟩, h⟩ := h
    refine aw_iaload (by decide) rfl dX12_pair_130 h0 h1 ?_
    refine aw_iadd dX12_pair_131 ?_
    refine aw_aload_n dX12_pair_132 rfl rfl ?_
    refine aw_invVj (M := MX12_pair) (ci := 12) [] rfl mo_X12_signed rfl lm_X12_437 li_X12_signed ls_X12_signed (by decide +kernel) dX12_pair_133 rfl (Nat.le_of_ble_eq_true rfl) (ACj.mono (fun v8 σ7 h => ?_) h)
    obtain ⟨⟨h0, h1⟩, h⟩ := h
    refine aw_lastore (by decide) rfl dX12_pair_136 h0 h1 ?_
    refine aw_aload_n dX12_pair_137 rfl rfl ?_
    obtain ⟨h0, h⟩ := h
    refine aw_getA' rfl fk_1225 (by decide) lf_X12_89 dX12_pair_138 h0 ?_
    refine aw_iload_n dX12_pair_141 rfl rfl ?_
    refine aw_dup2 dX12_pair_142 rfl rfl ?_
    obtain ⟨⟨h0, h1⟩, h⟩ := h
    refine aw_iaload (by decide) rfl dX12_pair_143 h0 h1 ?_
    refine aw_iconst (x := 1) dX12_pair_144 rfl ?_
    refine aw_iadd dX12_pair_145 ?_
    obtain ⟨⟨h0, h1⟩, h⟩ := h
    refine aw_iastore (by decide) rfl dX12_pair_146 h0 h1 ?_
    exact aw_ret h rfl dX12_pair_147
  · replace h := h.2 hc
    exact aw_ret h rfl dX12_pair_86
set_option maxRecDepth 4000 in
theorem bk_X12_paired_0 {g : GP} {l : Launch} {d : Nat} {σ : St} {Q : Option AV → St → Prop} {x0 : Nat} {x1 : Int} {x2 : Int}
    (h : gL σ 1230 x0 ≠ 0 ∧ ((0 : Int) ≤ x2 ∧ x2 < (gL σ 1230 x0 : Int)) ∧ ACj g l d MX12_valueOf [vR 12 (some x0), vI x1] σ (fun v2 σ1 => AW g l (d + 1) MX12_paired 25 [some (vR 12 (some x0)), none, none, some (vI (w32 ((w32 (8 * (gI σ 1218 x0 0))) + (gI σ 1230 x0 x2.toNat)))), some (vJ v2), none, some (vI 0)] [] σ1 Q)) :
    AW g l (d + 1) MX12_paired 0 [some (vR 12 (some x0)), some (vI x1), some (vI x2), none, none, none, none] [] σ Q := by
  refine aw_bipush (x := 8) dX12_paired_0 rfl ?_
  refine aw_aload_n dX12_paired_2 rfl rfl ?_
  refine aw_getI' rfl fk_1218 lf_X12_67 dX12_paired_3 ?_
  refine aw_imul dX12_paired_6 ?_
  refine aw_aload_n dX12_paired_7 rfl rfl ?_
  obtain ⟨h0, h⟩ := h
  refine aw_getA' rfl fk_1230 (by decide) lf_X12_104 dX12_paired_8 h0 ?_
  refine aw_iload_n dX12_paired_11 rfl rfl ?_
  obtain ⟨⟨h0, h1⟩, h⟩ := h
  refine aw_iaload (by decide) rfl dX12_paired_12 h0 h1 ?_
  refine aw_iadd dX12_paired_13 ?_
  refine aw_istore_n dX12_paired_14 rfl (by decide) rfl ?_
  refine aw_aload_n dX12_paired_15 rfl rfl ?_
  refine aw_iload_n dX12_paired_16 rfl rfl ?_
  refine aw_invVj (M := MX12_paired) (ci := 12) [vI x1] rfl mo_X12_valueOf rfl lm_X12_643 li_X12_valueOf ls_X12_valueOf (by decide +kernel) dX12_paired_17 rfl (Nat.le_of_ble_eq_true rfl) (ACj.mono (fun v2 σ1 h => ?_) h)
  refine aw_lstore dX12_paired_20 (by decide) rfl ?_
  refine aw_iconst (x := 0) dX12_paired_22 rfl ?_
  refine aw_istore dX12_paired_23 (by decide) rfl ?_
  exact aw_fgt (L' := [some (vR 12 (some x0)), none, none, some (vI (w32 ((w32 (8 * (gI σ 1218 x0 0))) + (gI σ 1230 x0 x2.toNat)))), some (vJ v2), none, some (vI 0)]) ⟨rfl, ⟨rfl, ⟨rfl, ⟨rfl, trivial⟩⟩⟩⟩ h
set_option maxRecDepth 4000 in
theorem bk_X12_paired_25 {g : GP} {l : Launch} {d : Nat} {σ : St} {Q : Option AV → St → Prop} {x0 : Nat} {x3 : Int} {x4 : Int64} {x6 : Int}
    (h : gL σ 1225 x0 ≠ 0 ∧ ((0 : Int) ≤ x3 ∧ x3 < (gL σ 1225 x0 : Int)) ∧ (((gI σ 1225 x0 x3.toNat) ≤ x6 → Q (some (vI (-1))) σ) ∧ (¬ (gI σ 1225 x0 x3.toNat) ≤ x6 → gL σ 1227 x0 ≠ 0 ∧ ((0 : Int) ≤ (w32 ((w32 (10 * x3)) + x6)) ∧ (w32 ((w32 (10 * x3)) + x6)) < (gL σ 1227 x0 : Int)) ∧ ((¬ (gJ σ 1227 x0 (w32 ((w32 (10 * x3)) + x6)).toNat) = x4 → AW g l (d + 1) MX12_paired 25 [some (vR 12 (some x0)), none, none, some (vI x3), some (vJ x4), none, some (vI (w32 (x6 + 1)))] [] σ Q) ∧ ((gJ σ 1227 x0 (w32 ((w32 (10 * x3)) + x6)).toNat) = x4 → Q (some (vI (w32 ((w32 (10 * x3)) + x6)))) σ))))) :
    AW g l (d + 1) MX12_paired 25 [some (vR 12 (some x0)), none, none, some (vI x3), some (vJ x4), none, some (vI x6)] [] σ Q := by
  refine aw_iload dX12_paired_25 rfl ?_
  refine aw_aload_n dX12_paired_27 rfl rfl ?_
  obtain ⟨h0, h⟩ := h
  refine aw_getA' rfl fk_1225 (by decide) lf_X12_89 dX12_paired_28 h0 ?_
  refine aw_iload_n dX12_paired_31 rfl rfl ?_
  obtain ⟨⟨h0, h1⟩, h⟩ := h
  refine aw_iaload (by decide) rfl dX12_paired_32 h0 h1 ?_
  refine aw_icmp_ge (tgt := 68) dX12_paired_33 (by decide) (fun hc => ?_) (fun hc => ?_)
  · replace h := h.1 hc
    refine aw_iconst (x := (-1)) dX12_paired_68 rfl ?_
    exact aw_ireturn dX12_paired_69 rfl h
  · replace h := h.2 hc
    refine aw_aload_n dX12_paired_36 rfl rfl ?_
    obtain ⟨h0, h⟩ := h
    refine aw_getA' rfl fk_1227 (by decide) lf_X12_95 dX12_paired_37 h0 ?_
    refine aw_bipush (x := 10) dX12_paired_40 rfl ?_
    refine aw_iload_n dX12_paired_42 rfl rfl ?_
    refine aw_imul dX12_paired_43 ?_
    refine aw_iload dX12_paired_44 rfl ?_
    refine aw_iadd dX12_paired_46 ?_
    obtain ⟨⟨h0, h1⟩, h⟩ := h
    refine aw_laload (by decide) rfl dX12_paired_47 h0 h1 ?_
    refine aw_lload dX12_paired_48 rfl ?_
    refine aw_lcmp_ne (M := MX12_paired) (tgt := 62) dX12_paired_50 dX12_paired_51 (by decide) (fun hc => ?_) (fun hc => ?_)
    · replace h := h.1 hc
      refine aw_iinc dX12_paired_62 rfl (by decide) rfl rfl ?_
      refine aw_goto (tgt := 25) dX12_paired_65 (by decide) ?_
      exact aw_fgt (L' := [some (vR 12 (some x0)), none, none, some (vI x3), some (vJ x4), none, some (vI (w32 (x6 + 1)))]) ⟨rfl, ⟨rfl, ⟨rfl, ⟨rfl, trivial⟩⟩⟩⟩ h
    · replace h := h.2 hc
      refine aw_bipush (x := 10) dX12_paired_54 rfl ?_
      refine aw_iload_n dX12_paired_56 rfl rfl ?_
      refine aw_imul dX12_paired_57 ?_
      refine aw_iload dX12_paired_58 rfl ?_
      refine aw_iadd dX12_paired_60 ?_
      exact aw_ireturn dX12_paired_61 rfl h
set_option maxRecDepth 4000 in
theorem bk_X12_part_0 {g : GP} {l : Launch} {d : Nat} {σ : St} {Q : Option AV → St → Prop} {x0 : Nat} {x1 : Int} {x2 : Int}
    (h : ACi g l d MX12_fresh [vR 12 (some x0), vI x1] σ (fun v2 σ1 => ((v2 = 0 → Q none σ1) ∧ (¬ v2 = 0 → gL σ1 1237 x0 ≠ 0 ∧ ((0 : Int) ≤ x1 ∧ x1 < (gL σ1 1237 x0 : Int)) ∧ ((12 ≤ (gI σ1 1237 x0 x1.toNat) → AW g l (d + 1) MX12_part 25 [some (vR 12 (some x0)), some (vI x1), some (vI x2), none] [vI 0, vR 12 (some x0)] σ1 Q) ∧ (¬ 12 ≤ (gI σ1 1237 x0 x1.toNat) → AW g l (d + 1) MX12_part 25 [some (vR 12 (some x0)), some (vI x1), some (vI x2), none] [vI 1, vR 12 (some x0)] σ1 Q)))))) :
    AW g l (d + 1) MX12_part 0 [some (vR 12 (some x0)), some (vI x1), some (vI x2), none] [] σ Q := by
  refine aw_aload_n dX12_part_0 rfl rfl ?_
  refine aw_iload_n dX12_part_1 rfl rfl ?_
  refine aw_invVi (M := MX12_part) (ci := 12) [vI x1] rfl mo_X12_fresh rfl lm_X12_454 li_X12_fresh ls_X12_fresh (by decide +kernel) dX12_part_2 rfl (Nat.le_of_ble_eq_true rfl) (ACi.mono (fun v2 σ1 h => ?_) h)
  refine aw_if_eq (tgt := 32) dX12_part_5 (by decide) (fun hc => ?_) (fun hc => ?_)
  · replace h := h.1 hc
    exact aw_ret h rfl dX12_part_32
  · replace h := h.2 hc
    refine aw_aload_n dX12_part_8 rfl rfl ?_
    refine aw_aload_n dX12_part_9 rfl rfl ?_
    obtain ⟨h0, h⟩ := h
    refine aw_getA' rfl fk_1237 (by decide) lf_X12_125 dX12_part_10 h0 ?_
    refine aw_iload_n dX12_part_13 rfl rfl ?_
    obtain ⟨⟨h0, h1⟩, h⟩ := h
    refine aw_iaload (by decide) rfl dX12_part_14 h0 h1 ?_
    refine aw_bipush (x := 12) dX12_part_15 rfl ?_
    refine aw_icmp_ge (tgt := 24) dX12_part_17 (by decide) (fun hc => ?_) (fun hc => ?_)
    · replace h := h.1 hc
      refine aw_iconst (x := 0) dX12_part_24 rfl ?_
      exact aw_fgt (L' := [some (vR 12 (some x0)), some (vI x1), some (vI x2), none]) ⟨rfl, ⟨rfl, ⟨rfl, trivial⟩⟩⟩ h
    · replace h := h.2 hc
      refine aw_iconst (x := 1) dX12_part_20 rfl ?_
      refine aw_goto (tgt := 25) dX12_part_21 (by decide) ?_
      exact aw_fgt (L' := [some (vR 12 (some x0)), some (vI x1), some (vI x2), none]) ⟨rfl, ⟨rfl, ⟨rfl, trivial⟩⟩⟩ h
set_option maxRecDepth 4000 in
theorem bk_X12_part_25 {g : GP} {l : Launch} {d : Nat} {σ : St} {Q : Option AV → St → Prop} {x0 : Nat} {x1 : Int} {x2 : Int} {y0 : Int} {y1 : Option Nat}
    (h : ∃ r1, y1 = some r1 ∧ ACi g l d MX12_must [vR 12 (some r1), vI y0, vI 5] σ (fun v4 σ3 => ((¬ v4 = 0 → gL σ3 1237 x0 ≠ 0 ∧ ((0 : Int) ≤ x1 ∧ x1 < (gL σ3 1237 x0 : Int)) ∧ gL σ3 1239 x0 ≠ 0 ∧ ((0 : Int) ≤ (w32 ((w32 (16 * x1)) + (gI σ3 1237 x0 x1.toNat))) ∧ (w32 ((w32 (16 * x1)) + (gI σ3 1237 x0 x1.toNat))) < (gL σ3 1239 x0 : Int)) ∧ ACv g l d MX12_next [vR 12 (some x0)] (sJ σ3 1239 x0 (w32 ((w32 (16 * x1)) + (gI σ3 1237 x0 x1.toNat))).toNat (gJ σ3 1216 x0 0)) (fun σ5 => ACv g l d MX12_take [vR 12 (some x0), vI 58] σ5 (fun σ6 => ((0 < (gI σ6 1251 x0 0) → Q none σ6) ∧ (¬ 0 < (gI σ6 1251 x0 0) → ((¬ (gI σ6 1213 x0 0) = 2 → AW g l (d + 1) MX12_part 86 [some (vR 12 (some x0)), some (vI x1), some (vI x2), some (vI (w32 ((w32 (16 * x1)) + (gI σ3 1237 x0 x1.toNat))))] [vI 0, vR 12 (some x0)] σ6 Q) ∧ ((gI σ6 1213 x0 0) = 2 → AW g l (d + 1) MX12_part 86 [some (vR 12 (some x0)), some (vI x1), some (vI x2), some (vI (w32 ((w32 (16 * x1)) + (gI σ3 1237 x0 x1.toNat))))] [vI 1, vR 12 (some x0)] σ6 Q))))))) ∧ (v4 = 0 → Q none σ3)))) :
    AW g l (d + 1) MX12_part 25 [some (vR 12 (some x0)), some (vI x1), some (vI x2), none] [vI y0, vR 12 y1] σ Q := by
  refine aw_iconst (x := 5) dX12_part_25 rfl ?_
  obtain ⟨r1, e2, h⟩ := h
  refine aw_invVi (M := MX12_part) (ci := 12) [vI y0, vI 5] e2 mo_X12_must rfl lm_X12_404 li_X12_must ls_X12_must (by decide +kernel) dX12_part_26 rfl (Nat.le_of_ble_eq_true rfl) (ACi.mono (fun v4 σ3 h => ?_) h)
  refine aw_if_ne (tgt := 33) dX12_part_29 (by decide) (fun hc => ?_) (fun hc => ?_)
  · replace h := h.1 hc
    refine aw_bipush (x := 16) dX12_part_33 rfl ?_
    refine aw_iload_n dX12_part_35 rfl rfl ?_
    refine aw_imul dX12_part_36 ?_
    refine aw_aload_n dX12_part_37 rfl rfl ?_
    obtain ⟨h0, h⟩ := h
    refine aw_getA' rfl fk_1237 (by decide) lf_X12_125 dX12_part_38 h0 ?_
    refine aw_iload_n dX12_part_41 rfl rfl ?_
    obtain ⟨⟨h0, h1⟩, h⟩ := h
    refine aw_iaload (by decide) rfl dX12_part_42 h0 h1 ?_
    refine aw_iadd dX12_part_43 ?_
    refine aw_istore_n dX12_part_44 rfl (by decide) rfl ?_
    refine aw_aload_n dX12_part_45 rfl rfl ?_
    obtain ⟨h0, h⟩ := h
    refine aw_getA' rfl fk_1239 (by decide) lf_X12_131 dX12_part_46 h0 ?_
    refine aw_iload_n dX12_part_49 rfl rfl ?_
    refine aw_aload_n dX12_part_50 rfl rfl ?_
    refine aw_getJ' rfl fk_1216 lf_X12_60 dX12_part_51 ?_
    obtain ⟨⟨h0, h1⟩, h⟩ := h
    refine aw_lastore (by decide) rfl dX12_part_54 h0 h1 ?_
    refine aw_aload_n dX12_part_55 rfl rfl ?_
    refine aw_invVv (M := MX12_part) (ci := 12) [] rfl mo_X12_next rfl lm_X12_408 li_X12_next ls_X12_next (by decide +kernel) dX12_part_56 rfl (Nat.le_of_ble_eq_true rfl) (ACv.mono (fun σ5 h => ?_) h)
    refine aw_aload_n dX12_part_59 rfl rfl ?_
    refine aw_bipush (x := 58) dX12_part_60 rfl ?_
    refine aw_invVv (M := MX12_part) (ci := 12) [vI 58] rfl mo_X12_take rfl lm_X12_431 li_X12_take ls_X12_take (by decide +kernel) dX12_part_62 rfl (Nat.le_of_ble_eq_true rfl) (ACv.mono (fun σ6 h => ?_) h)
    refine aw_aload_n dX12_part_65 rfl rfl ?_
    refine aw_getI' rfl fk_1251 lf_X12_167 dX12_part_66 ?_
    refine aw_if_gt (tgt := 150) dX12_part_69 (by decide) (fun hc => ?_) (fun hc => ?_)
    · replace h := h.1 hc
      exact aw_ret h rfl dX12_part_150
    · replace h := h.2 hc
      refine aw_aload_n dX12_part_72 rfl rfl ?_
      refine aw_aload_n dX12_part_73 rfl rfl ?_
      refine aw_getI' rfl fk_1213 lf_X12_51 dX12_part_74 ?_
      refine aw_iconst (x := 2) dX12_part_77 rfl ?_
      refine aw_icmp_ne (tgt := 85) dX12_part_78 (by decide) (fun hc => ?_) (fun hc => ?_)
      · replace h := h.1 hc
        refine aw_iconst (x := 0) dX12_part_85 rfl ?_
        exact aw_fgt (L' := [some (vR 12 (some x0)), some (vI x1), some (vI x2), some (vI (w32 ((w32 (16 * x1)) + (gI σ3 1237 x0 x1.toNat))))]) ⟨rfl, ⟨rfl, ⟨rfl, ⟨rfl, trivial⟩⟩⟩⟩ h
      · replace h := h.2 hc
        refine aw_iconst (x := 1) dX12_part_81 rfl ?_
        refine aw_goto (tgt := 86) dX12_part_82 (by decide) ?_
        exact aw_fgt (L' := [some (vR 12 (some x0)), some (vI x1), some (vI x2), some (vI (w32 ((w32 (16 * x1)) + (gI σ3 1237 x0 x1.toNat))))]) ⟨rfl, ⟨rfl, ⟨rfl, ⟨rfl, trivial⟩⟩⟩⟩ h
  · replace h := h.2 hc
    exact aw_ret h rfl dX12_part_32
set_option maxRecDepth 4000 in
theorem bk_X12_part_86 {g : GP} {l : Launch} {d : Nat} {σ : St} {Q : Option AV → St → Prop} {x0 : Nat} {x1 : Int} {x2 : Int} {x3 : Int} {y0 : Int} {y1 : Option Nat}
    (h : ∃ r1, y1 = some r1 ∧ ACi g l d MX12_must [vR 12 (some r1), vI y0, vI 2] σ (fun v4 σ3 => ((v4 = 0 → Q none σ3) ∧ (¬ v4 = 0 → (((gJ σ3 1217 x0 0).toInt < (1 : Int64).toInt → AW g l (d + 1) MX12_part 143 [some (vR 12 (some x0)), some (vI x1), none, some (vI x3)] [vI 0, vR 12 (some x0)] σ3 Q) ∧ (¬ (gJ σ3 1217 x0 0).toInt < (1 : Int64).toInt → (((64 : Int64).toInt < (gJ σ3 1217 x0 0).toInt → AW g l (d + 1) MX12_part 143 [some (vR 12 (some x0)), some (vI x1), none, some (vI x3)] [vI 0, vR 12 (some x0)] σ3 Q) ∧ (¬ (64 : Int64).toInt < (gJ σ3 1217 x0 0).toInt → gL σ3 1229 x0 ≠ 0 ∧ ((0 : Int) ≤ x1 ∧ x1 < (gL σ3 1229 x0 : Int)) ∧ (((i2j (w32 (8 * (i_and (gI σ3 1229 x0 x1.toNat) 15)))).toInt < ((i2j x2) + (gJ σ3 1217 x0 0)).toInt → AW g l (d + 1) MX12_part 143 [some (vR 12 (some x0)), some (vI x1), none, some (vI x3)] [vI 0, vR 12 (some x0)] σ3 Q) ∧ (¬ (i2j (w32 (8 * (i_and (gI σ3 1229 x0 x1.toNat) 15)))).toInt < ((i2j x2) + (gJ σ3 1217 x0 0)).toInt → AW g l (d + 1) MX12_part 143 [some (vR 12 (some x0)), some (vI x1), none, some (vI x3)] [vI 1, vR 12 (some x0)] σ3 Q)))))))))) :
    AW g l (d + 1) MX12_part 86 [some (vR 12 (some x0)), some (vI x1), some (vI x2), some (vI x3)] [vI y0, vR 12 y1] σ Q := by
  refine aw_iconst (x := 2) dX12_part_86 rfl ?_
  obtain ⟨r1, e2, h⟩ := h
  refine aw_invVi (M := MX12_part) (ci := 12) [vI y0, vI 2] e2 mo_X12_must rfl lm_X12_404 li_X12_must ls_X12_must (by decide +kernel) dX12_part_87 rfl (Nat.le_of_ble_eq_true rfl) (ACi.mono (fun v4 σ3 h => ?_) h)
  refine aw_if_eq (tgt := 150) dX12_part_90 (by decide) (fun hc => ?_) (fun hc => ?_)
  · replace h := h.1 hc
    exact aw_ret h rfl dX12_part_150
  · replace h := h.2 hc
    refine aw_aload_n dX12_part_93 rfl rfl ?_
    refine aw_aload_n dX12_part_94 rfl rfl ?_
    refine aw_getJ' rfl fk_1217 lf_X12_64 dX12_part_95 ?_
    refine aw_lconst (x := 1) dX12_part_98 rfl ?_
    refine aw_lcmp_lt (M := MX12_part) (tgt := 142) dX12_part_99 dX12_part_100 (by decide) (fun hc => ?_) (fun hc => ?_)
    · replace h := h.1 hc
      refine aw_iconst (x := 0) dX12_part_142 rfl ?_
      exact aw_fgt (L' := [some (vR 12 (some x0)), some (vI x1), none, some (vI x3)]) ⟨rfl, ⟨rfl, ⟨rfl, trivial⟩⟩⟩ h
    · replace h := h.2 hc
      refine aw_aload_n dX12_part_103 rfl rfl ?_
      refine aw_getJ' rfl fk_1217 lf_X12_64 dX12_part_104 ?_
      refine aw_ldc2 lk_X12_487 dX12_part_107 ?_
      refine aw_lcmp_gt (M := MX12_part) (tgt := 142) dX12_part_110 dX12_part_111 (by decide) (fun hc => ?_) (fun hc => ?_)
      · replace h := h.1 hc
        refine aw_iconst (x := 0) dX12_part_142 rfl ?_
        exact aw_fgt (L' := [some (vR 12 (some x0)), some (vI x1), none, some (vI x3)]) ⟨rfl, ⟨rfl, ⟨rfl, trivial⟩⟩⟩ h
      · replace h := h.2 hc
        refine aw_iload_n dX12_part_114 rfl rfl ?_
        refine aw_i2l dX12_part_115 ?_
        refine aw_aload_n dX12_part_116 rfl rfl ?_
        refine aw_getJ' rfl fk_1217 lf_X12_64 dX12_part_117 ?_
        refine aw_ladd dX12_part_120 ?_
        refine aw_bipush (x := 8) dX12_part_121 rfl ?_
        refine aw_aload_n dX12_part_123 rfl rfl ?_
        obtain ⟨h0, h⟩ := h
        refine aw_getA' rfl fk_1229 (by decide) lf_X12_101 dX12_part_124 h0 ?_
        refine aw_iload_n dX12_part_127 rfl rfl ?_
        obtain ⟨⟨h0, h1⟩, h⟩ := h
        refine aw_iaload (by decide) rfl dX12_part_128 h0 h1 ?_
        refine aw_bipush (x := 15) dX12_part_129 rfl ?_
        refine aw_iand dX12_part_131 ?_
        refine aw_imul dX12_part_132 ?_
        refine aw_i2l dX12_part_133 ?_
        refine aw_lcmp_gt (M := MX12_part) (tgt := 142) dX12_part_134 dX12_part_135 (by decide) (fun hc => ?_) (fun hc => ?_)
        · replace h := h.1 hc
          refine aw_iconst (x := 0) dX12_part_142 rfl ?_
          exact aw_fgt (L' := [some (vR 12 (some x0)), some (vI x1), none, some (vI x3)]) ⟨rfl, ⟨rfl, ⟨rfl, trivial⟩⟩⟩ h
        · replace h := h.2 hc
          refine aw_iconst (x := 1) dX12_part_138 rfl ?_
          refine aw_goto (tgt := 143) dX12_part_139 (by decide) ?_
          exact aw_fgt (L' := [some (vR 12 (some x0)), some (vI x1), none, some (vI x3)]) ⟨rfl, ⟨rfl, ⟨rfl, trivial⟩⟩⟩ h
set_option maxRecDepth 4000 in
theorem bk_X12_part_143 {g : GP} {l : Launch} {d : Nat} {σ : St} {Q : Option AV → St → Prop} {x0 : Nat} {x1 : Int} {x3 : Int} {y0 : Int} {y1 : Option Nat}
    (h : ∃ r1, y1 = some r1 ∧ ACi g l d MX12_must [vR 12 (some r1), vI y0, vI 5] σ (fun v4 σ3 => ((¬ v4 = 0 → gL σ3 1240 x0 ≠ 0 ∧ ((0 : Int) ≤ x3 ∧ x3 < (gL σ3 1240 x0 : Int)) ∧ gL (sJ σ3 1240 x0 x3.toNat (gJ σ3 1217 x0 0)) 1237 x0 ≠ 0 ∧ ((0 : Int) ≤ x1 ∧ x1 < (gL (sJ σ3 1240 x0 x3.toNat (gJ σ3 1217 x0 0)) 1237 x0 : Int)) ∧ ((0 : Int) ≤ x1 ∧ x1 < (gL (sJ σ3 1240 x0 x3.toNat (gJ σ3 1217 x0 0)) 1237 x0 : Int)) ∧ ACv g l d MX12_next [vR 12 (some x0)] (sI (sJ σ3 1240 x0 x3.toNat (gJ σ3 1217 x0 0)) 1237 x0 x1.toNat (w32 ((gI (sJ σ3 1240 x0 x3.toNat (gJ σ3 1217 x0 0)) 1237 x0 x1.toNat) + 1))) (fun σ5 => Q none σ5)) ∧ (v4 = 0 → Q none σ3)))) :
    AW g l (d + 1) MX12_part 143 [some (vR 12 (some x0)), some (vI x1), none, some (vI x3)] [vI y0, vR 12 y1] σ Q := by
  refine aw_iconst (x := 5) dX12_part_143 rfl ?_
  obtain ⟨r1, e2, h⟩ := h
  refine aw_invVi (M := MX12_part) (ci := 12) [vI y0, vI 5] e2 mo_X12_must rfl lm_X12_404 li_X12_must ls_X12_must (by decide +kernel) dX12_part_144 rfl (Nat.le_of_ble_eq_true rfl) (ACi.mono (fun v4 σ3 h => ?_) h)
  refine aw_if_ne (tgt := 151) dX12_part_147 (by decide) (fun hc => ?_) (fun hc => ?_)
  · replace h := h.1 hc
    refine aw_aload_n dX12_part_151 rfl rfl ?_
    obtain ⟨h0, h⟩ := h
    refine aw_getA' rfl fk_1240 (by decide) lf_X12_134 dX12_part_152 h0 ?_
    refine aw_iload_n dX12_part_155 rfl rfl ?_
    refine aw_aload_n dX12_part_156 rfl rfl ?_
    refine aw_getJ' rfl fk_1217 lf_X12_64 dX12_part_157 ?_
    obtain ⟨⟨h0, h1⟩, h⟩ := h
    refine aw_lastore (by decide) rfl dX12_part_160 h0 h1 ?_
    refine aw_aload_n dX12_part_161 rfl rfl ?_
    obtain ⟨h0, h⟩ := h
    refine aw_getA' rfl fk_1237 (by decide) lf_X12_125 dX12_part_162 h0 ?_
    refine aw_iload_n dX12_part_165 rfl rfl ?_
    refine aw_dup2 dX12_part_166 rfl rfl ?_
    obtain ⟨⟨h0, h1⟩, h⟩ := h
    refine aw_iaload (by decide) rfl dX12_part_167 h0 h1 ?_
    refine aw_iconst (x := 1) dX12_part_168 rfl ?_
    refine aw_iadd dX12_part_169 ?_
    obtain ⟨⟨h0, h1⟩, h⟩ := h
    refine aw_iastore (by decide) rfl dX12_part_170 h0 h1 ?_
    refine aw_aload_n dX12_part_171 rfl rfl ?_
    refine aw_invVv (M := MX12_part) (ci := 12) [] rfl mo_X12_next rfl lm_X12_408 li_X12_next ls_X12_next (by decide +kernel) dX12_part_172 rfl (Nat.le_of_ble_eq_true rfl) (ACv.mono (fun σ5 h => ?_) h)
    exact aw_ret h rfl dX12_part_175
  · replace h := h.2 hc
    exact aw_ret h rfl dX12_part_150
