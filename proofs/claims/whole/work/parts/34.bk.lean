set_option maxRecDepth 4000 in
theorem bk_X12_fix_0 {g : GP} {l : Launch} {d : Nat} {σ : St} {Q : Option AV → St → Prop} {x0 : Nat} {x1 : Int} {x2 : Int}
    (h : ACi g l d MX12_isNode [vR 12 (some x0), vI x1, vI x2] σ (fun v2 σ1 => ((¬ v2 = 0 → R32 (400 * x1) ∧ R32 ((400 * x1) + x2) ∧ LC 12 σ1 x0 ∧ Bd ((400 * x1) + x2) 2800 ∧ (((gI σ1 1267 x0 ((400 * x1) + x2).toNat) = 10 → ((¬ (gI σ1 1272 x0 ((400 * x1) + x2).toNat) = 1 → ∀ z10 : Int, z10 = gI σ1 1274 x0 ((400 * x1) + x2).toNat → ACi g l d MX12_sumBounds [vR 12 (some x0), vI ((400 * x1) + x2), vI z10, vI (gI σ1 1270 x0 ((400 * x1) + x2).toNat)] σ1 (fun v12 σ11 => ((v12 ≤ 0 → LC 12 σ11 x0 ∧ ACj g l d MX12_due [vR 12 (some x0), vI ((400 * x1) + x2), vI z10, vI (gI σ11 1270 x0 ((400 * x1) + x2).toNat)] σ11 (fun v16 σ15 => LC 12 σ15 x0 ∧ Bd z10 560 ∧ ACv g l d MX12_put [vR 12 (some x0), vI (gI σ11 1268 x0 ((400 * x1) + x2).toNat), vJ v16, vI (gI σ15 1229 x0 z10.toNat)] σ15 (fun σ19 => LC 12 σ19 x0 ∧ ((¬ (gI σ19 1272 x0 ((400 * x1) + x2).toNat) = 3 → Q (some (vI 0)) σ19) ∧ ((gI σ19 1272 x0 ((400 * x1) + x2).toNat) = 3 → Q (some (vI 0)) (sI σ19 1272 x0 ((400 * x1) + x2).toNat 0)))))) ∧ (¬ v12 ≤ 0 → Q (some (vI (-3))) σ11)))) ∧ ((gI σ1 1272 x0 ((400 * x1) + x2).toNat) = 1 → Q (some (vI (-5))) σ1))) ∧ (¬ (gI σ1 1267 x0 ((400 * x1) + x2).toNat) = 10 → Q (some (vI (-4))) σ1))) ∧ (v2 = 0 → Q (some (vI (-1))) σ1)))) :
    AW g l (d + 1) MX12_fix 0 [some (vR 12 (some x0)), some (vI x1), some (vI x2), none, none] [] σ Q := by
  refine aw_aload_n dX12_fix_0 rfl rfl ?_
  refine aw_iload_n dX12_fix_1 rfl rfl ?_
  refine aw_iload_n dX12_fix_2 rfl rfl ?_
  refine aw_invVi (M := MX12_fix) (ci := 12) [vI x1, vI x2] rfl mo_X12_isNode rfl lm_X12_688 li_X12_isNode ls_X12_isNode (by decide +kernel) dX12_fix_3 rfl (Nat.le_of_ble_eq_true rfl) (ACi.mono (fun v2 σ1 h => ?_) h)
  refine aw_if_ne (tgt := 11) dX12_fix_6 (by decide) (fun k3 => ?_) (fun k3 => ?_)
  · replace h := h.1 k3
    refine aw_sipush (x := 400) dX12_fix_11 rfl ?_
    refine aw_iload_n dX12_fix_14 rfl rfl ?_
    obtain ⟨⟨c4, c4x⟩, h⟩ := h
    refine aw_imulc dX12_fix_15 c4 c4x ?_
    refine aw_iload_n dX12_fix_16 rfl rfl ?_
    obtain ⟨⟨c5, c5x⟩, h⟩ := h
    refine aw_iaddc dX12_fix_17 c5 c5x ?_
    refine aw_istore_n (L' := [some (vR 12 (some x0)), some (vI x1), some (vI x2), some (vI ((400 * x1) + x2)), none]) dX12_fix_18 rfl (by decide) rfl ?_
    refine aw_aload_n dX12_fix_19 rfl rfl ?_
    obtain ⟨lc6, h⟩ := h
    refine aw_getA' rfl fk_1267 (by decide) lf_X12_217 dX12_fix_20 (LC.ne lc6 rfl rfl) ?_
    refine aw_iload_n dX12_fix_23 rfl rfl ?_
    obtain ⟨⟨c7, c7x⟩, h⟩ := h
    refine aw_iaload (by decide) rfl dX12_fix_24 c7 (LC.lt lc6 rfl rfl c7x) ?_
    refine aw_bipush (x := 10) dX12_fix_25 rfl ?_
    refine aw_icmp_eq (tgt := 33) dX12_fix_27 (by decide) (fun k8 => ?_) (fun k8 => ?_)
    · replace h := h.1 k8
      refine aw_aload_n dX12_fix_33 rfl rfl ?_
      refine aw_getA' rfl fk_1272 (by decide) lf_X12_232 dX12_fix_34 (LC.ne lc6 rfl rfl) ?_
      refine aw_iload_n dX12_fix_37 rfl rfl ?_
      refine aw_iaload (by decide) rfl dX12_fix_38 c7 (LC.lt lc6 rfl rfl c7x) ?_
      refine aw_iconst (x := 1) dX12_fix_39 rfl ?_
      refine aw_icmp_ne (tgt := 46) dX12_fix_40 (by decide) (fun k9 => ?_) (fun k9 => ?_)
      · replace h := h.1 k9
        refine aw_aload_n dX12_fix_46 rfl rfl ?_
        refine aw_getA' rfl fk_1274 (by decide) lf_X12_238 dX12_fix_47 (LC.ne lc6 rfl rfl) ?_
        refine aw_iload_n dX12_fix_50 rfl rfl ?_
        refine aw_iaload (by decide) rfl dX12_fix_51 c7 (LC.lt lc6 rfl rfl c7x) ?_
        refine aw_istore (L' := [some (vR 12 (some x0)), some (vI x1), some (vI x2), some (vI ((400 * x1) + x2)), some (vI (gI σ1 1274 x0 ((400 * x1) + x2).toNat))]) dX12_fix_52 (by decide) rfl ?_
        obtain ⟨z10, hz10⟩ : ∃ z : Int, z = gI σ1 1274 x0 ((400 * x1) + x2).toNat := ⟨_, rfl⟩
        rw [← hz10]
        replace h := h z10 hz10
        refine aw_aload_n dX12_fix_54 rfl rfl ?_
        refine aw_iload_n dX12_fix_55 rfl rfl ?_
        refine aw_iload dX12_fix_56 rfl ?_
        refine aw_aload_n dX12_fix_58 rfl rfl ?_
        refine aw_getA' rfl fk_1270 (by decide) lf_X12_226 dX12_fix_59 (LC.ne lc6 rfl rfl) ?_
        refine aw_iload_n dX12_fix_62 rfl rfl ?_
        refine aw_iaload (by decide) rfl dX12_fix_63 c7 (LC.lt lc6 rfl rfl c7x) ?_
        refine aw_invVi (M := MX12_fix) (ci := 12) [vI ((400 * x1) + x2), vI z10, vI (gI σ1 1270 x0 ((400 * x1) + x2).toNat)] rfl mo_X12_sumBounds rfl lm_X12_672 li_X12_sumBounds ls_X12_sumBounds (by decide +kernel) dX12_fix_64 rfl (Nat.le_of_ble_eq_true rfl) (ACi.mono (fun v12 σ11 h => ?_) h)
        refine aw_if_le (tgt := 73) dX12_fix_67 (by decide) (fun k13 => ?_) (fun k13 => ?_)
        · replace h := h.1 k13
          refine aw_aload_n dX12_fix_73 rfl rfl ?_
          refine aw_aload_n dX12_fix_74 rfl rfl ?_
          obtain ⟨lc14, h⟩ := h
          refine aw_getA' rfl fk_1268 (by decide) lf_X12_220 dX12_fix_75 (LC.ne lc14 rfl rfl) ?_
          refine aw_iload_n dX12_fix_78 rfl rfl ?_
          refine aw_iaload (by decide) rfl dX12_fix_79 c7 (LC.lt lc14 rfl rfl c7x) ?_
          refine aw_aload_n dX12_fix_80 rfl rfl ?_
          refine aw_iload_n dX12_fix_81 rfl rfl ?_
          refine aw_iload dX12_fix_82 rfl ?_
          refine aw_aload_n dX12_fix_84 rfl rfl ?_
          refine aw_getA' rfl fk_1270 (by decide) lf_X12_226 dX12_fix_85 (LC.ne lc14 rfl rfl) ?_
          refine aw_iload_n dX12_fix_88 rfl rfl ?_
          refine aw_iaload (by decide) rfl dX12_fix_89 c7 (LC.lt lc14 rfl rfl c7x) ?_
          refine aw_invVj (M := MX12_fix) (ci := 12) [vI ((400 * x1) + x2), vI z10, vI (gI σ11 1270 x0 ((400 * x1) + x2).toNat)] rfl mo_X12_due rfl lm_X12_675 li_X12_due ls_X12_due (by decide +kernel) dX12_fix_90 rfl (Nat.le_of_ble_eq_true rfl) (ACj.mono (fun v16 σ15 h => ?_) h)
          refine aw_aload_n dX12_fix_93 rfl rfl ?_
          obtain ⟨lc17, h⟩ := h
          refine aw_getA' rfl fk_1229 (by decide) lf_X12_101 dX12_fix_94 (LC.ne lc17 rfl rfl) ?_
          refine aw_iload dX12_fix_97 rfl ?_
          obtain ⟨⟨c18, c18x⟩, h⟩ := h
          refine aw_iaload (by decide) rfl dX12_fix_99 c18 (LC.lt lc17 rfl rfl c18x) ?_
          refine aw_invVv (M := MX12_fix) (ci := 12) [vI (gI σ11 1268 x0 ((400 * x1) + x2).toNat), vJ v16, vI (gI σ15 1229 x0 z10.toNat)] rfl mo_X12_put rfl lm_X12_704 li_X12_put ls_X12_put (by decide +kernel) dX12_fix_100 rfl (Nat.le_of_ble_eq_true rfl) (ACv.mono (fun σ19 h => ?_) h)
          refine aw_aload_n dX12_fix_103 rfl rfl ?_
          obtain ⟨lc20, h⟩ := h
          refine aw_getA' rfl fk_1272 (by decide) lf_X12_232 dX12_fix_104 (LC.ne lc20 rfl rfl) ?_
          refine aw_iload_n dX12_fix_107 rfl rfl ?_
          refine aw_iaload (by decide) rfl dX12_fix_108 c7 (LC.lt lc20 rfl rfl c7x) ?_
          refine aw_iconst (x := 3) dX12_fix_109 rfl ?_
          refine aw_icmp_ne (tgt := 120) dX12_fix_110 (by decide) (fun k21 => ?_) (fun k21 => ?_)
          · replace h := h.1 k21
            refine aw_iconst (x := 0) dX12_fix_120 rfl ?_
            exact aw_ireturn dX12_fix_121 rfl h
          · replace h := h.2 k21
            refine aw_aload_n dX12_fix_113 rfl rfl ?_
            refine aw_getA' rfl fk_1272 (by decide) lf_X12_232 dX12_fix_114 (LC.ne lc20 rfl rfl) ?_
            refine aw_iload_n dX12_fix_117 rfl rfl ?_
            refine aw_iconst (x := 0) dX12_fix_118 rfl ?_
            refine aw_iastore (by decide) rfl dX12_fix_119 c7 (LC.lt lc20 rfl rfl c7x) ?_
            refine aw_iconst (x := 0) dX12_fix_120 rfl ?_
            exact aw_ireturn dX12_fix_121 rfl h
        · replace h := h.2 k13
          refine aw_bipush (x := (-3)) dX12_fix_70 rfl ?_
          exact aw_ireturn dX12_fix_72 rfl h
      · replace h := h.2 k9
        refine aw_bipush (x := (-5)) dX12_fix_43 rfl ?_
        exact aw_ireturn dX12_fix_45 rfl h
    · replace h := h.2 k8
      refine aw_bipush (x := (-4)) dX12_fix_30 rfl ?_
      exact aw_ireturn dX12_fix_32 rfl h
  · replace h := h.2 k3
    refine aw_iconst (x := (-1)) dX12_fix_9 rfl ?_
    exact aw_ireturn dX12_fix_10 rfl h
set_option maxRecDepth 4000 in
theorem bk_X12_fresh_0 {g : GP} {l : Launch} {d : Nat} {σ : St} {Q : Option AV → St → Prop} {x0 : Nat} {x1 : Int}
    (h : ACi g l d MX12_isName [vR 12 (some x0)] σ (fun v2 σ1 => ACi g l d MX12_must [vR 12 (some x0), vI v2, vI 2] σ1 (fun v4 σ3 => ((¬ v4 = 0 → AW g l (d + 1) MX12_fresh 16 [some (vR 12 (some x0)), some (vI x1), some (vI 0)] [] σ3 Q) ∧ (v4 = 0 → Q (some (vI 0)) σ3))))) :
    AW g l (d + 1) MX12_fresh 0 [some (vR 12 (some x0)), some (vI x1), none] [] σ Q := by
  refine aw_aload_n dX12_fresh_0 rfl rfl ?_
  refine aw_aload_n dX12_fresh_1 rfl rfl ?_
  refine aw_invVi (M := MX12_fresh) (ci := 12) [] rfl mo_X12_isName rfl lm_X12_418 li_X12_isName ls_X12_isName (by decide +kernel) dX12_fresh_2 rfl (Nat.le_of_ble_eq_true rfl) (ACi.mono (fun v2 σ1 h => ?_) h)
  refine aw_iconst (x := 2) dX12_fresh_5 rfl ?_
  refine aw_invVi (M := MX12_fresh) (ci := 12) [vI v2, vI 2] rfl mo_X12_must rfl lm_X12_404 li_X12_must ls_X12_must (by decide +kernel) dX12_fresh_6 rfl (Nat.le_of_ble_eq_true rfl) (ACi.mono (fun v4 σ3 h => ?_) h)
  refine aw_if_ne (tgt := 14) dX12_fresh_9 (by decide) (fun k5 => ?_) (fun k5 => ?_)
  · replace h := h.1 k5
    refine aw_iconst (x := 0) dX12_fresh_14 rfl ?_
    refine aw_istore_n (L' := [some (vR 12 (some x0)), some (vI x1), some (vI 0)]) dX12_fresh_15 rfl (by decide) rfl ?_
    exact aw_fgt (L' := [some (vR 12 (some x0)), some (vI x1), some (vI 0)]) ⟨rfl, ⟨rfl, ⟨rfl, trivial⟩⟩⟩ h
  · replace h := h.2 k5
    refine aw_iconst (x := 0) dX12_fresh_12 rfl ?_
    exact aw_zreturn dX12_fresh_13 rfl (Or.inl rfl) h
set_option maxRecDepth 4000 in
theorem bk_X12_fresh_16 {g : GP} {l : Launch} {d : Nat} {σ : St} {Q : Option AV → St → Prop} {x0 : Nat} {x1 : Int} {x2 : Int}
    (h : LC 12 σ x0 ∧ R32 (20 * (gI σ 1253 x0 0)) ∧ R32 ((20 * (gI σ 1253 x0 0)) + (gI σ 1254 x0 0)) ∧ Bd ((20 * (gI σ 1253 x0 0)) + (gI σ 1254 x0 0)) 40 ∧ (((gI σ 1222 x0 ((20 * (gI σ 1253 x0 0)) + (gI σ 1254 x0 0)).toNat) ≤ x2 → (((gI σ 1256 x0 0) = 0 → AW g l (d + 1) MX12_fresh 96 [some (vR 12 (some x0)), some (vI x1), some (vI 0)] [] σ Q) ∧ (¬ (gI σ 1256 x0 0) = 0 → Bd x1 560 ∧ ((¬ (gJ σ 1238 x0 x1.toNat) = (gJ σ 1216 x0 0) → AW g l (d + 1) MX12_fresh 96 [some (vR 12 (some x0)), some (vI x1), some (vI 0)] [] σ Q) ∧ ((gJ σ 1238 x0 x1.toNat) = (gJ σ 1216 x0 0) → ACv g l d MX12_fault [vR 12 (some x0), vI 3] σ (fun σ9 => AW g l (d + 1) MX12_fresh 96 [some (vR 12 (some x0)), some (vI x1), some (vI 0)] [] σ9 Q)))))) ∧ (¬ (gI σ 1222 x0 ((20 * (gI σ 1253 x0 0)) + (gI σ 1254 x0 0)).toNat) ≤ x2 → ACi g l d MX12_field [vR 12 (some x0), vI (gI σ 1254 x0 0), vI x2] σ (fun v11 σ10 => ACi g l d MX12_told [vR 12 (some x0), vI v11, vJ (gJ σ10 1216 x0 0)] σ10 (fun v13 σ12 => ((v13 = 0 → R32 (x2 + 1) ∧ AW g l (d + 1) MX12_fresh 16 [some (vR 12 (some x0)), some (vI x1), some (vI (x2 + 1))] [] σ12 Q) ∧ (¬ v13 = 0 → ACv g l d MX12_fault [vR 12 (some x0), vI 3] σ12 (fun σ16 => R32 (x2 + 1) ∧ AW g l (d + 1) MX12_fresh 16 [some (vR 12 (some x0)), some (vI x1), some (vI (x2 + 1))] [] σ16 Q)))))))) :
    AW g l (d + 1) MX12_fresh 16 [some (vR 12 (some x0)), some (vI x1), some (vI x2)] [] σ Q := by
  refine aw_iload_n dX12_fresh_16 rfl rfl ?_
  refine aw_aload_n dX12_fresh_17 rfl rfl ?_
  obtain ⟨lc1, h⟩ := h
  refine aw_getA' rfl fk_1222 (by decide) lf_X12_80 dX12_fresh_18 (LC.ne lc1 rfl rfl) ?_
  refine aw_bipush (x := 20) dX12_fresh_21 rfl ?_
  refine aw_aload_n dX12_fresh_23 rfl rfl ?_
  refine aw_getI' rfl fk_1253 lf_X12_173 dX12_fresh_24 ?_
  obtain ⟨⟨c2, c2x⟩, h⟩ := h
  refine aw_imulc dX12_fresh_27 c2 c2x ?_
  refine aw_aload_n dX12_fresh_28 rfl rfl ?_
  refine aw_getI' rfl fk_1254 lf_X12_176 dX12_fresh_29 ?_
  obtain ⟨⟨c3, c3x⟩, h⟩ := h
  refine aw_iaddc dX12_fresh_32 c3 c3x ?_
  obtain ⟨⟨c4, c4x⟩, h⟩ := h
  refine aw_iaload (by decide) rfl dX12_fresh_33 c4 (LC.lt lc1 rfl rfl c4x) ?_
  refine aw_icmp_ge (tgt := 68) dX12_fresh_34 (by decide) (fun k5 => ?_) (fun k5 => ?_)
  · replace h := h.1 k5
    refine aw_aload_n dX12_fresh_68 rfl rfl ?_
    refine aw_getZ' rfl fk_1256 lf_X12_182 dX12_fresh_69 ?_
    refine aw_if_eq (tgt := 94) dX12_fresh_72 (by decide) (fun k6 => ?_) (fun k6 => ?_)
    · replace h := h.1 k6
      refine aw_iconst (x := 0) dX12_fresh_94 rfl ?_
      refine aw_istore_n (L' := [some (vR 12 (some x0)), some (vI x1), some (vI 0)]) dX12_fresh_95 rfl (by decide) rfl ?_
      exact aw_fgt (L' := [some (vR 12 (some x0)), some (vI x1), some (vI 0)]) ⟨rfl, ⟨rfl, ⟨rfl, trivial⟩⟩⟩ h
    · replace h := h.2 k6
      refine aw_aload_n dX12_fresh_75 rfl rfl ?_
      refine aw_getA' rfl fk_1238 (by decide) lf_X12_128 dX12_fresh_76 (LC.ne lc1 rfl rfl) ?_
      refine aw_iload_n dX12_fresh_79 rfl rfl ?_
      obtain ⟨⟨c7, c7x⟩, h⟩ := h
      refine aw_laload (by decide) rfl dX12_fresh_80 c7 (LC.lt lc1 rfl rfl c7x) ?_
      refine aw_aload_n dX12_fresh_81 rfl rfl ?_
      refine aw_getJ' rfl fk_1216 lf_X12_60 dX12_fresh_82 ?_
      refine aw_lcmp_ne (M := MX12_fresh) (tgt := 94) dX12_fresh_85 dX12_fresh_86 (by decide) (fun k8 => ?_) (fun k8 => ?_)
      · replace h := h.1 k8
        refine aw_iconst (x := 0) dX12_fresh_94 rfl ?_
        refine aw_istore_n (L' := [some (vR 12 (some x0)), some (vI x1), some (vI 0)]) dX12_fresh_95 rfl (by decide) rfl ?_
        exact aw_fgt (L' := [some (vR 12 (some x0)), some (vI x1), some (vI 0)]) ⟨rfl, ⟨rfl, ⟨rfl, trivial⟩⟩⟩ h
      · replace h := h.2 k8
        refine aw_aload_n dX12_fresh_89 rfl rfl ?_
        refine aw_iconst (x := 3) dX12_fresh_90 rfl ?_
        refine aw_invVv (M := MX12_fresh) (ci := 12) [vI 3] rfl mo_X12_fault rfl lm_X12_397 li_X12_fault ls_X12_fault (by decide +kernel) dX12_fresh_91 rfl (Nat.le_of_ble_eq_true rfl) (ACv.mono (fun σ9 h => ?_) h)
        refine aw_iconst (x := 0) dX12_fresh_94 rfl ?_
        refine aw_istore_n (L' := [some (vR 12 (some x0)), some (vI x1), some (vI 0)]) dX12_fresh_95 rfl (by decide) rfl ?_
        exact aw_fgt (L' := [some (vR 12 (some x0)), some (vI x1), some (vI 0)]) ⟨rfl, ⟨rfl, ⟨rfl, trivial⟩⟩⟩ h
  · replace h := h.2 k5
    refine aw_aload_n dX12_fresh_37 rfl rfl ?_
    refine aw_aload_n dX12_fresh_38 rfl rfl ?_
    refine aw_aload_n dX12_fresh_39 rfl rfl ?_
    refine aw_getI' rfl fk_1254 lf_X12_176 dX12_fresh_40 ?_
    refine aw_iload_n dX12_fresh_43 rfl rfl ?_
    refine aw_invVi (M := MX12_fresh) (ci := 12) [vI (gI σ 1254 x0 0), vI x2] rfl mo_X12_field rfl lm_X12_447 li_X12_field ls_X12_field (by decide +kernel) dX12_fresh_44 rfl (Nat.le_of_ble_eq_true rfl) (ACi.mono (fun v11 σ10 h => ?_) h)
    refine aw_aload_n dX12_fresh_47 rfl rfl ?_
    refine aw_getJ' rfl fk_1216 lf_X12_60 dX12_fresh_48 ?_
    refine aw_invVi (M := MX12_fresh) (ci := 12) [vI v11, vJ (gJ σ10 1216 x0 0)] rfl mo_X12_told rfl lm_X12_450 li_X12_told ls_X12_told (by decide +kernel) dX12_fresh_51 rfl (Nat.le_of_ble_eq_true rfl) (ACi.mono (fun v13 σ12 h => ?_) h)
    refine aw_if_eq (tgt := 62) dX12_fresh_54 (by decide) (fun k14 => ?_) (fun k14 => ?_)
    · replace h := h.1 k14
      obtain ⟨⟨c15, c15x⟩, h⟩ := h
      refine aw_iincc (L' := [some (vR 12 (some x0)), some (vI x1), some (vI (x2 + 1))]) dX12_fresh_62 rfl (by decide) rfl c15 c15x rfl ?_
      refine aw_goto (tgt := 16) dX12_fresh_65 (by decide) ?_
      exact aw_fgt (L' := [some (vR 12 (some x0)), some (vI x1), some (vI (x2 + 1))]) ⟨rfl, ⟨rfl, ⟨rfl, trivial⟩⟩⟩ h
    · replace h := h.2 k14
      refine aw_aload_n dX12_fresh_57 rfl rfl ?_
      refine aw_iconst (x := 3) dX12_fresh_58 rfl ?_
      refine aw_invVv (M := MX12_fresh) (ci := 12) [vI 3] rfl mo_X12_fault rfl lm_X12_397 li_X12_fault ls_X12_fault (by decide +kernel) dX12_fresh_59 rfl (Nat.le_of_ble_eq_true rfl) (ACv.mono (fun σ16 h => ?_) h)
      obtain ⟨⟨c17, c17x⟩, h⟩ := h
      refine aw_iincc (L' := [some (vR 12 (some x0)), some (vI x1), some (vI (x2 + 1))]) dX12_fresh_62 rfl (by decide) rfl c17 c17x rfl ?_
      refine aw_goto (tgt := 16) dX12_fresh_65 (by decide) ?_
      exact aw_fgt (L' := [some (vR 12 (some x0)), some (vI x1), some (vI (x2 + 1))]) ⟨rfl, ⟨rfl, ⟨rfl, trivial⟩⟩⟩ h
set_option maxRecDepth 4000 in
theorem bk_X12_fresh_96 {g : GP} {l : Launch} {d : Nat} {σ : St} {Q : Option AV → St → Prop} {x0 : Nat} {x1 : Int} {x2 : Int}
    (h : (((gI σ 1256 x0 0) = 0 → ((¬ (gI σ 1251 x0 0) = 0 → Q (some (vI 0)) σ) ∧ ((gI σ 1251 x0 0) = 0 → Q (some (vI 1)) σ))) ∧ (¬ (gI σ 1256 x0 0) = 0 → LC 12 σ x0 ∧ Bd x1 560 ∧ (((gI σ 1237 x0 x1.toNat) ≤ x2 → ((¬ (gI σ 1251 x0 0) = 0 → Q (some (vI 0)) σ) ∧ ((gI σ 1251 x0 0) = 0 → Q (some (vI 1)) σ))) ∧ (¬ (gI σ 1237 x0 x1.toNat) ≤ x2 → R32 (16 * x1) ∧ R32 ((16 * x1) + x2) ∧ Bd ((16 * x1) + x2) 8960 ∧ ((¬ (gJ σ 1239 x0 ((16 * x1) + x2).toNat) = (gJ σ 1216 x0 0) → R32 (x2 + 1) ∧ AW g l (d + 1) MX12_fresh 96 [some (vR 12 (some x0)), some (vI x1), some (vI (x2 + 1))] [] σ Q) ∧ ((gJ σ 1239 x0 ((16 * x1) + x2).toNat) = (gJ σ 1216 x0 0) → ACv g l d MX12_fault [vR 12 (some x0), vI 3] σ (fun σ12 => R32 (x2 + 1) ∧ AW g l (d + 1) MX12_fresh 96 [some (vR 12 (some x0)), some (vI x1), some (vI (x2 + 1))] [] σ12 Q)))))))) :
    AW g l (d + 1) MX12_fresh 96 [some (vR 12 (some x0)), some (vI x1), some (vI x2)] [] σ Q := by
  refine aw_aload_n dX12_fresh_96 rfl rfl ?_
  refine aw_getZ' rfl fk_1256 lf_X12_182 dX12_fresh_97 ?_
  refine aw_if_eq (tgt := 143) dX12_fresh_100 (by decide) (fun k1 => ?_) (fun k1 => ?_)
  · replace h := h.1 k1
    refine aw_aload_n dX12_fresh_143 rfl rfl ?_
    refine aw_getI' rfl fk_1251 lf_X12_167 dX12_fresh_144 ?_
    refine aw_if_ne (tgt := 154) dX12_fresh_147 (by decide) (fun k2 => ?_) (fun k2 => ?_)
    · replace h := h.1 k2
      refine aw_iconst (x := 0) dX12_fresh_154 rfl ?_
      exact aw_zreturn dX12_fresh_155 rfl (Or.inl rfl) h
    · replace h := h.2 k2
      refine aw_iconst (x := 1) dX12_fresh_150 rfl ?_
      refine aw_goto (tgt := 155) dX12_fresh_151 (by decide) ?_
      exact aw_zreturn dX12_fresh_155 rfl (Or.inr rfl) h
  · replace h := h.2 k1
    refine aw_iload_n dX12_fresh_103 rfl rfl ?_
    refine aw_aload_n dX12_fresh_104 rfl rfl ?_
    obtain ⟨lc3, h⟩ := h
    refine aw_getA' rfl fk_1237 (by decide) lf_X12_125 dX12_fresh_105 (LC.ne lc3 rfl rfl) ?_
    refine aw_iload_n dX12_fresh_108 rfl rfl ?_
    obtain ⟨⟨c4, c4x⟩, h⟩ := h
    refine aw_iaload (by decide) rfl dX12_fresh_109 c4 (LC.lt lc3 rfl rfl c4x) ?_
    refine aw_icmp_ge (tgt := 143) dX12_fresh_110 (by decide) (fun k5 => ?_) (fun k5 => ?_)
    · replace h := h.1 k5
      refine aw_aload_n dX12_fresh_143 rfl rfl ?_
      refine aw_getI' rfl fk_1251 lf_X12_167 dX12_fresh_144 ?_
      refine aw_if_ne (tgt := 154) dX12_fresh_147 (by decide) (fun k6 => ?_) (fun k6 => ?_)
      · replace h := h.1 k6
        refine aw_iconst (x := 0) dX12_fresh_154 rfl ?_
        exact aw_zreturn dX12_fresh_155 rfl (Or.inl rfl) h
      · replace h := h.2 k6
        refine aw_iconst (x := 1) dX12_fresh_150 rfl ?_
        refine aw_goto (tgt := 155) dX12_fresh_151 (by decide) ?_
        exact aw_zreturn dX12_fresh_155 rfl (Or.inr rfl) h
    · replace h := h.2 k5
      refine aw_aload_n dX12_fresh_113 rfl rfl ?_
      refine aw_getA' rfl fk_1239 (by decide) lf_X12_131 dX12_fresh_114 (LC.ne lc3 rfl rfl) ?_
      refine aw_bipush (x := 16) dX12_fresh_117 rfl ?_
      refine aw_iload_n dX12_fresh_119 rfl rfl ?_
      obtain ⟨⟨c7, c7x⟩, h⟩ := h
      refine aw_imulc dX12_fresh_120 c7 c7x ?_
      refine aw_iload_n dX12_fresh_121 rfl rfl ?_
      obtain ⟨⟨c8, c8x⟩, h⟩ := h
      refine aw_iaddc dX12_fresh_122 c8 c8x ?_
      obtain ⟨⟨c9, c9x⟩, h⟩ := h
      refine aw_laload (by decide) rfl dX12_fresh_123 c9 (LC.lt lc3 rfl rfl c9x) ?_
      refine aw_aload_n dX12_fresh_124 rfl rfl ?_
      refine aw_getJ' rfl fk_1216 lf_X12_60 dX12_fresh_125 ?_
      refine aw_lcmp_ne (M := MX12_fresh) (tgt := 137) dX12_fresh_128 dX12_fresh_129 (by decide) (fun k10 => ?_) (fun k10 => ?_)
      · replace h := h.1 k10
        obtain ⟨⟨c11, c11x⟩, h⟩ := h
        refine aw_iincc (L' := [some (vR 12 (some x0)), some (vI x1), some (vI (x2 + 1))]) dX12_fresh_137 rfl (by decide) rfl c11 c11x rfl ?_
        refine aw_goto (tgt := 96) dX12_fresh_140 (by decide) ?_
        exact aw_fgt (L' := [some (vR 12 (some x0)), some (vI x1), some (vI (x2 + 1))]) ⟨rfl, ⟨rfl, ⟨rfl, trivial⟩⟩⟩ h
      · replace h := h.2 k10
        refine aw_aload_n dX12_fresh_132 rfl rfl ?_
        refine aw_iconst (x := 3) dX12_fresh_133 rfl ?_
        refine aw_invVv (M := MX12_fresh) (ci := 12) [vI 3] rfl mo_X12_fault rfl lm_X12_397 li_X12_fault ls_X12_fault (by decide +kernel) dX12_fresh_134 rfl (Nat.le_of_ble_eq_true rfl) (ACv.mono (fun σ12 h => ?_) h)
        obtain ⟨⟨c13, c13x⟩, h⟩ := h
        refine aw_iincc (L' := [some (vR 12 (some x0)), some (vI x1), some (vI (x2 + 1))]) dX12_fresh_137 rfl (by decide) rfl c13 c13x rfl ?_
        refine aw_goto (tgt := 96) dX12_fresh_140 (by decide) ?_
        exact aw_fgt (L' := [some (vR 12 (some x0)), some (vI x1), some (vI (x2 + 1))]) ⟨rfl, ⟨rfl, ⟨rfl, trivial⟩⟩⟩ h
set_option maxRecDepth 4000 in
theorem bk_X12_gap_0 {g : GP} {l : Launch} {d : Nat} {σ : St} {Q : Option AV → St → Prop} {x0 : Nat} {x1 : Int} {x2 : Int} {x3 : Int}
    (h : ACi g l d MX12_isNode [vR 12 (some x0), vI x1, vI 0] σ (fun v2 σ1 => ((v2 = 0 → Q (some (vI (-1))) σ1) ∧ (¬ v2 = 0 → ((x2 < 0 → Q (some (vI (-1))) σ1) ∧ (¬ x2 < 0 → ((x3 < 0 → Q (some (vI (-1))) σ1) ∧ (¬ x3 < 0 → ((x3 ≤ 1 → AW g l (d + 1) MX12_gap 36 [some (vR 12 (some x0)), some (vI x1), none, some (vI x3), some (vI x2), some (vI 1), some (vI (-1)), some (vI 0), none] [] σ1 Q) ∧ (¬ x3 ≤ 1 → Q (some (vI (-1))) σ1)))))))))) :
    AW g l (d + 1) MX12_gap 0 [some (vR 12 (some x0)), some (vI x1), some (vI x2), some (vI x3), none, none, none, none, none] [] σ Q := by
  refine aw_aload_n dX12_gap_0 rfl rfl ?_
  refine aw_iload_n dX12_gap_1 rfl rfl ?_
  refine aw_iconst (x := 0) dX12_gap_2 rfl ?_
  refine aw_invVi (M := MX12_gap) (ci := 12) [vI x1, vI 0] rfl mo_X12_isNode rfl lm_X12_688 li_X12_isNode ls_X12_isNode (by decide +kernel) dX12_gap_3 rfl (Nat.le_of_ble_eq_true rfl) (ACi.mono (fun v2 σ1 h => ?_) h)
  refine aw_if_eq (tgt := 22) dX12_gap_6 (by decide) (fun k3 => ?_) (fun k3 => ?_)
  · replace h := h.1 k3
    refine aw_iconst (x := (-1)) dX12_gap_22 rfl ?_
    exact aw_ireturn dX12_gap_23 rfl h
  · replace h := h.2 k3
    refine aw_iload_n dX12_gap_9 rfl rfl ?_
    refine aw_if_lt (tgt := 22) dX12_gap_10 (by decide) (fun k4 => ?_) (fun k4 => ?_)
    · replace h := h.1 k4
      refine aw_iconst (x := (-1)) dX12_gap_22 rfl ?_
      exact aw_ireturn dX12_gap_23 rfl h
    · replace h := h.2 k4
      refine aw_iload_n dX12_gap_13 rfl rfl ?_
      refine aw_if_lt (tgt := 22) dX12_gap_14 (by decide) (fun k5 => ?_) (fun k5 => ?_)
      · replace h := h.1 k5
        refine aw_iconst (x := (-1)) dX12_gap_22 rfl ?_
        exact aw_ireturn dX12_gap_23 rfl h
      · replace h := h.2 k5
        refine aw_iload_n dX12_gap_17 rfl rfl ?_
        refine aw_iconst (x := 1) dX12_gap_18 rfl ?_
        refine aw_icmp_le (tgt := 24) dX12_gap_19 (by decide) (fun k6 => ?_) (fun k6 => ?_)
        · replace h := h.1 k6
          refine aw_iload_n dX12_gap_24 rfl rfl ?_
          refine aw_istore (L' := [some (vR 12 (some x0)), some (vI x1), some (vI x2), some (vI x3), some (vI x2), none, none, none, none]) dX12_gap_25 (by decide) rfl ?_
          refine aw_iconst (x := 1) dX12_gap_27 rfl ?_
          refine aw_istore (L' := [some (vR 12 (some x0)), some (vI x1), some (vI x2), some (vI x3), some (vI x2), some (vI 1), none, none, none]) dX12_gap_28 (by decide) rfl ?_
          refine aw_iconst (x := (-1)) dX12_gap_30 rfl ?_
          refine aw_istore (L' := [some (vR 12 (some x0)), some (vI x1), some (vI x2), some (vI x3), some (vI x2), some (vI 1), some (vI (-1)), none, none]) dX12_gap_31 (by decide) rfl ?_
          refine aw_iconst (x := 0) dX12_gap_33 rfl ?_
          refine aw_istore (L' := [some (vR 12 (some x0)), some (vI x1), some (vI x2), some (vI x3), some (vI x2), some (vI 1), some (vI (-1)), some (vI 0), none]) dX12_gap_34 (by decide) rfl ?_
          exact aw_fgt (L' := [some (vR 12 (some x0)), some (vI x1), none, some (vI x3), some (vI x2), some (vI 1), some (vI (-1)), some (vI 0), none]) ⟨rfl, ⟨rfl, ⟨rfl, ⟨rfl, ⟨rfl, ⟨rfl, ⟨rfl, trivial⟩⟩⟩⟩⟩⟩⟩ h
        · replace h := h.2 k6
          refine aw_iconst (x := (-1)) dX12_gap_22 rfl ?_
          exact aw_ireturn dX12_gap_23 rfl h
set_option maxRecDepth 4000 in
theorem bk_X12_gap_36 {g : GP} {l : Launch} {d : Nat} {σ : St} {Q : Option AV → St → Prop} {x0 : Nat} {x1 : Int} {x3 : Int} {x4 : Int} {x5 : Int} {x6 : Int} {x7 : Int}
    (h : LC 12 σ x0 ∧ Bd (gI σ 1281 x0 0) 6 ∧ (((gI σ 1201 x0 (gI σ 1281 x0 0).toNat) ≤ x7 → ((¬ x5 = 0 → Q (some (vI (-1))) σ) ∧ (x5 = 0 → ((¬ x6 = 0 → Q (some (vI (-1))) σ) ∧ (x6 = 0 → Q (some (vI (gI σ 1201 x0 (gI σ 1281 x0 0).toNat))) σ))))) ∧ (¬ (gI σ 1201 x0 (gI σ 1281 x0 0).toNat) ≤ x7 → ACi g l d MX12_isIn [vR 12 (some x0), vI x1, vI x7] σ (fun v7 σ6 => ((¬ v7 = 0 → AW g l (d + 1) MX12_gap 88 [some (vR 12 (some x0)), some (vI x1), none, some (vI x3), some (vI x4), some (vI x5), some (vI x6), some (vI x7), some (vI v7)] [] σ6 Q) ∧ (v7 = 0 → ((x5 = 0 → AW g l (d + 1) MX12_gap 88 [some (vR 12 (some x0)), some (vI x1), none, some (vI x3), some (vI x4), some (vI x5), some (vI x6), some (vI x7), some (vI v7)] [] σ6 Q) ∧ (¬ x5 = 0 → ((¬ x4 = 0 → R32 (x4 + (-1)) ∧ AW g l (d + 1) MX12_gap 88 [some (vR 12 (some x0)), some (vI x1), none, some (vI x3), some (vI (x4 + (-1))), some (vI x5), some (vI x4), some (vI x7), some (vI v7)] [] σ6 Q) ∧ (x4 = 0 → ((¬ x3 = 0 → R32 (x4 + (-1)) ∧ AW g l (d + 1) MX12_gap 88 [some (vR 12 (some x0)), some (vI x1), none, some (vI x3), some (vI (x4 + (-1))), some (vI x5), some (vI x4), some (vI x7), some (vI v7)] [] σ6 Q) ∧ (x3 = 0 → Q (some (vI x7)) σ6)))))))))))) :
    AW g l (d + 1) MX12_gap 36 [some (vR 12 (some x0)), some (vI x1), none, some (vI x3), some (vI x4), some (vI x5), some (vI x6), some (vI x7), none] [] σ Q := by
  refine aw_iload dX12_gap_36 rfl ?_
  refine aw_aload_n dX12_gap_38 rfl rfl ?_
  obtain ⟨lc1, h⟩ := h
  refine aw_getA' rfl fk_1201 (by decide) lf_X12_13 dX12_gap_39 (LC.ne lc1 rfl rfl) ?_
  refine aw_aload_n dX12_gap_42 rfl rfl ?_
  refine aw_getI' rfl fk_1281 lf_X12_259 dX12_gap_43 ?_
  obtain ⟨⟨c2, c2x⟩, h⟩ := h
  refine aw_iaload (by decide) rfl dX12_gap_46 c2 (LC.lt lc1 rfl rfl c2x) ?_
  refine aw_icmp_ge (tgt := 116) dX12_gap_47 (by decide) (fun k3 => ?_) (fun k3 => ?_)
  · replace h := h.1 k3
    refine aw_iload dX12_gap_116 rfl ?_
    refine aw_if_ne (tgt := 138) dX12_gap_118 (by decide) (fun k4 => ?_) (fun k4 => ?_)
    · replace h := h.1 k4
      refine aw_iconst (x := (-1)) dX12_gap_138 rfl ?_
      exact aw_ireturn dX12_gap_139 rfl h
    · replace h := h.2 k4
      refine aw_iload dX12_gap_121 rfl ?_
      refine aw_if_ne (tgt := 138) dX12_gap_123 (by decide) (fun k5 => ?_) (fun k5 => ?_)
      · replace h := h.1 k5
        refine aw_iconst (x := (-1)) dX12_gap_138 rfl ?_
        exact aw_ireturn dX12_gap_139 rfl h
      · replace h := h.2 k5
        refine aw_aload_n dX12_gap_126 rfl rfl ?_
        refine aw_getA' rfl fk_1201 (by decide) lf_X12_13 dX12_gap_127 (LC.ne lc1 rfl rfl) ?_
        refine aw_aload_n dX12_gap_130 rfl rfl ?_
        refine aw_getI' rfl fk_1281 lf_X12_259 dX12_gap_131 ?_
        refine aw_iaload (by decide) rfl dX12_gap_134 c2 (LC.lt lc1 rfl rfl c2x) ?_
        refine aw_goto (tgt := 139) dX12_gap_135 (by decide) ?_
        exact aw_ireturn dX12_gap_139 rfl h
  · replace h := h.2 k3
    refine aw_aload_n dX12_gap_50 rfl rfl ?_
    refine aw_iload_n dX12_gap_51 rfl rfl ?_
    refine aw_iload dX12_gap_52 rfl ?_
    refine aw_invVi (M := MX12_gap) (ci := 12) [vI x1, vI x7] rfl mo_X12_isIn rfl lm_X12_710 li_X12_isIn ls_X12_isIn (by decide +kernel) dX12_gap_54 rfl (Nat.le_of_ble_eq_true rfl) (ACi.mono (fun v7 σ6 h => ?_) h)
    refine aw_istore (L' := [some (vR 12 (some x0)), some (vI x1), none, some (vI x3), some (vI x4), some (vI x5), some (vI x6), some (vI x7), some (vI v7)]) dX12_gap_57 (by decide) rfl ?_
    refine aw_iload dX12_gap_59 rfl ?_
    refine aw_if_ne (tgt := 88) dX12_gap_61 (by decide) (fun k8 => ?_) (fun k8 => ?_)
    · replace h := h.1 k8
      exact aw_fgt (L' := [some (vR 12 (some x0)), some (vI x1), none, some (vI x3), some (vI x4), some (vI x5), some (vI x6), some (vI x7), some (vI v7)]) ⟨rfl, ⟨rfl, ⟨rfl, ⟨rfl, ⟨rfl, ⟨rfl, ⟨rfl, ⟨rfl, trivial⟩⟩⟩⟩⟩⟩⟩⟩ h
    · replace h := h.2 k8
      refine aw_iload dX12_gap_64 rfl ?_
      refine aw_if_eq (tgt := 88) dX12_gap_66 (by decide) (fun k9 => ?_) (fun k9 => ?_)
      · replace h := h.1 k9
        exact aw_fgt (L' := [some (vR 12 (some x0)), some (vI x1), none, some (vI x3), some (vI x4), some (vI x5), some (vI x6), some (vI x7), some (vI v7)]) ⟨rfl, ⟨rfl, ⟨rfl, ⟨rfl, ⟨rfl, ⟨rfl, ⟨rfl, ⟨rfl, trivial⟩⟩⟩⟩⟩⟩⟩⟩ h
      · replace h := h.2 k9
        refine aw_iload dX12_gap_69 rfl ?_
        refine aw_if_ne (tgt := 81) dX12_gap_71 (by decide) (fun k10 => ?_) (fun k10 => ?_)
        · replace h := h.1 k10
          refine aw_iload dX12_gap_81 rfl ?_
          refine aw_istore (L' := [some (vR 12 (some x0)), some (vI x1), none, some (vI x3), some (vI x4), some (vI x5), some (vI x4), some (vI x7), some (vI v7)]) dX12_gap_83 (by decide) rfl ?_
          obtain ⟨⟨c11, c11x⟩, h⟩ := h
          refine aw_iincc (L' := [some (vR 12 (some x0)), some (vI x1), none, some (vI x3), some (vI (x4 + (-1))), some (vI x5), some (vI x4), some (vI x7), some (vI v7)]) dX12_gap_85 rfl (by decide) rfl c11 c11x rfl ?_
          exact aw_fgt (L' := [some (vR 12 (some x0)), some (vI x1), none, some (vI x3), some (vI (x4 + (-1))), some (vI x5), some (vI x4), some (vI x7), some (vI v7)]) ⟨rfl, ⟨rfl, ⟨rfl, ⟨rfl, ⟨rfl, ⟨rfl, ⟨rfl, ⟨rfl, trivial⟩⟩⟩⟩⟩⟩⟩⟩ h
        · replace h := h.2 k10
          refine aw_iload_n dX12_gap_74 rfl rfl ?_
          refine aw_if_ne (tgt := 81) dX12_gap_75 (by decide) (fun k12 => ?_) (fun k12 => ?_)
          · replace h := h.1 k12
            refine aw_iload dX12_gap_81 rfl ?_
            refine aw_istore (L' := [some (vR 12 (some x0)), some (vI x1), none, some (vI x3), some (vI x4), some (vI x5), some (vI x4), some (vI x7), some (vI v7)]) dX12_gap_83 (by decide) rfl ?_
            obtain ⟨⟨c13, c13x⟩, h⟩ := h
            refine aw_iincc (L' := [some (vR 12 (some x0)), some (vI x1), none, some (vI x3), some (vI (x4 + (-1))), some (vI x5), some (vI x4), some (vI x7), some (vI v7)]) dX12_gap_85 rfl (by decide) rfl c13 c13x rfl ?_
            exact aw_fgt (L' := [some (vR 12 (some x0)), some (vI x1), none, some (vI x3), some (vI (x4 + (-1))), some (vI x5), some (vI x4), some (vI x7), some (vI v7)]) ⟨rfl, ⟨rfl, ⟨rfl, ⟨rfl, ⟨rfl, ⟨rfl, ⟨rfl, ⟨rfl, trivial⟩⟩⟩⟩⟩⟩⟩⟩ h
          · replace h := h.2 k12
            refine aw_iload dX12_gap_78 rfl ?_
            exact aw_ireturn dX12_gap_80 rfl h
set_option maxRecDepth 4000 in
theorem bk_X12_gap_88 {g : GP} {l : Launch} {d : Nat} {σ : St} {Q : Option AV → St → Prop} {x0 : Nat} {x1 : Int} {x3 : Int} {x4 : Int} {x5 : Int} {x6 : Int} {x7 : Int} {x8 : Int}
    (h : ((x8 = 0 → R32 (x7 + 1) ∧ AW g l (d + 1) MX12_gap 36 [some (vR 12 (some x0)), some (vI x1), none, some (vI x3), some (vI x4), some (vI x8), some (vI x6), some (vI (x7 + 1)), none] [] σ Q) ∧ (¬ x8 = 0 → ((¬ x5 = 0 → R32 (x7 + 1) ∧ AW g l (d + 1) MX12_gap 36 [some (vR 12 (some x0)), some (vI x1), none, some (vI x3), some (vI x4), some (vI x8), some (vI x6), some (vI (x7 + 1)), none] [] σ Q) ∧ (x5 = 0 → ((¬ x6 = 0 → R32 (x7 + 1) ∧ AW g l (d + 1) MX12_gap 36 [some (vR 12 (some x0)), some (vI x1), none, some (vI x3), some (vI x4), some (vI x8), some (vI x6), some (vI (x7 + 1)), none] [] σ Q) ∧ (x6 = 0 → Q (some (vI x7)) σ))))))) :
    AW g l (d + 1) MX12_gap 88 [some (vR 12 (some x0)), some (vI x1), none, some (vI x3), some (vI x4), some (vI x5), some (vI x6), some (vI x7), some (vI x8)] [] σ Q := by
  refine aw_iload dX12_gap_88 rfl ?_
  refine aw_if_eq (tgt := 106) dX12_gap_90 (by decide) (fun k1 => ?_) (fun k1 => ?_)
  · replace h := h.1 k1
    refine aw_iload dX12_gap_106 rfl ?_
    refine aw_istore (L' := [some (vR 12 (some x0)), some (vI x1), none, some (vI x3), some (vI x4), some (vI x8), some (vI x6), some (vI x7), some (vI x8)]) dX12_gap_108 (by decide) rfl ?_
    obtain ⟨⟨c2, c2x⟩, h⟩ := h
    refine aw_iincc (L' := [some (vR 12 (some x0)), some (vI x1), none, some (vI x3), some (vI x4), some (vI x8), some (vI x6), some (vI (x7 + 1)), some (vI x8)]) dX12_gap_110 rfl (by decide) rfl c2 c2x rfl ?_
    refine aw_goto (tgt := 36) dX12_gap_113 (by decide) ?_
    exact aw_fgt (L' := [some (vR 12 (some x0)), some (vI x1), none, some (vI x3), some (vI x4), some (vI x8), some (vI x6), some (vI (x7 + 1)), none]) ⟨rfl, ⟨rfl, ⟨rfl, ⟨rfl, ⟨rfl, ⟨rfl, ⟨rfl, trivial⟩⟩⟩⟩⟩⟩⟩ h
  · replace h := h.2 k1
    refine aw_iload dX12_gap_93 rfl ?_
    refine aw_if_ne (tgt := 106) dX12_gap_95 (by decide) (fun k3 => ?_) (fun k3 => ?_)
    · replace h := h.1 k3
      refine aw_iload dX12_gap_106 rfl ?_
      refine aw_istore (L' := [some (vR 12 (some x0)), some (vI x1), none, some (vI x3), some (vI x4), some (vI x8), some (vI x6), some (vI x7), some (vI x8)]) dX12_gap_108 (by decide) rfl ?_
      obtain ⟨⟨c4, c4x⟩, h⟩ := h
      refine aw_iincc (L' := [some (vR 12 (some x0)), some (vI x1), none, some (vI x3), some (vI x4), some (vI x8), some (vI x6), some (vI (x7 + 1)), some (vI x8)]) dX12_gap_110 rfl (by decide) rfl c4 c4x rfl ?_
      refine aw_goto (tgt := 36) dX12_gap_113 (by decide) ?_
      exact aw_fgt (L' := [some (vR 12 (some x0)), some (vI x1), none, some (vI x3), some (vI x4), some (vI x8), some (vI x6), some (vI (x7 + 1)), none]) ⟨rfl, ⟨rfl, ⟨rfl, ⟨rfl, ⟨rfl, ⟨rfl, ⟨rfl, trivial⟩⟩⟩⟩⟩⟩⟩ h
    · replace h := h.2 k3
      refine aw_iload dX12_gap_98 rfl ?_
      refine aw_if_ne (tgt := 106) dX12_gap_100 (by decide) (fun k5 => ?_) (fun k5 => ?_)
      · replace h := h.1 k5
        refine aw_iload dX12_gap_106 rfl ?_
        refine aw_istore (L' := [some (vR 12 (some x0)), some (vI x1), none, some (vI x3), some (vI x4), some (vI x8), some (vI x6), some (vI x7), some (vI x8)]) dX12_gap_108 (by decide) rfl ?_
        obtain ⟨⟨c6, c6x⟩, h⟩ := h
        refine aw_iincc (L' := [some (vR 12 (some x0)), some (vI x1), none, some (vI x3), some (vI x4), some (vI x8), some (vI x6), some (vI (x7 + 1)), some (vI x8)]) dX12_gap_110 rfl (by decide) rfl c6 c6x rfl ?_
        refine aw_goto (tgt := 36) dX12_gap_113 (by decide) ?_
        exact aw_fgt (L' := [some (vR 12 (some x0)), some (vI x1), none, some (vI x3), some (vI x4), some (vI x8), some (vI x6), some (vI (x7 + 1)), none]) ⟨rfl, ⟨rfl, ⟨rfl, ⟨rfl, ⟨rfl, ⟨rfl, ⟨rfl, trivial⟩⟩⟩⟩⟩⟩⟩ h
      · replace h := h.2 k5
        refine aw_iload dX12_gap_103 rfl ?_
        exact aw_ireturn dX12_gap_105 rfl h
set_option maxRecDepth 4000 in
theorem bk_X12_goesOn_0 {g : GP} {l : Launch} {d : Nat} {σ : St} {Q : Option AV → St → Prop} {x0 : Nat}
    (h : ACi g l d MX12_isSign [vR 12 (some x0), vI 41] σ (fun v2 σ1 => ((v2 = 0 → AW g l (d + 1) MX12_goesOn 54 [some (vR 12 (some x0)), none, none] [] σ1 Q) ∧ (¬ v2 = 0 → ACi g l d MX12_isOpen [vR 12 (some x0)] σ1 (fun v5 σ4 => ((v5 = 0 → AW g l (d + 1) MX12_goesOn 54 [some (vR 12 (some x0)), none, none] [] σ4 Q) ∧ (¬ v5 = 0 → ACv g l d MX12_joinAll [vR 12 (some x0), vI 1] σ4 (fun σ7 => R32 ((gI σ7 1260 x0 0) - 1) ∧ R32 ((gI σ7 1255 x0 0) - 1) ∧ ACv g l d MX12_next [vR 12 (some x0)] (sI (sI σ7 1260 x0 0 ((gI σ7 1260 x0 0) - 1)) 1255 x0 0 ((gI σ7 1255 x0 0) - 1)) (fun σ10 => ACv g l d MX12_joinAll [vR 12 (some x0), vI 6] σ10 (fun σ11 => AW g l (d + 1) MX12_goesOn 0 [some (vR 12 (some x0)), none, none] [] σ11 Q)))))))))) :
    AW g l (d + 1) MX12_goesOn 0 [some (vR 12 (some x0)), none, none] [] σ Q := by
  refine aw_aload_n dX12_goesOn_0 rfl rfl ?_
  refine aw_bipush (x := 41) dX12_goesOn_1 rfl ?_
  refine aw_invVi (M := MX12_goesOn) (ci := 12) [vI 41] rfl mo_X12_isSign rfl lm_X12_401 li_X12_isSign ls_X12_isSign (by decide +kernel) dX12_goesOn_3 rfl (Nat.le_of_ble_eq_true rfl) (ACi.mono (fun v2 σ1 h => ?_) h)
  refine aw_if_eq (tgt := 54) dX12_goesOn_6 (by decide) (fun k3 => ?_) (fun k3 => ?_)
  · replace h := h.1 k3
    exact aw_fgt (L' := [some (vR 12 (some x0)), none, none]) ⟨rfl, trivial⟩ h
  · replace h := h.2 k3
    refine aw_aload_n dX12_goesOn_9 rfl rfl ?_
    refine aw_invVi (M := MX12_goesOn) (ci := 12) [] rfl mo_X12_isOpen rfl lm_X12_548 li_X12_isOpen ls_X12_isOpen (by decide +kernel) dX12_goesOn_10 rfl (Nat.le_of_ble_eq_true rfl) (ACi.mono (fun v5 σ4 h => ?_) h)
    refine aw_if_eq (tgt := 54) dX12_goesOn_13 (by decide) (fun k6 => ?_) (fun k6 => ?_)
    · replace h := h.1 k6
      exact aw_fgt (L' := [some (vR 12 (some x0)), none, none]) ⟨rfl, trivial⟩ h
    · replace h := h.2 k6
      refine aw_aload_n dX12_goesOn_16 rfl rfl ?_
      refine aw_iconst (x := 1) dX12_goesOn_17 rfl ?_
      refine aw_invVv (M := MX12_goesOn) (ci := 12) [vI 1] rfl mo_X12_joinAll rfl lm_X12_542 li_X12_joinAll ls_X12_joinAll (by decide +kernel) dX12_goesOn_18 rfl (Nat.le_of_ble_eq_true rfl) (ACv.mono (fun σ7 h => ?_) h)
      refine aw_aload_n dX12_goesOn_21 rfl rfl ?_
      refine aw_dup dX12_goesOn_22 rfl ?_
      refine aw_getI' rfl fk_1260 lf_X12_195 dX12_goesOn_23 ?_
      refine aw_iconst (x := 1) dX12_goesOn_26 rfl ?_
      obtain ⟨⟨c8, c8x⟩, h⟩ := h
      refine aw_isubc dX12_goesOn_27 c8 c8x ?_
      refine aw_putI' rfl fk_1260 (Or.inl rfl) lf_X12_195 dX12_goesOn_28 ?_
      refine aw_aload_n dX12_goesOn_31 rfl rfl ?_
      refine aw_dup dX12_goesOn_32 rfl ?_
      refine aw_getIe (v := gI σ7 1255 x0 0) rfl fk_1255 lf_X12_179 dX12_goesOn_33 rfl ?_
      refine aw_iconst (x := 1) dX12_goesOn_36 rfl ?_
      obtain ⟨⟨c9, c9x⟩, h⟩ := h
      refine aw_isubc dX12_goesOn_37 c9 c9x ?_
      refine aw_putI' rfl fk_1255 (Or.inl rfl) lf_X12_179 dX12_goesOn_38 ?_
      refine aw_aload_n dX12_goesOn_41 rfl rfl ?_
      refine aw_invVv (M := MX12_goesOn) (ci := 12) [] rfl mo_X12_next rfl lm_X12_408 li_X12_next ls_X12_next (by decide +kernel) dX12_goesOn_42 rfl (Nat.le_of_ble_eq_true rfl) (ACv.mono (fun σ10 h => ?_) h)
      refine aw_aload_n dX12_goesOn_45 rfl rfl ?_
      refine aw_bipush (x := 6) dX12_goesOn_46 rfl ?_
      refine aw_invVv (M := MX12_goesOn) (ci := 12) [vI 6] rfl mo_X12_joinAll rfl lm_X12_542 li_X12_joinAll ls_X12_joinAll (by decide +kernel) dX12_goesOn_48 rfl (Nat.le_of_ble_eq_true rfl) (ACv.mono (fun σ11 h => ?_) h)
      refine aw_goto (tgt := 0) dX12_goesOn_51 (by decide) ?_
      exact aw_fgt (L' := [some (vR 12 (some x0)), none, none]) ⟨rfl, trivial⟩ h
set_option maxRecDepth 4000 in
theorem bk_X12_goesOn_54 {g : GP} {l : Launch} {d : Nat} {σ : St} {Q : Option AV → St → Prop} {x0 : Nat}
    (h : ACi g l d MX12_operator [vR 12 (some x0)] σ (fun v2 σ1 => ((¬ v2 = (-1) → ACi g l d MX12_strength [vR 12 (some x0), vI v2] σ1 (fun v5 σ4 => ((¬ v5 = 3 → AW g l (d + 1) MX12_goesOn 83 [some (vR 12 (some x0)), some (vI v2), some (vI v5)] [vI v5, vR 12 (some x0)] σ4 Q) ∧ (v5 = 3 → AW g l (d + 1) MX12_goesOn 83 [some (vR 12 (some x0)), some (vI v2), some (vI v5)] [vI 4, vR 12 (some x0)] σ4 Q)))) ∧ (v2 = (-1) → Q (some (vI 0)) σ1)))) :
    AW g l (d + 1) MX12_goesOn 54 [some (vR 12 (some x0)), none, none] [] σ Q := by
  refine aw_aload_n dX12_goesOn_54 rfl rfl ?_
  refine aw_invVi (M := MX12_goesOn) (ci := 12) [] rfl mo_X12_operator rfl lm_X12_551 li_X12_operator ls_X12_operator (by decide +kernel) dX12_goesOn_55 rfl (Nat.le_of_ble_eq_true rfl) (ACi.mono (fun v2 σ1 h => ?_) h)
  refine aw_istore_n (L' := [some (vR 12 (some x0)), some (vI v2), none]) dX12_goesOn_58 rfl (by decide) rfl ?_
  refine aw_iload_n dX12_goesOn_59 rfl rfl ?_
  refine aw_iconst (x := (-1)) dX12_goesOn_60 rfl ?_
  refine aw_icmp_ne (tgt := 66) dX12_goesOn_61 (by decide) (fun k3 => ?_) (fun k3 => ?_)
  · replace h := h.1 k3
    refine aw_aload_n dX12_goesOn_66 rfl rfl ?_
    refine aw_iload_n dX12_goesOn_67 rfl rfl ?_
    refine aw_invVi (M := MX12_goesOn) (ci := 12) [vI v2] rfl mo_X12_strength rfl lm_X12_526 li_X12_strength ls_X12_strength (by decide +kernel) dX12_goesOn_68 rfl (Nat.le_of_ble_eq_true rfl) (ACi.mono (fun v5 σ4 h => ?_) h)
    refine aw_istore_n (L' := [some (vR 12 (some x0)), some (vI v2), some (vI v5)]) dX12_goesOn_71 rfl (by decide) rfl ?_
    refine aw_aload_n dX12_goesOn_72 rfl rfl ?_
    refine aw_iload_n dX12_goesOn_73 rfl rfl ?_
    refine aw_iconst (x := 3) dX12_goesOn_74 rfl ?_
    refine aw_icmp_ne (tgt := 82) dX12_goesOn_75 (by decide) (fun k6 => ?_) (fun k6 => ?_)
    · replace h := h.1 k6
      refine aw_iload_n dX12_goesOn_82 rfl rfl ?_
      exact aw_fgt (L' := [some (vR 12 (some x0)), some (vI v2), some (vI v5)]) ⟨rfl, ⟨rfl, ⟨rfl, trivial⟩⟩⟩ h
    · replace h := h.2 k6
      refine aw_iconst (x := 4) dX12_goesOn_78 rfl ?_
      refine aw_goto (tgt := 83) dX12_goesOn_79 (by decide) ?_
      exact aw_fgt (L' := [some (vR 12 (some x0)), some (vI v2), some (vI v5)]) ⟨rfl, ⟨rfl, ⟨rfl, trivial⟩⟩⟩ h
  · replace h := h.2 k3
    refine aw_iconst (x := 0) dX12_goesOn_64 rfl ?_
    exact aw_zreturn dX12_goesOn_65 rfl (Or.inl rfl) h
set_option maxRecDepth 4000 in
theorem bk_X12_goesOn_83 {g : GP} {l : Launch} {d : Nat} {σ : St} {Q : Option AV → St → Prop} {x0 : Nat} {x1 : Int} {x2 : Int} {y0 : Int} {y1 : Option Nat}
    (h : ∃ r1, y1 = some r1 ∧ ACv g l d MX12_joinAll [vR 12 (some r1), vI y0] σ (fun σ3 => ((¬ x2 = 3 → AW g l (d + 1) MX12_goesOn 119 [some (vR 12 (some x0)), some (vI x1), none] [] σ3 Q) ∧ (x2 = 3 → (((gI σ3 1260 x0 0) ≤ 0 → AW g l (d + 1) MX12_goesOn 119 [some (vR 12 (some x0)), some (vI x1), none] [] σ3 Q) ∧ (¬ (gI σ3 1260 x0 0) ≤ 0 → LC 12 σ3 x0 ∧ R32 ((gI σ3 1260 x0 0) - 1) ∧ Bd ((gI σ3 1260 x0 0) - 1) 128 ∧ ACi g l d MX12_strength [vR 12 (some x0), vI (gI σ3 1258 x0 ((gI σ3 1260 x0 0) - 1).toNat)] σ3 (fun v10 σ9 => ((¬ v10 = 3 → AW g l (d + 1) MX12_goesOn 119 [some (vR 12 (some x0)), some (vI x1), none] [] σ9 Q) ∧ (v10 = 3 → Q (some (vI 0)) σ9))))))))) :
    AW g l (d + 1) MX12_goesOn 83 [some (vR 12 (some x0)), some (vI x1), some (vI x2)] [vI y0, vR 12 y1] σ Q := by
  obtain ⟨r1, e2, h⟩ := h
  refine aw_invVv (M := MX12_goesOn) (ci := 12) [vI y0] e2 mo_X12_joinAll rfl lm_X12_542 li_X12_joinAll ls_X12_joinAll (by decide +kernel) dX12_goesOn_83 rfl (Nat.le_of_ble_eq_true rfl) (ACv.mono (fun σ3 h => ?_) h)
  refine aw_iload_n dX12_goesOn_86 rfl rfl ?_
  refine aw_iconst (x := 3) dX12_goesOn_87 rfl ?_
  refine aw_icmp_ne (tgt := 119) dX12_goesOn_88 (by decide) (fun k4 => ?_) (fun k4 => ?_)
  · replace h := h.1 k4
    exact aw_fgt (L' := [some (vR 12 (some x0)), some (vI x1), none]) ⟨rfl, ⟨rfl, trivial⟩⟩ h
  · replace h := h.2 k4
    refine aw_aload_n dX12_goesOn_91 rfl rfl ?_
    refine aw_getI' rfl fk_1260 lf_X12_195 dX12_goesOn_92 ?_
    refine aw_if_le (tgt := 119) dX12_goesOn_95 (by decide) (fun k5 => ?_) (fun k5 => ?_)
    · replace h := h.1 k5
      exact aw_fgt (L' := [some (vR 12 (some x0)), some (vI x1), none]) ⟨rfl, ⟨rfl, trivial⟩⟩ h
    · replace h := h.2 k5
      refine aw_aload_n dX12_goesOn_98 rfl rfl ?_
      refine aw_aload_n dX12_goesOn_99 rfl rfl ?_
      obtain ⟨lc6, h⟩ := h
      refine aw_getA' rfl fk_1258 (by decide) lf_X12_189 dX12_goesOn_100 (LC.ne lc6 rfl rfl) ?_
      refine aw_aload_n dX12_goesOn_103 rfl rfl ?_
      refine aw_getI' rfl fk_1260 lf_X12_195 dX12_goesOn_104 ?_
      refine aw_iconst (x := 1) dX12_goesOn_107 rfl ?_
      obtain ⟨⟨c7, c7x⟩, h⟩ := h
      refine aw_isubc dX12_goesOn_108 c7 c7x ?_
      obtain ⟨⟨c8, c8x⟩, h⟩ := h
      refine aw_iaload (by decide) rfl dX12_goesOn_109 c8 (LC.lt lc6 rfl rfl c8x) ?_
      refine aw_invVi (M := MX12_goesOn) (ci := 12) [vI (gI σ3 1258 x0 ((gI σ3 1260 x0 0) - 1).toNat)] rfl mo_X12_strength rfl lm_X12_526 li_X12_strength ls_X12_strength (by decide +kernel) dX12_goesOn_110 rfl (Nat.le_of_ble_eq_true rfl) (ACi.mono (fun v10 σ9 h => ?_) h)
      refine aw_iconst (x := 3) dX12_goesOn_113 rfl ?_
      refine aw_icmp_ne (tgt := 119) dX12_goesOn_114 (by decide) (fun k11 => ?_) (fun k11 => ?_)
      · replace h := h.1 k11
        exact aw_fgt (L' := [some (vR 12 (some x0)), some (vI x1), none]) ⟨rfl, ⟨rfl, trivial⟩⟩ h
      · replace h := h.2 k11
        refine aw_iconst (x := 0) dX12_goesOn_117 rfl ?_
        exact aw_zreturn dX12_goesOn_118 rfl (Or.inl rfl) h
set_option maxRecDepth 4000 in
theorem bk_X12_goesOn_119 {g : GP} {l : Launch} {d : Nat} {σ : St} {Q : Option AV → St → Prop} {x0 : Nat} {x1 : Int}
    (h : LC 12 σ x0 ∧ Bd (gI σ 1260 x0 0) 128 ∧ R32 ((gI σ 1260 x0 0) + 1) ∧ ACv g l d MX12_next [vR 12 (some x0)] (sI (sI σ 1258 x0 (gI σ 1260 x0 0).toNat x1) 1260 x0 0 ((gI σ 1260 x0 0) + 1)) (fun σ4 => Q (some (vI 1)) σ4)) :
    AW g l (d + 1) MX12_goesOn 119 [some (vR 12 (some x0)), some (vI x1), none] [] σ Q := by
  refine aw_aload_n dX12_goesOn_119 rfl rfl ?_
  obtain ⟨lc1, h⟩ := h
  refine aw_getA' rfl fk_1258 (by decide) lf_X12_189 dX12_goesOn_120 (LC.ne lc1 rfl rfl) ?_
  refine aw_aload_n dX12_goesOn_123 rfl rfl ?_
  refine aw_getI' rfl fk_1260 lf_X12_195 dX12_goesOn_124 ?_
  refine aw_iload_n dX12_goesOn_127 rfl rfl ?_
  obtain ⟨⟨c2, c2x⟩, h⟩ := h
  refine aw_iastore (by decide) rfl dX12_goesOn_128 c2 (LC.lt lc1 rfl rfl c2x) ?_
  refine aw_aload_n dX12_goesOn_129 rfl rfl ?_
  refine aw_dup dX12_goesOn_130 rfl ?_
  refine aw_getIe (v := gI σ 1260 x0 0) rfl fk_1260 lf_X12_195 dX12_goesOn_131 rfl ?_
  refine aw_iconst (x := 1) dX12_goesOn_134 rfl ?_
  obtain ⟨⟨c3, c3x⟩, h⟩ := h
  refine aw_iaddc dX12_goesOn_135 c3 c3x ?_
  refine aw_putI' rfl fk_1260 (Or.inl rfl) lf_X12_195 dX12_goesOn_136 ?_
  refine aw_aload_n dX12_goesOn_139 rfl rfl ?_
  refine aw_invVv (M := MX12_goesOn) (ci := 12) [] rfl mo_X12_next rfl lm_X12_408 li_X12_next ls_X12_next (by decide +kernel) dX12_goesOn_140 rfl (Nat.le_of_ble_eq_true rfl) (ACv.mono (fun σ4 h => ?_) h)
  refine aw_iconst (x := 1) dX12_goesOn_143 rfl ?_
  exact aw_zreturn dX12_goesOn_144 rfl (Or.inr rfl) h
set_option maxRecDepth 4000 in
theorem bk_X12_has_0 {g : GP} {l : Launch} {d : Nat} {σ : St} {Q : Option AV → St → Prop} {x0 : Nat} {x1 : Int} {x2 : Int}
    (h : LC 12 σ x0 ∧ Bd x1 6 ∧ R32 ((gI σ 1202 x0 x1.toNat) - 1) ∧ ∀ z4 : Int, z4 = (gI σ 1202 x0 x1.toNat) - 1 → AW g l (d + 1) MX12_has 9 [some (vR 12 (some x0)), some (vI x1), some (vI x2), some (vI z4)] [] σ Q) :
    AW g l (d + 1) MX12_has 0 [some (vR 12 (some x0)), some (vI x1), some (vI x2), none] [] σ Q := by
  refine aw_aload_n dX12_has_0 rfl rfl ?_
  obtain ⟨lc1, h⟩ := h
  refine aw_getA' rfl fk_1202 (by decide) lf_X12_17 dX12_has_1 (LC.ne lc1 rfl rfl) ?_
  refine aw_iload_n dX12_has_4 rfl rfl ?_
  obtain ⟨⟨c2, c2x⟩, h⟩ := h
  refine aw_iaload (by decide) rfl dX12_has_5 c2 (LC.lt lc1 rfl rfl c2x) ?_
  refine aw_iconst (x := 1) dX12_has_6 rfl ?_
  obtain ⟨⟨c3, c3x⟩, h⟩ := h
  refine aw_isubc dX12_has_7 c3 c3x ?_
  refine aw_istore_n (L' := [some (vR 12 (some x0)), some (vI x1), some (vI x2), some (vI ((gI σ 1202 x0 x1.toNat) - 1))]) dX12_has_8 rfl (by decide) rfl ?_
  obtain ⟨z4, hz4⟩ : ∃ z : Int, z = (gI σ 1202 x0 x1.toNat) - 1 := ⟨_, rfl⟩
  rw [← hz4]
  replace h := h z4 hz4
  exact aw_fgt (L' := [some (vR 12 (some x0)), some (vI x1), some (vI x2), some (vI z4)]) ⟨rfl, ⟨rfl, ⟨rfl, ⟨rfl, trivial⟩⟩⟩⟩ h
set_option maxRecDepth 4000 in
theorem bk_X12_has_9 {g : GP} {l : Launch} {d : Nat} {σ : St} {Q : Option AV → St → Prop} {x0 : Nat} {x1 : Int} {x2 : Int} {x3 : Int}
    (h : ((x3 < 0 → LC 12 σ x0 ∧ R32 (2000 * x1) ∧ R32 ((2000 * x1) + x2) ∧ Bd ((2000 * x1) + x2) 12000 ∧ Q (some (vI (gI σ 1203 x0 ((2000 * x1) + x2).toNat))) σ) ∧ (¬ x3 < 0 → LC 12 σ x0 ∧ ACi g l d MX12_cell [vR 12 (some x0), vI x1, vI x3, vI x2] σ (fun v8 σ7 => LC 12 σ7 x0 ∧ Bd v8 48000 ∧ (((gI σ7 1204 x0 v8.toNat) < 0 → R32 (x3 + (-1)) ∧ AW g l (d + 1) MX12_has 9 [some (vR 12 (some x0)), some (vI x1), some (vI x2), some (vI (x3 + (-1)))] [] σ7 Q) ∧ (¬ (gI σ7 1204 x0 v8.toNat) < 0 → ACi g l d MX12_cell [vR 12 (some x0), vI x1, vI x3, vI x2] σ7 (fun v14 σ13 => LC 12 σ13 x0 ∧ Bd v14 48000 ∧ Q (some (vI (gI σ13 1204 x0 v14.toNat))) σ13))))))) :
    AW g l (d + 1) MX12_has 9 [some (vR 12 (some x0)), some (vI x1), some (vI x2), some (vI x3)] [] σ Q := by
  refine aw_iload_n dX12_has_9 rfl rfl ?_
  refine aw_if_lt (tgt := 47) dX12_has_10 (by decide) (fun k1 => ?_) (fun k1 => ?_)
  · replace h := h.1 k1
    refine aw_aload_n dX12_has_47 rfl rfl ?_
    obtain ⟨lc2, h⟩ := h
    refine aw_getA' rfl fk_1203 (by decide) lf_X12_20 dX12_has_48 (LC.ne lc2 rfl rfl) ?_
    refine aw_sipush (x := 2000) dX12_has_51 rfl ?_
    refine aw_iload_n dX12_has_54 rfl rfl ?_
    obtain ⟨⟨c3, c3x⟩, h⟩ := h
    refine aw_imulc dX12_has_55 c3 c3x ?_
    refine aw_iload_n dX12_has_56 rfl rfl ?_
    obtain ⟨⟨c4, c4x⟩, h⟩ := h
    refine aw_iaddc dX12_has_57 c4 c4x ?_
    obtain ⟨⟨c5, c5x⟩, h⟩ := h
    refine aw_iaload (by decide) rfl dX12_has_58 c5 (LC.lt lc2 rfl rfl c5x) ?_
    exact aw_ireturn dX12_has_59 rfl h
  · replace h := h.2 k1
    refine aw_aload_n dX12_has_13 rfl rfl ?_
    obtain ⟨lc6, h⟩ := h
    refine aw_getA' rfl fk_1204 (by decide) lf_X12_24 dX12_has_14 (LC.ne lc6 rfl rfl) ?_
    refine aw_aload_n dX12_has_17 rfl rfl ?_
    refine aw_iload_n dX12_has_18 rfl rfl ?_
    refine aw_iload_n dX12_has_19 rfl rfl ?_
    refine aw_iload_n dX12_has_20 rfl rfl ?_
    refine aw_invVi (M := MX12_has) (ci := 12) [vI x1, vI x3, vI x2] rfl mo_X12_cell rfl lm_X12_289 li_X12_cell ls_X12_cell (by decide +kernel) dX12_has_21 rfl (Nat.le_of_ble_eq_true rfl) (ACi.mono (fun v8 σ7 h => ?_) h)
    obtain ⟨lc9, h⟩ := h
    obtain ⟨⟨c10, c10x⟩, h⟩ := h
    refine aw_iaload (by decide) rfl dX12_has_24 c10 (LC.lt lc9 rfl rfl c10x) ?_
    refine aw_if_lt (tgt := 41) dX12_has_25 (by decide) (fun k11 => ?_) (fun k11 => ?_)
    · replace h := h.1 k11
      obtain ⟨⟨c12, c12x⟩, h⟩ := h
      refine aw_iincc (L' := [some (vR 12 (some x0)), some (vI x1), some (vI x2), some (vI (x3 + (-1)))]) dX12_has_41 rfl (by decide) rfl c12 c12x rfl ?_
      refine aw_goto (tgt := 9) dX12_has_44 (by decide) ?_
      exact aw_fgt (L' := [some (vR 12 (some x0)), some (vI x1), some (vI x2), some (vI (x3 + (-1)))]) ⟨rfl, ⟨rfl, ⟨rfl, ⟨rfl, trivial⟩⟩⟩⟩ h
    · replace h := h.2 k11
      refine aw_aload_n dX12_has_28 rfl rfl ?_
      refine aw_getA' rfl fk_1204 (by decide) lf_X12_24 dX12_has_29 (LC.ne lc9 rfl rfl) ?_
      refine aw_aload_n dX12_has_32 rfl rfl ?_
      refine aw_iload_n dX12_has_33 rfl rfl ?_
      refine aw_iload_n dX12_has_34 rfl rfl ?_
      refine aw_iload_n dX12_has_35 rfl rfl ?_
      refine aw_invVi (M := MX12_has) (ci := 12) [vI x1, vI x3, vI x2] rfl mo_X12_cell rfl lm_X12_289 li_X12_cell ls_X12_cell (by decide +kernel) dX12_has_36 rfl (Nat.le_of_ble_eq_true rfl) (ACi.mono (fun v14 σ13 h => ?_) h)
      obtain ⟨lc15, h⟩ := h
      obtain ⟨⟨c16, c16x⟩, h⟩ := h
      refine aw_iaload (by decide) rfl dX12_has_39 c16 (LC.lt lc15 rfl rfl c16x) ?_
      exact aw_ireturn dX12_has_40 rfl h
set_option maxRecDepth 4000 in
theorem bk_X12_has__0 {g : GP} {l : Launch} {d : Nat} {σ : St} {Q : Option AV → St → Prop} {x0 : Nat} {x1 : Int64} {x3 : Int} {x4 : Int}
    (h : ((¬ x3 = 8 → R32 (8 * x3) ∧ R32 ((8 * x3) - 1) ∧ ((x4 = 0 → ((x1.toInt < (0 : Int64).toInt → Q (some (vI 0)) σ) ∧ (¬ x1.toInt < (0 : Int64).toInt → ((((2 : Int64) * (j_shl 1 ((8 * x3) - 1))).toInt ≤ x1.toInt → Q (some (vI 0)) σ) ∧ (¬ ((2 : Int64) * (j_shl 1 ((8 * x3) - 1))).toInt ≤ x1.toInt → Q (some (vI 1)) σ))))) ∧ (¬ x4 = 0 → ((x1.toInt < (-(j_shl 1 ((8 * x3) - 1))).toInt → Q (some (vI 0)) σ) ∧ (¬ x1.toInt < (-(j_shl 1 ((8 * x3) - 1))).toInt → (((j_shl 1 ((8 * x3) - 1)).toInt ≤ x1.toInt → Q (some (vI 0)) σ) ∧ (¬ (j_shl 1 ((8 * x3) - 1)).toInt ≤ x1.toInt → Q (some (vI 1)) σ))))))) ∧ (x3 = 8 → Q (some (vI 1)) σ))) :
    AW g l d MX12_has_ 0 [some (vR 12 (some x0)), some (vJ x1), none, some (vI x3), some (vI x4), none, none] [] σ Q := by
  refine aw_iload_n dX12_has__0 rfl rfl ?_
  refine aw_bipush (x := 8) dX12_has__1 rfl ?_
  refine aw_icmp_ne (tgt := 8) dX12_has__3 (by decide) (fun k1 => ?_) (fun k1 => ?_)
  · replace h := h.1 k1
    refine aw_lconst (x := 1) dX12_has__8 rfl ?_
    refine aw_bipush (x := 8) dX12_has__9 rfl ?_
    refine aw_iload_n dX12_has__11 rfl rfl ?_
    obtain ⟨⟨c2, c2x⟩, h⟩ := h
    refine aw_imulc dX12_has__12 c2 c2x ?_
    refine aw_iconst (x := 1) dX12_has__13 rfl ?_
    obtain ⟨⟨c3, c3x⟩, h⟩ := h
    refine aw_isubc dX12_has__14 c3 c3x ?_
    refine aw_lshl dX12_has__15 ?_
    refine aw_lstore (L' := [some (vR 12 (some x0)), some (vJ x1), none, some (vI x3), some (vI x4), some (vJ (j_shl 1 ((8 * x3) - 1))), none]) dX12_has__16 (by decide) rfl ?_
    refine aw_iload dX12_has__18 rfl ?_
    refine aw_if_eq (tgt := 46) dX12_has__20 (by decide) (fun k4 => ?_) (fun k4 => ?_)
    · replace h := h.1 k4
      refine aw_lload_n dX12_has__46 rfl rfl ?_
      refine aw_lconst (x := 0) dX12_has__47 rfl ?_
      refine aw_lcmp_lt (M := MX12_has_) (tgt := 67) dX12_has__48 dX12_has__49 (by decide) (fun k5 => ?_) (fun k5 => ?_)
      · replace h := h.1 k5
        refine aw_iconst (x := 0) dX12_has__67 rfl ?_
        exact aw_zreturn dX12_has__68 rfl (Or.inl rfl) h
      · replace h := h.2 k5
        refine aw_lload_n dX12_has__52 rfl rfl ?_
        refine aw_ldc2 lk_X12_708 dX12_has__53 ?_
        refine aw_lload dX12_has__56 rfl ?_
        refine aw_lmul dX12_has__58 ?_
        refine aw_lcmp_ge (M := MX12_has_) (tgt := 67) dX12_has__59 dX12_has__60 (by decide) (fun k6 => ?_) (fun k6 => ?_)
        · replace h := h.1 k6
          refine aw_iconst (x := 0) dX12_has__67 rfl ?_
          exact aw_zreturn dX12_has__68 rfl (Or.inl rfl) h
        · replace h := h.2 k6
          refine aw_iconst (x := 1) dX12_has__63 rfl ?_
          refine aw_goto (tgt := 68) dX12_has__64 (by decide) ?_
          exact aw_zreturn dX12_has__68 rfl (Or.inr rfl) h
    · replace h := h.2 k4
      refine aw_lload_n dX12_has__23 rfl rfl ?_
      refine aw_lload dX12_has__24 rfl ?_
      refine aw_lneg dX12_has__26 ?_
      refine aw_lcmp_lt (M := MX12_has_) (tgt := 42) dX12_has__27 dX12_has__28 (by decide) (fun k7 => ?_) (fun k7 => ?_)
      · replace h := h.1 k7
        refine aw_iconst (x := 0) dX12_has__42 rfl ?_
        refine aw_goto (tgt := 68) dX12_has__43 (by decide) ?_
        exact aw_zreturn dX12_has__68 rfl (Or.inl rfl) h
      · replace h := h.2 k7
        refine aw_lload_n dX12_has__31 rfl rfl ?_
        refine aw_lload dX12_has__32 rfl ?_
        refine aw_lcmp_ge (M := MX12_has_) (tgt := 42) dX12_has__34 dX12_has__35 (by decide) (fun k8 => ?_) (fun k8 => ?_)
        · replace h := h.1 k8
          refine aw_iconst (x := 0) dX12_has__42 rfl ?_
          refine aw_goto (tgt := 68) dX12_has__43 (by decide) ?_
          exact aw_zreturn dX12_has__68 rfl (Or.inl rfl) h
        · replace h := h.2 k8
          refine aw_iconst (x := 1) dX12_has__38 rfl ?_
          refine aw_goto (tgt := 68) dX12_has__39 (by decide) ?_
          exact aw_zreturn dX12_has__68 rfl (Or.inr rfl) h
  · replace h := h.2 k1
    refine aw_iconst (x := 1) dX12_has__6 rfl ?_
    exact aw_zreturn dX12_has__7 rfl (Or.inr rfl) h
set_option maxRecDepth 4000 in
theorem bk_X12_hex_0 {g : GP} {l : Launch} {d : Nat} {σ : St} {Q : Option AV → St → Prop} {x0 : Nat} {x1 : Int} {x2 : Int} {x3 : Int}
    (h : ACi g l d MX12_isImage [vR 12 (some x0), vI x1] σ (fun v2 σ1 => ((v2 = 0 → Q (some (vI (-1))) σ1) ∧ (¬ v2 = 0 → ((x2 < 0 → Q (some (vI (-1))) σ1) ∧ (¬ x2 < 0 → ((125 ≤ x2 → Q (some (vI (-1))) σ1) ∧ (¬ 125 ≤ x2 → R32 (16 * x2) ∧ LC 12 σ1 x0 ∧ Bd x1 6 ∧ (((gI σ1 1201 x0 x1.toNat) ≤ (16 * x2) → Q (some (vI (-1))) σ1) ∧ (¬ (gI σ1 1201 x0 x1.toNat) ≤ (16 * x2) → ((0 ≤ x3 → R32 ((gI σ1 1201 x0 x1.toNat) - (16 * x2)) ∧ ((16 ≤ ((gI σ1 1201 x0 x1.toNat) - (16 * x2)) → AW g l (d + 1) MX12_hex 69 [some (vR 12 (some x0)), some (vI x1), some (vI x2), some (vI x3), none, none, none, none] [vI 16] σ1 Q) ∧ (¬ 16 ≤ ((gI σ1 1201 x0 x1.toNat) - (16 * x2)) → AW g l (d + 1) MX12_hex 69 [some (vR 12 (some x0)), some (vI x1), some (vI x2), some (vI x3), none, none, none, none] [vI ((gI σ1 1201 x0 x1.toNat) - (16 * x2))] σ1 Q))) ∧ (¬ 0 ≤ x3 → Q (some (vI (-1))) σ1)))))))))))) :
    AW g l (d + 1) MX12_hex 0 [some (vR 12 (some x0)), some (vI x1), some (vI x2), some (vI x3), none, none, none, none] [] σ Q := by
  refine aw_aload_n dX12_hex_0 rfl rfl ?_
  refine aw_iload_n dX12_hex_1 rfl rfl ?_
  refine aw_invVi (M := MX12_hex) (ci := 12) [vI x1] rfl mo_X12_isImage rfl lm_X12_293 li_X12_isImage ls_X12_isImage (by decide +kernel) dX12_hex_2 rfl (Nat.le_of_ble_eq_true rfl) (ACi.mono (fun v2 σ1 h => ?_) h)
  refine aw_if_eq (tgt := 35) dX12_hex_5 (by decide) (fun k3 => ?_) (fun k3 => ?_)
  · replace h := h.1 k3
    refine aw_iconst (x := (-1)) dX12_hex_35 rfl ?_
    exact aw_ireturn dX12_hex_36 rfl h
  · replace h := h.2 k3
    refine aw_iload_n dX12_hex_8 rfl rfl ?_
    refine aw_if_lt (tgt := 35) dX12_hex_9 (by decide) (fun k4 => ?_) (fun k4 => ?_)
    · replace h := h.1 k4
      refine aw_iconst (x := (-1)) dX12_hex_35 rfl ?_
      exact aw_ireturn dX12_hex_36 rfl h
    · replace h := h.2 k4
      refine aw_iload_n dX12_hex_12 rfl rfl ?_
      refine aw_bipush (x := 125) dX12_hex_13 rfl ?_
      refine aw_icmp_ge (tgt := 35) dX12_hex_15 (by decide) (fun k5 => ?_) (fun k5 => ?_)
      · replace h := h.1 k5
        refine aw_iconst (x := (-1)) dX12_hex_35 rfl ?_
        exact aw_ireturn dX12_hex_36 rfl h
      · replace h := h.2 k5
        refine aw_bipush (x := 16) dX12_hex_18 rfl ?_
        refine aw_iload_n dX12_hex_20 rfl rfl ?_
        obtain ⟨⟨c6, c6x⟩, h⟩ := h
        refine aw_imulc dX12_hex_21 c6 c6x ?_
        refine aw_aload_n dX12_hex_22 rfl rfl ?_
        obtain ⟨lc7, h⟩ := h
        refine aw_getA' rfl fk_1201 (by decide) lf_X12_13 dX12_hex_23 (LC.ne lc7 rfl rfl) ?_
        refine aw_iload_n dX12_hex_26 rfl rfl ?_
        obtain ⟨⟨c8, c8x⟩, h⟩ := h
        refine aw_iaload (by decide) rfl dX12_hex_27 c8 (LC.lt lc7 rfl rfl c8x) ?_
        refine aw_icmp_ge (tgt := 35) dX12_hex_28 (by decide) (fun k9 => ?_) (fun k9 => ?_)
        · replace h := h.1 k9
          refine aw_iconst (x := (-1)) dX12_hex_35 rfl ?_
          exact aw_ireturn dX12_hex_36 rfl h
        · replace h := h.2 k9
          refine aw_iload_n dX12_hex_31 rfl rfl ?_
          refine aw_if_ge (tgt := 37) dX12_hex_32 (by decide) (fun k10 => ?_) (fun k10 => ?_)
          · replace h := h.1 k10
            refine aw_aload_n dX12_hex_37 rfl rfl ?_
            refine aw_getA' rfl fk_1201 (by decide) lf_X12_13 dX12_hex_38 (LC.ne lc7 rfl rfl) ?_
            refine aw_iload_n dX12_hex_41 rfl rfl ?_
            refine aw_iaload (by decide) rfl dX12_hex_42 c8 (LC.lt lc7 rfl rfl c8x) ?_
            refine aw_bipush (x := 16) dX12_hex_43 rfl ?_
            refine aw_iload_n dX12_hex_45 rfl rfl ?_
            refine aw_imulc dX12_hex_46 c6 c6x ?_
            obtain ⟨⟨c11, c11x⟩, h⟩ := h
            refine aw_isubc dX12_hex_47 c11 c11x ?_
            refine aw_bipush (x := 16) dX12_hex_48 rfl ?_
            refine aw_icmp_ge (tgt := 67) dX12_hex_50 (by decide) (fun k12 => ?_) (fun k12 => ?_)
            · replace h := h.1 k12
              refine aw_bipush (x := 16) dX12_hex_67 rfl ?_
              exact aw_fgt (L' := [some (vR 12 (some x0)), some (vI x1), some (vI x2), some (vI x3), none, none, none, none]) ⟨rfl, ⟨rfl, ⟨rfl, ⟨rfl, trivial⟩⟩⟩⟩ h
            · replace h := h.2 k12
              refine aw_aload_n dX12_hex_53 rfl rfl ?_
              refine aw_getA' rfl fk_1201 (by decide) lf_X12_13 dX12_hex_54 (LC.ne lc7 rfl rfl) ?_
              refine aw_iload_n dX12_hex_57 rfl rfl ?_
              refine aw_iaload (by decide) rfl dX12_hex_58 c8 (LC.lt lc7 rfl rfl c8x) ?_
              refine aw_bipush (x := 16) dX12_hex_59 rfl ?_
              refine aw_iload_n dX12_hex_61 rfl rfl ?_
              refine aw_imulc dX12_hex_62 c6 c6x ?_
              refine aw_isubc dX12_hex_63 c11 c11x ?_
              refine aw_goto (tgt := 69) dX12_hex_64 (by decide) ?_
              exact aw_fgt (L' := [some (vR 12 (some x0)), some (vI x1), some (vI x2), some (vI x3), none, none, none, none]) ⟨rfl, ⟨rfl, ⟨rfl, ⟨rfl, trivial⟩⟩⟩⟩ h
          · replace h := h.2 k10
            refine aw_iconst (x := (-1)) dX12_hex_35 rfl ?_
            exact aw_ireturn dX12_hex_36 rfl h
set_option maxRecDepth 4000 in
theorem bk_X12_hex_69 {g : GP} {l : Launch} {d : Nat} {σ : St} {Q : Option AV → St → Prop} {x0 : Nat} {x1 : Int} {x2 : Int} {x3 : Int} {y0 : Int}
    (h : ((4 ≤ x3 → ((¬ x3 = 4 → ((53 ≤ x3 → ((¬ x3 = 53 → ((x3 = 54 → Q (some (vI 124)) σ) ∧ (¬ x3 = 54 → R32 (55 + y0) ∧ ((¬ x3 = (55 + y0) → ((x3 ≤ (55 + y0) → R32 (16 * x2) ∧ R32 ((16 * x2) + x3) ∧ R32 (((16 * x2) + x3) - 55) ∧ ACi g l d MX12_has [vR 12 (some x0), vI x1, vI (((16 * x2) + x3) - 55)] σ (fun v13 σ12 => ((v13 < 32 → Q (some (vI 46)) σ12) ∧ (¬ v13 < 32 → ((126 < v13 → Q (some (vI 46)) σ12) ∧ (¬ 126 < v13 → Q (some (vI v13)) σ12)))))) ∧ (¬ x3 ≤ (55 + y0) → Q (some (vI (-1))) σ))) ∧ (x3 = (55 + y0) → Q (some (vI 124)) σ))))) ∧ (x3 = 53 → Q (some (vI 32)) σ))) ∧ (¬ 53 ≤ x3 → R32 (x3 - 5) ∧ ((y0 ≤ (i_div (x3 - 5) 3) → Q (some (vI 32)) σ) ∧ (¬ y0 ≤ (i_div (x3 - 5) 3) → ((¬ (i_rem (x3 - 5) 3) = 0 → R32 (16 * x2) ∧ R32 ((16 * x2) + (i_div (x3 - 5) 3)) ∧ ACi g l d MX12_has [vR 12 (some x0), vI x1, vI ((16 * x2) + (i_div (x3 - 5) 3))] σ (fun v22 σ21 => ((¬ (i_rem (x3 - 5) 3) = 1 → ACi g l d MX12_figure [vR 12 (some x0), vI (i_and v22 15)] σ21 (fun v25 σ24 => Q (some (vI v25)) σ24)) ∧ ((i_rem (x3 - 5) 3) = 1 → ACi g l d MX12_figure [vR 12 (some x0), vI (i_shr v22 4)] σ21 (fun v27 σ26 => Q (some (vI v27)) σ26))))) ∧ ((i_rem (x3 - 5) 3) = 0 → Q (some (vI 32)) σ))))))) ∧ (x3 = 4 → Q (some (vI 58)) σ))) ∧ (¬ 4 ≤ x3 → R32 (16 * x2) ∧ R32 (3 - x3) ∧ R32 (4 * (3 - x3)) ∧ ACi g l d MX12_figure [vR 12 (some x0), vI (i_and (i_shr (16 * x2) (4 * (3 - x3))) 15)] σ (fun v32 σ31 => Q (some (vI v32)) σ31)))) :
    AW g l (d + 1) MX12_hex 69 [some (vR 12 (some x0)), some (vI x1), some (vI x2), some (vI x3), none, none, none, none] [vI y0] σ Q := by
  refine aw_istore (L' := [some (vR 12 (some x0)), some (vI x1), some (vI x2), some (vI x3), some (vI y0), none, none, none]) dX12_hex_69 (by decide) rfl ?_
  refine aw_iload_n dX12_hex_71 rfl rfl ?_
  refine aw_iconst (x := 4) dX12_hex_72 rfl ?_
  refine aw_icmp_ge (tgt := 94) dX12_hex_73 (by decide) (fun k1 => ?_) (fun k1 => ?_)
  · replace h := h.1 k1
    refine aw_iload_n dX12_hex_94 rfl rfl ?_
    refine aw_iconst (x := 4) dX12_hex_95 rfl ?_
    refine aw_icmp_ne (tgt := 102) dX12_hex_96 (by decide) (fun k2 => ?_) (fun k2 => ?_)
    · replace h := h.1 k2
      refine aw_iload_n dX12_hex_102 rfl rfl ?_
      refine aw_bipush (x := 53) dX12_hex_103 rfl ?_
      refine aw_icmp_ge (tgt := 174) dX12_hex_105 (by decide) (fun k3 => ?_) (fun k3 => ?_)
      · replace h := h.1 k3
        refine aw_iload_n dX12_hex_174 rfl rfl ?_
        refine aw_bipush (x := 53) dX12_hex_175 rfl ?_
        refine aw_icmp_ne (tgt := 183) dX12_hex_177 (by decide) (fun k4 => ?_) (fun k4 => ?_)
        · replace h := h.1 k4
          refine aw_iload_n dX12_hex_183 rfl rfl ?_
          refine aw_bipush (x := 54) dX12_hex_184 rfl ?_
          refine aw_icmp_eq (tgt := 198) dX12_hex_186 (by decide) (fun k5 => ?_) (fun k5 => ?_)
          · replace h := h.1 k5
            refine aw_bipush (x := 124) dX12_hex_198 rfl ?_
            exact aw_ireturn dX12_hex_200 rfl h
          · replace h := h.2 k5
            refine aw_iload_n dX12_hex_189 rfl rfl ?_
            refine aw_bipush (x := 55) dX12_hex_190 rfl ?_
            refine aw_iload dX12_hex_192 rfl ?_
            obtain ⟨⟨c6, c6x⟩, h⟩ := h
            refine aw_iaddc dX12_hex_194 c6 c6x ?_
            refine aw_icmp_ne (tgt := 201) dX12_hex_195 (by decide) (fun k7 => ?_) (fun k7 => ?_)
            · replace h := h.1 k7
              refine aw_iload_n dX12_hex_201 rfl rfl ?_
              refine aw_bipush (x := 55) dX12_hex_202 rfl ?_
              refine aw_iload dX12_hex_204 rfl ?_
              refine aw_iaddc dX12_hex_206 c6 c6x ?_
              refine aw_icmp_le (tgt := 212) dX12_hex_207 (by decide) (fun k8 => ?_) (fun k8 => ?_)
              · replace h := h.1 k8
                refine aw_aload_n dX12_hex_212 rfl rfl ?_
                refine aw_iload_n dX12_hex_213 rfl rfl ?_
                refine aw_bipush (x := 16) dX12_hex_214 rfl ?_
                refine aw_iload_n dX12_hex_216 rfl rfl ?_
                obtain ⟨⟨c9, c9x⟩, h⟩ := h
                refine aw_imulc dX12_hex_217 c9 c9x ?_
                refine aw_iload_n dX12_hex_218 rfl rfl ?_
                obtain ⟨⟨c10, c10x⟩, h⟩ := h
                refine aw_iaddc dX12_hex_219 c10 c10x ?_
                refine aw_bipush (x := 55) dX12_hex_220 rfl ?_
                obtain ⟨⟨c11, c11x⟩, h⟩ := h
                refine aw_isubc dX12_hex_222 c11 c11x ?_
                refine aw_invVi (M := MX12_hex) (ci := 12) [vI x1, vI (((16 * x2) + x3) - 55)] rfl mo_X12_has rfl lm_X12_299 li_X12_has ls_X12_has (by decide +kernel) dX12_hex_223 rfl (Nat.le_of_ble_eq_true rfl) (ACi.mono (fun v13 σ12 h => ?_) h)
                refine aw_istore (L' := [some (vR 12 (some x0)), some (vI x1), some (vI x2), some (vI x3), some (vI y0), some (vI v13), none, none]) dX12_hex_226 (by decide) rfl ?_
                refine aw_iload dX12_hex_228 rfl ?_
                refine aw_bipush (x := 32) dX12_hex_230 rfl ?_
                refine aw_icmp_lt (tgt := 247) dX12_hex_232 (by decide) (fun k14 => ?_) (fun k14 => ?_)
                · replace h := h.1 k14
                  refine aw_bipush (x := 46) dX12_hex_247 rfl ?_
                  exact aw_ireturn dX12_hex_249 rfl h
                · replace h := h.2 k14
                  refine aw_iload dX12_hex_235 rfl ?_
                  refine aw_bipush (x := 126) dX12_hex_237 rfl ?_
                  refine aw_icmp_gt (tgt := 247) dX12_hex_239 (by decide) (fun k15 => ?_) (fun k15 => ?_)
                  · replace h := h.1 k15
                    refine aw_bipush (x := 46) dX12_hex_247 rfl ?_
                    exact aw_ireturn dX12_hex_249 rfl h
                  · replace h := h.2 k15
                    refine aw_iload dX12_hex_242 rfl ?_
                    refine aw_goto (tgt := 249) dX12_hex_244 (by decide) ?_
                    exact aw_ireturn dX12_hex_249 rfl h
              · replace h := h.2 k8
                refine aw_iconst (x := (-1)) dX12_hex_210 rfl ?_
                exact aw_ireturn dX12_hex_211 rfl h
            · replace h := h.2 k7
              refine aw_bipush (x := 124) dX12_hex_198 rfl ?_
              exact aw_ireturn dX12_hex_200 rfl h
        · replace h := h.2 k4
          refine aw_bipush (x := 32) dX12_hex_180 rfl ?_
          exact aw_ireturn dX12_hex_182 rfl h
      · replace h := h.2 k3
        refine aw_iload_n dX12_hex_108 rfl rfl ?_
        refine aw_iconst (x := 5) dX12_hex_109 rfl ?_
        obtain ⟨⟨c16, c16x⟩, h⟩ := h
        refine aw_isubc dX12_hex_110 c16 c16x ?_
        refine aw_iconst (x := 3) dX12_hex_111 rfl ?_
        refine aw_idiv dX12_hex_112 (by decide) ?_
        refine aw_istore (L' := [some (vR 12 (some x0)), some (vI x1), some (vI x2), some (vI x3), some (vI y0), some (vI (i_div (x3 - 5) 3)), none, none]) dX12_hex_113 (by decide) rfl ?_
        refine aw_iload_n dX12_hex_115 rfl rfl ?_
        refine aw_iconst (x := 5) dX12_hex_116 rfl ?_
        refine aw_isubc dX12_hex_117 c16 c16x ?_
        refine aw_iconst (x := 3) dX12_hex_118 rfl ?_
        refine aw_irem dX12_hex_119 (by decide) ?_
        refine aw_istore (L' := [some (vR 12 (some x0)), some (vI x1), some (vI x2), some (vI x3), some (vI y0), some (vI (i_div (x3 - 5) 3)), some (vI (i_rem (x3 - 5) 3)), none]) dX12_hex_120 (by decide) rfl ?_
        refine aw_iload dX12_hex_122 rfl ?_
        refine aw_iload dX12_hex_124 rfl ?_
        refine aw_icmp_ge (tgt := 134) dX12_hex_126 (by decide) (fun k17 => ?_) (fun k17 => ?_)
        · replace h := h.1 k17
          refine aw_bipush (x := 32) dX12_hex_134 rfl ?_
          exact aw_ireturn dX12_hex_136 rfl h
        · replace h := h.2 k17
          refine aw_iload dX12_hex_129 rfl ?_
          refine aw_if_ne (tgt := 137) dX12_hex_131 (by decide) (fun k18 => ?_) (fun k18 => ?_)
          · replace h := h.1 k18
            refine aw_aload_n dX12_hex_137 rfl rfl ?_
            refine aw_iload_n dX12_hex_138 rfl rfl ?_
            refine aw_bipush (x := 16) dX12_hex_139 rfl ?_
            refine aw_iload_n dX12_hex_141 rfl rfl ?_
            obtain ⟨⟨c19, c19x⟩, h⟩ := h
            refine aw_imulc dX12_hex_142 c19 c19x ?_
            refine aw_iload dX12_hex_143 rfl ?_
            obtain ⟨⟨c20, c20x⟩, h⟩ := h
            refine aw_iaddc dX12_hex_145 c20 c20x ?_
            refine aw_invVi (M := MX12_hex) (ci := 12) [vI x1, vI ((16 * x2) + (i_div (x3 - 5) 3))] rfl mo_X12_has rfl lm_X12_299 li_X12_has ls_X12_has (by decide +kernel) dX12_hex_146 rfl (Nat.le_of_ble_eq_true rfl) (ACi.mono (fun v22 σ21 h => ?_) h)
            refine aw_istore (L' := [some (vR 12 (some x0)), some (vI x1), some (vI x2), some (vI x3), some (vI y0), some (vI (i_div (x3 - 5) 3)), some (vI (i_rem (x3 - 5) 3)), some (vI v22)]) dX12_hex_149 (by decide) rfl ?_
            refine aw_aload_n dX12_hex_151 rfl rfl ?_
            refine aw_iload dX12_hex_152 rfl ?_
            refine aw_iconst (x := 1) dX12_hex_154 rfl ?_
            refine aw_icmp_ne (tgt := 165) dX12_hex_155 (by decide) (fun k23 => ?_) (fun k23 => ?_)
            · replace h := h.1 k23
              refine aw_iload dX12_hex_165 rfl ?_
              refine aw_bipush (x := 15) dX12_hex_167 rfl ?_
              refine aw_iand dX12_hex_169 ?_
              refine aw_invVi (M := MX12_hex) (ci := 12) [vI (i_and v22 15)] rfl mo_X12_figure rfl lm_X12_713 li_X12_figure ls_X12_figure (by decide +kernel) dX12_hex_170 rfl (Nat.le_of_ble_eq_true rfl) (ACi.mono (fun v25 σ24 h => ?_) h)
              exact aw_ireturn dX12_hex_173 rfl h
            · replace h := h.2 k23
              refine aw_iload dX12_hex_158 rfl ?_
              refine aw_iconst (x := 4) dX12_hex_160 rfl ?_
              refine aw_ishr dX12_hex_161 ?_
              refine aw_goto (tgt := 170) dX12_hex_162 (by decide) ?_
              refine aw_invVi (M := MX12_hex) (ci := 12) [vI (i_shr v22 4)] rfl mo_X12_figure rfl lm_X12_713 li_X12_figure ls_X12_figure (by decide +kernel) dX12_hex_170 rfl (Nat.le_of_ble_eq_true rfl) (ACi.mono (fun v27 σ26 h => ?_) h)
              exact aw_ireturn dX12_hex_173 rfl h
          · replace h := h.2 k18
            refine aw_bipush (x := 32) dX12_hex_134 rfl ?_
            exact aw_ireturn dX12_hex_136 rfl h
    · replace h := h.2 k2
      refine aw_bipush (x := 58) dX12_hex_99 rfl ?_
      exact aw_ireturn dX12_hex_101 rfl h
  · replace h := h.2 k1
    refine aw_aload_n dX12_hex_76 rfl rfl ?_
    refine aw_bipush (x := 16) dX12_hex_77 rfl ?_
    refine aw_iload_n dX12_hex_79 rfl rfl ?_
    obtain ⟨⟨c28, c28x⟩, h⟩ := h
    refine aw_imulc dX12_hex_80 c28 c28x ?_
    refine aw_iconst (x := 4) dX12_hex_81 rfl ?_
    refine aw_iconst (x := 3) dX12_hex_82 rfl ?_
    refine aw_iload_n dX12_hex_83 rfl rfl ?_
    obtain ⟨⟨c29, c29x⟩, h⟩ := h
    refine aw_isubc dX12_hex_84 c29 c29x ?_
    obtain ⟨⟨c30, c30x⟩, h⟩ := h
    refine aw_imulc dX12_hex_85 c30 c30x ?_
    refine aw_ishr dX12_hex_86 ?_
    refine aw_bipush (x := 15) dX12_hex_87 rfl ?_
    refine aw_iand dX12_hex_89 ?_
    refine aw_invVi (M := MX12_hex) (ci := 12) [vI (i_and (i_shr (16 * x2) (4 * (3 - x3))) 15)] rfl mo_X12_figure rfl lm_X12_713 li_X12_figure ls_X12_figure (by decide +kernel) dX12_hex_90 rfl (Nat.le_of_ble_eq_true rfl) (ACi.mono (fun v32 σ31 h => ?_) h)
    exact aw_ireturn dX12_hex_93 rfl h
set_option maxRecDepth 4000 in
theorem bk_X12_image_0 {g : GP} {l : Launch} {d : Nat} {σ : St} {Q : Option AV → St → Prop} {x0 : Nat}
    (h : ((¬ (gI σ 1200 x0 0) = 6 → LC 12 σ x0 ∧ Bd (gI σ 1200 x0 0) 6 ∧ R32 ((gI σ 1200 x0 0) + 1) ∧ R32 (((gI σ 1200 x0 0) + 1) - 1) ∧ Q (some (vI (((gI σ 1200 x0 0) + 1) - 1))) (sI (sI (sI σ 1201 x0 (gI σ 1200 x0 0).toNat 0) 1202 x0 (gI σ 1200 x0 0).toNat 0) 1200 x0 0 ((gI σ 1200 x0 0) + 1))) ∧ ((gI σ 1200 x0 0) = 6 → Q (some (vI (-2))) σ))) :
    AW g l d MX12_image 0 [some (vR 12 (some x0))] [] σ Q := by
  refine aw_aload_n dX12_image_0 rfl rfl ?_
  refine aw_getI' rfl fk_1200 lf_X12_7 dX12_image_1 ?_
  refine aw_bipush (x := 6) dX12_image_4 rfl ?_
  refine aw_icmp_ne (tgt := 12) dX12_image_6 (by decide) (fun k1 => ?_) (fun k1 => ?_)
  · replace h := h.1 k1
    refine aw_aload_n dX12_image_12 rfl rfl ?_
    obtain ⟨lc2, h⟩ := h
    refine aw_getA' rfl fk_1201 (by decide) lf_X12_13 dX12_image_13 (LC.ne lc2 rfl rfl) ?_
    refine aw_aload_n dX12_image_16 rfl rfl ?_
    refine aw_getI' rfl fk_1200 lf_X12_7 dX12_image_17 ?_
    refine aw_iconst (x := 0) dX12_image_20 rfl ?_
    obtain ⟨⟨c3, c3x⟩, h⟩ := h
    refine aw_iastore (by decide) rfl dX12_image_21 c3 (LC.lt lc2 rfl rfl c3x) ?_
    refine aw_aload_n dX12_image_22 rfl rfl ?_
    refine aw_getA' rfl fk_1202 (by decide) lf_X12_17 dX12_image_23 (LC.ne lc2 rfl rfl) ?_
    refine aw_aload_n dX12_image_26 rfl rfl ?_
    refine aw_getIe (v := gI σ 1200 x0 0) rfl fk_1200 lf_X12_7 dX12_image_27 rfl ?_
    refine aw_iconst (x := 0) dX12_image_30 rfl ?_
    refine aw_iastore (by decide) rfl dX12_image_31 c3 (LC.lt lc2 rfl rfl c3x) ?_
    refine aw_aload_n dX12_image_32 rfl rfl ?_
    refine aw_dup dX12_image_33 rfl ?_
    refine aw_getIe (v := gI σ 1200 x0 0) rfl fk_1200 lf_X12_7 dX12_image_34 rfl ?_
    refine aw_iconst (x := 1) dX12_image_37 rfl ?_
    obtain ⟨⟨c4, c4x⟩, h⟩ := h
    refine aw_iaddc dX12_image_38 c4 c4x ?_
    refine aw_putI' rfl fk_1200 (Or.inl rfl) lf_X12_7 dX12_image_39 ?_
    refine aw_aload_n dX12_image_42 rfl rfl ?_
    refine aw_getIe (v := ((gI σ 1200 x0 0) + 1)) rfl fk_1200 lf_X12_7 dX12_image_43 (gI_slf (sI (sI σ 1201 x0 (gI σ 1200 x0 0).toNat 0) 1202 x0 (gI σ 1200 x0 0).toNat 0) 1200 x0 0 ((gI σ 1200 x0 0) + 1)) ?_
    refine aw_iconst (x := 1) dX12_image_46 rfl ?_
    obtain ⟨⟨c5, c5x⟩, h⟩ := h
    refine aw_isubc dX12_image_47 c5 c5x ?_
    exact aw_ireturn dX12_image_48 rfl h
  · replace h := h.2 k1
    refine aw_bipush (x := (-2)) dX12_image_9 rfl ?_
    exact aw_ireturn dX12_image_11 rfl h
set_option maxRecDepth 4000 in
theorem bk_X12_isImage_0 {g : GP} {l : Launch} {d : Nat} {σ : St} {Q : Option AV → St → Prop} {x0 : Nat} {x1 : Int}
    (h : ((x1 < 0 → Q (some (vI 0)) σ) ∧ (¬ x1 < 0 → (((gI σ 1200 x0 0) ≤ x1 → Q (some (vI 0)) σ) ∧ (¬ (gI σ 1200 x0 0) ≤ x1 → Q (some (vI 1)) σ))))) :
    AW g l d MX12_isImage 0 [some (vR 12 (some x0)), some (vI x1)] [] σ Q := by
  refine aw_iload_n dX12_isImage_0 rfl rfl ?_
  refine aw_if_lt (tgt := 16) dX12_isImage_1 (by decide) (fun k1 => ?_) (fun k1 => ?_)
  · replace h := h.1 k1
    refine aw_iconst (x := 0) dX12_isImage_16 rfl ?_
    exact aw_zreturn dX12_isImage_17 rfl (Or.inl rfl) h
  · replace h := h.2 k1
    refine aw_iload_n dX12_isImage_4 rfl rfl ?_
    refine aw_aload_n dX12_isImage_5 rfl rfl ?_
    refine aw_getI' rfl fk_1200 lf_X12_7 dX12_isImage_6 ?_
    refine aw_icmp_ge (tgt := 16) dX12_isImage_9 (by decide) (fun k2 => ?_) (fun k2 => ?_)
    · replace h := h.1 k2
      refine aw_iconst (x := 0) dX12_isImage_16 rfl ?_
      exact aw_zreturn dX12_isImage_17 rfl (Or.inl rfl) h
    · replace h := h.2 k2
      refine aw_iconst (x := 1) dX12_isImage_12 rfl ?_
      refine aw_goto (tgt := 17) dX12_isImage_13 (by decide) ?_
      exact aw_zreturn dX12_isImage_17 rfl (Or.inr rfl) h
set_option maxRecDepth 4000 in
theorem bk_X12_isIn_0 {g : GP} {l : Launch} {d : Nat} {σ : St} {Q : Option AV → St → Prop} {x0 : Nat} {x1 : Int} {x2 : Int}
    (h : R32 (400 * x1) ∧ AW g l d MX12_isIn 6 [some (vR 12 (some x0)), some (vI x1), some (vI x2), some (vI (400 * x1)), none] [] σ Q) :
    AW g l d MX12_isIn 0 [some (vR 12 (some x0)), some (vI x1), some (vI x2), none, none] [] σ Q := by
  refine aw_sipush (x := 400) dX12_isIn_0 rfl ?_
  refine aw_iload_n dX12_isIn_3 rfl rfl ?_
  obtain ⟨⟨c1, c1x⟩, h⟩ := h
  refine aw_imulc dX12_isIn_4 c1 c1x ?_
  refine aw_istore_n (L' := [some (vR 12 (some x0)), some (vI x1), some (vI x2), some (vI (400 * x1)), none]) dX12_isIn_5 rfl (by decide) rfl ?_
  exact aw_fgt (L' := [some (vR 12 (some x0)), some (vI x1), some (vI x2), some (vI (400 * x1)), none]) ⟨rfl, ⟨rfl, ⟨rfl, ⟨rfl, trivial⟩⟩⟩⟩ h
set_option maxRecDepth 4000 in
theorem bk_X12_isIn_6 {g : GP} {l : Launch} {d : Nat} {σ : St} {Q : Option AV → St → Prop} {x0 : Nat} {x1 : Int} {x2 : Int} {x3 : Int}
    (h : R32 (400 * x1) ∧ LC 12 σ x0 ∧ Bd x1 7 ∧ R32 ((400 * x1) + (gI σ 1266 x0 x1.toNat)) ∧ ((((400 * x1) + (gI σ 1266 x0 x1.toNat)) ≤ x3 → Q (some (vI 0)) σ) ∧ (¬ ((400 * x1) + (gI σ 1266 x0 x1.toNat)) ≤ x3 → Bd x3 2800 ∧ (((gI σ 1267 x0 x3.toNat) = 0 → AW g l d MX12_isIn 57 [some (vR 12 (some x0)), some (vI x1), some (vI x2), some (vI x3), none] [vI 0] σ Q) ∧ (¬ (gI σ 1267 x0 x3.toNat) = 0 → (((gI σ 1267 x0 x3.toNat) = 2 → AW g l d MX12_isIn 57 [some (vR 12 (some x0)), some (vI x1), some (vI x2), some (vI x3), none] [vI 0] σ Q) ∧ (¬ (gI σ 1267 x0 x3.toNat) = 2 → (((gI σ 1267 x0 x3.toNat) = 6 → AW g l d MX12_isIn 57 [some (vR 12 (some x0)), some (vI x1), some (vI x2), some (vI x3), none] [vI 0] σ Q) ∧ (¬ (gI σ 1267 x0 x3.toNat) = 6 → AW g l d MX12_isIn 57 [some (vR 12 (some x0)), some (vI x1), some (vI x2), some (vI x3), none] [vI 1] σ Q))))))))) :
    AW g l d MX12_isIn 6 [some (vR 12 (some x0)), some (vI x1), some (vI x2), some (vI x3), none] [] σ Q := by
  refine aw_iload_n dX12_isIn_6 rfl rfl ?_
  refine aw_sipush (x := 400) dX12_isIn_7 rfl ?_
  refine aw_iload_n dX12_isIn_10 rfl rfl ?_
  obtain ⟨⟨c1, c1x⟩, h⟩ := h
  refine aw_imulc dX12_isIn_11 c1 c1x ?_
  refine aw_aload_n dX12_isIn_12 rfl rfl ?_
  obtain ⟨lc2, h⟩ := h
  refine aw_getA' rfl fk_1266 (by decide) lf_X12_214 dX12_isIn_13 (LC.ne lc2 rfl rfl) ?_
  refine aw_iload_n dX12_isIn_16 rfl rfl ?_
  obtain ⟨⟨c3, c3x⟩, h⟩ := h
  refine aw_iaload (by decide) rfl dX12_isIn_17 c3 (LC.lt lc2 rfl rfl c3x) ?_
  obtain ⟨⟨c4, c4x⟩, h⟩ := h
  refine aw_iaddc dX12_isIn_18 c4 c4x ?_
  refine aw_icmp_ge (tgt := 92) dX12_isIn_19 (by decide) (fun k5 => ?_) (fun k5 => ?_)
  · replace h := h.1 k5
    refine aw_iconst (x := 0) dX12_isIn_92 rfl ?_
    exact aw_zreturn dX12_isIn_93 rfl (Or.inl rfl) h
  · replace h := h.2 k5
    refine aw_aload_n dX12_isIn_22 rfl rfl ?_
    refine aw_getA' rfl fk_1267 (by decide) lf_X12_217 dX12_isIn_23 (LC.ne lc2 rfl rfl) ?_
    refine aw_iload_n dX12_isIn_26 rfl rfl ?_
    obtain ⟨⟨c6, c6x⟩, h⟩ := h
    refine aw_iaload (by decide) rfl dX12_isIn_27 c6 (LC.lt lc2 rfl rfl c6x) ?_
    refine aw_if_eq (tgt := 56) dX12_isIn_28 (by decide) (fun k7 => ?_) (fun k7 => ?_)
    · replace h := h.1 k7
      refine aw_iconst (x := 0) dX12_isIn_56 rfl ?_
      exact aw_fgt (L' := [some (vR 12 (some x0)), some (vI x1), some (vI x2), some (vI x3), none]) ⟨rfl, ⟨rfl, ⟨rfl, ⟨rfl, trivial⟩⟩⟩⟩ h
    · replace h := h.2 k7
      refine aw_aload_n dX12_isIn_31 rfl rfl ?_
      refine aw_getA' rfl fk_1267 (by decide) lf_X12_217 dX12_isIn_32 (LC.ne lc2 rfl rfl) ?_
      refine aw_iload_n dX12_isIn_35 rfl rfl ?_
      refine aw_iaload (by decide) rfl dX12_isIn_36 c6 (LC.lt lc2 rfl rfl c6x) ?_
      refine aw_iconst (x := 2) dX12_isIn_37 rfl ?_
      refine aw_icmp_eq (tgt := 56) dX12_isIn_38 (by decide) (fun k8 => ?_) (fun k8 => ?_)
      · replace h := h.1 k8
        refine aw_iconst (x := 0) dX12_isIn_56 rfl ?_
        exact aw_fgt (L' := [some (vR 12 (some x0)), some (vI x1), some (vI x2), some (vI x3), none]) ⟨rfl, ⟨rfl, ⟨rfl, ⟨rfl, trivial⟩⟩⟩⟩ h
      · replace h := h.2 k8
        refine aw_aload_n dX12_isIn_41 rfl rfl ?_
        refine aw_getA' rfl fk_1267 (by decide) lf_X12_217 dX12_isIn_42 (LC.ne lc2 rfl rfl) ?_
        refine aw_iload_n dX12_isIn_45 rfl rfl ?_
        refine aw_iaload (by decide) rfl dX12_isIn_46 c6 (LC.lt lc2 rfl rfl c6x) ?_
        refine aw_bipush (x := 6) dX12_isIn_47 rfl ?_
        refine aw_icmp_eq (tgt := 56) dX12_isIn_49 (by decide) (fun k9 => ?_) (fun k9 => ?_)
        · replace h := h.1 k9
          refine aw_iconst (x := 0) dX12_isIn_56 rfl ?_
          exact aw_fgt (L' := [some (vR 12 (some x0)), some (vI x1), some (vI x2), some (vI x3), none]) ⟨rfl, ⟨rfl, ⟨rfl, ⟨rfl, trivial⟩⟩⟩⟩ h
        · replace h := h.2 k9
          refine aw_iconst (x := 1) dX12_isIn_52 rfl ?_
          refine aw_goto (tgt := 57) dX12_isIn_53 (by decide) ?_
          exact aw_fgt (L' := [some (vR 12 (some x0)), some (vI x1), some (vI x2), some (vI x3), none]) ⟨rfl, ⟨rfl, ⟨rfl, ⟨rfl, trivial⟩⟩⟩⟩ h
set_option maxRecDepth 4000 in
theorem bk_X12_isIn_57 {g : GP} {l : Launch} {d : Nat} {σ : St} {Q : Option AV → St → Prop} {x0 : Nat} {x1 : Int} {x2 : Int} {x3 : Int} {y0 : Int}
    (h : ((y0 = 0 → R32 (x3 + 1) ∧ AW g l d MX12_isIn 6 [some (vR 12 (some x0)), some (vI x1), some (vI x2), some (vI (x3 + 1)), none] [] σ Q) ∧ (¬ y0 = 0 → LC 12 σ x0 ∧ Bd x3 2800 ∧ ((x2 < (gI σ 1268 x0 x3.toNat) → R32 (x3 + 1) ∧ AW g l d MX12_isIn 6 [some (vR 12 (some x0)), some (vI x1), some (vI x2), some (vI (x3 + 1)), none] [] σ Q) ∧ (¬ x2 < (gI σ 1268 x0 x3.toNat) → (((gI σ 1269 x0 x3.toNat) ≤ x2 → R32 (x3 + 1) ∧ AW g l d MX12_isIn 6 [some (vR 12 (some x0)), some (vI x1), some (vI x2), some (vI (x3 + 1)), none] [] σ Q) ∧ (¬ (gI σ 1269 x0 x3.toNat) ≤ x2 → Q (some (vI 1)) σ))))))) :
    AW g l d MX12_isIn 57 [some (vR 12 (some x0)), some (vI x1), some (vI x2), some (vI x3), none] [vI y0] σ Q := by
  refine aw_istore (L' := [some (vR 12 (some x0)), some (vI x1), some (vI x2), some (vI x3), some (vI y0)]) dX12_isIn_57 (by decide) rfl ?_
  refine aw_iload dX12_isIn_59 rfl ?_
  refine aw_if_eq (tgt := 86) dX12_isIn_61 (by decide) (fun k1 => ?_) (fun k1 => ?_)
  · replace h := h.1 k1
    obtain ⟨⟨c2, c2x⟩, h⟩ := h
    refine aw_iincc (L' := [some (vR 12 (some x0)), some (vI x1), some (vI x2), some (vI (x3 + 1)), some (vI y0)]) dX12_isIn_86 rfl (by decide) rfl c2 c2x rfl ?_
    refine aw_goto (tgt := 6) dX12_isIn_89 (by decide) ?_
    exact aw_fgt (L' := [some (vR 12 (some x0)), some (vI x1), some (vI x2), some (vI (x3 + 1)), none]) ⟨rfl, ⟨rfl, ⟨rfl, ⟨rfl, trivial⟩⟩⟩⟩ h
  · replace h := h.2 k1
    refine aw_aload_n dX12_isIn_64 rfl rfl ?_
    obtain ⟨lc3, h⟩ := h
    refine aw_getA' rfl fk_1268 (by decide) lf_X12_220 dX12_isIn_65 (LC.ne lc3 rfl rfl) ?_
    refine aw_iload_n dX12_isIn_68 rfl rfl ?_
    obtain ⟨⟨c4, c4x⟩, h⟩ := h
    refine aw_iaload (by decide) rfl dX12_isIn_69 c4 (LC.lt lc3 rfl rfl c4x) ?_
    refine aw_iload_n dX12_isIn_70 rfl rfl ?_
    refine aw_icmp_gt (tgt := 86) dX12_isIn_71 (by decide) (fun k5 => ?_) (fun k5 => ?_)
    · replace h := h.1 k5
      obtain ⟨⟨c6, c6x⟩, h⟩ := h
      refine aw_iincc (L' := [some (vR 12 (some x0)), some (vI x1), some (vI x2), some (vI (x3 + 1)), some (vI y0)]) dX12_isIn_86 rfl (by decide) rfl c6 c6x rfl ?_
      refine aw_goto (tgt := 6) dX12_isIn_89 (by decide) ?_
      exact aw_fgt (L' := [some (vR 12 (some x0)), some (vI x1), some (vI x2), some (vI (x3 + 1)), none]) ⟨rfl, ⟨rfl, ⟨rfl, ⟨rfl, trivial⟩⟩⟩⟩ h
    · replace h := h.2 k5
      refine aw_iload_n dX12_isIn_74 rfl rfl ?_
      refine aw_aload_n dX12_isIn_75 rfl rfl ?_
      refine aw_getA' rfl fk_1269 (by decide) lf_X12_223 dX12_isIn_76 (LC.ne lc3 rfl rfl) ?_
      refine aw_iload_n dX12_isIn_79 rfl rfl ?_
      refine aw_iaload (by decide) rfl dX12_isIn_80 c4 (LC.lt lc3 rfl rfl c4x) ?_
      refine aw_icmp_ge (tgt := 86) dX12_isIn_81 (by decide) (fun k7 => ?_) (fun k7 => ?_)
      · replace h := h.1 k7
        obtain ⟨⟨c8, c8x⟩, h⟩ := h
        refine aw_iincc (L' := [some (vR 12 (some x0)), some (vI x1), some (vI x2), some (vI (x3 + 1)), some (vI y0)]) dX12_isIn_86 rfl (by decide) rfl c8 c8x rfl ?_
        refine aw_goto (tgt := 6) dX12_isIn_89 (by decide) ?_
        exact aw_fgt (L' := [some (vR 12 (some x0)), some (vI x1), some (vI x2), some (vI (x3 + 1)), none]) ⟨rfl, ⟨rfl, ⟨rfl, ⟨rfl, trivial⟩⟩⟩⟩ h
      · replace h := h.2 k7
        refine aw_iconst (x := 1) dX12_isIn_84 rfl ?_
        exact aw_zreturn dX12_isIn_85 rfl (Or.inr rfl) h
set_option maxRecDepth 4000 in
theorem bk_X12_isKeyword_0 {g : GP} {l : Launch} {d : Nat} {σ : St} {Q : Option AV → St → Prop} {x0 : Nat}
    (h : ACi g l d MX12_isWord [vR 12 (some x0), vJ 1701737837] σ (fun v2 σ1 => ((¬ v2 = 0 → Q (some (vI 1)) σ1) ∧ (v2 = 0 → ACi g l d MX12_isWord [vR 12 (some x0), vJ 126943973696372] σ1 (fun v5 σ4 => ((¬ v5 = 0 → Q (some (vI 1)) σ4) ∧ (v5 = 0 → ACi g l d MX12_isWord [vR 12 (some x0), vJ 26982] σ4 (fun v8 σ7 => ((¬ v8 = 0 → Q (some (vI 1)) σ7) ∧ (v8 = 0 → ACi g l d MX12_isWord [vR 12 (some x0), vJ 26995] σ7 (fun v11 σ10 => ((¬ v11 = 0 → Q (some (vI 1)) σ10) ∧ (v11 = 0 → ACi g l d MX12_isWord [vR 12 (some x0), vJ 1651078259] σ10 (fun v14 σ13 => ((¬ v14 = 0 → Q (some (vI 1)) σ13) ∧ (v14 = 0 → ACi g l d MX12_isWord [vR 12 (some x0), vJ 1952807028] σ13 (fun v17 σ16 => ((¬ v17 = 0 → Q (some (vI 1)) σ16) ∧ (v17 = 0 → ACi g l d MX12_isWord [vR 12 (some x0), vJ 504364296556] σ16 (fun v20 σ19 => ((¬ v20 = 0 → Q (some (vI 1)) σ19) ∧ (v20 = 0 → ACi g l d MX12_isWord [vR 12 (some x0), vJ 504363577198] σ19 (fun v23 σ22 => ((¬ v23 = 0 → Q (some (vI 1)) σ22) ∧ (v23 = 0 → ACi g l d MX12_isWord [vR 12 (some x0), vJ 25209] σ22 (fun v26 σ25 => ((¬ v26 = 0 → Q (some (vI 1)) σ25) ∧ (v26 = 0 → ACi g l d MX12_isWord [vR 12 (some x0), vJ 1701606245] σ25 (fun v29 σ28 => ((¬ v29 = 0 → Q (some (vI 1)) σ28) ∧ (v29 = 0 → ACi g l d MX12_isWord [vR 12 (some x0), vJ 29807] σ28 (fun v32 σ31 => ((¬ v32 = 0 → Q (some (vI 1)) σ31) ∧ (v32 = 0 → ACi g l d MX12_isWord [vR 12 (some x0), vJ 1718775661] σ31 (fun v35 σ34 => ((¬ v35 = 0 → Q (some (vI 1)) σ34) ∧ (v35 = 0 → ACi g l d MX12_isWord [vR 12 (some x0), vJ 1751478885] σ34 (fun v38 σ37 => ((¬ v38 = 0 → Q (some (vI 1)) σ37) ∧ (v38 = 0 → ACi g l d MX12_isWord [vR 12 (some x0), vJ 499984983411] σ37 (fun v41 σ40 => ((¬ v41 = 0 → Q (some (vI 1)) σ40) ∧ (v41 = 0 → ACi g l d MX12_isWord [vR 12 (some x0), vJ 7364964] σ40 (fun v44 σ43 => ((¬ v44 = 0 → Q (some (vI 1)) σ43) ∧ (v44 = 0 → ACi g l d MX12_isWord [vR 12 (some x0), vJ 469785602403] σ43 (fun v47 σ46 => ((¬ v47 = 0 → Q (some (vI 1)) σ46) ∧ (v47 = 0 → ACi g l d MX12_isWord [vR 12 (some x0), vJ 7566701] σ46 (fun v50 σ49 => ((¬ v50 = 0 → Q (some (vI 1)) σ49) ∧ (v50 = 0 → ACi g l d MX12_isWord [vR 12 (some x0), vJ 6382692] σ49 (fun v53 σ52 => ((¬ v53 = 0 → Q (some (vI 1)) σ52) ∧ (v53 = 0 → ACi g l d MX12_isWord [vR 12 (some x0), vJ 7892850] σ52 (fun v56 σ55 => ((¬ v56 = 0 → Q (some (vI 1)) σ55) ∧ (v56 = 0 → ACi g l d MX12_isWord [vR 12 (some x0), vJ 1869505907] σ55 (fun v59 σ58 => ((¬ v59 = 0 → Q (some (vI 1)) σ58) ∧ (v59 = 0 → ACi g l d MX12_isWord [vR 12 (some x0), vJ 1919904876] σ58 (fun v62 σ61 => ((¬ v62 = 0 → Q (some (vI 1)) σ61) ∧ (v62 = 0 → ACi g l d MX12_isWord [vR 12 (some x0), vJ 28518] σ61 (fun v65 σ64 => ((¬ v65 = 0 → Q (some (vI 1)) σ64) ∧ (v65 = 0 → ACi g l d MX12_isWord [vR 12 (some x0), vJ 1818584692] σ64 (fun v68 σ67 => ((¬ v68 = 0 → Q (some (vI 1)) σ67) ∧ (v68 = 0 → ACi g l d MX12_isWord [vR 12 (some x0), vJ 422608071022] σ67 (fun v71 σ70 => ((¬ v71 = 0 → Q (some (vI 1)) σ70) ∧ (v71 = 0 → ACi g l d MX12_isWord [vR 12 (some x0), vJ 6385252] σ70 (fun v74 σ73 => ((¬ v74 = 0 → Q (some (vI 1)) σ73) ∧ (v74 = 0 → ACi g l d MX12_isWord [vR 12 (some x0), vJ 28530] σ73 (fun v77 σ76 => ((¬ v77 = 0 → Q (some (vI 1)) σ76) ∧ (v77 = 0 → ACi g l d MX12_isWord [vR 12 (some x0), vJ 7237492] σ76 (fun v80 σ79 => ((¬ v80 = 0 → Q (some (vI 1)) σ79) ∧ (v80 = 0 → ACi g l d MX12_whole [vR 12 (some x0)] σ79 (fun v83 σ82 => ((v83 ≤ 0 → Q (some (vI 0)) σ82) ∧ (¬ v83 ≤ 0 → Q (some (vI 1)) σ82))))))))))))))))))))))))))))))))))))))))))))))))))))))))))))))))))))))))))))))))))))) :
    AW g l (d + 1) MX12_isKeyword 0 [some (vR 12 (some x0))] [] σ Q := by
  refine aw_aload_n dX12_isKeyword_0 rfl rfl ?_
  refine aw_ldc2 lk_X12_332 dX12_isKeyword_1 ?_
  refine aw_invVi (M := MX12_isKeyword) (ci := 12) [vJ 1701737837] rfl mo_X12_isWord rfl lm_X12_334 li_X12_isWord ls_X12_isWord (by decide +kernel) dX12_isKeyword_4 rfl (Nat.le_of_ble_eq_true rfl) (ACi.mono (fun v2 σ1 h => ?_) h)
  refine aw_if_ne (tgt := 277) dX12_isKeyword_7 (by decide) (fun k3 => ?_) (fun k3 => ?_)
  · replace h := h.1 k3
    refine aw_iconst (x := 1) dX12_isKeyword_277 rfl ?_
    refine aw_goto (tgt := 282) dX12_isKeyword_278 (by decide) ?_
    exact aw_zreturn dX12_isKeyword_282 rfl (Or.inr rfl) h
  · replace h := h.2 k3
    refine aw_aload_n dX12_isKeyword_10 rfl rfl ?_
    refine aw_ldc2 lk_X12_338 dX12_isKeyword_11 ?_
    refine aw_invVi (M := MX12_isKeyword) (ci := 12) [vJ 126943973696372] rfl mo_X12_isWord rfl lm_X12_334 li_X12_isWord ls_X12_isWord (by decide +kernel) dX12_isKeyword_14 rfl (Nat.le_of_ble_eq_true rfl) (ACi.mono (fun v5 σ4 h => ?_) h)
    refine aw_if_ne (tgt := 277) dX12_isKeyword_17 (by decide) (fun k6 => ?_) (fun k6 => ?_)
    · replace h := h.1 k6
      refine aw_iconst (x := 1) dX12_isKeyword_277 rfl ?_
      refine aw_goto (tgt := 282) dX12_isKeyword_278 (by decide) ?_
      exact aw_zreturn dX12_isKeyword_282 rfl (Or.inr rfl) h
    · replace h := h.2 k6
      refine aw_aload_n dX12_isKeyword_20 rfl rfl ?_
      refine aw_ldc2 lk_X12_340 dX12_isKeyword_21 ?_
      refine aw_invVi (M := MX12_isKeyword) (ci := 12) [vJ 26982] rfl mo_X12_isWord rfl lm_X12_334 li_X12_isWord ls_X12_isWord (by decide +kernel) dX12_isKeyword_24 rfl (Nat.le_of_ble_eq_true rfl) (ACi.mono (fun v8 σ7 h => ?_) h)
      refine aw_if_ne (tgt := 277) dX12_isKeyword_27 (by decide) (fun k9 => ?_) (fun k9 => ?_)
      · replace h := h.1 k9
        refine aw_iconst (x := 1) dX12_isKeyword_277 rfl ?_
        refine aw_goto (tgt := 282) dX12_isKeyword_278 (by decide) ?_
        exact aw_zreturn dX12_isKeyword_282 rfl (Or.inr rfl) h
      · replace h := h.2 k9
        refine aw_aload_n dX12_isKeyword_30 rfl rfl ?_
        refine aw_ldc2 lk_X12_342 dX12_isKeyword_31 ?_
        refine aw_invVi (M := MX12_isKeyword) (ci := 12) [vJ 26995] rfl mo_X12_isWord rfl lm_X12_334 li_X12_isWord ls_X12_isWord (by decide +kernel) dX12_isKeyword_34 rfl (Nat.le_of_ble_eq_true rfl) (ACi.mono (fun v11 σ10 h => ?_) h)
        refine aw_if_ne (tgt := 277) dX12_isKeyword_37 (by decide) (fun k12 => ?_) (fun k12 => ?_)
        · replace h := h.1 k12
          refine aw_iconst (x := 1) dX12_isKeyword_277 rfl ?_
          refine aw_goto (tgt := 282) dX12_isKeyword_278 (by decide) ?_
          exact aw_zreturn dX12_isKeyword_282 rfl (Or.inr rfl) h
        · replace h := h.2 k12
          refine aw_aload_n dX12_isKeyword_40 rfl rfl ?_
          refine aw_ldc2 lk_X12_344 dX12_isKeyword_41 ?_
          refine aw_invVi (M := MX12_isKeyword) (ci := 12) [vJ 1651078259] rfl mo_X12_isWord rfl lm_X12_334 li_X12_isWord ls_X12_isWord (by decide +kernel) dX12_isKeyword_44 rfl (Nat.le_of_ble_eq_true rfl) (ACi.mono (fun v14 σ13 h => ?_) h)
          refine aw_if_ne (tgt := 277) dX12_isKeyword_47 (by decide) (fun k15 => ?_) (fun k15 => ?_)
          · replace h := h.1 k15
            refine aw_iconst (x := 1) dX12_isKeyword_277 rfl ?_
            refine aw_goto (tgt := 282) dX12_isKeyword_278 (by decide) ?_
            exact aw_zreturn dX12_isKeyword_282 rfl (Or.inr rfl) h
          · replace h := h.2 k15
            refine aw_aload_n dX12_isKeyword_50 rfl rfl ?_
            refine aw_ldc2 lk_X12_346 dX12_isKeyword_51 ?_
            refine aw_invVi (M := MX12_isKeyword) (ci := 12) [vJ 1952807028] rfl mo_X12_isWord rfl lm_X12_334 li_X12_isWord ls_X12_isWord (by decide +kernel) dX12_isKeyword_54 rfl (Nat.le_of_ble_eq_true rfl) (ACi.mono (fun v17 σ16 h => ?_) h)
            refine aw_if_ne (tgt := 277) dX12_isKeyword_57 (by decide) (fun k18 => ?_) (fun k18 => ?_)
            · replace h := h.1 k18
              refine aw_iconst (x := 1) dX12_isKeyword_277 rfl ?_
              refine aw_goto (tgt := 282) dX12_isKeyword_278 (by decide) ?_
              exact aw_zreturn dX12_isKeyword_282 rfl (Or.inr rfl) h
            · replace h := h.2 k18
              refine aw_aload_n dX12_isKeyword_60 rfl rfl ?_
              refine aw_ldc2 lk_X12_348 dX12_isKeyword_61 ?_
              refine aw_invVi (M := MX12_isKeyword) (ci := 12) [vJ 504364296556] rfl mo_X12_isWord rfl lm_X12_334 li_X12_isWord ls_X12_isWord (by decide +kernel) dX12_isKeyword_64 rfl (Nat.le_of_ble_eq_true rfl) (ACi.mono (fun v20 σ19 h => ?_) h)
              refine aw_if_ne (tgt := 277) dX12_isKeyword_67 (by decide) (fun k21 => ?_) (fun k21 => ?_)
              · replace h := h.1 k21
                refine aw_iconst (x := 1) dX12_isKeyword_277 rfl ?_
                refine aw_goto (tgt := 282) dX12_isKeyword_278 (by decide) ?_
                exact aw_zreturn dX12_isKeyword_282 rfl (Or.inr rfl) h
              · replace h := h.2 k21
                refine aw_aload_n dX12_isKeyword_70 rfl rfl ?_
                refine aw_ldc2 lk_X12_350 dX12_isKeyword_71 ?_
                refine aw_invVi (M := MX12_isKeyword) (ci := 12) [vJ 504363577198] rfl mo_X12_isWord rfl lm_X12_334 li_X12_isWord ls_X12_isWord (by decide +kernel) dX12_isKeyword_74 rfl (Nat.le_of_ble_eq_true rfl) (ACi.mono (fun v23 σ22 h => ?_) h)
                refine aw_if_ne (tgt := 277) dX12_isKeyword_77 (by decide) (fun k24 => ?_) (fun k24 => ?_)
                · replace h := h.1 k24
                  refine aw_iconst (x := 1) dX12_isKeyword_277 rfl ?_
                  refine aw_goto (tgt := 282) dX12_isKeyword_278 (by decide) ?_
                  exact aw_zreturn dX12_isKeyword_282 rfl (Or.inr rfl) h
                · replace h := h.2 k24
                  refine aw_aload_n dX12_isKeyword_80 rfl rfl ?_
                  refine aw_ldc2 lk_X12_352 dX12_isKeyword_81 ?_
                  refine aw_invVi (M := MX12_isKeyword) (ci := 12) [vJ 25209] rfl mo_X12_isWord rfl lm_X12_334 li_X12_isWord ls_X12_isWord (by decide +kernel) dX12_isKeyword_84 rfl (Nat.le_of_ble_eq_true rfl) (ACi.mono (fun v26 σ25 h => ?_) h)
                  refine aw_if_ne (tgt := 277) dX12_isKeyword_87 (by decide) (fun k27 => ?_) (fun k27 => ?_)
                  · replace h := h.1 k27
                    refine aw_iconst (x := 1) dX12_isKeyword_277 rfl ?_
                    refine aw_goto (tgt := 282) dX12_isKeyword_278 (by decide) ?_
                    exact aw_zreturn dX12_isKeyword_282 rfl (Or.inr rfl) h
                  · replace h := h.2 k27
                    refine aw_aload_n dX12_isKeyword_90 rfl rfl ?_
                    refine aw_ldc2 lk_X12_354 dX12_isKeyword_91 ?_
                    refine aw_invVi (M := MX12_isKeyword) (ci := 12) [vJ 1701606245] rfl mo_X12_isWord rfl lm_X12_334 li_X12_isWord ls_X12_isWord (by decide +kernel) dX12_isKeyword_94 rfl (Nat.le_of_ble_eq_true rfl) (ACi.mono (fun v29 σ28 h => ?_) h)
                    refine aw_if_ne (tgt := 277) dX12_isKeyword_97 (by decide) (fun k30 => ?_) (fun k30 => ?_)
                    · replace h := h.1 k30
                      refine aw_iconst (x := 1) dX12_isKeyword_277 rfl ?_
                      refine aw_goto (tgt := 282) dX12_isKeyword_278 (by decide) ?_
                      exact aw_zreturn dX12_isKeyword_282 rfl (Or.inr rfl) h
                    · replace h := h.2 k30
                      refine aw_aload_n dX12_isKeyword_100 rfl rfl ?_
                      refine aw_ldc2 lk_X12_356 dX12_isKeyword_101 ?_
                      refine aw_invVi (M := MX12_isKeyword) (ci := 12) [vJ 29807] rfl mo_X12_isWord rfl lm_X12_334 li_X12_isWord ls_X12_isWord (by decide +kernel) dX12_isKeyword_104 rfl (Nat.le_of_ble_eq_true rfl) (ACi.mono (fun v32 σ31 h => ?_) h)
                      refine aw_if_ne (tgt := 277) dX12_isKeyword_107 (by decide) (fun k33 => ?_) (fun k33 => ?_)
                      · replace h := h.1 k33
                        refine aw_iconst (x := 1) dX12_isKeyword_277 rfl ?_
                        refine aw_goto (tgt := 282) dX12_isKeyword_278 (by decide) ?_
                        exact aw_zreturn dX12_isKeyword_282 rfl (Or.inr rfl) h
                      · replace h := h.2 k33
                        refine aw_aload_n dX12_isKeyword_110 rfl rfl ?_
                        refine aw_ldc2 lk_X12_358 dX12_isKeyword_111 ?_
                        refine aw_invVi (M := MX12_isKeyword) (ci := 12) [vJ 1718775661] rfl mo_X12_isWord rfl lm_X12_334 li_X12_isWord ls_X12_isWord (by decide +kernel) dX12_isKeyword_114 rfl (Nat.le_of_ble_eq_true rfl) (ACi.mono (fun v35 σ34 h => ?_) h)
                        refine aw_if_ne (tgt := 277) dX12_isKeyword_117 (by decide) (fun k36 => ?_) (fun k36 => ?_)
                        · replace h := h.1 k36
                          refine aw_iconst (x := 1) dX12_isKeyword_277 rfl ?_
                          refine aw_goto (tgt := 282) dX12_isKeyword_278 (by decide) ?_
                          exact aw_zreturn dX12_isKeyword_282 rfl (Or.inr rfl) h
                        · replace h := h.2 k36
                          refine aw_aload_n dX12_isKeyword_120 rfl rfl ?_
                          refine aw_ldc2 lk_X12_360 dX12_isKeyword_121 ?_
                          refine aw_invVi (M := MX12_isKeyword) (ci := 12) [vJ 1751478885] rfl mo_X12_isWord rfl lm_X12_334 li_X12_isWord ls_X12_isWord (by decide +kernel) dX12_isKeyword_124 rfl (Nat.le_of_ble_eq_true rfl) (ACi.mono (fun v38 σ37 h => ?_) h)
                          refine aw_if_ne (tgt := 277) dX12_isKeyword_127 (by decide) (fun k39 => ?_) (fun k39 => ?_)
                          · replace h := h.1 k39
                            refine aw_iconst (x := 1) dX12_isKeyword_277 rfl ?_
                            refine aw_goto (tgt := 282) dX12_isKeyword_278 (by decide) ?_
                            exact aw_zreturn dX12_isKeyword_282 rfl (Or.inr rfl) h
                          · replace h := h.2 k39
                            refine aw_aload_n dX12_isKeyword_130 rfl rfl ?_
                            refine aw_ldc2 lk_X12_362 dX12_isKeyword_131 ?_
                            refine aw_invVi (M := MX12_isKeyword) (ci := 12) [vJ 499984983411] rfl mo_X12_isWord rfl lm_X12_334 li_X12_isWord ls_X12_isWord (by decide +kernel) dX12_isKeyword_134 rfl (Nat.le_of_ble_eq_true rfl) (ACi.mono (fun v41 σ40 h => ?_) h)
                            refine aw_if_ne (tgt := 277) dX12_isKeyword_137 (by decide) (fun k42 => ?_) (fun k42 => ?_)
                            · replace h := h.1 k42
                              refine aw_iconst (x := 1) dX12_isKeyword_277 rfl ?_
                              refine aw_goto (tgt := 282) dX12_isKeyword_278 (by decide) ?_
                              exact aw_zreturn dX12_isKeyword_282 rfl (Or.inr rfl) h
                            · replace h := h.2 k42
                              refine aw_aload_n dX12_isKeyword_140 rfl rfl ?_
                              refine aw_ldc2 lk_X12_364 dX12_isKeyword_141 ?_
                              refine aw_invVi (M := MX12_isKeyword) (ci := 12) [vJ 7364964] rfl mo_X12_isWord rfl lm_X12_334 li_X12_isWord ls_X12_isWord (by decide +kernel) dX12_isKeyword_144 rfl (Nat.le_of_ble_eq_true rfl) (ACi.mono (fun v44 σ43 h => ?_) h)
                              refine aw_if_ne (tgt := 277) dX12_isKeyword_147 (by decide) (fun k45 => ?_) (fun k45 => ?_)
                              · replace h := h.1 k45
                                refine aw_iconst (x := 1) dX12_isKeyword_277 rfl ?_
                                refine aw_goto (tgt := 282) dX12_isKeyword_278 (by decide) ?_
                                exact aw_zreturn dX12_isKeyword_282 rfl (Or.inr rfl) h
                              · replace h := h.2 k45
                                refine aw_aload_n dX12_isKeyword_150 rfl rfl ?_
                                refine aw_ldc2 lk_X12_366 dX12_isKeyword_151 ?_
                                refine aw_invVi (M := MX12_isKeyword) (ci := 12) [vJ 469785602403] rfl mo_X12_isWord rfl lm_X12_334 li_X12_isWord ls_X12_isWord (by decide +kernel) dX12_isKeyword_154 rfl (Nat.le_of_ble_eq_true rfl) (ACi.mono (fun v47 σ46 h => ?_) h)
                                refine aw_if_ne (tgt := 277) dX12_isKeyword_157 (by decide) (fun k48 => ?_) (fun k48 => ?_)
                                · replace h := h.1 k48
                                  refine aw_iconst (x := 1) dX12_isKeyword_277 rfl ?_
                                  refine aw_goto (tgt := 282) dX12_isKeyword_278 (by decide) ?_
                                  exact aw_zreturn dX12_isKeyword_282 rfl (Or.inr rfl) h
                                · replace h := h.2 k48
                                  refine aw_aload_n dX12_isKeyword_160 rfl rfl ?_
                                  refine aw_ldc2 lk_X12_368 dX12_isKeyword_161 ?_
                                  refine aw_invVi (M := MX12_isKeyword) (ci := 12) [vJ 7566701] rfl mo_X12_isWord rfl lm_X12_334 li_X12_isWord ls_X12_isWord (by decide +kernel) dX12_isKeyword_164 rfl (Nat.le_of_ble_eq_true rfl) (ACi.mono (fun v50 σ49 h => ?_) h)
                                  refine aw_if_ne (tgt := 277) dX12_isKeyword_167 (by decide) (fun k51 => ?_) (fun k51 => ?_)
                                  · replace h := h.1 k51
                                    refine aw_iconst (x := 1) dX12_isKeyword_277 rfl ?_
                                    refine aw_goto (tgt := 282) dX12_isKeyword_278 (by decide) ?_
                                    exact aw_zreturn dX12_isKeyword_282 rfl (Or.inr rfl) h
                                  · replace h := h.2 k51
                                    refine aw_aload_n dX12_isKeyword_170 rfl rfl ?_
                                    refine aw_ldc2 lk_X12_370 dX12_isKeyword_171 ?_
                                    refine aw_invVi (M := MX12_isKeyword) (ci := 12) [vJ 6382692] rfl mo_X12_isWord rfl lm_X12_334 li_X12_isWord ls_X12_isWord (by decide +kernel) dX12_isKeyword_174 rfl (Nat.le_of_ble_eq_true rfl) (ACi.mono (fun v53 σ52 h => ?_) h)
                                    refine aw_if_ne (tgt := 277) dX12_isKeyword_177 (by decide) (fun k54 => ?_) (fun k54 => ?_)
                                    · replace h := h.1 k54
                                      refine aw_iconst (x := 1) dX12_isKeyword_277 rfl ?_
                                      refine aw_goto (tgt := 282) dX12_isKeyword_278 (by decide) ?_
                                      exact aw_zreturn dX12_isKeyword_282 rfl (Or.inr rfl) h
                                    · replace h := h.2 k54
                                      refine aw_aload_n dX12_isKeyword_180 rfl rfl ?_
                                      refine aw_ldc2 lk_X12_372 dX12_isKeyword_181 ?_
                                      refine aw_invVi (M := MX12_isKeyword) (ci := 12) [vJ 7892850] rfl mo_X12_isWord rfl lm_X12_334 li_X12_isWord ls_X12_isWord (by decide +kernel) dX12_isKeyword_184 rfl (Nat.le_of_ble_eq_true rfl) (ACi.mono (fun v56 σ55 h => ?_) h)
                                      refine aw_if_ne (tgt := 277) dX12_isKeyword_187 (by decide) (fun k57 => ?_) (fun k57 => ?_)
                                      · replace h := h.1 k57
                                        refine aw_iconst (x := 1) dX12_isKeyword_277 rfl ?_
                                        refine aw_goto (tgt := 282) dX12_isKeyword_278 (by decide) ?_
                                        exact aw_zreturn dX12_isKeyword_282 rfl (Or.inr rfl) h
                                      · replace h := h.2 k57
                                        refine aw_aload_n dX12_isKeyword_190 rfl rfl ?_
                                        refine aw_ldc2 lk_X12_374 dX12_isKeyword_191 ?_
                                        refine aw_invVi (M := MX12_isKeyword) (ci := 12) [vJ 1869505907] rfl mo_X12_isWord rfl lm_X12_334 li_X12_isWord ls_X12_isWord (by decide +kernel) dX12_isKeyword_194 rfl (Nat.le_of_ble_eq_true rfl) (ACi.mono (fun v59 σ58 h => ?_) h)
                                        refine aw_if_ne (tgt := 277) dX12_isKeyword_197 (by decide) (fun k60 => ?_) (fun k60 => ?_)
                                        · replace h := h.1 k60
                                          refine aw_iconst (x := 1) dX12_isKeyword_277 rfl ?_
                                          refine aw_goto (tgt := 282) dX12_isKeyword_278 (by decide) ?_
                                          exact aw_zreturn dX12_isKeyword_282 rfl (Or.inr rfl) h
                                        · replace h := h.2 k60
                                          refine aw_aload_n dX12_isKeyword_200 rfl rfl ?_
                                          refine aw_ldc2 lk_X12_376 dX12_isKeyword_201 ?_
                                          refine aw_invVi (M := MX12_isKeyword) (ci := 12) [vJ 1919904876] rfl mo_X12_isWord rfl lm_X12_334 li_X12_isWord ls_X12_isWord (by decide +kernel) dX12_isKeyword_204 rfl (Nat.le_of_ble_eq_true rfl) (ACi.mono (fun v62 σ61 h => ?_) h)
                                          refine aw_if_ne (tgt := 277) dX12_isKeyword_207 (by decide) (fun k63 => ?_) (fun k63 => ?_)
                                          · replace h := h.1 k63
                                            refine aw_iconst (x := 1) dX12_isKeyword_277 rfl ?_
                                            refine aw_goto (tgt := 282) dX12_isKeyword_278 (by decide) ?_
                                            exact aw_zreturn dX12_isKeyword_282 rfl (Or.inr rfl) h
                                          · replace h := h.2 k63
                                            refine aw_aload_n dX12_isKeyword_210 rfl rfl ?_
                                            refine aw_ldc2 lk_X12_378 dX12_isKeyword_211 ?_
                                            refine aw_invVi (M := MX12_isKeyword) (ci := 12) [vJ 28518] rfl mo_X12_isWord rfl lm_X12_334 li_X12_isWord ls_X12_isWord (by decide +kernel) dX12_isKeyword_214 rfl (Nat.le_of_ble_eq_true rfl) (ACi.mono (fun v65 σ64 h => ?_) h)
                                            refine aw_if_ne (tgt := 277) dX12_isKeyword_217 (by decide) (fun k66 => ?_) (fun k66 => ?_)
                                            · replace h := h.1 k66
                                              refine aw_iconst (x := 1) dX12_isKeyword_277 rfl ?_
                                              refine aw_goto (tgt := 282) dX12_isKeyword_278 (by decide) ?_
                                              exact aw_zreturn dX12_isKeyword_282 rfl (Or.inr rfl) h
                                            · replace h := h.2 k66
                                              refine aw_aload_n dX12_isKeyword_220 rfl rfl ?_
                                              refine aw_ldc2 lk_X12_380 dX12_isKeyword_221 ?_
                                              refine aw_invVi (M := MX12_isKeyword) (ci := 12) [vJ 1818584692] rfl mo_X12_isWord rfl lm_X12_334 li_X12_isWord ls_X12_isWord (by decide +kernel) dX12_isKeyword_224 rfl (Nat.le_of_ble_eq_true rfl) (ACi.mono (fun v68 σ67 h => ?_) h)
                                              refine aw_if_ne (tgt := 277) dX12_isKeyword_227 (by decide) (fun k69 => ?_) (fun k69 => ?_)
                                              · replace h := h.1 k69
                                                refine aw_iconst (x := 1) dX12_isKeyword_277 rfl ?_
                                                refine aw_goto (tgt := 282) dX12_isKeyword_278 (by decide) ?_
                                                exact aw_zreturn dX12_isKeyword_282 rfl (Or.inr rfl) h
                                              · replace h := h.2 k69
                                                refine aw_aload_n dX12_isKeyword_230 rfl rfl ?_
                                                refine aw_ldc2 lk_X12_382 dX12_isKeyword_231 ?_
                                                refine aw_invVi (M := MX12_isKeyword) (ci := 12) [vJ 422608071022] rfl mo_X12_isWord rfl lm_X12_334 li_X12_isWord ls_X12_isWord (by decide +kernel) dX12_isKeyword_234 rfl (Nat.le_of_ble_eq_true rfl) (ACi.mono (fun v71 σ70 h => ?_) h)
                                                refine aw_if_ne (tgt := 277) dX12_isKeyword_237 (by decide) (fun k72 => ?_) (fun k72 => ?_)
                                                · replace h := h.1 k72
                                                  refine aw_iconst (x := 1) dX12_isKeyword_277 rfl ?_
                                                  refine aw_goto (tgt := 282) dX12_isKeyword_278 (by decide) ?_
                                                  exact aw_zreturn dX12_isKeyword_282 rfl (Or.inr rfl) h
                                                · replace h := h.2 k72
                                                  refine aw_aload_n dX12_isKeyword_240 rfl rfl ?_
                                                  refine aw_ldc2 lk_X12_384 dX12_isKeyword_241 ?_
                                                  refine aw_invVi (M := MX12_isKeyword) (ci := 12) [vJ 6385252] rfl mo_X12_isWord rfl lm_X12_334 li_X12_isWord ls_X12_isWord (by decide +kernel) dX12_isKeyword_244 rfl (Nat.le_of_ble_eq_true rfl) (ACi.mono (fun v74 σ73 h => ?_) h)
                                                  refine aw_if_ne (tgt := 277) dX12_isKeyword_247 (by decide) (fun k75 => ?_) (fun k75 => ?_)
                                                  · replace h := h.1 k75
                                                    refine aw_iconst (x := 1) dX12_isKeyword_277 rfl ?_
                                                    refine aw_goto (tgt := 282) dX12_isKeyword_278 (by decide) ?_
                                                    exact aw_zreturn dX12_isKeyword_282 rfl (Or.inr rfl) h
                                                  · replace h := h.2 k75
                                                    refine aw_aload_n dX12_isKeyword_250 rfl rfl ?_
                                                    refine aw_ldc2 lk_X12_386 dX12_isKeyword_251 ?_
                                                    refine aw_invVi (M := MX12_isKeyword) (ci := 12) [vJ 28530] rfl mo_X12_isWord rfl lm_X12_334 li_X12_isWord ls_X12_isWord (by decide +kernel) dX12_isKeyword_254 rfl (Nat.le_of_ble_eq_true rfl) (ACi.mono (fun v77 σ76 h => ?_) h)
                                                    refine aw_if_ne (tgt := 277) dX12_isKeyword_257 (by decide) (fun k78 => ?_) (fun k78 => ?_)
                                                    · replace h := h.1 k78
                                                      refine aw_iconst (x := 1) dX12_isKeyword_277 rfl ?_
                                                      refine aw_goto (tgt := 282) dX12_isKeyword_278 (by decide) ?_
                                                      exact aw_zreturn dX12_isKeyword_282 rfl (Or.inr rfl) h
                                                    · replace h := h.2 k78
                                                      refine aw_aload_n dX12_isKeyword_260 rfl rfl ?_
                                                      refine aw_ldc2 lk_X12_388 dX12_isKeyword_261 ?_
                                                      refine aw_invVi (M := MX12_isKeyword) (ci := 12) [vJ 7237492] rfl mo_X12_isWord rfl lm_X12_334 li_X12_isWord ls_X12_isWord (by decide +kernel) dX12_isKeyword_264 rfl (Nat.le_of_ble_eq_true rfl) (ACi.mono (fun v80 σ79 h => ?_) h)
                                                      refine aw_if_ne (tgt := 277) dX12_isKeyword_267 (by decide) (fun k81 => ?_) (fun k81 => ?_)
                                                      · replace h := h.1 k81
                                                        refine aw_iconst (x := 1) dX12_isKeyword_277 rfl ?_
                                                        refine aw_goto (tgt := 282) dX12_isKeyword_278 (by decide) ?_
                                                        exact aw_zreturn dX12_isKeyword_282 rfl (Or.inr rfl) h
                                                      · replace h := h.2 k81
                                                        refine aw_aload_n dX12_isKeyword_270 rfl rfl ?_
                                                        refine aw_invVi (M := MX12_isKeyword) (ci := 12) [] rfl mo_X12_whole rfl lm_X12_390 li_X12_whole ls_X12_whole (by decide +kernel) dX12_isKeyword_271 rfl (Nat.le_of_ble_eq_true rfl) (ACi.mono (fun v83 σ82 h => ?_) h)
                                                        refine aw_if_le (tgt := 281) dX12_isKeyword_274 (by decide) (fun k84 => ?_) (fun k84 => ?_)
                                                        · replace h := h.1 k84
                                                          refine aw_iconst (x := 0) dX12_isKeyword_281 rfl ?_
                                                          exact aw_zreturn dX12_isKeyword_282 rfl (Or.inl rfl) h
                                                        · replace h := h.2 k84
                                                          refine aw_iconst (x := 1) dX12_isKeyword_277 rfl ?_
                                                          refine aw_goto (tgt := 282) dX12_isKeyword_278 (by decide) ?_
                                                          exact aw_zreturn dX12_isKeyword_282 rfl (Or.inr rfl) h
set_option maxRecDepth 4000 in
theorem bk_X12_isName_0 {g : GP} {l : Launch} {d : Nat} {σ : St} {Q : Option AV → St → Prop} {x0 : Nat}
    (h : ((¬ (gI σ 1213 x0 0) = 1 → Q (some (vI 0)) σ) ∧ ((gI σ 1213 x0 0) = 1 → ACi g l d MX12_isKeyword [vR 12 (some x0)] σ (fun v3 σ2 => ((¬ v3 = 0 → Q (some (vI 0)) σ2) ∧ (v3 = 0 → Q (some (vI 1)) σ2)))))) :
    AW g l (d + 1) MX12_isName 0 [some (vR 12 (some x0))] [] σ Q := by
  refine aw_aload_n dX12_isName_0 rfl rfl ?_
  refine aw_getI' rfl fk_1213 lf_X12_51 dX12_isName_1 ?_
  refine aw_iconst (x := 1) dX12_isName_4 rfl ?_
  refine aw_icmp_ne (tgt := 19) dX12_isName_5 (by decide) (fun k1 => ?_) (fun k1 => ?_)
  · replace h := h.1 k1
    refine aw_iconst (x := 0) dX12_isName_19 rfl ?_
    exact aw_zreturn dX12_isName_20 rfl (Or.inl rfl) h
  · replace h := h.2 k1
    refine aw_aload_n dX12_isName_8 rfl rfl ?_
    refine aw_invVi (M := MX12_isName) (ci := 12) [] rfl mo_X12_isKeyword rfl lm_X12_394 li_X12_isKeyword ls_X12_isKeyword (by decide +kernel) dX12_isName_9 rfl (Nat.le_of_ble_eq_true rfl) (ACi.mono (fun v3 σ2 h => ?_) h)
    refine aw_if_ne (tgt := 19) dX12_isName_12 (by decide) (fun k4 => ?_) (fun k4 => ?_)
    · replace h := h.1 k4
      refine aw_iconst (x := 0) dX12_isName_19 rfl ?_
      exact aw_zreturn dX12_isName_20 rfl (Or.inl rfl) h
    · replace h := h.2 k4
      refine aw_iconst (x := 1) dX12_isName_15 rfl ?_
      refine aw_goto (tgt := 20) dX12_isName_16 (by decide) ?_
      exact aw_zreturn dX12_isName_20 rfl (Or.inr rfl) h
set_option maxRecDepth 4000 in
theorem bk_X12_isNode_0 {g : GP} {l : Launch} {d : Nat} {σ : St} {Q : Option AV → St → Prop} {x0 : Nat} {x1 : Int} {x2 : Int}
    (h : ((x1 < 0 → Q (some (vI 0)) σ) ∧ (¬ x1 < 0 → (((gI σ 1264 x0 0) ≤ x1 → Q (some (vI 0)) σ) ∧ (¬ (gI σ 1264 x0 0) ≤ x1 → ((x2 < 0 → Q (some (vI 0)) σ) ∧ (¬ x2 < 0 → LC 12 σ x0 ∧ Bd x1 7 ∧ ((x2 < (gI σ 1266 x0 x1.toNat) → Q (some (vI 1)) (sI (sI (sI σ 1280 x0 0 x1) 1281 x0 0 (gI σ 1265 x0 x1.toNat)) 1253 x0 0 (gI σ 1218 x0 0))) ∧ (¬ x2 < (gI σ 1266 x0 x1.toNat) → Q (some (vI 0)) σ))))))))) :
    AW g l d MX12_isNode 0 [some (vR 12 (some x0)), some (vI x1), some (vI x2)] [] σ Q := by
  refine aw_iload_n dX12_isNode_0 rfl rfl ?_
  refine aw_if_lt (tgt := 26) dX12_isNode_1 (by decide) (fun k1 => ?_) (fun k1 => ?_)
  · replace h := h.1 k1
    refine aw_iconst (x := 0) dX12_isNode_26 rfl ?_
    exact aw_zreturn dX12_isNode_27 rfl (Or.inl rfl) h
  · replace h := h.2 k1
    refine aw_iload_n dX12_isNode_4 rfl rfl ?_
    refine aw_aload_n dX12_isNode_5 rfl rfl ?_
    refine aw_getI' rfl fk_1264 lf_X12_208 dX12_isNode_6 ?_
    refine aw_icmp_ge (tgt := 26) dX12_isNode_9 (by decide) (fun k2 => ?_) (fun k2 => ?_)
    · replace h := h.1 k2
      refine aw_iconst (x := 0) dX12_isNode_26 rfl ?_
      exact aw_zreturn dX12_isNode_27 rfl (Or.inl rfl) h
    · replace h := h.2 k2
      refine aw_iload_n dX12_isNode_12 rfl rfl ?_
      refine aw_if_lt (tgt := 26) dX12_isNode_13 (by decide) (fun k3 => ?_) (fun k3 => ?_)
      · replace h := h.1 k3
        refine aw_iconst (x := 0) dX12_isNode_26 rfl ?_
        exact aw_zreturn dX12_isNode_27 rfl (Or.inl rfl) h
      · replace h := h.2 k3
        refine aw_iload_n dX12_isNode_16 rfl rfl ?_
        refine aw_aload_n dX12_isNode_17 rfl rfl ?_
        obtain ⟨lc4, h⟩ := h
        refine aw_getA' rfl fk_1266 (by decide) lf_X12_214 dX12_isNode_18 (LC.ne lc4 rfl rfl) ?_
        refine aw_iload_n dX12_isNode_21 rfl rfl ?_
        obtain ⟨⟨c5, c5x⟩, h⟩ := h
        refine aw_iaload (by decide) rfl dX12_isNode_22 c5 (LC.lt lc4 rfl rfl c5x) ?_
        refine aw_icmp_lt (tgt := 28) dX12_isNode_23 (by decide) (fun k6 => ?_) (fun k6 => ?_)
        · replace h := h.1 k6
          refine aw_aload_n dX12_isNode_28 rfl rfl ?_
          refine aw_iload_n dX12_isNode_29 rfl rfl ?_
          refine aw_putI' rfl fk_1280 (Or.inl rfl) lf_X12_256 dX12_isNode_30 ?_
          refine aw_aload_n dX12_isNode_33 rfl rfl ?_
          refine aw_aload_n dX12_isNode_34 rfl rfl ?_
          refine aw_getA' rfl fk_1265 (by decide) lf_X12_211 dX12_isNode_35 (LC.ne lc4 rfl rfl) ?_
          refine aw_iload_n dX12_isNode_38 rfl rfl ?_
          refine aw_ialoade (v := gI σ 1265 x0 x1.toNat) (by decide) rfl dX12_isNode_39 c5 (LC.lt lc4 rfl rfl c5x) rfl ?_
          refine aw_putI' rfl fk_1281 (Or.inl rfl) lf_X12_259 dX12_isNode_40 ?_
          refine aw_aload_n dX12_isNode_43 rfl rfl ?_
          refine aw_aload_n dX12_isNode_44 rfl rfl ?_
          refine aw_getIe (v := gI σ 1218 x0 0) rfl fk_1218 lf_X12_67 dX12_isNode_45 rfl ?_
          refine aw_putI' rfl fk_1253 (Or.inl rfl) lf_X12_173 dX12_isNode_48 ?_
          refine aw_iconst (x := 1) dX12_isNode_51 rfl ?_
          exact aw_zreturn dX12_isNode_52 rfl (Or.inr rfl) h
        · replace h := h.2 k6
          refine aw_iconst (x := 0) dX12_isNode_26 rfl ?_
          exact aw_zreturn dX12_isNode_27 rfl (Or.inl rfl) h
set_option maxRecDepth 4000 in
theorem bk_X12_isOpen_0 {g : GP} {l : Launch} {d : Nat} {σ : St} {Q : Option AV → St → Prop} {x0 : Nat}
    (h : AW g l d MX12_isOpen 2 [some (vR 12 (some x0)), some (vI 0)] [] σ Q) :
    AW g l d MX12_isOpen 0 [some (vR 12 (some x0)), none] [] σ Q := by
  refine aw_iconst (x := 0) dX12_isOpen_0 rfl ?_
  refine aw_istore_n (L' := [some (vR 12 (some x0)), some (vI 0)]) dX12_isOpen_1 rfl (by decide) rfl ?_
  exact aw_fgt (L' := [some (vR 12 (some x0)), some (vI 0)]) ⟨rfl, ⟨rfl, trivial⟩⟩ h
set_option maxRecDepth 4000 in
theorem bk_X12_isOpen_2 {g : GP} {l : Launch} {d : Nat} {σ : St} {Q : Option AV → St → Prop} {x0 : Nat} {x1 : Int}
    (h : (((gI σ 1260 x0 0) ≤ x1 → Q (some (vI 0)) σ) ∧ (¬ (gI σ 1260 x0 0) ≤ x1 → LC 12 σ x0 ∧ Bd x1 128 ∧ ((¬ (gI σ 1258 x0 x1.toNat) = 18 → R32 (x1 + 1) ∧ AW g l d MX12_isOpen 2 [some (vR 12 (some x0)), some (vI (x1 + 1))] [] σ Q) ∧ ((gI σ 1258 x0 x1.toNat) = 18 → Q (some (vI 1)) σ))))) :
    AW g l d MX12_isOpen 2 [some (vR 12 (some x0)), some (vI x1)] [] σ Q := by
  refine aw_iload_n dX12_isOpen_2 rfl rfl ?_
  refine aw_aload_n dX12_isOpen_3 rfl rfl ?_
  refine aw_getI' rfl fk_1260 lf_X12_195 dX12_isOpen_4 ?_
  refine aw_icmp_ge (tgt := 29) dX12_isOpen_7 (by decide) (fun k1 => ?_) (fun k1 => ?_)
  · replace h := h.1 k1
    refine aw_iconst (x := 0) dX12_isOpen_29 rfl ?_
    exact aw_zreturn dX12_isOpen_30 rfl (Or.inl rfl) h
  · replace h := h.2 k1
    refine aw_aload_n dX12_isOpen_10 rfl rfl ?_
    obtain ⟨lc2, h⟩ := h
    refine aw_getA' rfl fk_1258 (by decide) lf_X12_189 dX12_isOpen_11 (LC.ne lc2 rfl rfl) ?_
    refine aw_iload_n dX12_isOpen_14 rfl rfl ?_
    obtain ⟨⟨c3, c3x⟩, h⟩ := h
    refine aw_iaload (by decide) rfl dX12_isOpen_15 c3 (LC.lt lc2 rfl rfl c3x) ?_
    refine aw_bipush (x := 18) dX12_isOpen_16 rfl ?_
    refine aw_icmp_ne (tgt := 23) dX12_isOpen_18 (by decide) (fun k4 => ?_) (fun k4 => ?_)
    · replace h := h.1 k4
      obtain ⟨⟨c5, c5x⟩, h⟩ := h
      refine aw_iincc (L' := [some (vR 12 (some x0)), some (vI (x1 + 1))]) dX12_isOpen_23 rfl (by decide) rfl c5 c5x rfl ?_
      refine aw_goto (tgt := 2) dX12_isOpen_26 (by decide) ?_
      exact aw_fgt (L' := [some (vR 12 (some x0)), some (vI (x1 + 1))]) ⟨rfl, ⟨rfl, trivial⟩⟩ h
    · replace h := h.2 k4
      refine aw_iconst (x := 1) dX12_isOpen_21 rfl ?_
      exact aw_zreturn dX12_isOpen_22 rfl (Or.inr rfl) h
set_option maxRecDepth 4000 in
theorem bk_X12_isSign_0 {g : GP} {l : Launch} {d : Nat} {σ : St} {Q : Option AV → St → Prop} {x0 : Nat} {x1 : Int}
    (h : ((¬ (gI σ 1213 x0 0) = 3 → Q (some (vI 0)) σ) ∧ ((gI σ 1213 x0 0) = 3 → ((¬ (gJ σ 1217 x0 0) = (i2j x1) → Q (some (vI 0)) σ) ∧ ((gJ σ 1217 x0 0) = (i2j x1) → Q (some (vI 1)) σ))))) :
    AW g l d MX12_isSign 0 [some (vR 12 (some x0)), some (vI x1)] [] σ Q := by
  refine aw_aload_n dX12_isSign_0 rfl rfl ?_
  refine aw_getI' rfl fk_1213 lf_X12_51 dX12_isSign_1 ?_
  refine aw_iconst (x := 3) dX12_isSign_4 rfl ?_
  refine aw_icmp_ne (tgt := 22) dX12_isSign_5 (by decide) (fun k1 => ?_) (fun k1 => ?_)
  · replace h := h.1 k1
    refine aw_iconst (x := 0) dX12_isSign_22 rfl ?_
    exact aw_zreturn dX12_isSign_23 rfl (Or.inl rfl) h
  · replace h := h.2 k1
    refine aw_aload_n dX12_isSign_8 rfl rfl ?_
    refine aw_getJ' rfl fk_1217 lf_X12_64 dX12_isSign_9 ?_
    refine aw_iload_n dX12_isSign_12 rfl rfl ?_
    refine aw_i2l dX12_isSign_13 ?_
    refine aw_lcmp_ne (M := MX12_isSign) (tgt := 22) dX12_isSign_14 dX12_isSign_15 (by decide) (fun k2 => ?_) (fun k2 => ?_)
    · replace h := h.1 k2
      refine aw_iconst (x := 0) dX12_isSign_22 rfl ?_
      exact aw_zreturn dX12_isSign_23 rfl (Or.inl rfl) h
    · replace h := h.2 k2
      refine aw_iconst (x := 1) dX12_isSign_18 rfl ?_
      refine aw_goto (tgt := 23) dX12_isSign_19 (by decide) ?_
      exact aw_zreturn dX12_isSign_23 rfl (Or.inr rfl) h
set_option maxRecDepth 4000 in
theorem bk_X12_isStruct_0 {g : GP} {l : Launch} {d : Nat} {σ : St} {Q : Option AV → St → Prop} {x0 : Nat} {x1 : Int}
    (h : ((x1 < 0 → Q (some (vI 0)) σ) ∧ (¬ x1 < 0 → LC 12 σ x0 ∧ Bd (gI σ 1218 x0 0) 2 ∧ (((gI σ 1219 x0 (gI σ 1218 x0 0).toNat) ≤ x1 → Q (some (vI 0)) σ) ∧ (¬ (gI σ 1219 x0 (gI σ 1218 x0 0).toNat) ≤ x1 → Q (some (vI 1)) σ))))) :
    AW g l d MX12_isStruct 0 [some (vR 12 (some x0)), some (vI x1)] [] σ Q := by
  refine aw_iload_n dX12_isStruct_0 rfl rfl ?_
  refine aw_if_lt (tgt := 21) dX12_isStruct_1 (by decide) (fun k1 => ?_) (fun k1 => ?_)
  · replace h := h.1 k1
    refine aw_iconst (x := 0) dX12_isStruct_21 rfl ?_
    exact aw_zreturn dX12_isStruct_22 rfl (Or.inl rfl) h
  · replace h := h.2 k1
    refine aw_iload_n dX12_isStruct_4 rfl rfl ?_
    refine aw_aload_n dX12_isStruct_5 rfl rfl ?_
    obtain ⟨lc2, h⟩ := h
    refine aw_getA' rfl fk_1219 (by decide) lf_X12_70 dX12_isStruct_6 (LC.ne lc2 rfl rfl) ?_
    refine aw_aload_n dX12_isStruct_9 rfl rfl ?_
    refine aw_getI' rfl fk_1218 lf_X12_67 dX12_isStruct_10 ?_
    obtain ⟨⟨c3, c3x⟩, h⟩ := h
    refine aw_iaload (by decide) rfl dX12_isStruct_13 c3 (LC.lt lc2 rfl rfl c3x) ?_
    refine aw_icmp_ge (tgt := 21) dX12_isStruct_14 (by decide) (fun k4 => ?_) (fun k4 => ?_)
    · replace h := h.1 k4
      refine aw_iconst (x := 0) dX12_isStruct_21 rfl ?_
      exact aw_zreturn dX12_isStruct_22 rfl (Or.inl rfl) h
    · replace h := h.2 k4
      refine aw_iconst (x := 1) dX12_isStruct_17 rfl ?_
      refine aw_goto (tgt := 22) dX12_isStruct_18 (by decide) ?_
      exact aw_zreturn dX12_isStruct_22 rfl (Or.inr rfl) h
set_option maxRecDepth 4000 in
theorem bk_X12_isWord_0 {g : GP} {l : Launch} {d : Nat} {σ : St} {Q : Option AV → St → Prop} {x0 : Nat} {x1 : Int64}
    (h : ((¬ (gI σ 1213 x0 0) = 1 → Q (some (vI 0)) σ) ∧ ((gI σ 1213 x0 0) = 1 → ((¬ (gJ σ 1216 x0 0) = x1 → Q (some (vI 0)) σ) ∧ ((gJ σ 1216 x0 0) = x1 → Q (some (vI 1)) σ))))) :
    AW g l d MX12_isWord 0 [some (vR 12 (some x0)), some (vJ x1), none] [] σ Q := by
  refine aw_aload_n dX12_isWord_0 rfl rfl ?_
  refine aw_getI' rfl fk_1213 lf_X12_51 dX12_isWord_1 ?_
  refine aw_iconst (x := 1) dX12_isWord_4 rfl ?_
  refine aw_icmp_ne (tgt := 21) dX12_isWord_5 (by decide) (fun k1 => ?_) (fun k1 => ?_)
  · replace h := h.1 k1
    refine aw_iconst (x := 0) dX12_isWord_21 rfl ?_
    exact aw_zreturn dX12_isWord_22 rfl (Or.inl rfl) h
  · replace h := h.2 k1
    refine aw_aload_n dX12_isWord_8 rfl rfl ?_
    refine aw_getJ' rfl fk_1216 lf_X12_60 dX12_isWord_9 ?_
    refine aw_lload_n dX12_isWord_12 rfl rfl ?_
    refine aw_lcmp_ne (M := MX12_isWord) (tgt := 21) dX12_isWord_13 dX12_isWord_14 (by decide) (fun k2 => ?_) (fun k2 => ?_)
    · replace h := h.1 k2
      refine aw_iconst (x := 0) dX12_isWord_21 rfl ?_
      exact aw_zreturn dX12_isWord_22 rfl (Or.inl rfl) h
    · replace h := h.2 k2
      refine aw_iconst (x := 1) dX12_isWord_17 rfl ?_
      refine aw_goto (tgt := 22) dX12_isWord_18 (by decide) ?_
      exact aw_zreturn dX12_isWord_22 rfl (Or.inr rfl) h
set_option maxRecDepth 4000 in
theorem bk_X12_item_0 {g : GP} {l : Launch} {d : Nat} {σ : St} {Q : Option AV → St → Prop} {x0 : Nat}
    (h : ACi g l d MX12_isWord [vR 12 (some x0), vJ 1701737837] σ (fun v2 σ1 => ((¬ v2 = 0 → AW g l (d + 1) MX12_item 28 [some (vR 12 (some x0)), some (vI v2)] [vI 1, vR 12 (some x0)] σ1 Q) ∧ (v2 = 0 → ACi g l d MX12_isWord [vR 12 (some x0), vJ 126943973696372] σ1 (fun v5 σ4 => ((v5 = 0 → AW g l (d + 1) MX12_item 28 [some (vR 12 (some x0)), some (vI v2)] [vI 0, vR 12 (some x0)] σ4 Q) ∧ (¬ v5 = 0 → AW g l (d + 1) MX12_item 28 [some (vR 12 (some x0)), some (vI v2)] [vI 1, vR 12 (some x0)] σ4 Q))))))) :
    AW g l (d + 1) MX12_item 0 [some (vR 12 (some x0)), none] [] σ Q := by
  refine aw_aload_n dX12_item_0 rfl rfl ?_
  refine aw_ldc2 lk_X12_332 dX12_item_1 ?_
  refine aw_invVi (M := MX12_item) (ci := 12) [vJ 1701737837] rfl mo_X12_isWord rfl lm_X12_334 li_X12_isWord ls_X12_isWord (by decide +kernel) dX12_item_4 rfl (Nat.le_of_ble_eq_true rfl) (ACi.mono (fun v2 σ1 h => ?_) h)
  refine aw_istore_n (L' := [some (vR 12 (some x0)), some (vI v2)]) dX12_item_7 rfl (by decide) rfl ?_
  refine aw_aload_n dX12_item_8 rfl rfl ?_
  refine aw_iload_n dX12_item_9 rfl rfl ?_
  refine aw_if_ne (tgt := 23) dX12_item_10 (by decide) (fun k3 => ?_) (fun k3 => ?_)
  · replace h := h.1 k3
    refine aw_iconst (x := 1) dX12_item_23 rfl ?_
    refine aw_goto (tgt := 28) dX12_item_24 (by decide) ?_
    exact aw_fgt (L' := [some (vR 12 (some x0)), some (vI v2)]) ⟨rfl, ⟨rfl, trivial⟩⟩ h
  · replace h := h.2 k3
    refine aw_aload_n dX12_item_13 rfl rfl ?_
    refine aw_ldc2 lk_X12_338 dX12_item_14 ?_
    refine aw_invVi (M := MX12_item) (ci := 12) [vJ 126943973696372] rfl mo_X12_isWord rfl lm_X12_334 li_X12_isWord ls_X12_isWord (by decide +kernel) dX12_item_17 rfl (Nat.le_of_ble_eq_true rfl) (ACi.mono (fun v5 σ4 h => ?_) h)
    refine aw_if_eq (tgt := 27) dX12_item_20 (by decide) (fun k6 => ?_) (fun k6 => ?_)
    · replace h := h.1 k6
      refine aw_iconst (x := 0) dX12_item_27 rfl ?_
      exact aw_fgt (L' := [some (vR 12 (some x0)), some (vI v2)]) ⟨rfl, ⟨rfl, trivial⟩⟩ h
    · replace h := h.2 k6
      refine aw_iconst (x := 1) dX12_item_23 rfl ?_
      refine aw_goto (tgt := 28) dX12_item_24 (by decide) ?_
      exact aw_fgt (L' := [some (vR 12 (some x0)), some (vI v2)]) ⟨rfl, ⟨rfl, trivial⟩⟩ h
set_option maxRecDepth 4000 in
theorem bk_X12_item_28 {g : GP} {l : Launch} {d : Nat} {σ : St} {Q : Option AV → St → Prop} {x0 : Nat} {x1 : Int} {y0 : Int} {y1 : Option Nat}
    (h : ∃ r1, y1 = some r1 ∧ ACi g l d MX12_must [vR 12 (some r1), vI y0, vI 2] σ (fun v4 σ3 => ((v4 = 0 → Q none σ3) ∧ (¬ v4 = 0 → ((x1 = 0 → LC 12 σ3 x0 ∧ Bd (gI σ3 1253 x0 0) 2 ∧ ((20 ≤ (gI σ3 1219 x0 (gI σ3 1253 x0 0).toNat) → AW g l (d + 1) MX12_item 81 [some (vR 12 (some x0)), some (vI x1)] [vI 0, vR 12 (some x0)] σ3 Q) ∧ (¬ 20 ≤ (gI σ3 1219 x0 (gI σ3 1253 x0 0).toNat) → AW g l (d + 1) MX12_item 81 [some (vR 12 (some x0)), some (vI x1)] [vI 1, vR 12 (some x0)] σ3 Q))) ∧ (¬ x1 = 0 → LC 12 σ3 x0 ∧ Bd (gI σ3 1253 x0 0) 2 ∧ ((8 ≤ (gI σ3 1220 x0 (gI σ3 1253 x0 0).toNat) → AW g l (d + 1) MX12_item 81 [some (vR 12 (some x0)), some (vI x1)] [vI 0, vR 12 (some x0)] σ3 Q) ∧ (¬ 8 ≤ (gI σ3 1220 x0 (gI σ3 1253 x0 0).toNat) → AW g l (d + 1) MX12_item 81 [some (vR 12 (some x0)), some (vI x1)] [vI 1, vR 12 (some x0)] σ3 Q)))))))) :
    AW g l (d + 1) MX12_item 28 [some (vR 12 (some x0)), some (vI x1)] [vI y0, vR 12 y1] σ Q := by
  refine aw_iconst (x := 2) dX12_item_28 rfl ?_
  obtain ⟨r1, e2, h⟩ := h
  refine aw_invVi (M := MX12_item) (ci := 12) [vI y0, vI 2] e2 mo_X12_must rfl lm_X12_404 li_X12_must ls_X12_must (by decide +kernel) dX12_item_29 rfl (Nat.le_of_ble_eq_true rfl) (ACi.mono (fun v4 σ3 h => ?_) h)
  refine aw_if_eq (tgt := 88) dX12_item_32 (by decide) (fun k5 => ?_) (fun k5 => ?_)
  · replace h := h.1 k5
    exact aw_ret h rfl dX12_item_88
  · replace h := h.2 k5
    refine aw_aload_n dX12_item_35 rfl rfl ?_
    refine aw_iload_n dX12_item_36 rfl rfl ?_
    refine aw_if_eq (tgt := 62) dX12_item_37 (by decide) (fun k6 => ?_) (fun k6 => ?_)
    · replace h := h.1 k6
      refine aw_aload_n dX12_item_62 rfl rfl ?_
      obtain ⟨lc7, h⟩ := h
      refine aw_getA' rfl fk_1219 (by decide) lf_X12_70 dX12_item_63 (LC.ne lc7 rfl rfl) ?_
      refine aw_aload_n dX12_item_66 rfl rfl ?_
      refine aw_getI' rfl fk_1253 lf_X12_173 dX12_item_67 ?_
      obtain ⟨⟨c8, c8x⟩, h⟩ := h
      refine aw_iaload (by decide) rfl dX12_item_70 c8 (LC.lt lc7 rfl rfl c8x) ?_
      refine aw_bipush (x := 20) dX12_item_71 rfl ?_
      refine aw_icmp_ge (tgt := 80) dX12_item_73 (by decide) (fun k9 => ?_) (fun k9 => ?_)
      · replace h := h.1 k9
        refine aw_iconst (x := 0) dX12_item_80 rfl ?_
        exact aw_fgt (L' := [some (vR 12 (some x0)), some (vI x1)]) ⟨rfl, ⟨rfl, trivial⟩⟩ h
      · replace h := h.2 k9
        refine aw_iconst (x := 1) dX12_item_76 rfl ?_
        refine aw_goto (tgt := 81) dX12_item_77 (by decide) ?_
        exact aw_fgt (L' := [some (vR 12 (some x0)), some (vI x1)]) ⟨rfl, ⟨rfl, trivial⟩⟩ h
    · replace h := h.2 k6
      refine aw_aload_n dX12_item_40 rfl rfl ?_
      obtain ⟨lc10, h⟩ := h
      refine aw_getA' rfl fk_1220 (by decide) lf_X12_73 dX12_item_41 (LC.ne lc10 rfl rfl) ?_
      refine aw_aload_n dX12_item_44 rfl rfl ?_
      refine aw_getI' rfl fk_1253 lf_X12_173 dX12_item_45 ?_
      obtain ⟨⟨c11, c11x⟩, h⟩ := h
      refine aw_iaload (by decide) rfl dX12_item_48 c11 (LC.lt lc10 rfl rfl c11x) ?_
      refine aw_bipush (x := 8) dX12_item_49 rfl ?_
      refine aw_icmp_ge (tgt := 58) dX12_item_51 (by decide) (fun k12 => ?_) (fun k12 => ?_)
      · replace h := h.1 k12
        refine aw_iconst (x := 0) dX12_item_58 rfl ?_
        refine aw_goto (tgt := 81) dX12_item_59 (by decide) ?_
        exact aw_fgt (L' := [some (vR 12 (some x0)), some (vI x1)]) ⟨rfl, ⟨rfl, trivial⟩⟩ h
      · replace h := h.2 k12
        refine aw_iconst (x := 1) dX12_item_54 rfl ?_
        refine aw_goto (tgt := 81) dX12_item_55 (by decide) ?_
        exact aw_fgt (L' := [some (vR 12 (some x0)), some (vI x1)]) ⟨rfl, ⟨rfl, trivial⟩⟩ h
set_option maxRecDepth 4000 in
theorem bk_X12_item_81 {g : GP} {l : Launch} {d : Nat} {σ : St} {Q : Option AV → St → Prop} {x0 : Nat} {x1 : Int} {y0 : Int} {y1 : Option Nat}
    (h : ∃ r1, y1 = some r1 ∧ ACi g l d MX12_must [vR 12 (some r1), vI y0, vI 5] σ (fun v4 σ3 => ((¬ v4 = 0 → ACv g l d MX12_next [vR 12 (some x0)] σ3 (fun σ6 => ACi g l d MX12_isName [vR 12 (some x0)] σ6 (fun v8 σ7 => ACi g l d MX12_must [vR 12 (some x0), vI v8, vI 2] σ7 (fun v10 σ9 => ((v10 = 0 → Q none σ9) ∧ (¬ v10 = 0 → LC 12 σ9 x0 ∧ Bd (gI σ9 1253 x0 0) 2 ∧ ACi g l d MX12_structNamed [vR 12 (some x0), vJ (gJ σ9 1216 x0 0), vI (gI σ9 1219 x0 (gI σ9 1253 x0 0).toNat)] σ9 (fun v15 σ14 => ((0 ≤ v15 → AW g l (d + 1) MX12_item 142 [some (vR 12 (some x0)), some (vI x1)] [vI 0, vR 12 (some x0)] σ14 Q) ∧ (¬ 0 ≤ v15 → ACi g l d MX12_enumNamed [vR 12 (some x0), vJ (gJ σ14 1216 x0 0)] σ14 (fun v18 σ17 => ((0 ≤ v18 → AW g l (d + 1) MX12_item 142 [some (vR 12 (some x0)), some (vI x1)] [vI 0, vR 12 (some x0)] σ17 Q) ∧ (¬ 0 ≤ v18 → AW g l (d + 1) MX12_item 142 [some (vR 12 (some x0)), some (vI x1)] [vI 1, vR 12 (some x0)] σ17 Q)))))))))))) ∧ (v4 = 0 → Q none σ3)))) :
    AW g l (d + 1) MX12_item 81 [some (vR 12 (some x0)), some (vI x1)] [vI y0, vR 12 y1] σ Q := by
  refine aw_iconst (x := 5) dX12_item_81 rfl ?_
  obtain ⟨r1, e2, h⟩ := h
  refine aw_invVi (M := MX12_item) (ci := 12) [vI y0, vI 5] e2 mo_X12_must rfl lm_X12_404 li_X12_must ls_X12_must (by decide +kernel) dX12_item_82 rfl (Nat.le_of_ble_eq_true rfl) (ACi.mono (fun v4 σ3 h => ?_) h)
  refine aw_if_ne (tgt := 89) dX12_item_85 (by decide) (fun k5 => ?_) (fun k5 => ?_)
  · replace h := h.1 k5
    refine aw_aload_n dX12_item_89 rfl rfl ?_
    refine aw_invVv (M := MX12_item) (ci := 12) [] rfl mo_X12_next rfl lm_X12_408 li_X12_next ls_X12_next (by decide +kernel) dX12_item_90 rfl (Nat.le_of_ble_eq_true rfl) (ACv.mono (fun σ6 h => ?_) h)
    refine aw_aload_n dX12_item_93 rfl rfl ?_
    refine aw_aload_n dX12_item_94 rfl rfl ?_
    refine aw_invVi (M := MX12_item) (ci := 12) [] rfl mo_X12_isName rfl lm_X12_418 li_X12_isName ls_X12_isName (by decide +kernel) dX12_item_95 rfl (Nat.le_of_ble_eq_true rfl) (ACi.mono (fun v8 σ7 h => ?_) h)
    refine aw_iconst (x := 2) dX12_item_98 rfl ?_
    refine aw_invVi (M := MX12_item) (ci := 12) [vI v8, vI 2] rfl mo_X12_must rfl lm_X12_404 li_X12_must ls_X12_must (by decide +kernel) dX12_item_99 rfl (Nat.le_of_ble_eq_true rfl) (ACi.mono (fun v10 σ9 h => ?_) h)
    refine aw_if_eq (tgt := 149) dX12_item_102 (by decide) (fun k11 => ?_) (fun k11 => ?_)
    · replace h := h.1 k11
      exact aw_ret h rfl dX12_item_149
    · replace h := h.2 k11
      refine aw_aload_n dX12_item_105 rfl rfl ?_
      refine aw_aload_n dX12_item_106 rfl rfl ?_
      refine aw_aload_n dX12_item_107 rfl rfl ?_
      refine aw_getJ' rfl fk_1216 lf_X12_60 dX12_item_108 ?_
      refine aw_aload_n dX12_item_111 rfl rfl ?_
      obtain ⟨lc12, h⟩ := h
      refine aw_getA' rfl fk_1219 (by decide) lf_X12_70 dX12_item_112 (LC.ne lc12 rfl rfl) ?_
      refine aw_aload_n dX12_item_115 rfl rfl ?_
      refine aw_getI' rfl fk_1253 lf_X12_173 dX12_item_116 ?_
      obtain ⟨⟨c13, c13x⟩, h⟩ := h
      refine aw_iaload (by decide) rfl dX12_item_119 c13 (LC.lt lc12 rfl rfl c13x) ?_
      refine aw_invVi (M := MX12_item) (ci := 12) [vJ (gJ σ9 1216 x0 0), vI (gI σ9 1219 x0 (gI σ9 1253 x0 0).toNat)] rfl mo_X12_structNamed rfl lm_X12_414 li_X12_structNamed ls_X12_structNamed (by decide +kernel) dX12_item_120 rfl (Nat.le_of_ble_eq_true rfl) (ACi.mono (fun v15 σ14 h => ?_) h)
      refine aw_if_ge (tgt := 141) dX12_item_123 (by decide) (fun k16 => ?_) (fun k16 => ?_)
      · replace h := h.1 k16
        refine aw_iconst (x := 0) dX12_item_141 rfl ?_
        exact aw_fgt (L' := [some (vR 12 (some x0)), some (vI x1)]) ⟨rfl, ⟨rfl, trivial⟩⟩ h
      · replace h := h.2 k16
        refine aw_aload_n dX12_item_126 rfl rfl ?_
        refine aw_aload_n dX12_item_127 rfl rfl ?_
        refine aw_getJ' rfl fk_1216 lf_X12_60 dX12_item_128 ?_
        refine aw_invVi (M := MX12_item) (ci := 12) [vJ (gJ σ14 1216 x0 0)] rfl mo_X12_enumNamed rfl lm_X12_421 li_X12_enumNamed ls_X12_enumNamed (by decide +kernel) dX12_item_131 rfl (Nat.le_of_ble_eq_true rfl) (ACi.mono (fun v18 σ17 h => ?_) h)
        refine aw_if_ge (tgt := 141) dX12_item_134 (by decide) (fun k19 => ?_) (fun k19 => ?_)
        · replace h := h.1 k19
          refine aw_iconst (x := 0) dX12_item_141 rfl ?_
          exact aw_fgt (L' := [some (vR 12 (some x0)), some (vI x1)]) ⟨rfl, ⟨rfl, trivial⟩⟩ h
        · replace h := h.2 k19
          refine aw_iconst (x := 1) dX12_item_137 rfl ?_
          refine aw_goto (tgt := 142) dX12_item_138 (by decide) ?_
          exact aw_fgt (L' := [some (vR 12 (some x0)), some (vI x1)]) ⟨rfl, ⟨rfl, trivial⟩⟩ h
  · replace h := h.2 k5
    exact aw_ret h rfl dX12_item_88
set_option maxRecDepth 4000 in
theorem bk_X12_item_142 {g : GP} {l : Launch} {d : Nat} {σ : St} {Q : Option AV → St → Prop} {x0 : Nat} {x1 : Int} {y0 : Int} {y1 : Option Nat}
    (h : ∃ r1, y1 = some r1 ∧ ACi g l d MX12_must [vR 12 (some r1), vI y0, vI 3] σ (fun v4 σ3 => ((¬ v4 = 0 → ((x1 = 0 → ACv g l d MX12_readStruct [vR 12 (some x0)] σ3 (fun σ7 => Q none σ7)) ∧ (¬ x1 = 0 → ACv g l d MX12_readEnum [vR 12 (some x0)] σ3 (fun σ8 => Q none σ8)))) ∧ (v4 = 0 → Q none σ3)))) :
    AW g l (d + 1) MX12_item 142 [some (vR 12 (some x0)), some (vI x1)] [vI y0, vR 12 y1] σ Q := by
  refine aw_iconst (x := 3) dX12_item_142 rfl ?_
  obtain ⟨r1, e2, h⟩ := h
  refine aw_invVi (M := MX12_item) (ci := 12) [vI y0, vI 3] e2 mo_X12_must rfl lm_X12_404 li_X12_must ls_X12_must (by decide +kernel) dX12_item_143 rfl (Nat.le_of_ble_eq_true rfl) (ACi.mono (fun v4 σ3 h => ?_) h)
  refine aw_if_ne (tgt := 150) dX12_item_146 (by decide) (fun k5 => ?_) (fun k5 => ?_)
  · replace h := h.1 k5
    refine aw_iload_n dX12_item_150 rfl rfl ?_
    refine aw_if_eq (tgt := 161) dX12_item_151 (by decide) (fun k6 => ?_) (fun k6 => ?_)
    · replace h := h.1 k6
      refine aw_aload_n dX12_item_161 rfl rfl ?_
      refine aw_invVv (M := MX12_item) (ci := 12) [] rfl mo_X12_readStruct rfl lm_X12_428 li_X12_readStruct ls_X12_readStruct (by decide +kernel) dX12_item_162 rfl (Nat.le_of_ble_eq_true rfl) (ACv.mono (fun σ7 h => ?_) h)
      exact aw_ret h rfl dX12_item_165
    · replace h := h.2 k6
      refine aw_aload_n dX12_item_154 rfl rfl ?_
      refine aw_invVv (M := MX12_item) (ci := 12) [] rfl mo_X12_readEnum rfl lm_X12_425 li_X12_readEnum ls_X12_readEnum (by decide +kernel) dX12_item_155 rfl (Nat.le_of_ble_eq_true rfl) (ACv.mono (fun σ8 h => ?_) h)
      refine aw_goto (tgt := 165) dX12_item_158 (by decide) ?_
      exact aw_ret h rfl dX12_item_165
  · replace h := h.2 k5
    exact aw_ret h rfl dX12_item_149
set_option maxRecDepth 4000 in
theorem bk_X12_join_0 {g : GP} {l : Launch} {d : Nat} {σ : St} {Q : Option AV → St → Prop} {x0 : Nat}
    (h : R32 ((gI σ 1260 x0 0) - 1) ∧ LC 12 σ x0 ∧ Bd ((gI σ 1260 x0 0) - 1) 128 ∧ ∀ z4 : Int, z4 = gI σ 1258 x0 ((gI σ 1260 x0 0) - 1).toNat → ACi g l d MX12_strength [vR 12 (some x0), vI z4] (sI σ 1260 x0 0 ((gI σ 1260 x0 0) - 1)) (fun v6 σ5 => ((¬ v6 = 6 → LC 12 σ5 x0 ∧ R32 ((gI σ5 1261 x0 0) - 2) ∧ Bd ((gI σ5 1261 x0 0) - 2) 128 ∧ R32 ((gI σ5 1261 x0 0) - 1) ∧ Bd ((gI σ5 1261 x0 0) - 1) 128 ∧ ACi g l d MX12_node [vR 12 (some x0), vI z4, vI (gI σ5 1259 x0 ((gI σ5 1261 x0 0) - 2).toNat), vI (gI σ5 1259 x0 ((gI σ5 1261 x0 0) - 1).toNat), vJ 0] σ5 (fun v14 σ13 => LC 12 σ13 x0 ∧ R32 ((gI σ13 1261 x0 0) - 1) ∧ Q none (sI (sI σ13 1259 x0 ((gI σ5 1261 x0 0) - 2).toNat v14) 1261 x0 0 ((gI σ13 1261 x0 0) - 1)))) ∧ (v6 = 6 → LC 12 σ5 x0 ∧ R32 ((gI σ5 1261 x0 0) - 1) ∧ Bd ((gI σ5 1261 x0 0) - 1) 128 ∧ ACi g l d MX12_node [vR 12 (some x0), vI z4, vI (gI σ5 1259 x0 ((gI σ5 1261 x0 0) - 1).toNat), vI (-1), vJ 0] σ5 (fun v21 σ20 => LC 12 σ20 x0 ∧ R32 ((gI σ20 1255 x0 0) - 1) ∧ Q none (sI (sI σ20 1259 x0 ((gI σ5 1261 x0 0) - 1).toNat v21) 1255 x0 0 ((gI σ20 1255 x0 0) - 1))))))) :
    AW g l (d + 1) MX12_join 0 [some (vR 12 (some x0)), none] [] σ Q := by
  refine aw_aload_n dX12_join_0 rfl rfl ?_
  refine aw_dup dX12_join_1 rfl ?_
  refine aw_getI' rfl fk_1260 lf_X12_195 dX12_join_2 ?_
  refine aw_iconst (x := 1) dX12_join_5 rfl ?_
  obtain ⟨⟨c1, c1x⟩, h⟩ := h
  refine aw_isubc dX12_join_6 c1 c1x ?_
  refine aw_putI' rfl fk_1260 (Or.inl rfl) lf_X12_195 dX12_join_7 ?_
  refine aw_aload_n dX12_join_10 rfl rfl ?_
  obtain ⟨lc2, h⟩ := h
  refine aw_getA' rfl fk_1258 (by decide) lf_X12_189 dX12_join_11 (LC.ne lc2 rfl rfl) ?_
  refine aw_aload_n dX12_join_14 rfl rfl ?_
  refine aw_getIe (v := ((gI σ 1260 x0 0) - 1)) rfl fk_1260 lf_X12_195 dX12_join_15 (gI_slf σ 1260 x0 0 ((gI σ 1260 x0 0) - 1)) ?_
  obtain ⟨⟨c3, c3x⟩, h⟩ := h
  refine aw_ialoade (v := gI σ 1258 x0 ((gI σ 1260 x0 0) - 1).toNat) (by decide) rfl dX12_join_18 c3 (LC.lt lc2 rfl rfl c3x) rfl ?_
  refine aw_istore_n (L' := [some (vR 12 (some x0)), some (vI (gI σ 1258 x0 ((gI σ 1260 x0 0) - 1).toNat))]) dX12_join_19 rfl (by decide) rfl ?_
  obtain ⟨z4, hz4⟩ : ∃ z : Int, z = gI σ 1258 x0 ((gI σ 1260 x0 0) - 1).toNat := ⟨_, rfl⟩
  rw [← hz4]
  replace h := h z4 hz4
  refine aw_aload_n dX12_join_20 rfl rfl ?_
  refine aw_iload_n dX12_join_21 rfl rfl ?_
  refine aw_invVi (M := MX12_join) (ci := 12) [vI z4] rfl mo_X12_strength rfl lm_X12_526 li_X12_strength ls_X12_strength (by decide +kernel) dX12_join_22 rfl (Nat.le_of_ble_eq_true rfl) (ACi.mono (fun v6 σ5 h => ?_) h)
  refine aw_bipush (x := 6) dX12_join_25 rfl ?_
  refine aw_icmp_ne (tgt := 72) dX12_join_27 (by decide) (fun k7 => ?_) (fun k7 => ?_)
  · replace h := h.1 k7
    refine aw_aload_n dX12_join_72 rfl rfl ?_
    obtain ⟨lc8, h⟩ := h
    refine aw_getA' rfl fk_1259 (by decide) lf_X12_192 dX12_join_73 (LC.ne lc8 rfl rfl) ?_
    refine aw_aload_n dX12_join_76 rfl rfl ?_
    refine aw_getI' rfl fk_1261 lf_X12_198 dX12_join_77 ?_
    refine aw_iconst (x := 2) dX12_join_80 rfl ?_
    obtain ⟨⟨c9, c9x⟩, h⟩ := h
    refine aw_isubc dX12_join_81 c9 c9x ?_
    refine aw_aload_n dX12_join_82 rfl rfl ?_
    refine aw_iload_n dX12_join_83 rfl rfl ?_
    refine aw_aload_n dX12_join_84 rfl rfl ?_
    refine aw_getA' rfl fk_1259 (by decide) lf_X12_192 dX12_join_85 (LC.ne lc8 rfl rfl) ?_
    refine aw_aload_n dX12_join_88 rfl rfl ?_
    refine aw_getI' rfl fk_1261 lf_X12_198 dX12_join_89 ?_
    refine aw_iconst (x := 2) dX12_join_92 rfl ?_
    refine aw_isubc dX12_join_93 c9 c9x ?_
    obtain ⟨⟨c10, c10x⟩, h⟩ := h
    refine aw_iaload (by decide) rfl dX12_join_94 c10 (LC.lt lc8 rfl rfl c10x) ?_
    refine aw_aload_n dX12_join_95 rfl rfl ?_
    refine aw_getA' rfl fk_1259 (by decide) lf_X12_192 dX12_join_96 (LC.ne lc8 rfl rfl) ?_
    refine aw_aload_n dX12_join_99 rfl rfl ?_
    refine aw_getI' rfl fk_1261 lf_X12_198 dX12_join_100 ?_
    refine aw_iconst (x := 1) dX12_join_103 rfl ?_
    obtain ⟨⟨c11, c11x⟩, h⟩ := h
    refine aw_isubc dX12_join_104 c11 c11x ?_
    obtain ⟨⟨c12, c12x⟩, h⟩ := h
    refine aw_iaload (by decide) rfl dX12_join_105 c12 (LC.lt lc8 rfl rfl c12x) ?_
    refine aw_lconst (x := 0) dX12_join_106 rfl ?_
    refine aw_invVi (M := MX12_join) (ci := 12) [vI z4, vI (gI σ5 1259 x0 ((gI σ5 1261 x0 0) - 2).toNat), vI (gI σ5 1259 x0 ((gI σ5 1261 x0 0) - 1).toNat), vJ 0] rfl mo_X12_node rfl lm_X12_529 li_X12_node ls_X12_node (by decide +kernel) dX12_join_107 rfl (Nat.le_of_ble_eq_true rfl) (ACi.mono (fun v14 σ13 h => ?_) h)
    obtain ⟨lc15, h⟩ := h
    refine aw_iastore (by decide) rfl dX12_join_110 c10 (LC.lt lc15 rfl rfl c10x) ?_
    refine aw_aload_n dX12_join_111 rfl rfl ?_
    refine aw_dup dX12_join_112 rfl ?_
    refine aw_getIe (v := gI σ13 1261 x0 0) rfl fk_1261 lf_X12_198 dX12_join_113 rfl ?_
    refine aw_iconst (x := 1) dX12_join_116 rfl ?_
    obtain ⟨⟨c16, c16x⟩, h⟩ := h
    refine aw_isubc dX12_join_117 c16 c16x ?_
    refine aw_putI' rfl fk_1261 (Or.inl rfl) lf_X12_198 dX12_join_118 ?_
    exact aw_ret h rfl dX12_join_121
  · replace h := h.2 k7
    refine aw_aload_n dX12_join_30 rfl rfl ?_
    obtain ⟨lc17, h⟩ := h
    refine aw_getA' rfl fk_1259 (by decide) lf_X12_192 dX12_join_31 (LC.ne lc17 rfl rfl) ?_
    refine aw_aload_n dX12_join_34 rfl rfl ?_
    refine aw_getI' rfl fk_1261 lf_X12_198 dX12_join_35 ?_
    refine aw_iconst (x := 1) dX12_join_38 rfl ?_
    obtain ⟨⟨c18, c18x⟩, h⟩ := h
    refine aw_isubc dX12_join_39 c18 c18x ?_
    refine aw_aload_n dX12_join_40 rfl rfl ?_
    refine aw_iload_n dX12_join_41 rfl rfl ?_
    refine aw_aload_n dX12_join_42 rfl rfl ?_
    refine aw_getA' rfl fk_1259 (by decide) lf_X12_192 dX12_join_43 (LC.ne lc17 rfl rfl) ?_
    refine aw_aload_n dX12_join_46 rfl rfl ?_
    refine aw_getI' rfl fk_1261 lf_X12_198 dX12_join_47 ?_
    refine aw_iconst (x := 1) dX12_join_50 rfl ?_
    refine aw_isubc dX12_join_51 c18 c18x ?_
    obtain ⟨⟨c19, c19x⟩, h⟩ := h
    refine aw_iaload (by decide) rfl dX12_join_52 c19 (LC.lt lc17 rfl rfl c19x) ?_
    refine aw_iconst (x := (-1)) dX12_join_53 rfl ?_
    refine aw_lconst (x := 0) dX12_join_54 rfl ?_
    refine aw_invVi (M := MX12_join) (ci := 12) [vI z4, vI (gI σ5 1259 x0 ((gI σ5 1261 x0 0) - 1).toNat), vI (-1), vJ 0] rfl mo_X12_node rfl lm_X12_529 li_X12_node ls_X12_node (by decide +kernel) dX12_join_55 rfl (Nat.le_of_ble_eq_true rfl) (ACi.mono (fun v21 σ20 h => ?_) h)
    obtain ⟨lc22, h⟩ := h
    refine aw_iastore (by decide) rfl dX12_join_58 c19 (LC.lt lc22 rfl rfl c19x) ?_
    refine aw_aload_n dX12_join_59 rfl rfl ?_
    refine aw_dup dX12_join_60 rfl ?_
    refine aw_getIe (v := gI σ20 1255 x0 0) rfl fk_1255 lf_X12_179 dX12_join_61 rfl ?_
    refine aw_iconst (x := 1) dX12_join_64 rfl ?_
    obtain ⟨⟨c23, c23x⟩, h⟩ := h
    refine aw_isubc dX12_join_65 c23 c23x ?_
    refine aw_putI' rfl fk_1255 (Or.inl rfl) lf_X12_179 dX12_join_66 ?_
    refine aw_goto (tgt := 121) dX12_join_69 (by decide) ?_
    exact aw_ret h rfl dX12_join_121
set_option maxRecDepth 4000 in
theorem bk_X12_joinAll_0 {g : GP} {l : Launch} {d : Nat} {σ : St} {Q : Option AV → St → Prop} {x0 : Nat} {x1 : Int}
    (h : (((gI σ 1260 x0 0) ≤ 0 → Q none σ) ∧ (¬ (gI σ 1260 x0 0) ≤ 0 → LC 12 σ x0 ∧ R32 ((gI σ 1260 x0 0) - 1) ∧ Bd ((gI σ 1260 x0 0) - 1) 128 ∧ ACi g l d MX12_strength [vR 12 (some x0), vI (gI σ 1258 x0 ((gI σ 1260 x0 0) - 1).toNat)] σ (fun v6 σ5 => ((v6 < x1 → Q none σ5) ∧ (¬ v6 < x1 → LC 12 σ5 x0 ∧ R32 ((gI σ5 1260 x0 0) - 1) ∧ Bd ((gI σ5 1260 x0 0) - 1) 128 ∧ (((gI σ5 1258 x0 ((gI σ5 1260 x0 0) - 1).toNat) = 18 → Q none σ5) ∧ (¬ (gI σ5 1258 x0 ((gI σ5 1260 x0 0) - 1).toNat) = 18 → ACv g l d MX12_join [vR 12 (some x0)] σ5 (fun σ12 => AW g l (d + 1) MX12_joinAll 0 [some (vR 12 (some x0)), some (vI x1)] [] σ12 Q))))))))) :
    AW g l (d + 1) MX12_joinAll 0 [some (vR 12 (some x0)), some (vI x1)] [] σ Q := by
  refine aw_aload_n dX12_joinAll_0 rfl rfl ?_
  refine aw_getI' rfl fk_1260 lf_X12_195 dX12_joinAll_1 ?_
  refine aw_if_le (tgt := 49) dX12_joinAll_4 (by decide) (fun k1 => ?_) (fun k1 => ?_)
  · replace h := h.1 k1
    exact aw_ret h rfl dX12_joinAll_49
  · replace h := h.2 k1
    refine aw_aload_n dX12_joinAll_7 rfl rfl ?_
    refine aw_aload_n dX12_joinAll_8 rfl rfl ?_
    obtain ⟨lc2, h⟩ := h
    refine aw_getA' rfl fk_1258 (by decide) lf_X12_189 dX12_joinAll_9 (LC.ne lc2 rfl rfl) ?_
    refine aw_aload_n dX12_joinAll_12 rfl rfl ?_
    refine aw_getI' rfl fk_1260 lf_X12_195 dX12_joinAll_13 ?_
    refine aw_iconst (x := 1) dX12_joinAll_16 rfl ?_
    obtain ⟨⟨c3, c3x⟩, h⟩ := h
    refine aw_isubc dX12_joinAll_17 c3 c3x ?_
    obtain ⟨⟨c4, c4x⟩, h⟩ := h
    refine aw_iaload (by decide) rfl dX12_joinAll_18 c4 (LC.lt lc2 rfl rfl c4x) ?_
    refine aw_invVi (M := MX12_joinAll) (ci := 12) [vI (gI σ 1258 x0 ((gI σ 1260 x0 0) - 1).toNat)] rfl mo_X12_strength rfl lm_X12_526 li_X12_strength ls_X12_strength (by decide +kernel) dX12_joinAll_19 rfl (Nat.le_of_ble_eq_true rfl) (ACi.mono (fun v6 σ5 h => ?_) h)
    refine aw_iload_n dX12_joinAll_22 rfl rfl ?_
    refine aw_icmp_lt (tgt := 49) dX12_joinAll_23 (by decide) (fun k7 => ?_) (fun k7 => ?_)
    · replace h := h.1 k7
      exact aw_ret h rfl dX12_joinAll_49
    · replace h := h.2 k7
      refine aw_aload_n dX12_joinAll_26 rfl rfl ?_
      obtain ⟨lc8, h⟩ := h
      refine aw_getA' rfl fk_1258 (by decide) lf_X12_189 dX12_joinAll_27 (LC.ne lc8 rfl rfl) ?_
      refine aw_aload_n dX12_joinAll_30 rfl rfl ?_
      refine aw_getI' rfl fk_1260 lf_X12_195 dX12_joinAll_31 ?_
      refine aw_iconst (x := 1) dX12_joinAll_34 rfl ?_
      obtain ⟨⟨c9, c9x⟩, h⟩ := h
      refine aw_isubc dX12_joinAll_35 c9 c9x ?_
      obtain ⟨⟨c10, c10x⟩, h⟩ := h
      refine aw_iaload (by decide) rfl dX12_joinAll_36 c10 (LC.lt lc8 rfl rfl c10x) ?_
      refine aw_bipush (x := 18) dX12_joinAll_37 rfl ?_
      refine aw_icmp_eq (tgt := 49) dX12_joinAll_39 (by decide) (fun k11 => ?_) (fun k11 => ?_)
      · replace h := h.1 k11
        exact aw_ret h rfl dX12_joinAll_49
      · replace h := h.2 k11
        refine aw_aload_n dX12_joinAll_42 rfl rfl ?_
        refine aw_invVv (M := MX12_joinAll) (ci := 12) [] rfl mo_X12_join rfl lm_X12_533 li_X12_join ls_X12_join (by decide +kernel) dX12_joinAll_43 rfl (Nat.le_of_ble_eq_true rfl) (ACv.mono (fun σ12 h => ?_) h)
        refine aw_goto (tgt := 0) dX12_joinAll_46 (by decide) ?_
        exact aw_fgt (L' := [some (vR 12 (some x0)), some (vI x1)]) ⟨rfl, ⟨rfl, trivial⟩⟩ h
set_option maxRecDepth 4000 in
theorem bk_X12_joined_0 {g : GP} {l : Launch} {d : Nat} {σ : St} {Q : Option AV → St → Prop} {x0 : Nat} {x1 : Int} {x2 : Int64} {x4 : Int64}
    (h : ((x1 = 7 → Q (some (vJ (x2 + x4))) σ) ∧ (x1 = 8 → Q (some (vJ (x2 - x4))) σ) ∧ (x1 = 9 → Q (some (vJ (x2 * x4))) σ) ∧ (x1 = 10 → AW g l d MX12_joined 71 [some (vR 12 (some x0)), some (vI x1), some (vJ x2), none, some (vJ x4), none] [] σ Q) ∧ (x1 = 11 → AW g l d MX12_joined 71 [some (vR 12 (some x0)), some (vI x1), some (vJ x2), none, some (vJ x4), none] [] σ Q) ∧ (x1 = 12 → Q (some (vJ (x2 &&& x4))) σ) ∧ (x1 = 13 → ((¬ x2 = x4 → Q (some (vJ 0)) σ) ∧ (x2 = x4 → Q (some (vJ 1)) σ))) ∧ (x1 = 14 → ((x4.toInt ≤ x2.toInt → Q (some (vJ 0)) σ) ∧ (¬ x4.toInt ≤ x2.toInt → Q (some (vJ 1)) σ))) ∧ (x1 = 15 → ((x2.toInt ≤ x4.toInt → Q (some (vJ 0)) σ) ∧ (¬ x2.toInt ≤ x4.toInt → Q (some (vJ 1)) σ))) ∧ (x1 = 16 → ((x2 = (0 : Int64) → Q (some (vJ 0)) σ) ∧ (¬ x2 = (0 : Int64) → ((x4 = (0 : Int64) → Q (some (vJ 0)) σ) ∧ (¬ x4 = (0 : Int64) → Q (some (vJ 1)) σ))))) ∧ (x1 < 7 ∨ 16 < x1 → ((¬ x2 = (0 : Int64) → Q (some (vJ 1)) σ) ∧ (x2 = (0 : Int64) → ((x4 = (0 : Int64) → Q (some (vJ 0)) σ) ∧ (¬ x4 = (0 : Int64) → Q (some (vJ 1)) σ))))))) :
    AW g l d MX12_joined 0 [some (vR 12 (some x0)), some (vI x1), some (vJ x2), none, some (vJ x4), none] [] σ Q := by
  refine aw_iload_n dX12_joined_0 rfl rfl ?_
  obtain ⟨h0, h1, h2, h3, h4, h5, h6, h7, h8, h9, hd⟩ := h
  refine aw_table (M := MX12_joined) (dt := 166) [56, 61, 66, 71, 71, 103, 108, 121, 134, 147] dX12_joined_1 (by decide) (by decide) (by decide) ⟨fun hc => ?_, fun hc => ?_, fun hc => ?_, fun hc => ?_, fun hc => ?_, fun hc => ?_, fun hc => ?_, fun hc => ?_, fun hc => ?_, fun hc => ?_, trivial⟩ (fun hc => ?_)
  · have h := h0 hc; clear h0 h1 h2 h3 h4 h5 h6 h7 h8 h9 hd
    refine aw_lload_n dX12_joined_56 rfl rfl ?_
    refine aw_lload dX12_joined_57 rfl ?_
    refine aw_ladd dX12_joined_59 ?_
    exact aw_lreturn dX12_joined_60 rfl h
  · have h := h1 hc; clear h0 h1 h2 h3 h4 h5 h6 h7 h8 h9 hd
    refine aw_lload_n dX12_joined_61 rfl rfl ?_
    refine aw_lload dX12_joined_62 rfl ?_
    refine aw_lsub dX12_joined_64 ?_
    exact aw_lreturn dX12_joined_65 rfl h
  · have h := h2 hc; clear h0 h1 h2 h3 h4 h5 h6 h7 h8 h9 hd
    refine aw_lload_n dX12_joined_66 rfl rfl ?_
    refine aw_lload dX12_joined_67 rfl ?_
    refine aw_lmul dX12_joined_69 ?_
    exact aw_lreturn dX12_joined_70 rfl h
  · have h := h3 hc; clear h0 h1 h2 h3 h4 h5 h6 h7 h8 h9 hd
    exact aw_fgt (L' := [some (vR 12 (some x0)), some (vI x1), some (vJ x2), none, some (vJ x4), none]) ⟨rfl, ⟨rfl, ⟨rfl, ⟨rfl, trivial⟩⟩⟩⟩ h
  · have h := h4 hc; clear h0 h1 h2 h3 h4 h5 h6 h7 h8 h9 hd
    exact aw_fgt (L' := [some (vR 12 (some x0)), some (vI x1), some (vJ x2), none, some (vJ x4), none]) ⟨rfl, ⟨rfl, ⟨rfl, ⟨rfl, trivial⟩⟩⟩⟩ h
  · have h := h5 hc; clear h0 h1 h2 h3 h4 h5 h6 h7 h8 h9 hd
    refine aw_lload_n dX12_joined_103 rfl rfl ?_
    refine aw_lload dX12_joined_104 rfl ?_
    refine aw_land dX12_joined_106 ?_
    exact aw_lreturn dX12_joined_107 rfl h
  · have h := h6 hc; clear h0 h1 h2 h3 h4 h5 h6 h7 h8 h9 hd
    refine aw_lload_n dX12_joined_108 rfl rfl ?_
    refine aw_lload dX12_joined_109 rfl ?_
    refine aw_lcmp_ne (M := MX12_joined) (tgt := 119) dX12_joined_111 dX12_joined_112 (by decide) (fun k1 => ?_) (fun k1 => ?_)
    · replace h := h.1 k1
      refine aw_lconst (x := 0) dX12_joined_119 rfl ?_
      exact aw_lreturn dX12_joined_120 rfl h
    · replace h := h.2 k1
      refine aw_lconst (x := 1) dX12_joined_115 rfl ?_
      refine aw_goto (tgt := 120) dX12_joined_116 (by decide) ?_
      exact aw_lreturn dX12_joined_120 rfl h
  · have h := h7 hc; clear h0 h1 h2 h3 h4 h5 h6 h7 h8 h9 hd
    refine aw_lload_n dX12_joined_121 rfl rfl ?_
    refine aw_lload dX12_joined_122 rfl ?_
    refine aw_lcmp_ge (M := MX12_joined) (tgt := 132) dX12_joined_124 dX12_joined_125 (by decide) (fun k2 => ?_) (fun k2 => ?_)
    · replace h := h.1 k2
      refine aw_lconst (x := 0) dX12_joined_132 rfl ?_
      exact aw_lreturn dX12_joined_133 rfl h
    · replace h := h.2 k2
      refine aw_lconst (x := 1) dX12_joined_128 rfl ?_
      refine aw_goto (tgt := 133) dX12_joined_129 (by decide) ?_
      exact aw_lreturn dX12_joined_133 rfl h
  · have h := h8 hc; clear h0 h1 h2 h3 h4 h5 h6 h7 h8 h9 hd
    refine aw_lload_n dX12_joined_134 rfl rfl ?_
    refine aw_lload dX12_joined_135 rfl ?_
    refine aw_lcmp_le (M := MX12_joined) (tgt := 145) dX12_joined_137 dX12_joined_138 (by decide) (fun k3 => ?_) (fun k3 => ?_)
    · replace h := h.1 k3
      refine aw_lconst (x := 0) dX12_joined_145 rfl ?_
      exact aw_lreturn dX12_joined_146 rfl h
    · replace h := h.2 k3
      refine aw_lconst (x := 1) dX12_joined_141 rfl ?_
      refine aw_goto (tgt := 146) dX12_joined_142 (by decide) ?_
      exact aw_lreturn dX12_joined_146 rfl h
  · have h := h9 hc; clear h0 h1 h2 h3 h4 h5 h6 h7 h8 h9 hd
    refine aw_lload_n dX12_joined_147 rfl rfl ?_
    refine aw_lconst (x := 0) dX12_joined_148 rfl ?_
    refine aw_lcmp_eq (M := MX12_joined) (tgt := 164) dX12_joined_149 dX12_joined_150 (by decide) (fun k4 => ?_) (fun k4 => ?_)
    · replace h := h.1 k4
      refine aw_lconst (x := 0) dX12_joined_164 rfl ?_
      exact aw_lreturn dX12_joined_165 rfl h
    · replace h := h.2 k4
      refine aw_lload dX12_joined_153 rfl ?_
      refine aw_lconst (x := 0) dX12_joined_155 rfl ?_
      refine aw_lcmp_eq (M := MX12_joined) (tgt := 164) dX12_joined_156 dX12_joined_157 (by decide) (fun k5 => ?_) (fun k5 => ?_)
      · replace h := h.1 k5
        refine aw_lconst (x := 0) dX12_joined_164 rfl ?_
        exact aw_lreturn dX12_joined_165 rfl h
      · replace h := h.2 k5
        refine aw_lconst (x := 1) dX12_joined_160 rfl ?_
        refine aw_goto (tgt := 165) dX12_joined_161 (by decide) ?_
        exact aw_lreturn dX12_joined_165 rfl h
  · have h := hd hc; clear h0 h1 h2 h3 h4 h5 h6 h7 h8 h9 hd
    refine aw_lload_n dX12_joined_166 rfl rfl ?_
    refine aw_lconst (x := 0) dX12_joined_167 rfl ?_
    refine aw_lcmp_ne (M := MX12_joined) (tgt := 179) dX12_joined_168 dX12_joined_169 (by decide) (fun k6 => ?_) (fun k6 => ?_)
    · replace h := h.1 k6
      refine aw_lconst (x := 1) dX12_joined_179 rfl ?_
      refine aw_goto (tgt := 184) dX12_joined_180 (by decide) ?_
      exact aw_lreturn dX12_joined_184 rfl h
    · replace h := h.2 k6
      refine aw_lload dX12_joined_172 rfl ?_
      refine aw_lconst (x := 0) dX12_joined_174 rfl ?_
      refine aw_lcmp_eq (M := MX12_joined) (tgt := 183) dX12_joined_175 dX12_joined_176 (by decide) (fun k7 => ?_) (fun k7 => ?_)
      · replace h := h.1 k7
        refine aw_lconst (x := 0) dX12_joined_183 rfl ?_
        exact aw_lreturn dX12_joined_184 rfl h
      · replace h := h.2 k7
        refine aw_lconst (x := 1) dX12_joined_179 rfl ?_
        refine aw_goto (tgt := 184) dX12_joined_180 (by decide) ?_
        exact aw_lreturn dX12_joined_184 rfl h
set_option maxRecDepth 4000 in
theorem bk_X12_joined_71 {g : GP} {l : Launch} {d : Nat} {σ : St} {Q : Option AV → St → Prop} {x0 : Nat} {x1 : Int} {x2 : Int64} {x4 : Int64}
    (h : ((¬ x4 = (0 : Int64) → ((¬ x1 = 10 → ¬ x4 = 0 ∧ Q (some (vJ (j_rem x2 x4))) σ) ∧ (x1 = 10 → ¬ x4 = 0 ∧ Q (some (vJ (x2 / x4))) σ))) ∧ (x4 = (0 : Int64) → Q (some (vJ 0)) (sI σ 1286 x0 0 1)))) :
    AW g l d MX12_joined 71 [some (vR 12 (some x0)), some (vI x1), some (vJ x2), none, some (vJ x4), none] [] σ Q := by
  refine aw_lload dX12_joined_71 rfl ?_
  refine aw_lconst (x := 0) dX12_joined_73 rfl ?_
  refine aw_lcmp_ne (M := MX12_joined) (tgt := 85) dX12_joined_74 dX12_joined_75 (by decide) (fun k1 => ?_) (fun k1 => ?_)
  · replace h := h.1 k1
    refine aw_iload_n dX12_joined_85 rfl rfl ?_
    refine aw_bipush (x := 10) dX12_joined_86 rfl ?_
    refine aw_icmp_ne (tgt := 98) dX12_joined_88 (by decide) (fun k2 => ?_) (fun k2 => ?_)
    · replace h := h.1 k2
      refine aw_lload_n dX12_joined_98 rfl rfl ?_
      refine aw_lload dX12_joined_99 rfl ?_
      obtain ⟨h0, h⟩ := h
      refine aw_lrem dX12_joined_101 h0 ?_
      exact aw_lreturn dX12_joined_102 rfl h
    · replace h := h.2 k2
      refine aw_lload_n dX12_joined_91 rfl rfl ?_
      refine aw_lload dX12_joined_92 rfl ?_
      obtain ⟨h0, h⟩ := h
      refine aw_ldiv dX12_joined_94 h0 ?_
      refine aw_goto (tgt := 102) dX12_joined_95 (by decide) ?_
      exact aw_lreturn dX12_joined_102 rfl h
  · replace h := h.2 k1
    refine aw_aload_n dX12_joined_78 rfl rfl ?_
    refine aw_iconst (x := 1) dX12_joined_79 rfl ?_
    refine aw_putZ' rfl fk_1286 (Or.inl rfl) lf_X12_274 dX12_joined_80 (Or.inr rfl) ?_
    refine aw_lconst (x := 0) dX12_joined_83 rfl ?_
    exact aw_lreturn dX12_joined_84 rfl h
set_option maxRecDepth 4000 in
theorem bk_X12_kid_0 {g : GP} {l : Launch} {d : Nat} {σ : St} {Q : Option AV → St → Prop} {x0 : Nat} {x1 : Int} {x2 : Int} {x3 : Int}
    (h : ACi g l d MX12_isNode [vR 12 (some x0), vI x1, vI x2] σ (fun v2 σ1 => ((v2 = 0 → Q (some (vI (-1))) σ1) ∧ (¬ v2 = 0 → R32 (400 * x1) ∧ R32 ((400 * x1) + x2) ∧ ACi g l d MX12_kidOf [vR 12 (some x0), vI ((400 * x1) + x2), vJ (i2j x3)] σ1 (fun v7 σ6 => ACi g l d MX12_outward [vR 12 (some x0), vI v7] σ6 (fun v9 σ8 => Q (some (vI v9)) σ8)))))) :
    AW g l (d + 1) MX12_kid 0 [some (vR 12 (some x0)), some (vI x1), some (vI x2), some (vI x3)] [] σ Q := by
  refine aw_aload_n dX12_kid_0 rfl rfl ?_
  refine aw_iload_n dX12_kid_1 rfl rfl ?_
  refine aw_iload_n dX12_kid_2 rfl rfl ?_
  refine aw_invVi (M := MX12_kid) (ci := 12) [vI x1, vI x2] rfl mo_X12_isNode rfl lm_X12_688 li_X12_isNode ls_X12_isNode (by decide +kernel) dX12_kid_3 rfl (Nat.le_of_ble_eq_true rfl) (ACi.mono (fun v2 σ1 h => ?_) h)
  refine aw_if_eq (tgt := 29) dX12_kid_6 (by decide) (fun k3 => ?_) (fun k3 => ?_)
  · replace h := h.1 k3
    refine aw_iconst (x := (-1)) dX12_kid_29 rfl ?_
    exact aw_ireturn dX12_kid_30 rfl h
  · replace h := h.2 k3
    refine aw_aload_n dX12_kid_9 rfl rfl ?_
    refine aw_aload_n dX12_kid_10 rfl rfl ?_
    refine aw_sipush (x := 400) dX12_kid_11 rfl ?_
    refine aw_iload_n dX12_kid_14 rfl rfl ?_
    obtain ⟨⟨c4, c4x⟩, h⟩ := h
    refine aw_imulc dX12_kid_15 c4 c4x ?_
    refine aw_iload_n dX12_kid_16 rfl rfl ?_
    obtain ⟨⟨c5, c5x⟩, h⟩ := h
    refine aw_iaddc dX12_kid_17 c5 c5x ?_
    refine aw_iload_n dX12_kid_18 rfl rfl ?_
    refine aw_i2l dX12_kid_19 ?_
    refine aw_invVi (M := MX12_kid) (ci := 12) [vI ((400 * x1) + x2), vJ (i2j x3)] rfl mo_X12_kidOf rfl lm_X12_694 li_X12_kidOf ls_X12_kidOf (by decide +kernel) dX12_kid_20 rfl (Nat.le_of_ble_eq_true rfl) (ACi.mono (fun v7 σ6 h => ?_) h)
    refine aw_invVi (M := MX12_kid) (ci := 12) [vI v7] rfl mo_X12_outward rfl lm_X12_691 li_X12_outward ls_X12_outward (by decide +kernel) dX12_kid_23 rfl (Nat.le_of_ble_eq_true rfl) (ACi.mono (fun v9 σ8 h => ?_) h)
    refine aw_goto (tgt := 30) dX12_kid_26 (by decide) ?_
    exact aw_ireturn dX12_kid_30 rfl h
set_option maxRecDepth 4000 in
theorem bk_X12_kidBegun_0 {g : GP} {l : Launch} {d : Nat} {σ : St} {Q : Option AV → St → Prop} {x0 : Nat} {x1 : Int} {x2 : Int}
    (h : LC 12 σ x0 ∧ Bd x2 560 ∧ (((gI σ 1228 x0 x2.toNat) = 1 → Bd x1 2800 ∧ ACi g l d MX12_make [vR 12 (some x0), vI 1, vI x1, vI (gI σ 1269 x0 x1.toNat), vI x2] σ (fun v6 σ5 => (((gI σ5 1282 x0 0) = 0 → LC 12 σ5 x0 ∧ ACi g l d MX12_reaches [vR 12 (some x0), vI v6, vJ (i2j (i_and (gI σ5 1229 x0 x2.toNat) 15))] σ5 (fun v10 σ9 => ((v10 = 0 → LC 12 σ9 x0 ∧ R32 ((gI σ9 1285 x0 0) - 1) ∧ Bd ((gI σ9 1285 x0 0) - 1) 128 ∧ ACv g l d MX12_stops [vR 12 (some x0)] (sI σ9 1284 x0 ((gI σ9 1285 x0 0) - 1).toNat 0) (fun σ15 => Q none σ15)) ∧ (¬ v10 = 0 → LC 12 σ9 x0 ∧ Bd v6 2800 ∧ Q none (sI σ9 1269 x0 x1.toNat (gI σ9 1269 x0 v6.toNat)))))) ∧ (¬ (gI σ5 1282 x0 0) = 0 → Q none σ5)))) ∧ (¬ (gI σ 1228 x0 x2.toNat) = 1 → Bd x1 2800 ∧ ACv g l d MX12_begun [vR 12 (some x0), vI (gI σ 1231 x0 x2.toNat), vI x1, vI (gI σ 1269 x0 x1.toNat), vI (-1)] σ (fun σ19 => Q none σ19)))) :
    AW g l (d + 1) MX12_kidBegun 0 [some (vR 12 (some x0)), some (vI x1), some (vI x2), none] [] σ Q := by
  refine aw_aload_n dX12_kidBegun_0 rfl rfl ?_
  obtain ⟨lc1, h⟩ := h
  refine aw_getA' rfl fk_1228 (by decide) lf_X12_98 dX12_kidBegun_1 (LC.ne lc1 rfl rfl) ?_
  refine aw_iload_n dX12_kidBegun_4 rfl rfl ?_
  obtain ⟨⟨c2, c2x⟩, h⟩ := h
  refine aw_iaload (by decide) rfl dX12_kidBegun_5 c2 (LC.lt lc1 rfl rfl c2x) ?_
  refine aw_iconst (x := 1) dX12_kidBegun_6 rfl ?_
  refine aw_icmp_eq (tgt := 29) dX12_kidBegun_7 (by decide) (fun k3 => ?_) (fun k3 => ?_)
  · replace h := h.1 k3
    refine aw_aload_n dX12_kidBegun_29 rfl rfl ?_
    refine aw_iconst (x := 1) dX12_kidBegun_30 rfl ?_
    refine aw_iload_n dX12_kidBegun_31 rfl rfl ?_
    refine aw_aload_n dX12_kidBegun_32 rfl rfl ?_
    refine aw_getA' rfl fk_1269 (by decide) lf_X12_223 dX12_kidBegun_33 (LC.ne lc1 rfl rfl) ?_
    refine aw_iload_n dX12_kidBegun_36 rfl rfl ?_
    obtain ⟨⟨c4, c4x⟩, h⟩ := h
    refine aw_iaload (by decide) rfl dX12_kidBegun_37 c4 (LC.lt lc1 rfl rfl c4x) ?_
    refine aw_iload_n dX12_kidBegun_38 rfl rfl ?_
    refine aw_invVi (M := MX12_kidBegun) (ci := 12) [vI 1, vI x1, vI (gI σ 1269 x0 x1.toNat), vI x2] rfl mo_X12_make rfl lm_X12_580 li_X12_make ls_X12_make (by decide +kernel) dX12_kidBegun_39 rfl (Nat.le_of_ble_eq_true rfl) (ACi.mono (fun v6 σ5 h => ?_) h)
    refine aw_istore_n (L' := [some (vR 12 (some x0)), some (vI x1), some (vI x2), some (vI v6)]) dX12_kidBegun_42 rfl (by decide) rfl ?_
    refine aw_aload_n dX12_kidBegun_43 rfl rfl ?_
    refine aw_getZ' rfl fk_1282 lf_X12_262 dX12_kidBegun_44 ?_
    refine aw_if_eq (tgt := 51) dX12_kidBegun_47 (by decide) (fun k7 => ?_) (fun k7 => ?_)
    · replace h := h.1 k7
      refine aw_aload_n dX12_kidBegun_51 rfl rfl ?_
      refine aw_iload_n dX12_kidBegun_52 rfl rfl ?_
      refine aw_aload_n dX12_kidBegun_53 rfl rfl ?_
      obtain ⟨lc8, h⟩ := h
      refine aw_getA' rfl fk_1229 (by decide) lf_X12_101 dX12_kidBegun_54 (LC.ne lc8 rfl rfl) ?_
      refine aw_iload_n dX12_kidBegun_57 rfl rfl ?_
      refine aw_iaload (by decide) rfl dX12_kidBegun_58 c2 (LC.lt lc8 rfl rfl c2x) ?_
      refine aw_bipush (x := 15) dX12_kidBegun_59 rfl ?_
      refine aw_iand dX12_kidBegun_61 ?_
      refine aw_i2l dX12_kidBegun_62 ?_
      refine aw_invVi (M := MX12_kidBegun) (ci := 12) [vI v6, vJ (i2j (i_and (gI σ5 1229 x0 x2.toNat) 15))] rfl mo_X12_reaches rfl lm_X12_602 li_X12_reaches ls_X12_reaches (by decide +kernel) dX12_kidBegun_63 rfl (Nat.le_of_ble_eq_true rfl) (ACi.mono (fun v10 σ9 h => ?_) h)
      refine aw_if_eq (tgt := 84) dX12_kidBegun_66 (by decide) (fun k11 => ?_) (fun k11 => ?_)
      · replace h := h.1 k11
        refine aw_aload_n dX12_kidBegun_84 rfl rfl ?_
        obtain ⟨lc12, h⟩ := h
        refine aw_getA' rfl fk_1284 (by decide) lf_X12_268 dX12_kidBegun_85 (LC.ne lc12 rfl rfl) ?_
        refine aw_aload_n dX12_kidBegun_88 rfl rfl ?_
        refine aw_getI' rfl fk_1285 lf_X12_271 dX12_kidBegun_89 ?_
        refine aw_iconst (x := 1) dX12_kidBegun_92 rfl ?_
        obtain ⟨⟨c13, c13x⟩, h⟩ := h
        refine aw_isubc dX12_kidBegun_93 c13 c13x ?_
        refine aw_iconst (x := 0) dX12_kidBegun_94 rfl ?_
        obtain ⟨⟨c14, c14x⟩, h⟩ := h
        refine aw_iastore (by decide) rfl dX12_kidBegun_95 c14 (LC.lt lc12 rfl rfl c14x) ?_
        refine aw_aload_n dX12_kidBegun_96 rfl rfl ?_
        refine aw_invVv (M := MX12_kidBegun) (ci := 12) [] rfl mo_X12_stops rfl lm_X12_605 li_X12_stops ls_X12_stops (by decide +kernel) dX12_kidBegun_97 rfl (Nat.le_of_ble_eq_true rfl) (ACv.mono (fun σ15 h => ?_) h)
        exact aw_ret h rfl dX12_kidBegun_100
      · replace h := h.2 k11
        refine aw_aload_n dX12_kidBegun_69 rfl rfl ?_
        obtain ⟨lc16, h⟩ := h
        refine aw_getA' rfl fk_1269 (by decide) lf_X12_223 dX12_kidBegun_70 (LC.ne lc16 rfl rfl) ?_
        refine aw_iload_n dX12_kidBegun_73 rfl rfl ?_
        refine aw_aload_n dX12_kidBegun_74 rfl rfl ?_
        refine aw_getA' rfl fk_1269 (by decide) lf_X12_223 dX12_kidBegun_75 (LC.ne lc16 rfl rfl) ?_
        refine aw_iload_n dX12_kidBegun_78 rfl rfl ?_
        obtain ⟨⟨c17, c17x⟩, h⟩ := h
        refine aw_iaload (by decide) rfl dX12_kidBegun_79 c17 (LC.lt lc16 rfl rfl c17x) ?_
        refine aw_iastore (by decide) rfl dX12_kidBegun_80 c4 (LC.lt lc16 rfl rfl c4x) ?_
        refine aw_goto (tgt := 100) dX12_kidBegun_81 (by decide) ?_
        exact aw_ret h rfl dX12_kidBegun_100
    · replace h := h.2 k7
      exact aw_ret h rfl dX12_kidBegun_50
  · replace h := h.2 k3
    refine aw_aload_n dX12_kidBegun_10 rfl rfl ?_
    refine aw_aload_n dX12_kidBegun_11 rfl rfl ?_
    refine aw_getA' rfl fk_1231 (by decide) lf_X12_107 dX12_kidBegun_12 (LC.ne lc1 rfl rfl) ?_
    refine aw_iload_n dX12_kidBegun_15 rfl rfl ?_
    refine aw_iaload (by decide) rfl dX12_kidBegun_16 c2 (LC.lt lc1 rfl rfl c2x) ?_
    refine aw_iload_n dX12_kidBegun_17 rfl rfl ?_
    refine aw_aload_n dX12_kidBegun_18 rfl rfl ?_
    refine aw_getA' rfl fk_1269 (by decide) lf_X12_223 dX12_kidBegun_19 (LC.ne lc1 rfl rfl) ?_
    refine aw_iload_n dX12_kidBegun_22 rfl rfl ?_
    obtain ⟨⟨c18, c18x⟩, h⟩ := h
    refine aw_iaload (by decide) rfl dX12_kidBegun_23 c18 (LC.lt lc1 rfl rfl c18x) ?_
    refine aw_iconst (x := (-1)) dX12_kidBegun_24 rfl ?_
    refine aw_invVv (M := MX12_kidBegun) (ci := 12) [vI (gI σ 1231 x0 x2.toNat), vI x1, vI (gI σ 1269 x0 x1.toNat), vI (-1)] rfl mo_X12_begun rfl lm_X12_590 li_X12_begun ls_X12_begun (by decide +kernel) dX12_kidBegun_25 rfl (Nat.le_of_ble_eq_true rfl) (ACv.mono (fun σ19 h => ?_) h)
    exact aw_ret h rfl dX12_kidBegun_28
set_option maxRecDepth 4000 in
theorem bk_X12_kidOf_0 {g : GP} {l : Launch} {d : Nat} {σ : St} {Q : Option AV → St → Prop} {x0 : Nat} {x1 : Int} {x2 : Int64}
    (h : ((x2.toInt < (0 : Int64).toInt → Q (some (vI (-1))) σ) ∧ (¬ x2.toInt < (0 : Int64).toInt → LC 12 σ x0 ∧ Bd x1 2800 ∧ ((x2.toInt < (i2j (gI σ 1271 x0 x1.toNat)).toInt → AW g l d MX12_kidOf 31 [some (vR 12 (some x0)), none, some (vJ x2), none, some (vI (gI σ 1276 x0 x1.toNat)), some (vI 0)] [] σ Q) ∧ (¬ x2.toInt < (i2j (gI σ 1271 x0 x1.toNat)).toInt → Q (some (vI (-1))) σ))))) :
    AW g l d MX12_kidOf 0 [some (vR 12 (some x0)), some (vI x1), some (vJ x2), none, none, none] [] σ Q := by
  refine aw_lload_n dX12_kidOf_0 rfl rfl ?_
  refine aw_lconst (x := 0) dX12_kidOf_1 rfl ?_
  refine aw_lcmp_lt (M := MX12_kidOf) (tgt := 18) dX12_kidOf_2 dX12_kidOf_3 (by decide) (fun k1 => ?_) (fun k1 => ?_)
  · replace h := h.1 k1
    refine aw_iconst (x := (-1)) dX12_kidOf_18 rfl ?_
    exact aw_ireturn dX12_kidOf_19 rfl h
  · replace h := h.2 k1
    refine aw_lload_n dX12_kidOf_6 rfl rfl ?_
    refine aw_aload_n dX12_kidOf_7 rfl rfl ?_
    obtain ⟨lc2, h⟩ := h
    refine aw_getA' rfl fk_1271 (by decide) lf_X12_229 dX12_kidOf_8 (LC.ne lc2 rfl rfl) ?_
    refine aw_iload_n dX12_kidOf_11 rfl rfl ?_
    obtain ⟨⟨c3, c3x⟩, h⟩ := h
    refine aw_iaload (by decide) rfl dX12_kidOf_12 c3 (LC.lt lc2 rfl rfl c3x) ?_
    refine aw_i2l dX12_kidOf_13 ?_
    refine aw_lcmp_lt (M := MX12_kidOf) (tgt := 20) dX12_kidOf_14 dX12_kidOf_15 (by decide) (fun k4 => ?_) (fun k4 => ?_)
    · replace h := h.1 k4
      refine aw_aload_n dX12_kidOf_20 rfl rfl ?_
      refine aw_getA' rfl fk_1276 (by decide) lf_X12_244 dX12_kidOf_21 (LC.ne lc2 rfl rfl) ?_
      refine aw_iload_n dX12_kidOf_24 rfl rfl ?_
      refine aw_iaload (by decide) rfl dX12_kidOf_25 c3 (LC.lt lc2 rfl rfl c3x) ?_
      refine aw_istore (L' := [some (vR 12 (some x0)), some (vI x1), some (vJ x2), none, some (vI (gI σ 1276 x0 x1.toNat)), none]) dX12_kidOf_26 (by decide) rfl ?_
      refine aw_iconst (x := 0) dX12_kidOf_28 rfl ?_
      refine aw_istore (L' := [some (vR 12 (some x0)), some (vI x1), some (vJ x2), none, some (vI (gI σ 1276 x0 x1.toNat)), some (vI 0)]) dX12_kidOf_29 (by decide) rfl ?_
      exact aw_fgt (L' := [some (vR 12 (some x0)), none, some (vJ x2), none, some (vI (gI σ 1276 x0 x1.toNat)), some (vI 0)]) ⟨rfl, ⟨rfl, ⟨rfl, ⟨rfl, trivial⟩⟩⟩⟩ h
    · replace h := h.2 k4
      refine aw_iconst (x := (-1)) dX12_kidOf_18 rfl ?_
      exact aw_ireturn dX12_kidOf_19 rfl h
set_option maxRecDepth 4000 in
theorem bk_X12_kidOf_31 {g : GP} {l : Launch} {d : Nat} {σ : St} {Q : Option AV → St → Prop} {x0 : Nat} {x2 : Int64} {x4 : Int} {x5 : Int}
    (h : ((x2.toInt ≤ (i2j x5).toInt → Q (some (vI x4)) σ) ∧ (¬ x2.toInt ≤ (i2j x5).toInt → LC 12 σ x0 ∧ Bd x4 2800 ∧ R32 (x5 + 1) ∧ AW g l d MX12_kidOf 31 [some (vR 12 (some x0)), none, some (vJ x2), none, some (vI (gI σ 1278 x0 x4.toNat)), some (vI (x5 + 1))] [] σ Q))) :
    AW g l d MX12_kidOf 31 [some (vR 12 (some x0)), none, some (vJ x2), none, some (vI x4), some (vI x5)] [] σ Q := by
  refine aw_iload dX12_kidOf_31 rfl ?_
  refine aw_i2l dX12_kidOf_33 ?_
  refine aw_lload_n dX12_kidOf_34 rfl rfl ?_
  refine aw_lcmp_ge (M := MX12_kidOf) (tgt := 54) dX12_kidOf_35 dX12_kidOf_36 (by decide) (fun k1 => ?_) (fun k1 => ?_)
  · replace h := h.1 k1
    refine aw_iload dX12_kidOf_54 rfl ?_
    exact aw_ireturn dX12_kidOf_56 rfl h
  · replace h := h.2 k1
    refine aw_aload_n dX12_kidOf_39 rfl rfl ?_
    obtain ⟨lc2, h⟩ := h
    refine aw_getA' rfl fk_1278 (by decide) lf_X12_250 dX12_kidOf_40 (LC.ne lc2 rfl rfl) ?_
    refine aw_iload dX12_kidOf_43 rfl ?_
    obtain ⟨⟨c3, c3x⟩, h⟩ := h
    refine aw_iaload (by decide) rfl dX12_kidOf_45 c3 (LC.lt lc2 rfl rfl c3x) ?_
    refine aw_istore (L' := [some (vR 12 (some x0)), none, some (vJ x2), none, some (vI (gI σ 1278 x0 x4.toNat)), some (vI x5)]) dX12_kidOf_46 (by decide) rfl ?_
    obtain ⟨⟨c4, c4x⟩, h⟩ := h
    refine aw_iincc (L' := [some (vR 12 (some x0)), none, some (vJ x2), none, some (vI (gI σ 1278 x0 x4.toNat)), some (vI (x5 + 1))]) dX12_kidOf_48 rfl (by decide) rfl c4 c4x rfl ?_
    refine aw_goto (tgt := 31) dX12_kidOf_51 (by decide) ?_
    exact aw_fgt (L' := [some (vR 12 (some x0)), none, some (vJ x2), none, some (vI (gI σ 1278 x0 x4.toNat)), some (vI (x5 + 1))]) ⟨rfl, ⟨rfl, ⟨rfl, ⟨rfl, trivial⟩⟩⟩⟩ h
set_option maxRecDepth 4000 in
theorem bk_X12_laid_0 {g : GP} {l : Launch} {d : Nat} {σ : St} {Q : Option AV → St → Prop} {x0 : Nat} {x1 : Int} {x2 : Int}
    (h : ACv g l d MX12_begun [vR 12 (some x0), vI x1, vI (-1), vI x2, vI (-1)] (sI σ 1285 x0 0 0) (fun σ1 => AW g l (d + 1) MX12_laid 13 [some (vR 12 (some x0)), none, none, none, none] [] σ1 Q)) :
    AW g l (d + 1) MX12_laid 0 [some (vR 12 (some x0)), some (vI x1), some (vI x2), none, none] [] σ Q := by
  refine aw_aload_n dX12_laid_0 rfl rfl ?_
  refine aw_iconst (x := 0) dX12_laid_1 rfl ?_
  refine aw_putI' rfl fk_1285 (Or.inl rfl) lf_X12_271 dX12_laid_2 ?_
  refine aw_aload_n dX12_laid_5 rfl rfl ?_
  refine aw_iload_n dX12_laid_6 rfl rfl ?_
  refine aw_iconst (x := (-1)) dX12_laid_7 rfl ?_
  refine aw_iload_n dX12_laid_8 rfl rfl ?_
  refine aw_iconst (x := (-1)) dX12_laid_9 rfl ?_
  refine aw_invVv (M := MX12_laid) (ci := 12) [vI x1, vI (-1), vI x2, vI (-1)] rfl mo_X12_begun rfl lm_X12_590 li_X12_begun ls_X12_begun (by decide +kernel) dX12_laid_10 rfl (Nat.le_of_ble_eq_true rfl) (ACv.mono (fun σ1 h => ?_) h)
  exact aw_fgt (L' := [some (vR 12 (some x0)), none, none, none, none]) ⟨rfl, trivial⟩ h
set_option maxRecDepth 4000 in
theorem bk_X12_laid_13 {g : GP} {l : Launch} {d : Nat} {σ : St} {Q : Option AV → St → Prop} {x0 : Nat}
    (h : (((gI σ 1285 x0 0) ≤ 0 → Q none σ) ∧ (¬ (gI σ 1285 x0 0) ≤ 0 → ((¬ (gI σ 1282 x0 0) = 0 → Q none σ) ∧ ((gI σ 1282 x0 0) = 0 → LC 12 σ x0 ∧ R32 ((gI σ 1285 x0 0) - 1) ∧ Bd ((gI σ 1285 x0 0) - 1) 128 ∧ ∀ z6 : Int, z6 = gI σ 1283 x0 ((gI σ 1285 x0 0) - 1).toNat → ∀ z7 : Int, z7 = gI σ 1284 x0 ((gI σ 1285 x0 0) - 1).toNat → Bd z6 2800 ∧ ((¬ (gI σ 1267 x0 z6.toNat) = 0 → ((¬ z7 = 0 → R32 ((gI σ 1284 x0 ((gI σ 1285 x0 0) - 1).toNat) - 1) ∧ ACv g l d MX12_kidBegun [vR 12 (some x0), vI z6, vI (gI σ 1274 x0 z6.toNat)] (sI σ 1284 x0 ((gI σ 1285 x0 0) - 1).toNat ((gI σ 1284 x0 ((gI σ 1285 x0 0) - 1).toNat) - 1)) (fun σ12 => AW g l (d + 1) MX12_laid 13 [some (vR 12 (some x0)), none, none, none, none] [] σ12 Q)) ∧ (z7 = 0 → ACv g l d MX12_closes [vR 12 (some x0)] σ (fun σ13 => AW g l (d + 1) MX12_laid 13 [some (vR 12 (some x0)), none, none, none, none] [] σ13 Q)))) ∧ ((gI σ 1267 x0 z6.toNat) = 0 → R32 ((gI σ 1284 x0 ((gI σ 1285 x0 0) - 1).toNat) + 1) ∧ R32 (20 * (gI σ 1218 x0 0)) ∧ R32 ((20 * (gI σ 1218 x0 0)) + (gI σ 1273 x0 z6.toNat)) ∧ Bd ((20 * (gI σ 1218 x0 0)) + (gI σ 1273 x0 z6.toNat)) 40 ∧ ((z7 < (gI σ 1222 x0 ((20 * (gI σ 1218 x0 0)) + (gI σ 1273 x0 z6.toNat)).toNat) → ACi g l d MX12_field [vR 12 (some x0), vI (gI σ 1273 x0 z6.toNat), vI z7] (sI σ 1284 x0 ((gI σ 1285 x0 0) - 1).toNat ((gI σ 1284 x0 ((gI σ 1285 x0 0) - 1).toNat) + 1)) (fun v20 σ19 => ACv g l d MX12_fieldBegun [vR 12 (some x0), vI z6, vI v20] σ19 (fun σ21 => AW g l (d + 1) MX12_laid 13 [some (vR 12 (some x0)), none, none, none, none] [] σ21 Q))) ∧ (¬ z7 < (gI σ 1222 x0 ((20 * (gI σ 1218 x0 0)) + (gI σ 1273 x0 z6.toNat)).toNat) → ACv g l d MX12_closes [vR 12 (some x0)] (sI σ 1284 x0 ((gI σ 1285 x0 0) - 1).toNat ((gI σ 1284 x0 ((gI σ 1285 x0 0) - 1).toNat) + 1)) (fun σ22 => AW g l (d + 1) MX12_laid 13 [some (vR 12 (some x0)), none, none, none, none] [] σ22 Q)))))))))) :
    AW g l (d + 1) MX12_laid 13 [some (vR 12 (some x0)), none, none, none, none] [] σ Q := by
  refine aw_aload_n dX12_laid_13 rfl rfl ?_
  refine aw_getI' rfl fk_1285 lf_X12_271 dX12_laid_14 ?_
  refine aw_if_le (tgt := 168) dX12_laid_17 (by decide) (fun k1 => ?_) (fun k1 => ?_)
  · replace h := h.1 k1
    exact aw_ret h rfl dX12_laid_168
  · replace h := h.2 k1
    refine aw_aload_n dX12_laid_20 rfl rfl ?_
    refine aw_getZ' rfl fk_1282 lf_X12_262 dX12_laid_21 ?_
    refine aw_if_ne (tgt := 168) dX12_laid_24 (by decide) (fun k2 => ?_) (fun k2 => ?_)
    · replace h := h.1 k2
      exact aw_ret h rfl dX12_laid_168
    · replace h := h.2 k2
      refine aw_aload_n dX12_laid_27 rfl rfl ?_
      obtain ⟨lc3, h⟩ := h
      refine aw_getA' rfl fk_1283 (by decide) lf_X12_265 dX12_laid_28 (LC.ne lc3 rfl rfl) ?_
      refine aw_aload_n dX12_laid_31 rfl rfl ?_
      refine aw_getI' rfl fk_1285 lf_X12_271 dX12_laid_32 ?_
      refine aw_iconst (x := 1) dX12_laid_35 rfl ?_
      obtain ⟨⟨c4, c4x⟩, h⟩ := h
      refine aw_isubc dX12_laid_36 c4 c4x ?_
      obtain ⟨⟨c5, c5x⟩, h⟩ := h
      refine aw_iaload (by decide) rfl dX12_laid_37 c5 (LC.lt lc3 rfl rfl c5x) ?_
      refine aw_istore_n (L' := [some (vR 12 (some x0)), none, none, some (vI (gI σ 1283 x0 ((gI σ 1285 x0 0) - 1).toNat)), none]) dX12_laid_38 rfl (by decide) rfl ?_
      obtain ⟨z6, hz6⟩ : ∃ z : Int, z = gI σ 1283 x0 ((gI σ 1285 x0 0) - 1).toNat := ⟨_, rfl⟩
      rw [← hz6]
      replace h := h z6 hz6
      refine aw_aload_n dX12_laid_39 rfl rfl ?_
      refine aw_getA' rfl fk_1284 (by decide) lf_X12_268 dX12_laid_40 (LC.ne lc3 rfl rfl) ?_
      refine aw_aload_n dX12_laid_43 rfl rfl ?_
      refine aw_getI' rfl fk_1285 lf_X12_271 dX12_laid_44 ?_
      refine aw_iconst (x := 1) dX12_laid_47 rfl ?_
      refine aw_isubc dX12_laid_48 c4 c4x ?_
      refine aw_iaload (by decide) rfl dX12_laid_49 c5 (LC.lt lc3 rfl rfl c5x) ?_
      refine aw_istore (L' := [some (vR 12 (some x0)), none, none, some (vI z6), some (vI (gI σ 1284 x0 ((gI σ 1285 x0 0) - 1).toNat))]) dX12_laid_50 (by decide) rfl ?_
      obtain ⟨z7, hz7⟩ : ∃ z : Int, z = gI σ 1284 x0 ((gI σ 1285 x0 0) - 1).toNat := ⟨_, rfl⟩
      rw [← hz7]
      replace h := h z7 hz7
      refine aw_aload_n dX12_laid_52 rfl rfl ?_
      refine aw_getA' rfl fk_1267 (by decide) lf_X12_217 dX12_laid_53 (LC.ne lc3 rfl rfl) ?_
      refine aw_iload_n dX12_laid_56 rfl rfl ?_
      obtain ⟨⟨c8, c8x⟩, h⟩ := h
      refine aw_iaload (by decide) rfl dX12_laid_57 c8 (LC.lt lc3 rfl rfl c8x) ?_
      refine aw_if_ne (tgt := 127) dX12_laid_58 (by decide) (fun k9 => ?_) (fun k9 => ?_)
      · replace h := h.1 k9
        refine aw_iload dX12_laid_127 rfl ?_
        refine aw_if_ne (tgt := 139) dX12_laid_129 (by decide) (fun k10 => ?_) (fun k10 => ?_)
        · replace h := h.1 k10
          refine aw_aload_n dX12_laid_139 rfl rfl ?_
          refine aw_getA' rfl fk_1284 (by decide) lf_X12_268 dX12_laid_140 (LC.ne lc3 rfl rfl) ?_
          refine aw_aload_n dX12_laid_143 rfl rfl ?_
          refine aw_getI' rfl fk_1285 lf_X12_271 dX12_laid_144 ?_
          refine aw_iconst (x := 1) dX12_laid_147 rfl ?_
          refine aw_isubc dX12_laid_148 c4 c4x ?_
          refine aw_dup2 dX12_laid_149 rfl rfl ?_
          refine aw_iaload (by decide) rfl dX12_laid_150 c5 (LC.lt lc3 rfl rfl c5x) ?_
          refine aw_iconst (x := 1) dX12_laid_151 rfl ?_
          obtain ⟨⟨c11, c11x⟩, h⟩ := h
          refine aw_isubc dX12_laid_152 c11 c11x ?_
          refine aw_iastore (by decide) rfl dX12_laid_153 c5 (LC.lt lc3 rfl rfl c5x) ?_
          refine aw_aload_n dX12_laid_154 rfl rfl ?_
          refine aw_iload_n dX12_laid_155 rfl rfl ?_
          refine aw_aload_n dX12_laid_156 rfl rfl ?_
          refine aw_getA' rfl fk_1274 (by decide) lf_X12_238 dX12_laid_157 (LC.ne lc3 rfl rfl) ?_
          refine aw_iload_n dX12_laid_160 rfl rfl ?_
          refine aw_ialoade (v := gI σ 1274 x0 z6.toNat) (by decide) rfl dX12_laid_161 c8 (LC.lt lc3 rfl rfl c8x) rfl ?_
          refine aw_invVv (M := MX12_laid) (ci := 12) [vI z6, vI (gI σ 1274 x0 z6.toNat)] rfl mo_X12_kidBegun rfl lm_X12_599 li_X12_kidBegun ls_X12_kidBegun (by decide +kernel) dX12_laid_162 rfl (Nat.le_of_ble_eq_true rfl) (ACv.mono (fun σ12 h => ?_) h)
          refine aw_goto (tgt := 13) dX12_laid_165 (by decide) ?_
          exact aw_fgt (L' := [some (vR 12 (some x0)), none, none, none, none]) ⟨rfl, trivial⟩ h
        · replace h := h.2 k10
          refine aw_aload_n dX12_laid_132 rfl rfl ?_
          refine aw_invVv (M := MX12_laid) (ci := 12) [] rfl mo_X12_closes rfl lm_X12_593 li_X12_closes ls_X12_closes (by decide +kernel) dX12_laid_133 rfl (Nat.le_of_ble_eq_true rfl) (ACv.mono (fun σ13 h => ?_) h)
          refine aw_goto (tgt := 165) dX12_laid_136 (by decide) ?_
          refine aw_goto (tgt := 13) dX12_laid_165 (by decide) ?_
          exact aw_fgt (L' := [some (vR 12 (some x0)), none, none, none, none]) ⟨rfl, trivial⟩ h
      · replace h := h.2 k9
        refine aw_aload_n dX12_laid_61 rfl rfl ?_
        refine aw_getA' rfl fk_1284 (by decide) lf_X12_268 dX12_laid_62 (LC.ne lc3 rfl rfl) ?_
        refine aw_aload_n dX12_laid_65 rfl rfl ?_
        refine aw_getI' rfl fk_1285 lf_X12_271 dX12_laid_66 ?_
        refine aw_iconst (x := 1) dX12_laid_69 rfl ?_
        refine aw_isubc dX12_laid_70 c4 c4x ?_
        refine aw_dup2 dX12_laid_71 rfl rfl ?_
        refine aw_iaload (by decide) rfl dX12_laid_72 c5 (LC.lt lc3 rfl rfl c5x) ?_
        refine aw_iconst (x := 1) dX12_laid_73 rfl ?_
        obtain ⟨⟨c14, c14x⟩, h⟩ := h
        refine aw_iaddc dX12_laid_74 c14 c14x ?_
        refine aw_iastore (by decide) rfl dX12_laid_75 c5 (LC.lt lc3 rfl rfl c5x) ?_
        refine aw_iload dX12_laid_76 rfl ?_
        refine aw_aload_n dX12_laid_78 rfl rfl ?_
        refine aw_getA' rfl fk_1222 (by decide) lf_X12_80 dX12_laid_79 (LC.ne lc3 rfl rfl) ?_
        refine aw_bipush (x := 20) dX12_laid_82 rfl ?_
        refine aw_aload_n dX12_laid_84 rfl rfl ?_
        refine aw_getIe (v := gI σ 1218 x0 0) rfl fk_1218 lf_X12_67 dX12_laid_85 rfl ?_
        obtain ⟨⟨c15, c15x⟩, h⟩ := h
        refine aw_imulc dX12_laid_88 c15 c15x ?_
        refine aw_aload_n dX12_laid_89 rfl rfl ?_
        refine aw_getA' rfl fk_1273 (by decide) lf_X12_235 dX12_laid_90 (LC.ne lc3 rfl rfl) ?_
        refine aw_iload_n dX12_laid_93 rfl rfl ?_
        refine aw_ialoade (v := gI σ 1273 x0 z6.toNat) (by decide) rfl dX12_laid_94 c8 (LC.lt lc3 rfl rfl c8x) rfl ?_
        obtain ⟨⟨c16, c16x⟩, h⟩ := h
        refine aw_iaddc dX12_laid_95 c16 c16x ?_
        obtain ⟨⟨c17, c17x⟩, h⟩ := h
        refine aw_ialoade (v := gI σ 1222 x0 ((20 * (gI σ 1218 x0 0)) + (gI σ 1273 x0 z6.toNat)).toNat) (by decide) rfl dX12_laid_96 c17 (LC.lt lc3 rfl rfl c17x) rfl ?_
        refine aw_icmp_lt (tgt := 107) dX12_laid_97 (by decide) (fun k18 => ?_) (fun k18 => ?_)
        · replace h := h.1 k18
          refine aw_aload_n dX12_laid_107 rfl rfl ?_
          refine aw_iload_n dX12_laid_108 rfl rfl ?_
          refine aw_aload_n dX12_laid_109 rfl rfl ?_
          refine aw_aload_n dX12_laid_110 rfl rfl ?_
          refine aw_getA' rfl fk_1273 (by decide) lf_X12_235 dX12_laid_111 (LC.ne lc3 rfl rfl) ?_
          refine aw_iload_n dX12_laid_114 rfl rfl ?_
          refine aw_ialoade (v := gI σ 1273 x0 z6.toNat) (by decide) rfl dX12_laid_115 c8 (LC.lt lc3 rfl rfl c8x) rfl ?_
          refine aw_iload dX12_laid_116 rfl ?_
          refine aw_invVi (M := MX12_laid) (ci := 12) [vI (gI σ 1273 x0 z6.toNat), vI z7] rfl mo_X12_field rfl lm_X12_447 li_X12_field ls_X12_field (by decide +kernel) dX12_laid_118 rfl (Nat.le_of_ble_eq_true rfl) (ACi.mono (fun v20 σ19 h => ?_) h)
          refine aw_invVv (M := MX12_laid) (ci := 12) [vI z6, vI v20] rfl mo_X12_fieldBegun rfl lm_X12_596 li_X12_fieldBegun ls_X12_fieldBegun (by decide +kernel) dX12_laid_121 rfl (Nat.le_of_ble_eq_true rfl) (ACv.mono (fun σ21 h => ?_) h)
          refine aw_goto (tgt := 165) dX12_laid_124 (by decide) ?_
          refine aw_goto (tgt := 13) dX12_laid_165 (by decide) ?_
          exact aw_fgt (L' := [some (vR 12 (some x0)), none, none, none, none]) ⟨rfl, trivial⟩ h
        · replace h := h.2 k18
          refine aw_aload_n dX12_laid_100 rfl rfl ?_
          refine aw_invVv (M := MX12_laid) (ci := 12) [] rfl mo_X12_closes rfl lm_X12_593 li_X12_closes ls_X12_closes (by decide +kernel) dX12_laid_101 rfl (Nat.le_of_ble_eq_true rfl) (ACv.mono (fun σ22 h => ?_) h)
          refine aw_goto (tgt := 165) dX12_laid_104 (by decide) ?_
          refine aw_goto (tgt := 13) dX12_laid_165 (by decide) ?_
          exact aw_fgt (L' := [some (vR 12 (some x0)), none, none, none, none]) ⟨rfl, trivial⟩ h
set_option maxRecDepth 4000 in
theorem bk_X12_laidAt_0 {g : GP} {l : Launch} {d : Nat} {σ : St} {Q : Option AV → St → Prop} {x0 : Nat} {x1 : Int} {x2 : Int} {x3 : Int} {x4 : Int}
    (h : LC 12 σ x0 ∧ Bd x1 7 ∧ ACv g l d MX12_laid [vR 12 (some x0), vI x3, vI x4] (sI (sI (sI (sI (sI (sI σ 1253 x0 0 (gI σ 1218 x0 0)) 1280 x0 0 x1) 1281 x0 0 x2) 1265 x0 x1.toNat x2) 1266 x0 x1.toNat 0) 1282 x0 0 0) (fun σ3 => ((¬ (gI σ3 1282 x0 0) = 0 → Q (some (vI 0)) σ3) ∧ ((gI σ3 1282 x0 0) = 0 → Q (some (vI 1)) σ3)))) :
    AW g l (d + 1) MX12_laidAt 0 [some (vR 12 (some x0)), some (vI x1), some (vI x2), some (vI x3), some (vI x4)] [] σ Q := by
  refine aw_aload_n dX12_laidAt_0 rfl rfl ?_
  refine aw_aload_n dX12_laidAt_1 rfl rfl ?_
  refine aw_getI' rfl fk_1218 lf_X12_67 dX12_laidAt_2 ?_
  refine aw_putI' rfl fk_1253 (Or.inl rfl) lf_X12_173 dX12_laidAt_5 ?_
  refine aw_aload_n dX12_laidAt_8 rfl rfl ?_
  refine aw_iload_n dX12_laidAt_9 rfl rfl ?_
  refine aw_putI' rfl fk_1280 (Or.inl rfl) lf_X12_256 dX12_laidAt_10 ?_
  refine aw_aload_n dX12_laidAt_13 rfl rfl ?_
  refine aw_iload_n dX12_laidAt_14 rfl rfl ?_
  refine aw_putI' rfl fk_1281 (Or.inl rfl) lf_X12_259 dX12_laidAt_15 ?_
  refine aw_aload_n dX12_laidAt_18 rfl rfl ?_
  obtain ⟨lc1, h⟩ := h
  refine aw_getA' rfl fk_1265 (by decide) lf_X12_211 dX12_laidAt_19 (LC.ne lc1 rfl rfl) ?_
  refine aw_aload_n dX12_laidAt_22 rfl rfl ?_
  refine aw_getIe (v := x1) rfl fk_1280 lf_X12_256 dX12_laidAt_23 (gI_slf (sI σ 1253 x0 0 (gI σ 1218 x0 0)) 1280 x0 0 x1) ?_
  refine aw_aload_n dX12_laidAt_26 rfl rfl ?_
  refine aw_getIe (v := x2) rfl fk_1281 lf_X12_259 dX12_laidAt_27 (gI_slf (sI (sI σ 1253 x0 0 (gI σ 1218 x0 0)) 1280 x0 0 x1) 1281 x0 0 x2) ?_
  obtain ⟨⟨c2, c2x⟩, h⟩ := h
  refine aw_iastore (by decide) rfl dX12_laidAt_30 c2 (LC.lt lc1 rfl rfl c2x) ?_
  refine aw_aload_n dX12_laidAt_31 rfl rfl ?_
  refine aw_getA' rfl fk_1266 (by decide) lf_X12_214 dX12_laidAt_32 (LC.ne lc1 rfl rfl) ?_
  refine aw_aload_n dX12_laidAt_35 rfl rfl ?_
  refine aw_getIe (v := x1) rfl fk_1280 lf_X12_256 dX12_laidAt_36 (gI_slf (sI σ 1253 x0 0 (gI σ 1218 x0 0)) 1280 x0 0 x1) ?_
  refine aw_iconst (x := 0) dX12_laidAt_39 rfl ?_
  refine aw_iastore (by decide) rfl dX12_laidAt_40 c2 (LC.lt lc1 rfl rfl c2x) ?_
  refine aw_aload_n dX12_laidAt_41 rfl rfl ?_
  refine aw_iconst (x := 0) dX12_laidAt_42 rfl ?_
  refine aw_putZ' rfl fk_1282 (Or.inl rfl) lf_X12_262 dX12_laidAt_43 (Or.inl rfl) ?_
  refine aw_aload_n dX12_laidAt_46 rfl rfl ?_
  refine aw_iload_n dX12_laidAt_47 rfl rfl ?_
  refine aw_iload dX12_laidAt_48 rfl ?_
  refine aw_invVv (M := MX12_laidAt) (ci := 12) [vI x3, vI x4] rfl mo_X12_laid rfl lm_X12_682 li_X12_laid ls_X12_laid (by decide +kernel) dX12_laidAt_50 rfl (Nat.le_of_ble_eq_true rfl) (ACv.mono (fun σ3 h => ?_) h)
  refine aw_aload_n dX12_laidAt_53 rfl rfl ?_
  refine aw_getZ' rfl fk_1282 lf_X12_262 dX12_laidAt_54 ?_
  refine aw_if_ne (tgt := 64) dX12_laidAt_57 (by decide) (fun k4 => ?_) (fun k4 => ?_)
  · replace h := h.1 k4
    refine aw_iconst (x := 0) dX12_laidAt_64 rfl ?_
    exact aw_zreturn dX12_laidAt_65 rfl (Or.inl rfl) h
  · replace h := h.2 k4
    refine aw_iconst (x := 1) dX12_laidAt_60 rfl ?_
    refine aw_goto (tgt := 65) dX12_laidAt_61 (by decide) ?_
    exact aw_zreturn dX12_laidAt_65 rfl (Or.inr rfl) h
set_option maxRecDepth 4000 in
theorem bk_X12_lay_0 {g : GP} {l : Launch} {d : Nat} {σ : St} {Q : Option AV → St → Prop} {x0 : Nat} {x1 : Int} {x2 : Int} {x3 : Int}
    (h : ACi g l d MX12_isImage [vR 12 (some x0), vI x1] σ (fun v2 σ1 => ((v2 = 0 → Q (some (vI (-1))) σ1) ∧ (¬ v2 = 0 → ACi g l d MX12_isStruct [vR 12 (some x0), vI x2] σ1 (fun v5 σ4 => ((¬ v5 = 0 → ((x3 < 0 → Q (some (vI (-3))) σ4) ∧ (¬ x3 < 0 → LC 12 σ4 x0 ∧ Bd x1 6 ∧ ((x3 ≤ (gI σ4 1201 x0 x1.toNat) → ((¬ (gI σ4 1264 x0 0) = 6 → ACi g l d MX12_laidAt [vR 12 (some x0), vI (gI σ4 1264 x0 0), vI x1, vI x2, vI x3] σ4 (fun v13 σ12 => ((¬ v13 = 0 → R32 ((gI σ12 1264 x0 0) + 1) ∧ R32 (((gI σ12 1264 x0 0) + 1) - 1) ∧ Q (some (vI (((gI σ12 1264 x0 0) + 1) - 1))) (sI σ12 1264 x0 0 ((gI σ12 1264 x0 0) + 1))) ∧ (v13 = 0 → Q (some (vI (-6))) σ12)))) ∧ ((gI σ4 1264 x0 0) = 6 → Q (some (vI (-2))) σ4))) ∧ (¬ x3 ≤ (gI σ4 1201 x0 x1.toNat) → Q (some (vI (-3))) σ4))))) ∧ (v5 = 0 → Q (some (vI (-1))) σ4))))))) :
    AW g l (d + 1) MX12_lay 0 [some (vR 12 (some x0)), some (vI x1), some (vI x2), some (vI x3)] [] σ Q := by
  refine aw_aload_n dX12_lay_0 rfl rfl ?_
  refine aw_iload_n dX12_lay_1 rfl rfl ?_
  refine aw_invVi (M := MX12_lay) (ci := 12) [vI x1] rfl mo_X12_isImage rfl lm_X12_293 li_X12_isImage ls_X12_isImage (by decide +kernel) dX12_lay_2 rfl (Nat.le_of_ble_eq_true rfl) (ACi.mono (fun v2 σ1 h => ?_) h)
  refine aw_if_eq (tgt := 16) dX12_lay_5 (by decide) (fun k3 => ?_) (fun k3 => ?_)
  · replace h := h.1 k3
    refine aw_iconst (x := (-1)) dX12_lay_16 rfl ?_
    exact aw_ireturn dX12_lay_17 rfl h
  · replace h := h.2 k3
    refine aw_aload_n dX12_lay_8 rfl rfl ?_
    refine aw_iload_n dX12_lay_9 rfl rfl ?_
    refine aw_invVi (M := MX12_lay) (ci := 12) [vI x2] rfl mo_X12_isStruct rfl lm_X12_570 li_X12_isStruct ls_X12_isStruct (by decide +kernel) dX12_lay_10 rfl (Nat.le_of_ble_eq_true rfl) (ACi.mono (fun v5 σ4 h => ?_) h)
    refine aw_if_ne (tgt := 18) dX12_lay_13 (by decide) (fun k6 => ?_) (fun k6 => ?_)
    · replace h := h.1 k6
      refine aw_iload_n dX12_lay_18 rfl rfl ?_
      refine aw_if_lt (tgt := 32) dX12_lay_19 (by decide) (fun k7 => ?_) (fun k7 => ?_)
      · replace h := h.1 k7
        refine aw_bipush (x := (-3)) dX12_lay_32 rfl ?_
        exact aw_ireturn dX12_lay_34 rfl h
      · replace h := h.2 k7
        refine aw_iload_n dX12_lay_22 rfl rfl ?_
        refine aw_aload_n dX12_lay_23 rfl rfl ?_
        obtain ⟨lc8, h⟩ := h
        refine aw_getA' rfl fk_1201 (by decide) lf_X12_13 dX12_lay_24 (LC.ne lc8 rfl rfl) ?_
        refine aw_iload_n dX12_lay_27 rfl rfl ?_
        obtain ⟨⟨c9, c9x⟩, h⟩ := h
        refine aw_iaload (by decide) rfl dX12_lay_28 c9 (LC.lt lc8 rfl rfl c9x) ?_
        refine aw_icmp_le (tgt := 35) dX12_lay_29 (by decide) (fun k10 => ?_) (fun k10 => ?_)
        · replace h := h.1 k10
          refine aw_aload_n dX12_lay_35 rfl rfl ?_
          refine aw_getI' rfl fk_1264 lf_X12_208 dX12_lay_36 ?_
          refine aw_bipush (x := 6) dX12_lay_39 rfl ?_
          refine aw_icmp_ne (tgt := 47) dX12_lay_41 (by decide) (fun k11 => ?_) (fun k11 => ?_)
          · replace h := h.1 k11
            refine aw_aload_n dX12_lay_47 rfl rfl ?_
            refine aw_aload_n dX12_lay_48 rfl rfl ?_
            refine aw_getI' rfl fk_1264 lf_X12_208 dX12_lay_49 ?_
            refine aw_iload_n dX12_lay_52 rfl rfl ?_
            refine aw_iload_n dX12_lay_53 rfl rfl ?_
            refine aw_iload_n dX12_lay_54 rfl rfl ?_
            refine aw_invVi (M := MX12_lay) (ci := 12) [vI (gI σ4 1264 x0 0), vI x1, vI x2, vI x3] rfl mo_X12_laidAt rfl lm_X12_678 li_X12_laidAt ls_X12_laidAt (by decide +kernel) dX12_lay_55 rfl (Nat.le_of_ble_eq_true rfl) (ACi.mono (fun v13 σ12 h => ?_) h)
            refine aw_if_ne (tgt := 64) dX12_lay_58 (by decide) (fun k14 => ?_) (fun k14 => ?_)
            · replace h := h.1 k14
              refine aw_aload_n dX12_lay_64 rfl rfl ?_
              refine aw_dup dX12_lay_65 rfl ?_
              refine aw_getI' rfl fk_1264 lf_X12_208 dX12_lay_66 ?_
              refine aw_iconst (x := 1) dX12_lay_69 rfl ?_
              obtain ⟨⟨c15, c15x⟩, h⟩ := h
              refine aw_iaddc dX12_lay_70 c15 c15x ?_
              refine aw_putI' rfl fk_1264 (Or.inl rfl) lf_X12_208 dX12_lay_71 ?_
              refine aw_aload_n dX12_lay_74 rfl rfl ?_
              refine aw_getIe (v := ((gI σ12 1264 x0 0) + 1)) rfl fk_1264 lf_X12_208 dX12_lay_75 (gI_slf σ12 1264 x0 0 ((gI σ12 1264 x0 0) + 1)) ?_
              refine aw_iconst (x := 1) dX12_lay_78 rfl ?_
              obtain ⟨⟨c16, c16x⟩, h⟩ := h
              refine aw_isubc dX12_lay_79 c16 c16x ?_
              exact aw_ireturn dX12_lay_80 rfl h
            · replace h := h.2 k14
              refine aw_bipush (x := (-6)) dX12_lay_61 rfl ?_
              exact aw_ireturn dX12_lay_63 rfl h
          · replace h := h.2 k11
            refine aw_bipush (x := (-2)) dX12_lay_44 rfl ?_
            exact aw_ireturn dX12_lay_46 rfl h
        · replace h := h.2 k10
          refine aw_bipush (x := (-3)) dX12_lay_32 rfl ?_
          exact aw_ireturn dX12_lay_34 rfl h
    · replace h := h.2 k6
      refine aw_iconst (x := (-1)) dX12_lay_16 rfl ?_
      exact aw_ireturn dX12_lay_17 rfl h
set_option maxRecDepth 4000 in
theorem bk_X12_layer_0 {g : GP} {l : Launch} {d : Nat} {σ : St} {Q : Option AV → St → Prop} {x0 : Nat} {x1 : Int}
    (h : ACi g l d MX12_isImage [vR 12 (some x0), vI x1] σ (fun v2 σ1 => ((¬ v2 = 0 → LC 12 σ1 x0 ∧ Bd x1 6 ∧ ((¬ (gI σ1 1202 x0 x1.toNat) = 4 → AW g l (d + 1) MX12_layer 25 [some (vR 12 (some x0)), some (vI x1), some (vI 0)] [] σ1 Q) ∧ ((gI σ1 1202 x0 x1.toNat) = 4 → Q (some (vI (-2))) σ1))) ∧ (v2 = 0 → Q (some (vI (-1))) σ1)))) :
    AW g l (d + 1) MX12_layer 0 [some (vR 12 (some x0)), some (vI x1), none] [] σ Q := by
  refine aw_aload_n dX12_layer_0 rfl rfl ?_
  refine aw_iload_n dX12_layer_1 rfl rfl ?_
  refine aw_invVi (M := MX12_layer) (ci := 12) [vI x1] rfl mo_X12_isImage rfl lm_X12_293 li_X12_isImage ls_X12_isImage (by decide +kernel) dX12_layer_2 rfl (Nat.le_of_ble_eq_true rfl) (ACi.mono (fun v2 σ1 h => ?_) h)
  refine aw_if_ne (tgt := 10) dX12_layer_5 (by decide) (fun k3 => ?_) (fun k3 => ?_)
  · replace h := h.1 k3
    refine aw_aload_n dX12_layer_10 rfl rfl ?_
    obtain ⟨lc4, h⟩ := h
    refine aw_getA' rfl fk_1202 (by decide) lf_X12_17 dX12_layer_11 (LC.ne lc4 rfl rfl) ?_
    refine aw_iload_n dX12_layer_14 rfl rfl ?_
    obtain ⟨⟨c5, c5x⟩, h⟩ := h
    refine aw_iaload (by decide) rfl dX12_layer_15 c5 (LC.lt lc4 rfl rfl c5x) ?_
    refine aw_iconst (x := 4) dX12_layer_16 rfl ?_
    refine aw_icmp_ne (tgt := 23) dX12_layer_17 (by decide) (fun k6 => ?_) (fun k6 => ?_)
    · replace h := h.1 k6
      refine aw_iconst (x := 0) dX12_layer_23 rfl ?_
      refine aw_istore_n (L' := [some (vR 12 (some x0)), some (vI x1), some (vI 0)]) dX12_layer_24 rfl (by decide) rfl ?_
      exact aw_fgt (L' := [some (vR 12 (some x0)), some (vI x1), some (vI 0)]) ⟨rfl, ⟨rfl, ⟨rfl, trivial⟩⟩⟩ h
    · replace h := h.2 k6
      refine aw_bipush (x := (-2)) dX12_layer_20 rfl ?_
      exact aw_ireturn dX12_layer_22 rfl h
  · replace h := h.2 k3
    refine aw_iconst (x := (-1)) dX12_layer_8 rfl ?_
    exact aw_ireturn dX12_layer_9 rfl h
set_option maxRecDepth 4000 in
theorem bk_X12_layer_25 {g : GP} {l : Launch} {d : Nat} {σ : St} {Q : Option AV → St → Prop} {x0 : Nat} {x1 : Int} {x2 : Int}
    (h : ((2000 ≤ x2 → LC 12 σ x0 ∧ R32 (4 * x1) ∧ Bd x1 6 ∧ R32 ((4 * x1) + (gI σ 1202 x0 x1.toNat)) ∧ Bd ((4 * x1) + (gI σ 1202 x0 x1.toNat)) 24 ∧ R32 ((gI σ 1202 x0 x1.toNat) + 1) ∧ Q (some (vI ((gI σ 1202 x0 x1.toNat) + 1))) (sI (sI σ 1205 x0 ((4 * x1) + (gI σ 1202 x0 x1.toNat)).toNat 0) 1202 x0 x1.toNat ((gI σ 1202 x0 x1.toNat) + 1))) ∧ (¬ 2000 ≤ x2 → LC 12 σ x0 ∧ Bd x1 6 ∧ ACi g l d MX12_cell [vR 12 (some x0), vI x1, vI (gI σ 1202 x0 x1.toNat), vI x2] σ (fun v11 σ10 => LC 12 σ10 x0 ∧ Bd v11 48000 ∧ R32 (x2 + 1) ∧ AW g l (d + 1) MX12_layer 25 [some (vR 12 (some x0)), some (vI x1), some (vI (x2 + 1))] [] (sI σ10 1204 x0 v11.toNat (-1)) Q)))) :
    AW g l (d + 1) MX12_layer 25 [some (vR 12 (some x0)), some (vI x1), some (vI x2)] [] σ Q := by
  refine aw_iload_n dX12_layer_25 rfl rfl ?_
  refine aw_sipush (x := 2000) dX12_layer_26 rfl ?_
  refine aw_icmp_ge (tgt := 56) dX12_layer_29 (by decide) (fun k1 => ?_) (fun k1 => ?_)
  · replace h := h.1 k1
    refine aw_aload_n dX12_layer_56 rfl rfl ?_
    obtain ⟨lc2, h⟩ := h
    refine aw_getA' rfl fk_1205 (by decide) lf_X12_27 dX12_layer_57 (LC.ne lc2 rfl rfl) ?_
    refine aw_iconst (x := 4) dX12_layer_60 rfl ?_
    refine aw_iload_n dX12_layer_61 rfl rfl ?_
    obtain ⟨⟨c3, c3x⟩, h⟩ := h
    refine aw_imulc dX12_layer_62 c3 c3x ?_
    refine aw_aload_n dX12_layer_63 rfl rfl ?_
    refine aw_getA' rfl fk_1202 (by decide) lf_X12_17 dX12_layer_64 (LC.ne lc2 rfl rfl) ?_
    refine aw_iload_n dX12_layer_67 rfl rfl ?_
    obtain ⟨⟨c4, c4x⟩, h⟩ := h
    refine aw_iaload (by decide) rfl dX12_layer_68 c4 (LC.lt lc2 rfl rfl c4x) ?_
    obtain ⟨⟨c5, c5x⟩, h⟩ := h
    refine aw_iaddc dX12_layer_69 c5 c5x ?_
    refine aw_iconst (x := 0) dX12_layer_70 rfl ?_
    obtain ⟨⟨c6, c6x⟩, h⟩ := h
    refine aw_iastore (by decide) rfl dX12_layer_71 c6 (LC.lt lc2 rfl rfl c6x) ?_
    refine aw_aload_n dX12_layer_72 rfl rfl ?_
    refine aw_getA' rfl fk_1202 (by decide) lf_X12_17 dX12_layer_73 (LC.ne lc2 rfl rfl) ?_
    refine aw_iload_n dX12_layer_76 rfl rfl ?_
    refine aw_dup2 dX12_layer_77 rfl rfl ?_
    refine aw_ialoade (v := gI σ 1202 x0 x1.toNat) (by decide) rfl dX12_layer_78 c4 (LC.lt lc2 rfl rfl c4x) rfl ?_
    refine aw_iconst (x := 1) dX12_layer_79 rfl ?_
    obtain ⟨⟨c7, c7x⟩, h⟩ := h
    refine aw_iaddc dX12_layer_80 c7 c7x ?_
    refine aw_iastore (by decide) rfl dX12_layer_81 c4 (LC.lt lc2 rfl rfl c4x) ?_
    refine aw_aload_n dX12_layer_82 rfl rfl ?_
    refine aw_getA' rfl fk_1202 (by decide) lf_X12_17 dX12_layer_83 (LC.ne lc2 rfl rfl) ?_
    refine aw_iload_n dX12_layer_86 rfl rfl ?_
    refine aw_ialoade (v := ((gI σ 1202 x0 x1.toNat) + 1)) (by decide) rfl dX12_layer_87 c4 (LC.lt lc2 rfl rfl c4x) (gI_slf (sI σ 1205 x0 ((4 * x1) + (gI σ 1202 x0 x1.toNat)).toNat 0) 1202 x0 x1.toNat ((gI σ 1202 x0 x1.toNat) + 1)) ?_
    exact aw_ireturn dX12_layer_88 rfl h
  · replace h := h.2 k1
    refine aw_aload_n dX12_layer_32 rfl rfl ?_
    obtain ⟨lc8, h⟩ := h
    refine aw_getA' rfl fk_1204 (by decide) lf_X12_24 dX12_layer_33 (LC.ne lc8 rfl rfl) ?_
    refine aw_aload_n dX12_layer_36 rfl rfl ?_
    refine aw_iload_n dX12_layer_37 rfl rfl ?_
    refine aw_aload_n dX12_layer_38 rfl rfl ?_
    refine aw_getA' rfl fk_1202 (by decide) lf_X12_17 dX12_layer_39 (LC.ne lc8 rfl rfl) ?_
    refine aw_iload_n dX12_layer_42 rfl rfl ?_
    obtain ⟨⟨c9, c9x⟩, h⟩ := h
    refine aw_iaload (by decide) rfl dX12_layer_43 c9 (LC.lt lc8 rfl rfl c9x) ?_
    refine aw_iload_n dX12_layer_44 rfl rfl ?_
    refine aw_invVi (M := MX12_layer) (ci := 12) [vI x1, vI (gI σ 1202 x0 x1.toNat), vI x2] rfl mo_X12_cell rfl lm_X12_289 li_X12_cell ls_X12_cell (by decide +kernel) dX12_layer_45 rfl (Nat.le_of_ble_eq_true rfl) (ACi.mono (fun v11 σ10 h => ?_) h)
    refine aw_iconst (x := (-1)) dX12_layer_48 rfl ?_
    obtain ⟨lc12, h⟩ := h
    obtain ⟨⟨c13, c13x⟩, h⟩ := h
    refine aw_iastore (by decide) rfl dX12_layer_49 c13 (LC.lt lc12 rfl rfl c13x) ?_
    obtain ⟨⟨c14, c14x⟩, h⟩ := h
    refine aw_iincc (L' := [some (vR 12 (some x0)), some (vI x1), some (vI (x2 + 1))]) dX12_layer_50 rfl (by decide) rfl c14 c14x rfl ?_
    refine aw_goto (tgt := 25) dX12_layer_53 (by decide) ?_
    exact aw_fgt (L' := [some (vR 12 (some x0)), some (vI x1), some (vI (x2 + 1))]) ⟨rfl, ⟨rfl, ⟨rfl, trivial⟩⟩⟩ h
set_option maxRecDepth 4000 in
theorem bk_X12_length_0 {g : GP} {l : Launch} {d : Nat} {σ : St} {Q : Option AV → St → Prop} {x0 : Nat} {x1 : Int}
    (h : ACi g l d MX12_isImage [vR 12 (some x0), vI x1] σ (fun v2 σ1 => ((v2 = 0 → Q (some (vI (-1))) σ1) ∧ (¬ v2 = 0 → LC 12 σ1 x0 ∧ Bd x1 6 ∧ Q (some (vI (gI σ1 1201 x0 x1.toNat))) σ1)))) :
    AW g l (d + 1) MX12_length 0 [some (vR 12 (some x0)), some (vI x1)] [] σ Q := by
  refine aw_aload_n dX12_length_0 rfl rfl ?_
  refine aw_iload_n dX12_length_1 rfl rfl ?_
  refine aw_invVi (M := MX12_length) (ci := 12) [vI x1] rfl mo_X12_isImage rfl lm_X12_293 li_X12_isImage ls_X12_isImage (by decide +kernel) dX12_length_2 rfl (Nat.le_of_ble_eq_true rfl) (ACi.mono (fun v2 σ1 h => ?_) h)
  refine aw_if_eq (tgt := 17) dX12_length_5 (by decide) (fun k3 => ?_) (fun k3 => ?_)
  · replace h := h.1 k3
    refine aw_iconst (x := (-1)) dX12_length_17 rfl ?_
    exact aw_ireturn dX12_length_18 rfl h
  · replace h := h.2 k3
    refine aw_aload_n dX12_length_8 rfl rfl ?_
    obtain ⟨lc4, h⟩ := h
    refine aw_getA' rfl fk_1201 (by decide) lf_X12_13 dX12_length_9 (LC.ne lc4 rfl rfl) ?_
    refine aw_iload_n dX12_length_12 rfl rfl ?_
    obtain ⟨⟨c5, c5x⟩, h⟩ := h
    refine aw_iaload (by decide) rfl dX12_length_13 c5 (LC.lt lc4 rfl rfl c5x) ?_
    refine aw_goto (tgt := 18) dX12_length_14 (by decide) ?_
    exact aw_ireturn dX12_length_18 rfl h
set_option maxRecDepth 4000 in
theorem bk_X12_letter_0 {g : GP} {l : Launch} {d : Nat} {σ : St} {Q : Option AV → St → Prop} {x0 : Nat} {x1 : Int}
    (h : ((x1 < 97 → Q (some (vI 0)) σ) ∧ (¬ x1 < 97 → ((122 < x1 → Q (some (vI 0)) σ) ∧ (¬ 122 < x1 → Q (some (vI 1)) σ))))) :
    AW g l d MX12_letter 0 [some (vR 12 (some x0)), some (vI x1)] [] σ Q := by
  refine aw_iload_n dX12_letter_0 rfl rfl ?_
  refine aw_bipush (x := 97) dX12_letter_1 rfl ?_
  refine aw_icmp_lt (tgt := 16) dX12_letter_3 (by decide) (fun k1 => ?_) (fun k1 => ?_)
  · replace h := h.1 k1
    refine aw_iconst (x := 0) dX12_letter_16 rfl ?_
    exact aw_zreturn dX12_letter_17 rfl (Or.inl rfl) h
  · replace h := h.2 k1
    refine aw_iload_n dX12_letter_6 rfl rfl ?_
    refine aw_bipush (x := 122) dX12_letter_7 rfl ?_
    refine aw_icmp_gt (tgt := 16) dX12_letter_9 (by decide) (fun k2 => ?_) (fun k2 => ?_)
    · replace h := h.1 k2
      refine aw_iconst (x := 0) dX12_letter_16 rfl ?_
      exact aw_zreturn dX12_letter_17 rfl (Or.inl rfl) h
    · replace h := h.2 k2
      refine aw_iconst (x := 1) dX12_letter_12 rfl ?_
      refine aw_goto (tgt := 17) dX12_letter_13 (by decide) ?_
      exact aw_zreturn dX12_letter_17 rfl (Or.inr rfl) h
set_option maxRecDepth 4000 in
theorem bk_X12_letter__0 {g : GP} {l : Launch} {d : Nat} {σ : St} {Q : Option AV → St → Prop} {x0 : Nat} {x1 : Int} {x2 : Int} {x3 : Int} {x4 : Int}
    (h : ACi g l d MX12_isNode [vR 12 (some x0), vI x1, vI x2] σ (fun v2 σ1 => ((¬ v2 = 0 → R32 (400 * x1) ∧ R32 ((400 * x1) + x2) ∧ ((¬ x3 = 0 → AW g l (d + 1) MX12_letter_ 34 [some (vR 12 (some x0)), none, none, some (vI x3), some (vI x4), some (vI ((400 * x1) + x2)), none, none, none, none, none] [vJ 0] σ1 Q) ∧ (x3 = 0 → ACj g l d MX12_nameOf [vR 12 (some x0), vI ((400 * x1) + x2)] σ1 (fun v8 σ7 => AW g l (d + 1) MX12_letter_ 34 [some (vR 12 (some x0)), none, none, some (vI x3), some (vI x4), some (vI ((400 * x1) + x2)), none, none, none, none, none] [vJ v8] σ7 Q)))) ∧ (v2 = 0 → Q (some (vI (-1))) σ1)))) :
    AW g l (d + 1) MX12_letter_ 0 [some (vR 12 (some x0)), some (vI x1), some (vI x2), some (vI x3), some (vI x4), none, none, none, none, none, none] [] σ Q := by
  refine aw_aload_n dX12_letter__0 rfl rfl ?_
  refine aw_iload_n dX12_letter__1 rfl rfl ?_
  refine aw_iload_n dX12_letter__2 rfl rfl ?_
  refine aw_invVi (M := MX12_letter_) (ci := 12) [vI x1, vI x2] rfl mo_X12_isNode rfl lm_X12_688 li_X12_isNode ls_X12_isNode (by decide +kernel) dX12_letter__3 rfl (Nat.le_of_ble_eq_true rfl) (ACi.mono (fun v2 σ1 h => ?_) h)
  refine aw_if_ne (tgt := 11) dX12_letter__6 (by decide) (fun k3 => ?_) (fun k3 => ?_)
  · replace h := h.1 k3
    refine aw_sipush (x := 400) dX12_letter__11 rfl ?_
    refine aw_iload_n dX12_letter__14 rfl rfl ?_
    obtain ⟨⟨c4, c4x⟩, h⟩ := h
    refine aw_imulc dX12_letter__15 c4 c4x ?_
    refine aw_iload_n dX12_letter__16 rfl rfl ?_
    obtain ⟨⟨c5, c5x⟩, h⟩ := h
    refine aw_iaddc dX12_letter__17 c5 c5x ?_
    refine aw_istore (L' := [some (vR 12 (some x0)), some (vI x1), some (vI x2), some (vI x3), some (vI x4), some (vI ((400 * x1) + x2)), none, none, none, none, none]) dX12_letter__18 (by decide) rfl ?_
    refine aw_iload_n dX12_letter__20 rfl rfl ?_
    refine aw_if_ne (tgt := 33) dX12_letter__21 (by decide) (fun k6 => ?_) (fun k6 => ?_)
    · replace h := h.1 k6
      refine aw_lconst (x := 0) dX12_letter__33 rfl ?_
      exact aw_fgt (L' := [some (vR 12 (some x0)), none, none, some (vI x3), some (vI x4), some (vI ((400 * x1) + x2)), none, none, none, none, none]) ⟨rfl, ⟨rfl, ⟨rfl, ⟨rfl, trivial⟩⟩⟩⟩ h
    · replace h := h.2 k6
      refine aw_aload_n dX12_letter__24 rfl rfl ?_
      refine aw_iload dX12_letter__25 rfl ?_
      refine aw_invVj (M := MX12_letter_) (ci := 12) [vI ((400 * x1) + x2)] rfl mo_X12_nameOf rfl lm_X12_698 li_X12_nameOf ls_X12_nameOf (by decide +kernel) dX12_letter__27 rfl (Nat.le_of_ble_eq_true rfl) (ACj.mono (fun v8 σ7 h => ?_) h)
      refine aw_goto (tgt := 34) dX12_letter__30 (by decide) ?_
      exact aw_fgt (L' := [some (vR 12 (some x0)), none, none, some (vI x3), some (vI x4), some (vI ((400 * x1) + x2)), none, none, none, none, none]) ⟨rfl, ⟨rfl, ⟨rfl, ⟨rfl, trivial⟩⟩⟩⟩ h
  · replace h := h.2 k3
    refine aw_iconst (x := (-1)) dX12_letter__9 rfl ?_
    exact aw_ireturn dX12_letter__10 rfl h
set_option maxRecDepth 4000 in
theorem bk_X12_letter__34 {g : GP} {l : Launch} {d : Nat} {σ : St} {Q : Option AV → St → Prop} {x0 : Nat} {x3 : Int} {x4 : Int} {x5 : Int} {y0 : Int64}
    (h : ((¬ x3 = 1 → AW g l (d + 1) MX12_letter_ 122 [none, none, none, none, some (vI x4), none, some (vJ y0), none, some (vI 0), some (vJ y0), none] [] σ Q) ∧ (x3 = 1 → LC 12 σ x0 ∧ Bd x5 2800 ∧ ((¬ (gI σ 1267 x0 x5.toNat) = 1 → AW g l (d + 1) MX12_letter_ 122 [none, none, none, none, some (vI x4), none, some (vJ y0), none, some (vI 0), some (vJ y0), none] [] σ Q) ∧ ((gI σ 1267 x0 x5.toNat) = 1 → Bd (gI σ 1274 x0 x5.toNat) 560 ∧ ((¬ (gI σ 1228 x0 (gI σ 1274 x0 x5.toNat).toNat) = 0 → AW g l (d + 1) MX12_letter_ 122 [none, none, none, none, some (vI x4), none, some (vJ y0), none, some (vI 0), some (vJ y0), none] [] σ Q) ∧ ((gI σ 1228 x0 (gI σ 1274 x0 x5.toNat).toNat) = 0 → (((gI σ 1230 x0 (gI σ 1274 x0 x5.toNat).toNat) < 0 → AW g l (d + 1) MX12_letter_ 122 [none, none, none, none, some (vI x4), none, some (vJ y0), none, some (vI 0), some (vJ y0), none] [] σ Q) ∧ (¬ (gI σ 1230 x0 (gI σ 1274 x0 x5.toNat).toNat) < 0 → ACi g l d MX12_paired [vR 12 (some x0), vI x5, vI (gI σ 1274 x0 x5.toNat)] σ (fun v9 σ8 => ((0 ≤ v9 → LC 12 σ8 x0 ∧ Bd v9 160 ∧ AW g l (d + 1) MX12_letter_ 122 [none, none, none, none, some (vI x4), none, some (vJ (gJ σ8 1226 x0 v9.toNat)), none, some (vI 0), some (vJ (gJ σ8 1226 x0 v9.toNat)), none] [] σ8 Q) ∧ (¬ 0 ≤ v9 → AW g l (d + 1) MX12_letter_ 122 [none, none, none, none, some (vI x4), none, some (vJ 0), none, some (vI 0), some (vJ 0), none] [] σ8 Q)))))))))))) :
    AW g l (d + 1) MX12_letter_ 34 [some (vR 12 (some x0)), none, none, some (vI x3), some (vI x4), some (vI x5), none, none, none, none, none] [vJ y0] σ Q := by
  refine aw_lstore (L' := [some (vR 12 (some x0)), none, none, some (vI x3), some (vI x4), some (vI x5), some (vJ y0), none, none, none, none]) dX12_letter__34 (by decide) rfl ?_
  refine aw_iload_n dX12_letter__36 rfl rfl ?_
  refine aw_iconst (x := 1) dX12_letter__37 rfl ?_
  refine aw_icmp_ne (tgt := 115) dX12_letter__38 (by decide) (fun k1 => ?_) (fun k1 => ?_)
  · replace h := h.1 k1
    refine aw_iconst (x := 0) dX12_letter__115 rfl ?_
    refine aw_istore (L' := [some (vR 12 (some x0)), none, none, some (vI x3), some (vI x4), some (vI x5), some (vJ y0), none, some (vI 0), none, none]) dX12_letter__116 (by decide) rfl ?_
    refine aw_lload dX12_letter__118 rfl ?_
    refine aw_lstore (L' := [some (vR 12 (some x0)), none, none, some (vI x3), some (vI x4), some (vI x5), some (vJ y0), none, some (vI 0), some (vJ y0), none]) dX12_letter__120 (by decide) rfl ?_
    exact aw_fgt (L' := [none, none, none, none, some (vI x4), none, some (vJ y0), none, some (vI 0), some (vJ y0), none]) ⟨rfl, ⟨rfl, ⟨rfl, ⟨rfl, trivial⟩⟩⟩⟩ h
  · replace h := h.2 k1
    refine aw_aload_n dX12_letter__41 rfl rfl ?_
    obtain ⟨lc2, h⟩ := h
    refine aw_getA' rfl fk_1267 (by decide) lf_X12_217 dX12_letter__42 (LC.ne lc2 rfl rfl) ?_
    refine aw_iload dX12_letter__45 rfl ?_
    obtain ⟨⟨c3, c3x⟩, h⟩ := h
    refine aw_iaload (by decide) rfl dX12_letter__47 c3 (LC.lt lc2 rfl rfl c3x) ?_
    refine aw_iconst (x := 1) dX12_letter__48 rfl ?_
    refine aw_icmp_ne (tgt := 115) dX12_letter__49 (by decide) (fun k4 => ?_) (fun k4 => ?_)
    · replace h := h.1 k4
      refine aw_iconst (x := 0) dX12_letter__115 rfl ?_
      refine aw_istore (L' := [some (vR 12 (some x0)), none, none, some (vI x3), some (vI x4), some (vI x5), some (vJ y0), none, some (vI 0), none, none]) dX12_letter__116 (by decide) rfl ?_
      refine aw_lload dX12_letter__118 rfl ?_
      refine aw_lstore (L' := [some (vR 12 (some x0)), none, none, some (vI x3), some (vI x4), some (vI x5), some (vJ y0), none, some (vI 0), some (vJ y0), none]) dX12_letter__120 (by decide) rfl ?_
      exact aw_fgt (L' := [none, none, none, none, some (vI x4), none, some (vJ y0), none, some (vI 0), some (vJ y0), none]) ⟨rfl, ⟨rfl, ⟨rfl, ⟨rfl, trivial⟩⟩⟩⟩ h
    · replace h := h.2 k4
      refine aw_aload_n dX12_letter__52 rfl rfl ?_
      refine aw_getA' rfl fk_1228 (by decide) lf_X12_98 dX12_letter__53 (LC.ne lc2 rfl rfl) ?_
      refine aw_aload_n dX12_letter__56 rfl rfl ?_
      refine aw_getA' rfl fk_1274 (by decide) lf_X12_238 dX12_letter__57 (LC.ne lc2 rfl rfl) ?_
      refine aw_iload dX12_letter__60 rfl ?_
      refine aw_iaload (by decide) rfl dX12_letter__62 c3 (LC.lt lc2 rfl rfl c3x) ?_
      obtain ⟨⟨c5, c5x⟩, h⟩ := h
      refine aw_iaload (by decide) rfl dX12_letter__63 c5 (LC.lt lc2 rfl rfl c5x) ?_
      refine aw_if_ne (tgt := 115) dX12_letter__64 (by decide) (fun k6 => ?_) (fun k6 => ?_)
      · replace h := h.1 k6
        refine aw_iconst (x := 0) dX12_letter__115 rfl ?_
        refine aw_istore (L' := [some (vR 12 (some x0)), none, none, some (vI x3), some (vI x4), some (vI x5), some (vJ y0), none, some (vI 0), none, none]) dX12_letter__116 (by decide) rfl ?_
        refine aw_lload dX12_letter__118 rfl ?_
        refine aw_lstore (L' := [some (vR 12 (some x0)), none, none, some (vI x3), some (vI x4), some (vI x5), some (vJ y0), none, some (vI 0), some (vJ y0), none]) dX12_letter__120 (by decide) rfl ?_
        exact aw_fgt (L' := [none, none, none, none, some (vI x4), none, some (vJ y0), none, some (vI 0), some (vJ y0), none]) ⟨rfl, ⟨rfl, ⟨rfl, ⟨rfl, trivial⟩⟩⟩⟩ h
      · replace h := h.2 k6
        refine aw_aload_n dX12_letter__67 rfl rfl ?_
        refine aw_getA' rfl fk_1230 (by decide) lf_X12_104 dX12_letter__68 (LC.ne lc2 rfl rfl) ?_
        refine aw_aload_n dX12_letter__71 rfl rfl ?_
        refine aw_getA' rfl fk_1274 (by decide) lf_X12_238 dX12_letter__72 (LC.ne lc2 rfl rfl) ?_
        refine aw_iload dX12_letter__75 rfl ?_
        refine aw_iaload (by decide) rfl dX12_letter__77 c3 (LC.lt lc2 rfl rfl c3x) ?_
        refine aw_iaload (by decide) rfl dX12_letter__78 c5 (LC.lt lc2 rfl rfl c5x) ?_
        refine aw_if_lt (tgt := 115) dX12_letter__79 (by decide) (fun k7 => ?_) (fun k7 => ?_)
        · replace h := h.1 k7
          refine aw_iconst (x := 0) dX12_letter__115 rfl ?_
          refine aw_istore (L' := [some (vR 12 (some x0)), none, none, some (vI x3), some (vI x4), some (vI x5), some (vJ y0), none, some (vI 0), none, none]) dX12_letter__116 (by decide) rfl ?_
          refine aw_lload dX12_letter__118 rfl ?_
          refine aw_lstore (L' := [some (vR 12 (some x0)), none, none, some (vI x3), some (vI x4), some (vI x5), some (vJ y0), none, some (vI 0), some (vJ y0), none]) dX12_letter__120 (by decide) rfl ?_
          exact aw_fgt (L' := [none, none, none, none, some (vI x4), none, some (vJ y0), none, some (vI 0), some (vJ y0), none]) ⟨rfl, ⟨rfl, ⟨rfl, ⟨rfl, trivial⟩⟩⟩⟩ h
        · replace h := h.2 k7
          refine aw_aload_n dX12_letter__82 rfl rfl ?_
          refine aw_iload dX12_letter__83 rfl ?_
          refine aw_aload_n dX12_letter__85 rfl rfl ?_
          refine aw_getA' rfl fk_1274 (by decide) lf_X12_238 dX12_letter__86 (LC.ne lc2 rfl rfl) ?_
          refine aw_iload dX12_letter__89 rfl ?_
          refine aw_iaload (by decide) rfl dX12_letter__91 c3 (LC.lt lc2 rfl rfl c3x) ?_
          refine aw_invVi (M := MX12_letter_) (ci := 12) [vI x5, vI (gI σ 1274 x0 x5.toNat)] rfl mo_X12_paired rfl lm_X12_640 li_X12_paired ls_X12_paired (by decide +kernel) dX12_letter__92 rfl (Nat.le_of_ble_eq_true rfl) (ACi.mono (fun v9 σ8 h => ?_) h)
          refine aw_istore (L' := [some (vR 12 (some x0)), none, none, some (vI x3), some (vI x4), some (vI x5), some (vJ y0), none, some (vI v9), none, none]) dX12_letter__95 (by decide) rfl ?_
          refine aw_iload dX12_letter__97 rfl ?_
          refine aw_if_ge (tgt := 106) dX12_letter__99 (by decide) (fun k10 => ?_) (fun k10 => ?_)
          · replace h := h.1 k10
            refine aw_aload_n dX12_letter__106 rfl rfl ?_
            obtain ⟨lc11, h⟩ := h
            refine aw_getA' rfl fk_1226 (by decide) lf_X12_92 dX12_letter__107 (LC.ne lc11 rfl rfl) ?_
            refine aw_iload dX12_letter__110 rfl ?_
            obtain ⟨⟨c12, c12x⟩, h⟩ := h
            refine aw_laload (by decide) rfl dX12_letter__112 c12 (LC.lt lc11 rfl rfl c12x) ?_
            refine aw_lstore (L' := [some (vR 12 (some x0)), none, none, some (vI x3), some (vI x4), some (vI x5), some (vJ (gJ σ8 1226 x0 v9.toNat)), none, some (vI v9), none, none]) dX12_letter__113 (by decide) rfl ?_
            refine aw_iconst (x := 0) dX12_letter__115 rfl ?_
            refine aw_istore (L' := [some (vR 12 (some x0)), none, none, some (vI x3), some (vI x4), some (vI x5), some (vJ (gJ σ8 1226 x0 v9.toNat)), none, some (vI 0), none, none]) dX12_letter__116 (by decide) rfl ?_
            refine aw_lload dX12_letter__118 rfl ?_
            refine aw_lstore (L' := [some (vR 12 (some x0)), none, none, some (vI x3), some (vI x4), some (vI x5), some (vJ (gJ σ8 1226 x0 v9.toNat)), none, some (vI 0), some (vJ (gJ σ8 1226 x0 v9.toNat)), none]) dX12_letter__120 (by decide) rfl ?_
            exact aw_fgt (L' := [none, none, none, none, some (vI x4), none, some (vJ (gJ σ8 1226 x0 v9.toNat)), none, some (vI 0), some (vJ (gJ σ8 1226 x0 v9.toNat)), none]) ⟨rfl, ⟨rfl, ⟨rfl, ⟨rfl, trivial⟩⟩⟩⟩ h
          · replace h := h.2 k10
            refine aw_lconst (x := 0) dX12_letter__102 rfl ?_
            refine aw_goto (tgt := 113) dX12_letter__103 (by decide) ?_
            refine aw_lstore (L' := [some (vR 12 (some x0)), none, none, some (vI x3), some (vI x4), some (vI x5), some (vJ 0), none, some (vI v9), none, none]) dX12_letter__113 (by decide) rfl ?_
            refine aw_iconst (x := 0) dX12_letter__115 rfl ?_
            refine aw_istore (L' := [some (vR 12 (some x0)), none, none, some (vI x3), some (vI x4), some (vI x5), some (vJ 0), none, some (vI 0), none, none]) dX12_letter__116 (by decide) rfl ?_
            refine aw_lload dX12_letter__118 rfl ?_
            refine aw_lstore (L' := [some (vR 12 (some x0)), none, none, some (vI x3), some (vI x4), some (vI x5), some (vJ 0), none, some (vI 0), some (vJ 0), none]) dX12_letter__120 (by decide) rfl ?_
            exact aw_fgt (L' := [none, none, none, none, some (vI x4), none, some (vJ 0), none, some (vI 0), some (vJ 0), none]) ⟨rfl, ⟨rfl, ⟨rfl, ⟨rfl, trivial⟩⟩⟩⟩ h
set_option maxRecDepth 4000 in
theorem bk_X12_letter__122 {g : GP} {l : Launch} {d : Nat} {σ : St} {Q : Option AV → St → Prop} {x4 : Int} {x6 : Int64} {x8 : Int} {x9 : Int64}
    (h : ((x9 = (0 : Int64) → ((x4 < 0 → Q (some (vI (-1))) σ) ∧ (¬ x4 < 0 → ((x4 < x8 → R32 (x8 - 1) ∧ R32 ((x8 - 1) - x4) ∧ R32 (8 * ((x8 - 1) - x4)) ∧ Q (some (vI (j2i ((j_ushr x6 (8 * ((x8 - 1) - x4))) &&& (255 : Int64))))) σ) ∧ (¬ x4 < x8 → Q (some (vI (-1))) σ))))) ∧ (¬ x9 = (0 : Int64) → R32 (x8 + 1) ∧ AW g l (d + 1) MX12_letter_ 122 [none, none, none, none, some (vI x4), none, some (vJ x6), none, some (vI (x8 + 1)), some (vJ (j_ushr x9 8)), none] [] σ Q))) :
    AW g l (d + 1) MX12_letter_ 122 [none, none, none, none, some (vI x4), none, some (vJ x6), none, some (vI x8), some (vJ x9), none] [] σ Q := by
  refine aw_lload dX12_letter__122 rfl ?_
  refine aw_lconst (x := 0) dX12_letter__124 rfl ?_
  refine aw_lcmp_eq (M := MX12_letter_) (tgt := 142) dX12_letter__125 dX12_letter__126 (by decide) (fun k1 => ?_) (fun k1 => ?_)
  · replace h := h.1 k1
    refine aw_iload dX12_letter__142 rfl ?_
    refine aw_if_lt (tgt := 154) dX12_letter__144 (by decide) (fun k2 => ?_) (fun k2 => ?_)
    · replace h := h.1 k2
      refine aw_iconst (x := (-1)) dX12_letter__154 rfl ?_
      refine aw_goto (tgt := 176) dX12_letter__155 (by decide) ?_
      exact aw_ireturn dX12_letter__176 rfl h
    · replace h := h.2 k2
      refine aw_iload dX12_letter__147 rfl ?_
      refine aw_iload dX12_letter__149 rfl ?_
      refine aw_icmp_lt (tgt := 158) dX12_letter__151 (by decide) (fun k3 => ?_) (fun k3 => ?_)
      · replace h := h.1 k3
        refine aw_lload dX12_letter__158 rfl ?_
        refine aw_bipush (x := 8) dX12_letter__160 rfl ?_
        refine aw_iload dX12_letter__162 rfl ?_
        refine aw_iconst (x := 1) dX12_letter__164 rfl ?_
        obtain ⟨⟨c4, c4x⟩, h⟩ := h
        refine aw_isubc dX12_letter__165 c4 c4x ?_
        refine aw_iload dX12_letter__166 rfl ?_
        obtain ⟨⟨c5, c5x⟩, h⟩ := h
        refine aw_isubc dX12_letter__168 c5 c5x ?_
        obtain ⟨⟨c6, c6x⟩, h⟩ := h
        refine aw_imulc dX12_letter__169 c6 c6x ?_
        refine aw_lushr dX12_letter__170 ?_
        refine aw_ldc2 lk_X12_297 dX12_letter__171 ?_
        refine aw_land dX12_letter__174 ?_
        refine aw_l2i dX12_letter__175 ?_
        exact aw_ireturn dX12_letter__176 rfl h
      · replace h := h.2 k3
        refine aw_iconst (x := (-1)) dX12_letter__154 rfl ?_
        refine aw_goto (tgt := 176) dX12_letter__155 (by decide) ?_
        exact aw_ireturn dX12_letter__176 rfl h
  · replace h := h.2 k1
    obtain ⟨⟨c7, c7x⟩, h⟩ := h
    refine aw_iincc (L' := [none, none, none, none, some (vI x4), none, some (vJ x6), none, some (vI (x8 + 1)), some (vJ x9), none]) dX12_letter__129 rfl (by decide) rfl c7 c7x rfl ?_
    refine aw_lload dX12_letter__132 rfl ?_
    refine aw_bipush (x := 8) dX12_letter__134 rfl ?_
    refine aw_lushr dX12_letter__136 ?_
    refine aw_lstore (L' := [none, none, none, none, some (vI x4), none, some (vJ x6), none, some (vI (x8 + 1)), some (vJ (j_ushr x9 8)), none]) dX12_letter__137 (by decide) rfl ?_
    refine aw_goto (tgt := 122) dX12_letter__139 (by decide) ?_
    exact aw_fgt (L' := [none, none, none, none, some (vI x4), none, some (vJ x6), none, some (vI (x8 + 1)), some (vJ (j_ushr x9 8)), none]) ⟨rfl, ⟨rfl, ⟨rfl, ⟨rfl, trivial⟩⟩⟩⟩ h
set_option maxRecDepth 4000 in
theorem bk_X12_lookedUp_0 {g : GP} {l : Launch} {d : Nat} {σ : St} {Q : Option AV → St → Prop} {x0 : Nat}
    (h : AW g l (d + 1) MX12_lookedUp 2 [some (vR 12 (some x0)), some (vI 0), none, none] [] σ Q) :
    AW g l (d + 1) MX12_lookedUp 0 [some (vR 12 (some x0)), none, none, none] [] σ Q := by
  refine aw_iconst (x := 0) dX12_lookedUp_0 rfl ?_
  refine aw_istore_n (L' := [some (vR 12 (some x0)), some (vI 0), none, none]) dX12_lookedUp_1 rfl (by decide) rfl ?_
  exact aw_fgt (L' := [some (vR 12 (some x0)), some (vI 0), none, none]) ⟨rfl, ⟨rfl, trivial⟩⟩ h
set_option maxRecDepth 4000 in
theorem bk_X12_lookedUp_2 {g : GP} {l : Launch} {d : Nat} {σ : St} {Q : Option AV → St → Prop} {x0 : Nat} {x1 : Int}
    (h : (((gI σ 1257 x0 0) ≤ x1 → Q (some (vI (-1))) σ) ∧ (¬ (gI σ 1257 x0 0) ≤ x1 → ACi g l d MX12_field [vR 12 (some x0), vI (gI σ 1254 x0 0), vI x1] σ (fun v3 σ2 => LC 12 σ2 x0 ∧ Bd v3 560 ∧ (((gI σ2 1228 x0 v3.toNat) = 0 → AW g l (d + 1) MX12_lookedUp 51 [some (vR 12 (some x0)), some (vI x1), some (vI v3), none] [] σ2 Q) ∧ (¬ (gI σ2 1228 x0 v3.toNat) = 0 → (((gI σ2 1228 x0 v3.toNat) = 11 → AW g l (d + 1) MX12_lookedUp 51 [some (vR 12 (some x0)), some (vI x1), some (vI v3), none] [] σ2 Q) ∧ (¬ (gI σ2 1228 x0 v3.toNat) = 11 → ((¬ (gI σ2 1228 x0 v3.toNat) = 8 → AW g l (d + 1) MX12_lookedUp 72 [some (vR 12 (some x0)), some (vI x1), some (vI v3), some (vI 0)] [] σ2 Q) ∧ ((gI σ2 1228 x0 v3.toNat) = 8 → AW g l (d + 1) MX12_lookedUp 51 [some (vR 12 (some x0)), some (vI x1), some (vI v3), none] [] σ2 Q)))))))))) :
    AW g l (d + 1) MX12_lookedUp 2 [some (vR 12 (some x0)), some (vI x1), none, none] [] σ Q := by
  refine aw_iload_n dX12_lookedUp_2 rfl rfl ?_
  refine aw_aload_n dX12_lookedUp_3 rfl rfl ?_
  refine aw_getI' rfl fk_1257 lf_X12_186 dX12_lookedUp_4 ?_
  refine aw_icmp_ge (tgt := 132) dX12_lookedUp_7 (by decide) (fun k1 => ?_) (fun k1 => ?_)
  · replace h := h.1 k1
    refine aw_iconst (x := (-1)) dX12_lookedUp_132 rfl ?_
    exact aw_ireturn dX12_lookedUp_133 rfl h
  · replace h := h.2 k1
    refine aw_aload_n dX12_lookedUp_10 rfl rfl ?_
    refine aw_aload_n dX12_lookedUp_11 rfl rfl ?_
    refine aw_getI' rfl fk_1254 lf_X12_176 dX12_lookedUp_12 ?_
    refine aw_iload_n dX12_lookedUp_15 rfl rfl ?_
    refine aw_invVi (M := MX12_lookedUp) (ci := 12) [vI (gI σ 1254 x0 0), vI x1] rfl mo_X12_field rfl lm_X12_447 li_X12_field ls_X12_field (by decide +kernel) dX12_lookedUp_16 rfl (Nat.le_of_ble_eq_true rfl) (ACi.mono (fun v3 σ2 h => ?_) h)
    refine aw_istore_n (L' := [some (vR 12 (some x0)), some (vI x1), some (vI v3), none]) dX12_lookedUp_19 rfl (by decide) rfl ?_
    refine aw_aload_n dX12_lookedUp_20 rfl rfl ?_
    obtain ⟨lc4, h⟩ := h
    refine aw_getA' rfl fk_1228 (by decide) lf_X12_98 dX12_lookedUp_21 (LC.ne lc4 rfl rfl) ?_
    refine aw_iload_n dX12_lookedUp_24 rfl rfl ?_
    obtain ⟨⟨c5, c5x⟩, h⟩ := h
    refine aw_iaload (by decide) rfl dX12_lookedUp_25 c5 (LC.lt lc4 rfl rfl c5x) ?_
    refine aw_if_eq (tgt := 51) dX12_lookedUp_26 (by decide) (fun k6 => ?_) (fun k6 => ?_)
    · replace h := h.1 k6
      exact aw_fgt (L' := [some (vR 12 (some x0)), some (vI x1), some (vI v3), none]) ⟨rfl, ⟨rfl, ⟨rfl, trivial⟩⟩⟩ h
    · replace h := h.2 k6
      refine aw_aload_n dX12_lookedUp_29 rfl rfl ?_
      refine aw_getA' rfl fk_1228 (by decide) lf_X12_98 dX12_lookedUp_30 (LC.ne lc4 rfl rfl) ?_
      refine aw_iload_n dX12_lookedUp_33 rfl rfl ?_
      refine aw_iaload (by decide) rfl dX12_lookedUp_34 c5 (LC.lt lc4 rfl rfl c5x) ?_
      refine aw_bipush (x := 11) dX12_lookedUp_35 rfl ?_
      refine aw_icmp_eq (tgt := 51) dX12_lookedUp_37 (by decide) (fun k7 => ?_) (fun k7 => ?_)
      · replace h := h.1 k7
        exact aw_fgt (L' := [some (vR 12 (some x0)), some (vI x1), some (vI v3), none]) ⟨rfl, ⟨rfl, ⟨rfl, trivial⟩⟩⟩ h
      · replace h := h.2 k7
        refine aw_aload_n dX12_lookedUp_40 rfl rfl ?_
        refine aw_getA' rfl fk_1228 (by decide) lf_X12_98 dX12_lookedUp_41 (LC.ne lc4 rfl rfl) ?_
        refine aw_iload_n dX12_lookedUp_44 rfl rfl ?_
        refine aw_iaload (by decide) rfl dX12_lookedUp_45 c5 (LC.lt lc4 rfl rfl c5x) ?_
        refine aw_bipush (x := 8) dX12_lookedUp_46 rfl ?_
        refine aw_icmp_ne (tgt := 70) dX12_lookedUp_48 (by decide) (fun k8 => ?_) (fun k8 => ?_)
        · replace h := h.1 k8
          refine aw_iconst (x := 0) dX12_lookedUp_70 rfl ?_
          refine aw_istore_n (L' := [some (vR 12 (some x0)), some (vI x1), some (vI v3), some (vI 0)]) dX12_lookedUp_71 rfl (by decide) rfl ?_
          exact aw_fgt (L' := [some (vR 12 (some x0)), some (vI x1), some (vI v3), some (vI 0)]) ⟨rfl, ⟨rfl, ⟨rfl, ⟨rfl, trivial⟩⟩⟩⟩ h
        · replace h := h.2 k8
          exact aw_fgt (L' := [some (vR 12 (some x0)), some (vI x1), some (vI v3), none]) ⟨rfl, ⟨rfl, ⟨rfl, trivial⟩⟩⟩ h
set_option maxRecDepth 4000 in
theorem bk_X12_lookedUp_51 {g : GP} {l : Launch} {d : Nat} {σ : St} {Q : Option AV → St → Prop} {x0 : Nat} {x1 : Int} {x2 : Int}
    (h : LC 12 σ x0 ∧ Bd x2 560 ∧ ((¬ (gJ σ 1238 x0 x2.toNat) = (gJ σ 1216 x0 0) → AW g l (d + 1) MX12_lookedUp 72 [some (vR 12 (some x0)), some (vI x1), some (vI x2), some (vI 0)] [] σ Q) ∧ ((gJ σ 1238 x0 x2.toNat) = (gJ σ 1216 x0 0) → R32 (16 * x1) ∧ Q (some (vI (16 * x1))) σ))) :
    AW g l (d + 1) MX12_lookedUp 51 [some (vR 12 (some x0)), some (vI x1), some (vI x2), none] [] σ Q := by
  refine aw_aload_n dX12_lookedUp_51 rfl rfl ?_
  obtain ⟨lc1, h⟩ := h
  refine aw_getA' rfl fk_1238 (by decide) lf_X12_128 dX12_lookedUp_52 (LC.ne lc1 rfl rfl) ?_
  refine aw_iload_n dX12_lookedUp_55 rfl rfl ?_
  obtain ⟨⟨c2, c2x⟩, h⟩ := h
  refine aw_laload (by decide) rfl dX12_lookedUp_56 c2 (LC.lt lc1 rfl rfl c2x) ?_
  refine aw_aload_n dX12_lookedUp_57 rfl rfl ?_
  refine aw_getJ' rfl fk_1216 lf_X12_60 dX12_lookedUp_58 ?_
  refine aw_lcmp_ne (M := MX12_lookedUp) (tgt := 70) dX12_lookedUp_61 dX12_lookedUp_62 (by decide) (fun k3 => ?_) (fun k3 => ?_)
  · replace h := h.1 k3
    refine aw_iconst (x := 0) dX12_lookedUp_70 rfl ?_
    refine aw_istore_n (L' := [some (vR 12 (some x0)), some (vI x1), some (vI x2), some (vI 0)]) dX12_lookedUp_71 rfl (by decide) rfl ?_
    exact aw_fgt (L' := [some (vR 12 (some x0)), some (vI x1), some (vI x2), some (vI 0)]) ⟨rfl, ⟨rfl, ⟨rfl, ⟨rfl, trivial⟩⟩⟩⟩ h
  · replace h := h.2 k3
    refine aw_bipush (x := 16) dX12_lookedUp_65 rfl ?_
    refine aw_iload_n dX12_lookedUp_67 rfl rfl ?_
    obtain ⟨⟨c4, c4x⟩, h⟩ := h
    refine aw_imulc dX12_lookedUp_68 c4 c4x ?_
    exact aw_ireturn dX12_lookedUp_69 rfl h
set_option maxRecDepth 4000 in
theorem bk_X12_lookedUp_72 {g : GP} {l : Launch} {d : Nat} {σ : St} {Q : Option AV → St → Prop} {x0 : Nat} {x1 : Int} {x2 : Int} {x3 : Int}
    (h : LC 12 σ x0 ∧ Bd x2 560 ∧ ((¬ (gI σ 1228 x0 x2.toNat) = 4 → R32 (x1 + 1) ∧ AW g l (d + 1) MX12_lookedUp 2 [some (vR 12 (some x0)), some (vI (x1 + 1)), none, none] [] σ Q) ∧ ((gI σ 1228 x0 x2.toNat) = 4 → (((gI σ 1237 x0 x2.toNat) ≤ x3 → R32 (x1 + 1) ∧ AW g l (d + 1) MX12_lookedUp 2 [some (vR 12 (some x0)), some (vI (x1 + 1)), none, none] [] σ Q) ∧ (¬ (gI σ 1237 x0 x2.toNat) ≤ x3 → R32 (16 * x2) ∧ R32 ((16 * x2) + x3) ∧ Bd ((16 * x2) + x3) 8960 ∧ ((¬ (gJ σ 1239 x0 ((16 * x2) + x3).toNat) = (gJ σ 1216 x0 0) → R32 (x3 + 1) ∧ AW g l (d + 1) MX12_lookedUp 72 [some (vR 12 (some x0)), some (vI x1), some (vI x2), some (vI (x3 + 1))] [] σ Q) ∧ ((gJ σ 1239 x0 ((16 * x2) + x3).toNat) = (gJ σ 1216 x0 0) → R32 (16 * x1) ∧ R32 ((16 * x1) + 1) ∧ R32 (((16 * x1) + 1) + x3) ∧ Q (some (vI (((16 * x1) + 1) + x3))) σ))))))) :
    AW g l (d + 1) MX12_lookedUp 72 [some (vR 12 (some x0)), some (vI x1), some (vI x2), some (vI x3)] [] σ Q := by
  refine aw_aload_n dX12_lookedUp_72 rfl rfl ?_
  obtain ⟨lc1, h⟩ := h
  refine aw_getA' rfl fk_1228 (by decide) lf_X12_98 dX12_lookedUp_73 (LC.ne lc1 rfl rfl) ?_
  refine aw_iload_n dX12_lookedUp_76 rfl rfl ?_
  obtain ⟨⟨c2, c2x⟩, h⟩ := h
  refine aw_iaload (by decide) rfl dX12_lookedUp_77 c2 (LC.lt lc1 rfl rfl c2x) ?_
  refine aw_iconst (x := 4) dX12_lookedUp_78 rfl ?_
  refine aw_icmp_ne (tgt := 126) dX12_lookedUp_79 (by decide) (fun k3 => ?_) (fun k3 => ?_)
  · replace h := h.1 k3
    obtain ⟨⟨c4, c4x⟩, h⟩ := h
    refine aw_iincc (L' := [some (vR 12 (some x0)), some (vI (x1 + 1)), some (vI x2), some (vI x3)]) dX12_lookedUp_126 rfl (by decide) rfl c4 c4x rfl ?_
    refine aw_goto (tgt := 2) dX12_lookedUp_129 (by decide) ?_
    exact aw_fgt (L' := [some (vR 12 (some x0)), some (vI (x1 + 1)), none, none]) ⟨rfl, ⟨rfl, trivial⟩⟩ h
  · replace h := h.2 k3
    refine aw_iload_n dX12_lookedUp_82 rfl rfl ?_
    refine aw_aload_n dX12_lookedUp_83 rfl rfl ?_
    refine aw_getA' rfl fk_1237 (by decide) lf_X12_125 dX12_lookedUp_84 (LC.ne lc1 rfl rfl) ?_
    refine aw_iload_n dX12_lookedUp_87 rfl rfl ?_
    refine aw_iaload (by decide) rfl dX12_lookedUp_88 c2 (LC.lt lc1 rfl rfl c2x) ?_
    refine aw_icmp_ge (tgt := 126) dX12_lookedUp_89 (by decide) (fun k5 => ?_) (fun k5 => ?_)
    · replace h := h.1 k5
      obtain ⟨⟨c6, c6x⟩, h⟩ := h
      refine aw_iincc (L' := [some (vR 12 (some x0)), some (vI (x1 + 1)), some (vI x2), some (vI x3)]) dX12_lookedUp_126 rfl (by decide) rfl c6 c6x rfl ?_
      refine aw_goto (tgt := 2) dX12_lookedUp_129 (by decide) ?_
      exact aw_fgt (L' := [some (vR 12 (some x0)), some (vI (x1 + 1)), none, none]) ⟨rfl, ⟨rfl, trivial⟩⟩ h
    · replace h := h.2 k5
      refine aw_aload_n dX12_lookedUp_92 rfl rfl ?_
      refine aw_getA' rfl fk_1239 (by decide) lf_X12_131 dX12_lookedUp_93 (LC.ne lc1 rfl rfl) ?_
      refine aw_bipush (x := 16) dX12_lookedUp_96 rfl ?_
      refine aw_iload_n dX12_lookedUp_98 rfl rfl ?_
      obtain ⟨⟨c7, c7x⟩, h⟩ := h
      refine aw_imulc dX12_lookedUp_99 c7 c7x ?_
      refine aw_iload_n dX12_lookedUp_100 rfl rfl ?_
      obtain ⟨⟨c8, c8x⟩, h⟩ := h
      refine aw_iaddc dX12_lookedUp_101 c8 c8x ?_
      obtain ⟨⟨c9, c9x⟩, h⟩ := h
      refine aw_laload (by decide) rfl dX12_lookedUp_102 c9 (LC.lt lc1 rfl rfl c9x) ?_
      refine aw_aload_n dX12_lookedUp_103 rfl rfl ?_
      refine aw_getJ' rfl fk_1216 lf_X12_60 dX12_lookedUp_104 ?_
      refine aw_lcmp_ne (M := MX12_lookedUp) (tgt := 120) dX12_lookedUp_107 dX12_lookedUp_108 (by decide) (fun k10 => ?_) (fun k10 => ?_)
      · replace h := h.1 k10
        obtain ⟨⟨c11, c11x⟩, h⟩ := h
        refine aw_iincc (L' := [some (vR 12 (some x0)), some (vI x1), some (vI x2), some (vI (x3 + 1))]) dX12_lookedUp_120 rfl (by decide) rfl c11 c11x rfl ?_
        refine aw_goto (tgt := 72) dX12_lookedUp_123 (by decide) ?_
        exact aw_fgt (L' := [some (vR 12 (some x0)), some (vI x1), some (vI x2), some (vI (x3 + 1))]) ⟨rfl, ⟨rfl, ⟨rfl, ⟨rfl, trivial⟩⟩⟩⟩ h
      · replace h := h.2 k10
        refine aw_bipush (x := 16) dX12_lookedUp_111 rfl ?_
        refine aw_iload_n dX12_lookedUp_113 rfl rfl ?_
        obtain ⟨⟨c12, c12x⟩, h⟩ := h
        refine aw_imulc dX12_lookedUp_114 c12 c12x ?_
        refine aw_iconst (x := 1) dX12_lookedUp_115 rfl ?_
        obtain ⟨⟨c13, c13x⟩, h⟩ := h
        refine aw_iaddc dX12_lookedUp_116 c13 c13x ?_
        refine aw_iload_n dX12_lookedUp_117 rfl rfl ?_
        obtain ⟨⟨c14, c14x⟩, h⟩ := h
        refine aw_iaddc dX12_lookedUp_118 c14 c14x ?_
        exact aw_ireturn dX12_lookedUp_119 rfl h
set_option maxRecDepth 4000 in
theorem bk_X12_magic_0 {g : GP} {l : Launch} {d : Nat} {σ : St} {Q : Option AV → St → Prop} {x0 : Nat} {x1 : Int} {x2 : Int} {x3 : Int}
    (h : ACi g l d MX12_isImage [vR 12 (some x0), vI x1] σ (fun v2 σ1 => ((v2 = 0 → Q (some (vI (-1))) σ1) ∧ (¬ v2 = 0 → ACi g l d MX12_isStruct [vR 12 (some x0), vI x2] σ1 (fun v5 σ4 => ((v5 = 0 → Q (some (vI (-1))) σ4) ∧ (¬ v5 = 0 → ((0 ≤ x3 → ACi g l d MX12_field [vR 12 (some x0), vI x2, vI 0] (sI (sI σ4 1253 x0 0 (gI σ4 1218 x0 0)) 1281 x0 0 x1) (fun v9 σ8 => LC 12 σ8 x0 ∧ R32 (20 * (gI σ8 1218 x0 0)) ∧ R32 ((20 * (gI σ8 1218 x0 0)) + x2) ∧ Bd ((20 * (gI σ8 1218 x0 0)) + x2) 40 ∧ (((gI σ8 1222 x0 ((20 * (gI σ8 1218 x0 0)) + x2).toNat) = 0 → Q (some (vI (-1))) σ8) ∧ (¬ (gI σ8 1222 x0 ((20 * (gI σ8 1218 x0 0)) + x2).toNat) = 0 → Bd v9 560 ∧ ((¬ (gI σ8 1228 x0 v9.toNat) = 10 → Q (some (vI (-1))) σ8) ∧ ((gI σ8 1228 x0 v9.toNat) = 10 → (((gI σ8 1232 x0 v9.toNat) < 0 → AW g l (d + 1) MX12_magic 90 [some (vR 12 (some x0)), none, none, none, some (vI v9), some (vI x3), some (vI 0)] [] σ8 Q) ∧ (¬ (gI σ8 1232 x0 v9.toNat) < 0 → Q (some (vI (-1))) σ8)))))))) ∧ (¬ 0 ≤ x3 → Q (some (vI (-1))) σ4))))))))) :
    AW g l (d + 1) MX12_magic 0 [some (vR 12 (some x0)), some (vI x1), some (vI x2), some (vI x3), none, none, none] [] σ Q := by
  refine aw_aload_n dX12_magic_0 rfl rfl ?_
  refine aw_iload_n dX12_magic_1 rfl rfl ?_
  refine aw_invVi (M := MX12_magic) (ci := 12) [vI x1] rfl mo_X12_isImage rfl lm_X12_293 li_X12_isImage ls_X12_isImage (by decide +kernel) dX12_magic_2 rfl (Nat.le_of_ble_eq_true rfl) (ACi.mono (fun v2 σ1 h => ?_) h)
  refine aw_if_eq (tgt := 20) dX12_magic_5 (by decide) (fun k3 => ?_) (fun k3 => ?_)
  · replace h := h.1 k3
    refine aw_iconst (x := (-1)) dX12_magic_20 rfl ?_
    exact aw_ireturn dX12_magic_21 rfl h
  · replace h := h.2 k3
    refine aw_aload_n dX12_magic_8 rfl rfl ?_
    refine aw_iload_n dX12_magic_9 rfl rfl ?_
    refine aw_invVi (M := MX12_magic) (ci := 12) [vI x2] rfl mo_X12_isStruct rfl lm_X12_570 li_X12_isStruct ls_X12_isStruct (by decide +kernel) dX12_magic_10 rfl (Nat.le_of_ble_eq_true rfl) (ACi.mono (fun v5 σ4 h => ?_) h)
    refine aw_if_eq (tgt := 20) dX12_magic_13 (by decide) (fun k6 => ?_) (fun k6 => ?_)
    · replace h := h.1 k6
      refine aw_iconst (x := (-1)) dX12_magic_20 rfl ?_
      exact aw_ireturn dX12_magic_21 rfl h
    · replace h := h.2 k6
      refine aw_iload_n dX12_magic_16 rfl rfl ?_
      refine aw_if_ge (tgt := 22) dX12_magic_17 (by decide) (fun k7 => ?_) (fun k7 => ?_)
      · replace h := h.1 k7
        refine aw_aload_n dX12_magic_22 rfl rfl ?_
        refine aw_aload_n dX12_magic_23 rfl rfl ?_
        refine aw_getI' rfl fk_1218 lf_X12_67 dX12_magic_24 ?_
        refine aw_putI' rfl fk_1253 (Or.inl rfl) lf_X12_173 dX12_magic_27 ?_
        refine aw_aload_n dX12_magic_30 rfl rfl ?_
        refine aw_iload_n dX12_magic_31 rfl rfl ?_
        refine aw_putI' rfl fk_1281 (Or.inl rfl) lf_X12_259 dX12_magic_32 ?_
        refine aw_aload_n dX12_magic_35 rfl rfl ?_
        refine aw_iload_n dX12_magic_36 rfl rfl ?_
        refine aw_iconst (x := 0) dX12_magic_37 rfl ?_
        refine aw_invVi (M := MX12_magic) (ci := 12) [vI x2, vI 0] rfl mo_X12_field rfl lm_X12_447 li_X12_field ls_X12_field (by decide +kernel) dX12_magic_38 rfl (Nat.le_of_ble_eq_true rfl) (ACi.mono (fun v9 σ8 h => ?_) h)
        refine aw_istore (L' := [some (vR 12 (some x0)), some (vI x1), some (vI x2), some (vI x3), some (vI v9), none, none]) dX12_magic_41 (by decide) rfl ?_
        refine aw_aload_n dX12_magic_43 rfl rfl ?_
        obtain ⟨lc10, h⟩ := h
        refine aw_getA' rfl fk_1222 (by decide) lf_X12_80 dX12_magic_44 (LC.ne lc10 rfl rfl) ?_
        refine aw_bipush (x := 20) dX12_magic_47 rfl ?_
        refine aw_aload_n dX12_magic_49 rfl rfl ?_
        refine aw_getI' rfl fk_1218 lf_X12_67 dX12_magic_50 ?_
        obtain ⟨⟨c11, c11x⟩, h⟩ := h
        refine aw_imulc dX12_magic_53 c11 c11x ?_
        refine aw_iload_n dX12_magic_54 rfl rfl ?_
        obtain ⟨⟨c12, c12x⟩, h⟩ := h
        refine aw_iaddc dX12_magic_55 c12 c12x ?_
        obtain ⟨⟨c13, c13x⟩, h⟩ := h
        refine aw_iaload (by decide) rfl dX12_magic_56 c13 (LC.lt lc10 rfl rfl c13x) ?_
        refine aw_if_eq (tgt := 82) dX12_magic_57 (by decide) (fun k14 => ?_) (fun k14 => ?_)
        · replace h := h.1 k14
          refine aw_iconst (x := (-1)) dX12_magic_82 rfl ?_
          exact aw_ireturn dX12_magic_83 rfl h
        · replace h := h.2 k14
          refine aw_aload_n dX12_magic_60 rfl rfl ?_
          refine aw_getA' rfl fk_1228 (by decide) lf_X12_98 dX12_magic_61 (LC.ne lc10 rfl rfl) ?_
          refine aw_iload dX12_magic_64 rfl ?_
          obtain ⟨⟨c15, c15x⟩, h⟩ := h
          refine aw_iaload (by decide) rfl dX12_magic_66 c15 (LC.lt lc10 rfl rfl c15x) ?_
          refine aw_bipush (x := 10) dX12_magic_67 rfl ?_
          refine aw_icmp_ne (tgt := 82) dX12_magic_69 (by decide) (fun k16 => ?_) (fun k16 => ?_)
          · replace h := h.1 k16
            refine aw_iconst (x := (-1)) dX12_magic_82 rfl ?_
            exact aw_ireturn dX12_magic_83 rfl h
          · replace h := h.2 k16
            refine aw_aload_n dX12_magic_72 rfl rfl ?_
            refine aw_getA' rfl fk_1232 (by decide) lf_X12_110 dX12_magic_73 (LC.ne lc10 rfl rfl) ?_
            refine aw_iload dX12_magic_76 rfl ?_
            refine aw_iaload (by decide) rfl dX12_magic_78 c15 (LC.lt lc10 rfl rfl c15x) ?_
            refine aw_if_lt (tgt := 84) dX12_magic_79 (by decide) (fun k17 => ?_) (fun k17 => ?_)
            · replace h := h.1 k17
              refine aw_iload_n dX12_magic_84 rfl rfl ?_
              refine aw_istore (L' := [some (vR 12 (some x0)), some (vI x1), some (vI x2), some (vI x3), some (vI v9), some (vI x3), none]) dX12_magic_85 (by decide) rfl ?_
              refine aw_iconst (x := 0) dX12_magic_87 rfl ?_
              refine aw_istore (L' := [some (vR 12 (some x0)), some (vI x1), some (vI x2), some (vI x3), some (vI v9), some (vI x3), some (vI 0)]) dX12_magic_88 (by decide) rfl ?_
              exact aw_fgt (L' := [some (vR 12 (some x0)), none, none, none, some (vI v9), some (vI x3), some (vI 0)]) ⟨rfl, ⟨rfl, ⟨rfl, ⟨rfl, trivial⟩⟩⟩⟩ h
            · replace h := h.2 k17
              refine aw_iconst (x := (-1)) dX12_magic_82 rfl ?_
              exact aw_ireturn dX12_magic_83 rfl h
      · replace h := h.2 k7
        refine aw_iconst (x := (-1)) dX12_magic_20 rfl ?_
        exact aw_ireturn dX12_magic_21 rfl h
set_option maxRecDepth 4000 in
theorem bk_X12_magic_90 {g : GP} {l : Launch} {d : Nat} {σ : St} {Q : Option AV → St → Prop} {x0 : Nat} {x4 : Int} {x5 : Int} {x6 : Int}
    (h : LC 12 σ x0 ∧ Bd x4 560 ∧ R32 (x6 + (gI σ 1237 x0 x4.toNat)) ∧ Bd (gI σ 1281 x0 0) 6 ∧ (((gI σ 1201 x0 (gI σ 1281 x0 0).toNat) < (x6 + (gI σ 1237 x0 x4.toNat)) → Q (some (vI (-1))) σ) ∧ (¬ (gI σ 1201 x0 (gI σ 1281 x0 0).toNat) < (x6 + (gI σ 1237 x0 x4.toNat)) → ACi g l d MX12_magicAt [vR 12 (some x0), vI x4, vI x6] σ (fun v7 σ6 => ((¬ v7 = 0 → ((¬ x5 = 0 → R32 (x5 + (-1)) ∧ R32 (x6 + 1) ∧ AW g l (d + 1) MX12_magic 90 [some (vR 12 (some x0)), none, none, none, some (vI x4), some (vI (x5 + (-1))), some (vI (x6 + 1))] [] σ6 Q) ∧ (x5 = 0 → Q (some (vI x6)) σ6))) ∧ (v7 = 0 → R32 (x6 + 1) ∧ AW g l (d + 1) MX12_magic 90 [some (vR 12 (some x0)), none, none, none, some (vI x4), some (vI x5), some (vI (x6 + 1))] [] σ6 Q)))))) :
    AW g l (d + 1) MX12_magic 90 [some (vR 12 (some x0)), none, none, none, some (vI x4), some (vI x5), some (vI x6)] [] σ Q := by
  refine aw_iload dX12_magic_90 rfl ?_
  refine aw_aload_n dX12_magic_92 rfl rfl ?_
  obtain ⟨lc1, h⟩ := h
  refine aw_getA' rfl fk_1237 (by decide) lf_X12_125 dX12_magic_93 (LC.ne lc1 rfl rfl) ?_
  refine aw_iload dX12_magic_96 rfl ?_
  obtain ⟨⟨c2, c2x⟩, h⟩ := h
  refine aw_iaload (by decide) rfl dX12_magic_98 c2 (LC.lt lc1 rfl rfl c2x) ?_
  obtain ⟨⟨c3, c3x⟩, h⟩ := h
  refine aw_iaddc dX12_magic_99 c3 c3x ?_
  refine aw_aload_n dX12_magic_100 rfl rfl ?_
  refine aw_getA' rfl fk_1201 (by decide) lf_X12_13 dX12_magic_101 (LC.ne lc1 rfl rfl) ?_
  refine aw_aload_n dX12_magic_104 rfl rfl ?_
  refine aw_getI' rfl fk_1281 lf_X12_259 dX12_magic_105 ?_
  obtain ⟨⟨c4, c4x⟩, h⟩ := h
  refine aw_iaload (by decide) rfl dX12_magic_108 c4 (LC.lt lc1 rfl rfl c4x) ?_
  refine aw_icmp_gt (tgt := 143) dX12_magic_109 (by decide) (fun k5 => ?_) (fun k5 => ?_)
  · replace h := h.1 k5
    refine aw_iconst (x := (-1)) dX12_magic_143 rfl ?_
    exact aw_ireturn dX12_magic_144 rfl h
  · replace h := h.2 k5
    refine aw_aload_n dX12_magic_112 rfl rfl ?_
    refine aw_iload dX12_magic_113 rfl ?_
    refine aw_iload dX12_magic_115 rfl ?_
    refine aw_invVi (M := MX12_magic) (ci := 12) [vI x4, vI x6] rfl mo_X12_magicAt rfl lm_X12_667 li_X12_magicAt ls_X12_magicAt (by decide +kernel) dX12_magic_117 rfl (Nat.le_of_ble_eq_true rfl) (ACi.mono (fun v7 σ6 h => ?_) h)
    refine aw_if_ne (tgt := 126) dX12_magic_120 (by decide) (fun k8 => ?_) (fun k8 => ?_)
    · replace h := h.1 k8
      refine aw_iload dX12_magic_126 rfl ?_
      refine aw_if_ne (tgt := 134) dX12_magic_128 (by decide) (fun k9 => ?_) (fun k9 => ?_)
      · replace h := h.1 k9
        obtain ⟨⟨c10, c10x⟩, h⟩ := h
        refine aw_iincc (L' := [some (vR 12 (some x0)), none, none, none, some (vI x4), some (vI (x5 + (-1))), some (vI x6)]) dX12_magic_134 rfl (by decide) rfl c10 c10x rfl ?_
        obtain ⟨⟨c11, c11x⟩, h⟩ := h
        refine aw_iincc (L' := [some (vR 12 (some x0)), none, none, none, some (vI x4), some (vI (x5 + (-1))), some (vI (x6 + 1))]) dX12_magic_137 rfl (by decide) rfl c11 c11x rfl ?_
        refine aw_goto (tgt := 90) dX12_magic_140 (by decide) ?_
        exact aw_fgt (L' := [some (vR 12 (some x0)), none, none, none, some (vI x4), some (vI (x5 + (-1))), some (vI (x6 + 1))]) ⟨rfl, ⟨rfl, ⟨rfl, ⟨rfl, trivial⟩⟩⟩⟩ h
      · replace h := h.2 k9
        refine aw_iload dX12_magic_131 rfl ?_
        exact aw_ireturn dX12_magic_133 rfl h
    · replace h := h.2 k8
      refine aw_goto (tgt := 137) dX12_magic_123 (by decide) ?_
      obtain ⟨⟨c12, c12x⟩, h⟩ := h
      refine aw_iincc (L' := [some (vR 12 (some x0)), none, none, none, some (vI x4), some (vI x5), some (vI (x6 + 1))]) dX12_magic_137 rfl (by decide) rfl c12 c12x rfl ?_
      refine aw_goto (tgt := 90) dX12_magic_140 (by decide) ?_
      exact aw_fgt (L' := [some (vR 12 (some x0)), none, none, none, some (vI x4), some (vI x5), some (vI (x6 + 1))]) ⟨rfl, ⟨rfl, ⟨rfl, ⟨rfl, trivial⟩⟩⟩⟩ h
set_option maxRecDepth 4000 in
theorem bk_X12_magicAt_0 {g : GP} {l : Launch} {d : Nat} {σ : St} {Q : Option AV → St → Prop} {x0 : Nat} {x1 : Int} {x2 : Int}
    (h : AW g l (d + 1) MX12_magicAt 2 [some (vR 12 (some x0)), some (vI x1), some (vI x2), some (vI 0)] [] σ Q) :
    AW g l (d + 1) MX12_magicAt 0 [some (vR 12 (some x0)), some (vI x1), some (vI x2), none] [] σ Q := by
  refine aw_iconst (x := 0) dX12_magicAt_0 rfl ?_
  refine aw_istore_n (L' := [some (vR 12 (some x0)), some (vI x1), some (vI x2), some (vI 0)]) dX12_magicAt_1 rfl (by decide) rfl ?_
  exact aw_fgt (L' := [some (vR 12 (some x0)), some (vI x1), some (vI x2), some (vI 0)]) ⟨rfl, ⟨rfl, ⟨rfl, ⟨rfl, trivial⟩⟩⟩⟩ h
set_option maxRecDepth 4000 in
theorem bk_X12_magicAt_2 {g : GP} {l : Launch} {d : Nat} {σ : St} {Q : Option AV → St → Prop} {x0 : Nat} {x1 : Int} {x2 : Int} {x3 : Int}
    (h : LC 12 σ x0 ∧ Bd x1 560 ∧ (((gI σ 1237 x0 x1.toNat) ≤ x3 → Q (some (vI 1)) σ) ∧ (¬ (gI σ 1237 x0 x1.toNat) ≤ x3 → R32 (16 * x1) ∧ R32 ((16 * x1) + x3) ∧ Bd ((16 * x1) + x3) 8960 ∧ (((gJ σ 1240 x0 ((16 * x1) + x3).toNat).toInt < (0 : Int64).toInt → R32 (x3 + 1) ∧ AW g l (d + 1) MX12_magicAt 2 [some (vR 12 (some x0)), some (vI x1), some (vI x2), some (vI (x3 + 1))] [] σ Q) ∧ (¬ (gJ σ 1240 x0 ((16 * x1) + x3).toNat).toInt < (0 : Int64).toInt → R32 (x2 + x3) ∧ ACi g l d MX12_has [vR 12 (some x0), vI (gI σ 1281 x0 0), vI (x2 + x3)] σ (fun v11 σ10 => (((gJ σ 1240 x0 ((16 * x1) + x3).toNat) = (i2j v11) → R32 (x3 + 1) ∧ AW g l (d + 1) MX12_magicAt 2 [some (vR 12 (some x0)), some (vI x1), some (vI x2), some (vI (x3 + 1))] [] σ10 Q) ∧ (¬ (gJ σ 1240 x0 ((16 * x1) + x3).toNat) = (i2j v11) → Q (some (vI 0)) σ10)))))))) :
    AW g l (d + 1) MX12_magicAt 2 [some (vR 12 (some x0)), some (vI x1), some (vI x2), some (vI x3)] [] σ Q := by
  refine aw_iload_n dX12_magicAt_2 rfl rfl ?_
  refine aw_aload_n dX12_magicAt_3 rfl rfl ?_
  obtain ⟨lc1, h⟩ := h
  refine aw_getA' rfl fk_1237 (by decide) lf_X12_125 dX12_magicAt_4 (LC.ne lc1 rfl rfl) ?_
  refine aw_iload_n dX12_magicAt_7 rfl rfl ?_
  obtain ⟨⟨c2, c2x⟩, h⟩ := h
  refine aw_iaload (by decide) rfl dX12_magicAt_8 c2 (LC.lt lc1 rfl rfl c2x) ?_
  refine aw_icmp_ge (tgt := 63) dX12_magicAt_9 (by decide) (fun k3 => ?_) (fun k3 => ?_)
  · replace h := h.1 k3
    refine aw_iconst (x := 1) dX12_magicAt_63 rfl ?_
    exact aw_zreturn dX12_magicAt_64 rfl (Or.inr rfl) h
  · replace h := h.2 k3
    refine aw_aload_n dX12_magicAt_12 rfl rfl ?_
    refine aw_getA' rfl fk_1240 (by decide) lf_X12_134 dX12_magicAt_13 (LC.ne lc1 rfl rfl) ?_
    refine aw_bipush (x := 16) dX12_magicAt_16 rfl ?_
    refine aw_iload_n dX12_magicAt_18 rfl rfl ?_
    obtain ⟨⟨c4, c4x⟩, h⟩ := h
    refine aw_imulc dX12_magicAt_19 c4 c4x ?_
    refine aw_iload_n dX12_magicAt_20 rfl rfl ?_
    obtain ⟨⟨c5, c5x⟩, h⟩ := h
    refine aw_iaddc dX12_magicAt_21 c5 c5x ?_
    obtain ⟨⟨c6, c6x⟩, h⟩ := h
    refine aw_laload (by decide) rfl dX12_magicAt_22 c6 (LC.lt lc1 rfl rfl c6x) ?_
    refine aw_lconst (x := 0) dX12_magicAt_23 rfl ?_
    refine aw_lcmp_lt (M := MX12_magicAt) (tgt := 57) dX12_magicAt_24 dX12_magicAt_25 (by decide) (fun k7 => ?_) (fun k7 => ?_)
    · replace h := h.1 k7
      obtain ⟨⟨c8, c8x⟩, h⟩ := h
      refine aw_iincc (L' := [some (vR 12 (some x0)), some (vI x1), some (vI x2), some (vI (x3 + 1))]) dX12_magicAt_57 rfl (by decide) rfl c8 c8x rfl ?_
      refine aw_goto (tgt := 2) dX12_magicAt_60 (by decide) ?_
      exact aw_fgt (L' := [some (vR 12 (some x0)), some (vI x1), some (vI x2), some (vI (x3 + 1))]) ⟨rfl, ⟨rfl, ⟨rfl, ⟨rfl, trivial⟩⟩⟩⟩ h
    · replace h := h.2 k7
      refine aw_aload_n dX12_magicAt_28 rfl rfl ?_
      refine aw_getA' rfl fk_1240 (by decide) lf_X12_134 dX12_magicAt_29 (LC.ne lc1 rfl rfl) ?_
      refine aw_bipush (x := 16) dX12_magicAt_32 rfl ?_
      refine aw_iload_n dX12_magicAt_34 rfl rfl ?_
      refine aw_imulc dX12_magicAt_35 c4 c4x ?_
      refine aw_iload_n dX12_magicAt_36 rfl rfl ?_
      refine aw_iaddc dX12_magicAt_37 c5 c5x ?_
      refine aw_laload (by decide) rfl dX12_magicAt_38 c6 (LC.lt lc1 rfl rfl c6x) ?_
      refine aw_aload_n dX12_magicAt_39 rfl rfl ?_
      refine aw_aload_n dX12_magicAt_40 rfl rfl ?_
      refine aw_getI' rfl fk_1281 lf_X12_259 dX12_magicAt_41 ?_
      refine aw_iload_n dX12_magicAt_44 rfl rfl ?_
      refine aw_iload_n dX12_magicAt_45 rfl rfl ?_
      obtain ⟨⟨c9, c9x⟩, h⟩ := h
      refine aw_iaddc dX12_magicAt_46 c9 c9x ?_
      refine aw_invVi (M := MX12_magicAt) (ci := 12) [vI (gI σ 1281 x0 0), vI (x2 + x3)] rfl mo_X12_has rfl lm_X12_299 li_X12_has ls_X12_has (by decide +kernel) dX12_magicAt_47 rfl (Nat.le_of_ble_eq_true rfl) (ACi.mono (fun v11 σ10 h => ?_) h)
      refine aw_i2l dX12_magicAt_50 ?_
      refine aw_lcmp_eq (M := MX12_magicAt) (tgt := 57) dX12_magicAt_51 dX12_magicAt_52 (by decide) (fun k12 => ?_) (fun k12 => ?_)
      · replace h := h.1 k12
        obtain ⟨⟨c13, c13x⟩, h⟩ := h
        refine aw_iincc (L' := [some (vR 12 (some x0)), some (vI x1), some (vI x2), some (vI (x3 + 1))]) dX12_magicAt_57 rfl (by decide) rfl c13 c13x rfl ?_
        refine aw_goto (tgt := 2) dX12_magicAt_60 (by decide) ?_
        exact aw_fgt (L' := [some (vR 12 (some x0)), some (vI x1), some (vI x2), some (vI (x3 + 1))]) ⟨rfl, ⟨rfl, ⟨rfl, ⟨rfl, trivial⟩⟩⟩⟩ h
      · replace h := h.2 k12
        refine aw_iconst (x := 0) dX12_magicAt_55 rfl ?_
        exact aw_zreturn dX12_magicAt_56 rfl (Or.inl rfl) h
set_option maxRecDepth 4000 in
theorem bk_X12_magicLaid_0 {g : GP} {l : Launch} {d : Nat} {σ : St} {Q : Option AV → St → Prop} {x0 : Nat} {x1 : Int} {x2 : Int}
    (h : LC 12 σ x0 ∧ Bd x2 560 ∧ ACi g l d MX12_reaches [vR 12 (some x0), vI x1, vJ (i2j (gI σ 1237 x0 x2.toNat))] σ (fun v4 σ3 => ((¬ v4 = 0 → LC 12 σ3 x0 ∧ Bd x1 2800 ∧ ACi g l d MX12_magicAt [vR 12 (some x0), vI x2, vI (gI σ3 1268 x0 x1.toNat)] σ3 (fun v9 σ8 => ((¬ v9 = 0 → Q (some (vI 1)) σ8) ∧ (v9 = 0 → ACv g l d MX12_faulty [vR 12 (some x0), vI x1, vI 2] σ8 (fun σ11 => Q (some (vI 1)) σ11))))) ∧ (v4 = 0 → Q (some (vI 0)) σ3)))) :
    AW g l (d + 1) MX12_magicLaid 0 [some (vR 12 (some x0)), some (vI x1), some (vI x2)] [] σ Q := by
  refine aw_aload_n dX12_magicLaid_0 rfl rfl ?_
  refine aw_iload_n dX12_magicLaid_1 rfl rfl ?_
  refine aw_aload_n dX12_magicLaid_2 rfl rfl ?_
  obtain ⟨lc1, h⟩ := h
  refine aw_getA' rfl fk_1237 (by decide) lf_X12_125 dX12_magicLaid_3 (LC.ne lc1 rfl rfl) ?_
  refine aw_iload_n dX12_magicLaid_6 rfl rfl ?_
  obtain ⟨⟨c2, c2x⟩, h⟩ := h
  refine aw_iaload (by decide) rfl dX12_magicLaid_7 c2 (LC.lt lc1 rfl rfl c2x) ?_
  refine aw_i2l dX12_magicLaid_8 ?_
  refine aw_invVi (M := MX12_magicLaid) (ci := 12) [vI x1, vJ (i2j (gI σ 1237 x0 x2.toNat))] rfl mo_X12_reaches rfl lm_X12_602 li_X12_reaches ls_X12_reaches (by decide +kernel) dX12_magicLaid_9 rfl (Nat.le_of_ble_eq_true rfl) (ACi.mono (fun v4 σ3 h => ?_) h)
  refine aw_if_ne (tgt := 17) dX12_magicLaid_12 (by decide) (fun k5 => ?_) (fun k5 => ?_)
  · replace h := h.1 k5
    refine aw_aload_n dX12_magicLaid_17 rfl rfl ?_
    refine aw_iload_n dX12_magicLaid_18 rfl rfl ?_
    refine aw_aload_n dX12_magicLaid_19 rfl rfl ?_
    obtain ⟨lc6, h⟩ := h
    refine aw_getA' rfl fk_1268 (by decide) lf_X12_220 dX12_magicLaid_20 (LC.ne lc6 rfl rfl) ?_
    refine aw_iload_n dX12_magicLaid_23 rfl rfl ?_
    obtain ⟨⟨c7, c7x⟩, h⟩ := h
    refine aw_iaload (by decide) rfl dX12_magicLaid_24 c7 (LC.lt lc6 rfl rfl c7x) ?_
    refine aw_invVi (M := MX12_magicLaid) (ci := 12) [vI x2, vI (gI σ3 1268 x0 x1.toNat)] rfl mo_X12_magicAt rfl lm_X12_667 li_X12_magicAt ls_X12_magicAt (by decide +kernel) dX12_magicLaid_25 rfl (Nat.le_of_ble_eq_true rfl) (ACi.mono (fun v9 σ8 h => ?_) h)
    refine aw_if_ne (tgt := 37) dX12_magicLaid_28 (by decide) (fun k10 => ?_) (fun k10 => ?_)
    · replace h := h.1 k10
      refine aw_iconst (x := 1) dX12_magicLaid_37 rfl ?_
      exact aw_zreturn dX12_magicLaid_38 rfl (Or.inr rfl) h
    · replace h := h.2 k10
      refine aw_aload_n dX12_magicLaid_31 rfl rfl ?_
      refine aw_iload_n dX12_magicLaid_32 rfl rfl ?_
      refine aw_iconst (x := 2) dX12_magicLaid_33 rfl ?_
      refine aw_invVv (M := MX12_magicLaid) (ci := 12) [vI x1, vI 2] rfl mo_X12_faulty rfl lm_X12_577 li_X12_faulty ls_X12_faulty (by decide +kernel) dX12_magicLaid_34 rfl (Nat.le_of_ble_eq_true rfl) (ACv.mono (fun σ11 h => ?_) h)
      refine aw_iconst (x := 1) dX12_magicLaid_37 rfl ?_
      exact aw_zreturn dX12_magicLaid_38 rfl (Or.inr rfl) h
  · replace h := h.2 k5
    refine aw_iconst (x := 0) dX12_magicLaid_15 rfl ?_
    exact aw_zreturn dX12_magicLaid_16 rfl (Or.inl rfl) h
set_option maxRecDepth 4000 in
theorem bk_X12_make_0 {g : GP} {l : Launch} {d : Nat} {σ : St} {Q : Option AV → St → Prop} {x0 : Nat} {x1 : Int} {x2 : Int} {x3 : Int} {x4 : Int}
    (h : LC 12 σ x0 ∧ Bd (gI σ 1280 x0 0) 7 ∧ ((¬ (gI σ 1266 x0 (gI σ 1280 x0 0).toNat) = 400 → R32 (400 * (gI σ 1280 x0 0)) ∧ R32 ((400 * (gI σ 1280 x0 0)) + (gI σ 1266 x0 (gI σ 1280 x0 0).toNat)) ∧ ∀ z6 : Int, z6 = (400 * (gI σ 1280 x0 0)) + (gI σ 1266 x0 (gI σ 1280 x0 0).toNat) → R32 ((gI σ 1266 x0 (gI σ 1280 x0 0).toNat) + 1) ∧ Bd z6 2800 ∧ AW g l d MX12_make 136 [some (vR 12 (some x0)), none, some (vI x2), none, none, some (vI z6)] [] (sI (sI (sI (sI (sI (sI (sI (sI (sI (sI (sI σ 1266 x0 (gI σ 1280 x0 0).toNat ((gI σ 1266 x0 (gI σ 1280 x0 0).toNat) + 1)) 1267 x0 z6.toNat x1) 1268 x0 z6.toNat x3) 1269 x0 z6.toNat x3) 1270 x0 z6.toNat x2) 1271 x0 z6.toNat 0) 1272 x0 z6.toNat 0) 1273 x0 z6.toNat (-1)) 1274 x0 z6.toNat x4) 1275 x0 z6.toNat 0) 1276 x0 z6.toNat (-1)) Q) ∧ ((gI σ 1266 x0 (gI σ 1280 x0 0).toNat) = 400 → Q (some (vI (-1))) (sI σ 1282 x0 0 1)))) :
    AW g l d MX12_make 0 [some (vR 12 (some x0)), some (vI x1), some (vI x2), some (vI x3), some (vI x4), none] [] σ Q := by
  refine aw_aload_n dX12_make_0 rfl rfl ?_
  obtain ⟨lc1, h⟩ := h
  refine aw_getA' rfl fk_1266 (by decide) lf_X12_214 dX12_make_1 (LC.ne lc1 rfl rfl) ?_
  refine aw_aload_n dX12_make_4 rfl rfl ?_
  refine aw_getI' rfl fk_1280 lf_X12_256 dX12_make_5 ?_
  obtain ⟨⟨c2, c2x⟩, h⟩ := h
  refine aw_iaload (by decide) rfl dX12_make_8 c2 (LC.lt lc1 rfl rfl c2x) ?_
  refine aw_sipush (x := 400) dX12_make_9 rfl ?_
  refine aw_icmp_ne (tgt := 22) dX12_make_12 (by decide) (fun k3 => ?_) (fun k3 => ?_)
  · replace h := h.1 k3
    refine aw_sipush (x := 400) dX12_make_22 rfl ?_
    refine aw_aload_n dX12_make_25 rfl rfl ?_
    refine aw_getI' rfl fk_1280 lf_X12_256 dX12_make_26 ?_
    obtain ⟨⟨c4, c4x⟩, h⟩ := h
    refine aw_imulc dX12_make_29 c4 c4x ?_
    refine aw_aload_n dX12_make_30 rfl rfl ?_
    refine aw_getA' rfl fk_1266 (by decide) lf_X12_214 dX12_make_31 (LC.ne lc1 rfl rfl) ?_
    refine aw_aload_n dX12_make_34 rfl rfl ?_
    refine aw_getI' rfl fk_1280 lf_X12_256 dX12_make_35 ?_
    refine aw_iaload (by decide) rfl dX12_make_38 c2 (LC.lt lc1 rfl rfl c2x) ?_
    obtain ⟨⟨c5, c5x⟩, h⟩ := h
    refine aw_iaddc dX12_make_39 c5 c5x ?_
    refine aw_istore (L' := [some (vR 12 (some x0)), some (vI x1), some (vI x2), some (vI x3), some (vI x4), some (vI ((400 * (gI σ 1280 x0 0)) + (gI σ 1266 x0 (gI σ 1280 x0 0).toNat)))]) dX12_make_40 (by decide) rfl ?_
    obtain ⟨z6, hz6⟩ : ∃ z : Int, z = (400 * (gI σ 1280 x0 0)) + (gI σ 1266 x0 (gI σ 1280 x0 0).toNat) := ⟨_, rfl⟩
    rw [← hz6]
    replace h := h z6 hz6
    refine aw_aload_n dX12_make_42 rfl rfl ?_
    refine aw_getA' rfl fk_1266 (by decide) lf_X12_214 dX12_make_43 (LC.ne lc1 rfl rfl) ?_
    refine aw_aload_n dX12_make_46 rfl rfl ?_
    refine aw_getI' rfl fk_1280 lf_X12_256 dX12_make_47 ?_
    refine aw_dup2 dX12_make_50 rfl rfl ?_
    refine aw_iaload (by decide) rfl dX12_make_51 c2 (LC.lt lc1 rfl rfl c2x) ?_
    refine aw_iconst (x := 1) dX12_make_52 rfl ?_
    obtain ⟨⟨c7, c7x⟩, h⟩ := h
    refine aw_iaddc dX12_make_53 c7 c7x ?_
    refine aw_iastore (by decide) rfl dX12_make_54 c2 (LC.lt lc1 rfl rfl c2x) ?_
    refine aw_aload_n dX12_make_55 rfl rfl ?_
    refine aw_getA' rfl fk_1267 (by decide) lf_X12_217 dX12_make_56 (LC.ne lc1 rfl rfl) ?_
    refine aw_iload dX12_make_59 rfl ?_
    refine aw_iload_n dX12_make_61 rfl rfl ?_
    obtain ⟨⟨c8, c8x⟩, h⟩ := h
    refine aw_iastore (by decide) rfl dX12_make_62 c8 (LC.lt lc1 rfl rfl c8x) ?_
    refine aw_aload_n dX12_make_63 rfl rfl ?_
    refine aw_getA' rfl fk_1268 (by decide) lf_X12_220 dX12_make_64 (LC.ne lc1 rfl rfl) ?_
    refine aw_iload dX12_make_67 rfl ?_
    refine aw_iload_n dX12_make_69 rfl rfl ?_
    refine aw_iastore (by decide) rfl dX12_make_70 c8 (LC.lt lc1 rfl rfl c8x) ?_
    refine aw_aload_n dX12_make_71 rfl rfl ?_
    refine aw_getA' rfl fk_1269 (by decide) lf_X12_223 dX12_make_72 (LC.ne lc1 rfl rfl) ?_
    refine aw_iload dX12_make_75 rfl ?_
    refine aw_iload_n dX12_make_77 rfl rfl ?_
    refine aw_iastore (by decide) rfl dX12_make_78 c8 (LC.lt lc1 rfl rfl c8x) ?_
    refine aw_aload_n dX12_make_79 rfl rfl ?_
    refine aw_getA' rfl fk_1270 (by decide) lf_X12_226 dX12_make_80 (LC.ne lc1 rfl rfl) ?_
    refine aw_iload dX12_make_83 rfl ?_
    refine aw_iload_n dX12_make_85 rfl rfl ?_
    refine aw_iastore (by decide) rfl dX12_make_86 c8 (LC.lt lc1 rfl rfl c8x) ?_
    refine aw_aload_n dX12_make_87 rfl rfl ?_
    refine aw_getA' rfl fk_1271 (by decide) lf_X12_229 dX12_make_88 (LC.ne lc1 rfl rfl) ?_
    refine aw_iload dX12_make_91 rfl ?_
    refine aw_iconst (x := 0) dX12_make_93 rfl ?_
    refine aw_iastore (by decide) rfl dX12_make_94 c8 (LC.lt lc1 rfl rfl c8x) ?_
    refine aw_aload_n dX12_make_95 rfl rfl ?_
    refine aw_getA' rfl fk_1272 (by decide) lf_X12_232 dX12_make_96 (LC.ne lc1 rfl rfl) ?_
    refine aw_iload dX12_make_99 rfl ?_
    refine aw_iconst (x := 0) dX12_make_101 rfl ?_
    refine aw_iastore (by decide) rfl dX12_make_102 c8 (LC.lt lc1 rfl rfl c8x) ?_
    refine aw_aload_n dX12_make_103 rfl rfl ?_
    refine aw_getA' rfl fk_1273 (by decide) lf_X12_235 dX12_make_104 (LC.ne lc1 rfl rfl) ?_
    refine aw_iload dX12_make_107 rfl ?_
    refine aw_iconst (x := (-1)) dX12_make_109 rfl ?_
    refine aw_iastore (by decide) rfl dX12_make_110 c8 (LC.lt lc1 rfl rfl c8x) ?_
    refine aw_aload_n dX12_make_111 rfl rfl ?_
    refine aw_getA' rfl fk_1274 (by decide) lf_X12_238 dX12_make_112 (LC.ne lc1 rfl rfl) ?_
    refine aw_iload dX12_make_115 rfl ?_
    refine aw_iload dX12_make_117 rfl ?_
    refine aw_iastore (by decide) rfl dX12_make_119 c8 (LC.lt lc1 rfl rfl c8x) ?_
    refine aw_aload_n dX12_make_120 rfl rfl ?_
    refine aw_getA' rfl fk_1275 (by decide) lf_X12_241 dX12_make_121 (LC.ne lc1 rfl rfl) ?_
    refine aw_iload dX12_make_124 rfl ?_
    refine aw_iconst (x := 0) dX12_make_126 rfl ?_
    refine aw_iastore (by decide) rfl dX12_make_127 c8 (LC.lt lc1 rfl rfl c8x) ?_
    refine aw_aload_n dX12_make_128 rfl rfl ?_
    refine aw_getA' rfl fk_1276 (by decide) lf_X12_244 dX12_make_129 (LC.ne lc1 rfl rfl) ?_
    refine aw_iload dX12_make_132 rfl ?_
    refine aw_iconst (x := (-1)) dX12_make_134 rfl ?_
    refine aw_iastore (by decide) rfl dX12_make_135 c8 (LC.lt lc1 rfl rfl c8x) ?_
    exact aw_fgt (L' := [some (vR 12 (some x0)), none, some (vI x2), none, none, some (vI z6)]) ⟨rfl, ⟨rfl, ⟨rfl, trivial⟩⟩⟩ h
  · replace h := h.2 k3
    refine aw_aload_n dX12_make_15 rfl rfl ?_
    refine aw_iconst (x := 1) dX12_make_16 rfl ?_
    refine aw_putZ' rfl fk_1282 (Or.inl rfl) lf_X12_262 dX12_make_17 (Or.inr rfl) ?_
    refine aw_iconst (x := (-1)) dX12_make_20 rfl ?_
    exact aw_ireturn dX12_make_21 rfl h
set_option maxRecDepth 4000 in
theorem bk_X12_make_136 {g : GP} {l : Launch} {d : Nat} {σ : St} {Q : Option AV → St → Prop} {x0 : Nat} {x2 : Int} {x5 : Int}
    (h : LC 12 σ x0 ∧ Bd x5 2800 ∧ ((x2 < 0 → Q (some (vI x5)) (sI (sI (sI σ 1277 x0 x5.toNat (-1)) 1278 x0 x5.toNat (-1)) 1279 x0 x5.toNat 0)) ∧ (¬ x2 < 0 → Bd x2 2800 ∧ ((¬ (gI σ 1271 x0 x2.toNat) = 0 → Bd (gI (sI σ 1277 x0 x5.toNat (-1)) 1277 x0 x2.toNat) 2800 ∧ AW g l d MX12_make 197 [some (vR 12 (some x0)), none, some (vI x2), none, none, some (vI x5)] [] (sI (sI (sI (sI σ 1277 x0 x5.toNat (-1)) 1278 x0 x5.toNat (-1)) 1279 x0 x5.toNat 0) 1278 x0 (gI (sI σ 1277 x0 x5.toNat (-1)) 1277 x0 x2.toNat).toNat x5) Q) ∧ ((gI σ 1271 x0 x2.toNat) = 0 → AW g l d MX12_make 197 [some (vR 12 (some x0)), none, some (vI x2), none, none, some (vI x5)] [] (sI (sI (sI (sI σ 1277 x0 x5.toNat (-1)) 1278 x0 x5.toNat (-1)) 1279 x0 x5.toNat 0) 1276 x0 x2.toNat x5) Q))))) :
    AW g l d MX12_make 136 [some (vR 12 (some x0)), none, some (vI x2), none, none, some (vI x5)] [] σ Q := by
  refine aw_aload_n dX12_make_136 rfl rfl ?_
  obtain ⟨lc1, h⟩ := h
  refine aw_getA' rfl fk_1277 (by decide) lf_X12_247 dX12_make_137 (LC.ne lc1 rfl rfl) ?_
  refine aw_iload dX12_make_140 rfl ?_
  refine aw_iconst (x := (-1)) dX12_make_142 rfl ?_
  obtain ⟨⟨c2, c2x⟩, h⟩ := h
  refine aw_iastore (by decide) rfl dX12_make_143 c2 (LC.lt lc1 rfl rfl c2x) ?_
  refine aw_aload_n dX12_make_144 rfl rfl ?_
  refine aw_getA' rfl fk_1278 (by decide) lf_X12_250 dX12_make_145 (LC.ne lc1 rfl rfl) ?_
  refine aw_iload dX12_make_148 rfl ?_
  refine aw_iconst (x := (-1)) dX12_make_150 rfl ?_
  refine aw_iastore (by decide) rfl dX12_make_151 c2 (LC.lt lc1 rfl rfl c2x) ?_
  refine aw_aload_n dX12_make_152 rfl rfl ?_
  refine aw_getA' rfl fk_1279 (by decide) lf_X12_253 dX12_make_153 (LC.ne lc1 rfl rfl) ?_
  refine aw_iload dX12_make_156 rfl ?_
  refine aw_iconst (x := 0) dX12_make_158 rfl ?_
  refine aw_bastore (by decide) rfl dX12_make_159 (Or.inl rfl) c2 (LC.lt lc1 rfl rfl c2x) ?_
  refine aw_iload_n dX12_make_160 rfl rfl ?_
  refine aw_if_lt (tgt := 215) dX12_make_161 (by decide) (fun k3 => ?_) (fun k3 => ?_)
  · replace h := h.1 k3
    refine aw_iload dX12_make_215 rfl ?_
    exact aw_ireturn dX12_make_217 rfl h
  · replace h := h.2 k3
    refine aw_aload_n dX12_make_164 rfl rfl ?_
    refine aw_getA' rfl fk_1271 (by decide) lf_X12_229 dX12_make_165 (LC.ne lc1 rfl rfl) ?_
    refine aw_iload_n dX12_make_168 rfl rfl ?_
    obtain ⟨⟨c4, c4x⟩, h⟩ := h
    refine aw_ialoade (v := gI σ 1271 x0 x2.toNat) (by decide) rfl dX12_make_169 c4 (LC.lt lc1 rfl rfl c4x) rfl ?_
    refine aw_if_ne (tgt := 184) dX12_make_170 (by decide) (fun k5 => ?_) (fun k5 => ?_)
    · replace h := h.1 k5
      refine aw_aload_n dX12_make_184 rfl rfl ?_
      refine aw_getA' rfl fk_1278 (by decide) lf_X12_250 dX12_make_185 (LC.ne lc1 rfl rfl) ?_
      refine aw_aload_n dX12_make_188 rfl rfl ?_
      refine aw_getA' rfl fk_1277 (by decide) lf_X12_247 dX12_make_189 (LC.ne lc1 rfl rfl) ?_
      refine aw_iload_n dX12_make_192 rfl rfl ?_
      refine aw_ialoade (v := gI (sI σ 1277 x0 x5.toNat (-1)) 1277 x0 x2.toNat) (by decide) rfl dX12_make_193 c4 (LC.lt lc1 rfl rfl c4x) rfl ?_
      refine aw_iload dX12_make_194 rfl ?_
      obtain ⟨⟨c6, c6x⟩, h⟩ := h
      refine aw_iastore (by decide) rfl dX12_make_196 c6 (LC.lt lc1 rfl rfl c6x) ?_
      exact aw_fgt (L' := [some (vR 12 (some x0)), none, some (vI x2), none, none, some (vI x5)]) ⟨rfl, ⟨rfl, ⟨rfl, trivial⟩⟩⟩ h
    · replace h := h.2 k5
      refine aw_aload_n dX12_make_173 rfl rfl ?_
      refine aw_getA' rfl fk_1276 (by decide) lf_X12_244 dX12_make_174 (LC.ne lc1 rfl rfl) ?_
      refine aw_iload_n dX12_make_177 rfl rfl ?_
      refine aw_iload dX12_make_178 rfl ?_
      refine aw_iastore (by decide) rfl dX12_make_180 c4 (LC.lt lc1 rfl rfl c4x) ?_
      refine aw_goto (tgt := 197) dX12_make_181 (by decide) ?_
      exact aw_fgt (L' := [some (vR 12 (some x0)), none, some (vI x2), none, none, some (vI x5)]) ⟨rfl, ⟨rfl, ⟨rfl, trivial⟩⟩⟩ h
set_option maxRecDepth 4000 in
theorem bk_X12_make_197 {g : GP} {l : Launch} {d : Nat} {σ : St} {Q : Option AV → St → Prop} {x0 : Nat} {x2 : Int} {x5 : Int}
    (h : LC 12 σ x0 ∧ Bd x2 2800 ∧ R32 ((gI σ 1271 x0 x2.toNat) + 1) ∧ Q (some (vI x5)) (sI (sI σ 1277 x0 x2.toNat x5) 1271 x0 x2.toNat ((gI σ 1271 x0 x2.toNat) + 1))) :
    AW g l d MX12_make 197 [some (vR 12 (some x0)), none, some (vI x2), none, none, some (vI x5)] [] σ Q := by
  refine aw_aload_n dX12_make_197 rfl rfl ?_
  obtain ⟨lc1, h⟩ := h
  refine aw_getA' rfl fk_1277 (by decide) lf_X12_247 dX12_make_198 (LC.ne lc1 rfl rfl) ?_
  refine aw_iload_n dX12_make_201 rfl rfl ?_
  refine aw_iload dX12_make_202 rfl ?_
  obtain ⟨⟨c2, c2x⟩, h⟩ := h
  refine aw_iastore (by decide) rfl dX12_make_204 c2 (LC.lt lc1 rfl rfl c2x) ?_
  refine aw_aload_n dX12_make_205 rfl rfl ?_
  refine aw_getA' rfl fk_1271 (by decide) lf_X12_229 dX12_make_206 (LC.ne lc1 rfl rfl) ?_
  refine aw_iload_n dX12_make_209 rfl rfl ?_
  refine aw_dup2 dX12_make_210 rfl rfl ?_
  refine aw_ialoade (v := gI σ 1271 x0 x2.toNat) (by decide) rfl dX12_make_211 c2 (LC.lt lc1 rfl rfl c2x) rfl ?_
  refine aw_iconst (x := 1) dX12_make_212 rfl ?_
  obtain ⟨⟨c3, c3x⟩, h⟩ := h
  refine aw_iaddc dX12_make_213 c3 c3x ?_
  refine aw_iastore (by decide) rfl dX12_make_214 c2 (LC.lt lc1 rfl rfl c2x) ?_
  refine aw_iload dX12_make_215 rfl ?_
  exact aw_ireturn dX12_make_217 rfl h
set_option maxRecDepth 4000 in
theorem bk_X12_mask_0 {g : GP} {l : Launch} {d : Nat} {σ : St} {Q : Option AV → St → Prop} {x0 : Nat} {x1 : Int64}
    (h : ((x1.toInt < (64 : Int64).toInt → Q (some (vJ ((j_shl 1 (j2i x1)) - (1 : Int64)))) σ) ∧ (¬ x1.toInt < (64 : Int64).toInt → Q (some (vJ (-1))) σ))) :
    AW g l d MX12_mask 0 [some (vR 12 (some x0)), some (vJ x1), none] [] σ Q := by
  refine aw_lload_n dX12_mask_0 rfl rfl ?_
  refine aw_ldc2 lk_X12_487 dX12_mask_1 ?_
  refine aw_lcmp_lt (M := MX12_mask) (tgt := 14) dX12_mask_4 dX12_mask_5 (by decide) (fun k1 => ?_) (fun k1 => ?_)
  · replace h := h.1 k1
    refine aw_lconst (x := 1) dX12_mask_14 rfl ?_
    refine aw_lload_n dX12_mask_15 rfl rfl ?_
    refine aw_l2i dX12_mask_16 ?_
    refine aw_lshl dX12_mask_17 ?_
    refine aw_lconst (x := 1) dX12_mask_18 rfl ?_
    refine aw_lsub dX12_mask_19 ?_
    exact aw_lreturn dX12_mask_20 rfl h
  · replace h := h.2 k1
    refine aw_ldc2 lk_X12_521 dX12_mask_8 ?_
    refine aw_goto (tgt := 20) dX12_mask_11 (by decide) ?_
    exact aw_lreturn dX12_mask_20 rfl h
set_option maxRecDepth 4000 in
theorem bk_X12_masked_0 {g : GP} {l : Launch} {d : Nat} {σ : St} {Q : Option AV → St → Prop} {x0 : Nat} {x1 : Int} {x2 : Int}
    (h : ACi g l d MX12_isImage [vR 12 (some x0), vI x1] σ (fun v2 σ1 => ((v2 = 0 → Q (some (vI (-1))) σ1) ∧ (¬ v2 = 0 → (((gI σ1 1211 x0 0) = 0 → Q (some (vI (-1))) σ1) ∧ (¬ (gI σ1 1211 x0 0) = 0 → (((i_rem (gI σ1 1211 x0 0) 2) = 1 → Q (some (vI (-1))) σ1) ∧ (¬ (i_rem (gI σ1 1211 x0 0) 2) = 1 → ((0 ≤ x2 → AW g l (d + 1) MX12_masked 36 [some (vR 12 (some x0)), some (vI x1), none, some (vI x2), some (vI 0), none, none] [] σ1 Q) ∧ (¬ 0 ≤ x2 → Q (some (vI (-1))) σ1)))))))))) :
    AW g l (d + 1) MX12_masked 0 [some (vR 12 (some x0)), some (vI x1), some (vI x2), none, none, none, none] [] σ Q := by
  refine aw_aload_n dX12_masked_0 rfl rfl ?_
  refine aw_iload_n dX12_masked_1 rfl rfl ?_
  refine aw_invVi (M := MX12_masked) (ci := 12) [vI x1] rfl mo_X12_isImage rfl lm_X12_293 li_X12_isImage ls_X12_isImage (by decide +kernel) dX12_masked_2 rfl (Nat.le_of_ble_eq_true rfl) (ACi.mono (fun v2 σ1 h => ?_) h)
  refine aw_if_eq (tgt := 29) dX12_masked_5 (by decide) (fun k3 => ?_) (fun k3 => ?_)
  · replace h := h.1 k3
    refine aw_iconst (x := (-1)) dX12_masked_29 rfl ?_
    exact aw_ireturn dX12_masked_30 rfl h
  · replace h := h.2 k3
    refine aw_aload_n dX12_masked_8 rfl rfl ?_
    refine aw_getI' rfl fk_1211 lf_X12_45 dX12_masked_9 ?_
    refine aw_if_eq (tgt := 29) dX12_masked_12 (by decide) (fun k4 => ?_) (fun k4 => ?_)
    · replace h := h.1 k4
      refine aw_iconst (x := (-1)) dX12_masked_29 rfl ?_
      exact aw_ireturn dX12_masked_30 rfl h
    · replace h := h.2 k4
      refine aw_aload_n dX12_masked_15 rfl rfl ?_
      refine aw_getI' rfl fk_1211 lf_X12_45 dX12_masked_16 ?_
      refine aw_iconst (x := 2) dX12_masked_19 rfl ?_
      refine aw_irem dX12_masked_20 (by decide) ?_
      refine aw_iconst (x := 1) dX12_masked_21 rfl ?_
      refine aw_icmp_eq (tgt := 29) dX12_masked_22 (by decide) (fun k5 => ?_) (fun k5 => ?_)
      · replace h := h.1 k5
        refine aw_iconst (x := (-1)) dX12_masked_29 rfl ?_
        exact aw_ireturn dX12_masked_30 rfl h
      · replace h := h.2 k5
        refine aw_iload_n dX12_masked_25 rfl rfl ?_
        refine aw_if_ge (tgt := 31) dX12_masked_26 (by decide) (fun k6 => ?_) (fun k6 => ?_)
        · replace h := h.1 k6
          refine aw_iload_n dX12_masked_31 rfl rfl ?_
          refine aw_istore_n (L' := [some (vR 12 (some x0)), some (vI x1), some (vI x2), some (vI x2), none, none, none]) dX12_masked_32 rfl (by decide) rfl ?_
          refine aw_iconst (x := 0) dX12_masked_33 rfl ?_
          refine aw_istore (L' := [some (vR 12 (some x0)), some (vI x1), some (vI x2), some (vI x2), some (vI 0), none, none]) dX12_masked_34 (by decide) rfl ?_
          exact aw_fgt (L' := [some (vR 12 (some x0)), some (vI x1), none, some (vI x2), some (vI 0), none, none]) ⟨rfl, ⟨rfl, ⟨rfl, ⟨rfl, trivial⟩⟩⟩⟩ h
        · replace h := h.2 k6
          refine aw_iconst (x := (-1)) dX12_masked_29 rfl ?_
          exact aw_ireturn dX12_masked_30 rfl h
set_option maxRecDepth 4000 in
theorem bk_X12_masked_36 {g : GP} {l : Launch} {d : Nat} {σ : St} {Q : Option AV → St → Prop} {x0 : Nat} {x1 : Int} {x3 : Int} {x4 : Int}
    (h : R32 (x4 + (i_div (gI σ 1211 x0 0) 2)) ∧ LC 12 σ x0 ∧ Bd x1 6 ∧ (((gI σ 1201 x0 x1.toNat) < (x4 + (i_div (gI σ 1211 x0 0) 2)) → Q (some (vI (-1))) σ) ∧ (¬ (gI σ 1201 x0 x1.toNat) < (x4 + (i_div (gI σ 1211 x0 0) 2)) → AW g l (d + 1) MX12_masked 60 [some (vR 12 (some x0)), some (vI x1), none, some (vI x3), some (vI x4), some (vI 1), some (vI 0)] [] σ Q))) :
    AW g l (d + 1) MX12_masked 36 [some (vR 12 (some x0)), some (vI x1), none, some (vI x3), some (vI x4), none, none] [] σ Q := by
  refine aw_iload dX12_masked_36 rfl ?_
  refine aw_aload_n dX12_masked_38 rfl rfl ?_
  refine aw_getI' rfl fk_1211 lf_X12_45 dX12_masked_39 ?_
  refine aw_iconst (x := 2) dX12_masked_42 rfl ?_
  refine aw_idiv dX12_masked_43 (by decide) ?_
  obtain ⟨⟨c1, c1x⟩, h⟩ := h
  refine aw_iaddc dX12_masked_44 c1 c1x ?_
  refine aw_aload_n dX12_masked_45 rfl rfl ?_
  obtain ⟨lc2, h⟩ := h
  refine aw_getA' rfl fk_1201 (by decide) lf_X12_13 dX12_masked_46 (LC.ne lc2 rfl rfl) ?_
  refine aw_iload_n dX12_masked_49 rfl rfl ?_
  obtain ⟨⟨c3, c3x⟩, h⟩ := h
  refine aw_iaload (by decide) rfl dX12_masked_50 c3 (LC.lt lc2 rfl rfl c3x) ?_
  refine aw_icmp_gt (tgt := 149) dX12_masked_51 (by decide) (fun k4 => ?_) (fun k4 => ?_)
  · replace h := h.1 k4
    refine aw_iconst (x := (-1)) dX12_masked_149 rfl ?_
    exact aw_ireturn dX12_masked_150 rfl h
  · replace h := h.2 k4
    refine aw_iconst (x := 1) dX12_masked_54 rfl ?_
    refine aw_istore (L' := [some (vR 12 (some x0)), some (vI x1), none, some (vI x3), some (vI x4), some (vI 1), none]) dX12_masked_55 (by decide) rfl ?_
    refine aw_iconst (x := 0) dX12_masked_57 rfl ?_
    refine aw_istore (L' := [some (vR 12 (some x0)), some (vI x1), none, some (vI x3), some (vI x4), some (vI 1), some (vI 0)]) dX12_masked_58 (by decide) rfl ?_
    exact aw_fgt (L' := [some (vR 12 (some x0)), some (vI x1), none, some (vI x3), some (vI x4), some (vI 1), some (vI 0)]) ⟨rfl, ⟨rfl, ⟨rfl, ⟨rfl, ⟨rfl, ⟨rfl, trivial⟩⟩⟩⟩⟩⟩ h
set_option maxRecDepth 4000 in
theorem bk_X12_masked_60 {g : GP} {l : Launch} {d : Nat} {σ : St} {Q : Option AV → St → Prop} {x0 : Nat} {x1 : Int} {x3 : Int} {x4 : Int} {x5 : Int} {x6 : Int}
    (h : (((i_div (gI σ 1211 x0 0) 2) ≤ x6 → ((¬ x5 = 0 → ((¬ x3 = 0 → R32 (x3 + (-1)) ∧ R32 (x4 + 1) ∧ AW g l (d + 1) MX12_masked 36 [some (vR 12 (some x0)), some (vI x1), none, some (vI (x3 + (-1))), some (vI (x4 + 1)), none, none] [] σ Q) ∧ (x3 = 0 → Q (some (vI x4)) σ))) ∧ (x5 = 0 → R32 (x4 + 1) ∧ AW g l (d + 1) MX12_masked 36 [some (vR 12 (some x0)), some (vI x1), none, some (vI x3), some (vI (x4 + 1)), none, none] [] σ Q))) ∧ (¬ (i_div (gI σ 1211 x0 0) 2) ≤ x6 → ((x5 = 0 → R32 (x4 + 1) ∧ AW g l (d + 1) MX12_masked 36 [some (vR 12 (some x0)), some (vI x1), none, some (vI x3), some (vI (x4 + 1)), none, none] [] σ Q) ∧ (¬ x5 = 0 → LC 12 σ x0 ∧ Bd x6 3000 ∧ R32 (x4 + x6) ∧ ACi g l d MX12_has [vR 12 (some x0), vI x1, vI (x4 + x6)] σ (fun v13 σ12 => LC 12 σ12 x0 ∧ R32 ((i_div (gI σ12 1211 x0 0) 2) + x6) ∧ Bd ((i_div (gI σ12 1211 x0 0) 2) + x6) 3000 ∧ ((¬ (i_and (i_xor (gI σ 1210 x0 x6.toNat) v13) (gI σ12 1210 x0 ((i_div (gI σ12 1211 x0 0) 2) + x6).toNat)) = 0 → R32 (x6 + 1) ∧ AW g l (d + 1) MX12_masked 60 [some (vR 12 (some x0)), some (vI x1), none, some (vI x3), some (vI x4), some (vI 0), some (vI (x6 + 1))] [] σ12 Q) ∧ ((i_and (i_xor (gI σ 1210 x0 x6.toNat) v13) (gI σ12 1210 x0 ((i_div (gI σ12 1211 x0 0) 2) + x6).toNat)) = 0 → R32 (x6 + 1) ∧ AW g l (d + 1) MX12_masked 60 [some (vR 12 (some x0)), some (vI x1), none, some (vI x3), some (vI x4), some (vI 1), some (vI (x6 + 1))] [] σ12 Q)))))))) :
    AW g l (d + 1) MX12_masked 60 [some (vR 12 (some x0)), some (vI x1), none, some (vI x3), some (vI x4), some (vI x5), some (vI x6)] [] σ Q := by
  refine aw_iload dX12_masked_60 rfl ?_
  refine aw_aload_n dX12_masked_62 rfl rfl ?_
  refine aw_getI' rfl fk_1211 lf_X12_45 dX12_masked_63 ?_
  refine aw_iconst (x := 2) dX12_masked_66 rfl ?_
  refine aw_idiv dX12_masked_67 (by decide) ?_
  refine aw_icmp_ge (tgt := 125) dX12_masked_68 (by decide) (fun k1 => ?_) (fun k1 => ?_)
  · replace h := h.1 k1
    refine aw_iload dX12_masked_125 rfl ?_
    refine aw_if_ne (tgt := 133) dX12_masked_127 (by decide) (fun k2 => ?_) (fun k2 => ?_)
    · replace h := h.1 k2
      refine aw_iload_n dX12_masked_133 rfl rfl ?_
      refine aw_if_ne (tgt := 140) dX12_masked_134 (by decide) (fun k3 => ?_) (fun k3 => ?_)
      · replace h := h.1 k3
        obtain ⟨⟨c4, c4x⟩, h⟩ := h
        refine aw_iincc (L' := [some (vR 12 (some x0)), some (vI x1), none, some (vI (x3 + (-1))), some (vI x4), some (vI x5), some (vI x6)]) dX12_masked_140 rfl (by decide) rfl c4 c4x rfl ?_
        obtain ⟨⟨c5, c5x⟩, h⟩ := h
        refine aw_iincc (L' := [some (vR 12 (some x0)), some (vI x1), none, some (vI (x3 + (-1))), some (vI (x4 + 1)), some (vI x5), some (vI x6)]) dX12_masked_143 rfl (by decide) rfl c5 c5x rfl ?_
        refine aw_goto (tgt := 36) dX12_masked_146 (by decide) ?_
        exact aw_fgt (L' := [some (vR 12 (some x0)), some (vI x1), none, some (vI (x3 + (-1))), some (vI (x4 + 1)), none, none]) ⟨rfl, ⟨rfl, ⟨rfl, ⟨rfl, trivial⟩⟩⟩⟩ h
      · replace h := h.2 k3
        refine aw_iload dX12_masked_137 rfl ?_
        exact aw_ireturn dX12_masked_139 rfl h
    · replace h := h.2 k2
      refine aw_goto (tgt := 143) dX12_masked_130 (by decide) ?_
      obtain ⟨⟨c6, c6x⟩, h⟩ := h
      refine aw_iincc (L' := [some (vR 12 (some x0)), some (vI x1), none, some (vI x3), some (vI (x4 + 1)), some (vI x5), some (vI x6)]) dX12_masked_143 rfl (by decide) rfl c6 c6x rfl ?_
      refine aw_goto (tgt := 36) dX12_masked_146 (by decide) ?_
      exact aw_fgt (L' := [some (vR 12 (some x0)), some (vI x1), none, some (vI x3), some (vI (x4 + 1)), none, none]) ⟨rfl, ⟨rfl, ⟨rfl, ⟨rfl, trivial⟩⟩⟩⟩ h
  · replace h := h.2 k1
    refine aw_iload dX12_masked_71 rfl ?_
    refine aw_if_eq (tgt := 125) dX12_masked_73 (by decide) (fun k7 => ?_) (fun k7 => ?_)
    · replace h := h.1 k7
      refine aw_iload dX12_masked_125 rfl ?_
      refine aw_if_ne (tgt := 133) dX12_masked_127 (by decide) (fun q => absurd k7 q) (fun _ => ?_)
      refine aw_goto (tgt := 143) dX12_masked_130 (by decide) ?_
      obtain ⟨⟨c8, c8x⟩, h⟩ := h
      refine aw_iincc (L' := [some (vR 12 (some x0)), some (vI x1), none, some (vI x3), some (vI (x4 + 1)), some (vI x5), some (vI x6)]) dX12_masked_143 rfl (by decide) rfl c8 c8x rfl ?_
      refine aw_goto (tgt := 36) dX12_masked_146 (by decide) ?_
      exact aw_fgt (L' := [some (vR 12 (some x0)), some (vI x1), none, some (vI x3), some (vI (x4 + 1)), none, none]) ⟨rfl, ⟨rfl, ⟨rfl, ⟨rfl, trivial⟩⟩⟩⟩ h
    · replace h := h.2 k7
      refine aw_aload_n dX12_masked_76 rfl rfl ?_
      obtain ⟨lc9, h⟩ := h
      refine aw_getA' rfl fk_1210 (by decide) lf_X12_42 dX12_masked_77 (LC.ne lc9 rfl rfl) ?_
      refine aw_iload dX12_masked_80 rfl ?_
      obtain ⟨⟨c10, c10x⟩, h⟩ := h
      refine aw_iaload (by decide) rfl dX12_masked_82 c10 (LC.lt lc9 rfl rfl c10x) ?_
      refine aw_aload_n dX12_masked_83 rfl rfl ?_
      refine aw_iload_n dX12_masked_84 rfl rfl ?_
      refine aw_iload dX12_masked_85 rfl ?_
      refine aw_iload dX12_masked_87 rfl ?_
      obtain ⟨⟨c11, c11x⟩, h⟩ := h
      refine aw_iaddc dX12_masked_89 c11 c11x ?_
      refine aw_invVi (M := MX12_masked) (ci := 12) [vI x1, vI (x4 + x6)] rfl mo_X12_has rfl lm_X12_299 li_X12_has ls_X12_has (by decide +kernel) dX12_masked_90 rfl (Nat.le_of_ble_eq_true rfl) (ACi.mono (fun v13 σ12 h => ?_) h)
      refine aw_ixor dX12_masked_93 ?_
      refine aw_aload_n dX12_masked_94 rfl rfl ?_
      obtain ⟨lc14, h⟩ := h
      refine aw_getA' rfl fk_1210 (by decide) lf_X12_42 dX12_masked_95 (LC.ne lc14 rfl rfl) ?_
      refine aw_aload_n dX12_masked_98 rfl rfl ?_
      refine aw_getI' rfl fk_1211 lf_X12_45 dX12_masked_99 ?_
      refine aw_iconst (x := 2) dX12_masked_102 rfl ?_
      refine aw_idiv dX12_masked_103 (by decide) ?_
      refine aw_iload dX12_masked_104 rfl ?_
      obtain ⟨⟨c15, c15x⟩, h⟩ := h
      refine aw_iaddc dX12_masked_106 c15 c15x ?_
      obtain ⟨⟨c16, c16x⟩, h⟩ := h
      refine aw_iaload (by decide) rfl dX12_masked_107 c16 (LC.lt lc14 rfl rfl c16x) ?_
      refine aw_iand dX12_masked_108 ?_
      refine aw_if_ne (tgt := 116) dX12_masked_109 (by decide) (fun k17 => ?_) (fun k17 => ?_)
      · replace h := h.1 k17
        refine aw_iconst (x := 0) dX12_masked_116 rfl ?_
        refine aw_istore (L' := [some (vR 12 (some x0)), some (vI x1), none, some (vI x3), some (vI x4), some (vI 0), some (vI x6)]) dX12_masked_117 (by decide) rfl ?_
        obtain ⟨⟨c18, c18x⟩, h⟩ := h
        refine aw_iincc (L' := [some (vR 12 (some x0)), some (vI x1), none, some (vI x3), some (vI x4), some (vI 0), some (vI (x6 + 1))]) dX12_masked_119 rfl (by decide) rfl c18 c18x rfl ?_
        refine aw_goto (tgt := 60) dX12_masked_122 (by decide) ?_
        exact aw_fgt (L' := [some (vR 12 (some x0)), some (vI x1), none, some (vI x3), some (vI x4), some (vI 0), some (vI (x6 + 1))]) ⟨rfl, ⟨rfl, ⟨rfl, ⟨rfl, ⟨rfl, ⟨rfl, trivial⟩⟩⟩⟩⟩⟩ h
      · replace h := h.2 k17
        refine aw_iconst (x := 1) dX12_masked_112 rfl ?_
        refine aw_goto (tgt := 117) dX12_masked_113 (by decide) ?_
        refine aw_istore (L' := [some (vR 12 (some x0)), some (vI x1), none, some (vI x3), some (vI x4), some (vI 1), some (vI x6)]) dX12_masked_117 (by decide) rfl ?_
        obtain ⟨⟨c19, c19x⟩, h⟩ := h
        refine aw_iincc (L' := [some (vR 12 (some x0)), some (vI x1), none, some (vI x3), some (vI x4), some (vI 1), some (vI (x6 + 1))]) dX12_masked_119 rfl (by decide) rfl c19 c19x rfl ?_
        refine aw_goto (tgt := 60) dX12_masked_122 (by decide) ?_
        exact aw_fgt (L' := [some (vR 12 (some x0)), some (vI x1), none, some (vI x3), some (vI x4), some (vI 1), some (vI (x6 + 1))]) ⟨rfl, ⟨rfl, ⟨rfl, ⟨rfl, ⟨rfl, ⟨rfl, trivial⟩⟩⟩⟩⟩⟩ h
set_option maxRecDepth 4000 in
theorem bk_X12_moved_0 {g : GP} {l : Launch} {d : Nat} {σ : St} {Q : Option AV → St → Prop} {x0 : Nat} {x1 : Int} {x2 : Int}
    (h : ((0 ≤ x1 → R32 (x1 - x2) ∧ Q (some (vI (x1 - x2))) σ) ∧ (¬ 0 ≤ x1 → Q (some (vI x1)) σ))) :
    AW g l d MX12_moved 0 [some (vR 12 (some x0)), some (vI x1), some (vI x2)] [] σ Q := by
  refine aw_iload_n dX12_moved_0 rfl rfl ?_
  refine aw_if_ge (tgt := 8) dX12_moved_1 (by decide) (fun k1 => ?_) (fun k1 => ?_)
  · replace h := h.1 k1
    refine aw_iload_n dX12_moved_8 rfl rfl ?_
    refine aw_iload_n dX12_moved_9 rfl rfl ?_
    obtain ⟨⟨c2, c2x⟩, h⟩ := h
    refine aw_isubc dX12_moved_10 c2 c2x ?_
    exact aw_ireturn dX12_moved_11 rfl h
  · replace h := h.2 k1
    refine aw_iload_n dX12_moved_4 rfl rfl ?_
    refine aw_goto (tgt := 11) dX12_moved_5 (by decide) ?_
    exact aw_ireturn dX12_moved_11 rfl h
set_option maxRecDepth 4000 in
theorem bk_X12_must_0 {g : GP} {l : Launch} {d : Nat} {σ : St} {Q : Option AV → St → Prop} {x0 : Nat} {x1 : Int} {x2 : Int}
    (h : ((¬ x1 = 0 → ((¬ (gI σ 1251 x0 0) = 0 → Q (some (vI 0)) σ) ∧ ((gI σ 1251 x0 0) = 0 → Q (some (vI 1)) σ))) ∧ (x1 = 0 → ACv g l d MX12_fault [vR 12 (some x0), vI x2] σ (fun σ3 => ((¬ (gI σ3 1251 x0 0) = 0 → Q (some (vI 0)) σ3) ∧ ((gI σ3 1251 x0 0) = 0 → Q (some (vI 1)) σ3)))))) :
    AW g l (d + 1) MX12_must 0 [some (vR 12 (some x0)), some (vI x1), some (vI x2)] [] σ Q := by
  refine aw_iload_n dX12_must_0 rfl rfl ?_
  refine aw_if_ne (tgt := 9) dX12_must_1 (by decide) (fun k1 => ?_) (fun k1 => ?_)
  · replace h := h.1 k1
    refine aw_aload_n dX12_must_9 rfl rfl ?_
    refine aw_getI' rfl fk_1251 lf_X12_167 dX12_must_10 ?_
    refine aw_if_ne (tgt := 20) dX12_must_13 (by decide) (fun k2 => ?_) (fun k2 => ?_)
    · replace h := h.1 k2
      refine aw_iconst (x := 0) dX12_must_20 rfl ?_
      exact aw_zreturn dX12_must_21 rfl (Or.inl rfl) h
    · replace h := h.2 k2
      refine aw_iconst (x := 1) dX12_must_16 rfl ?_
      refine aw_goto (tgt := 21) dX12_must_17 (by decide) ?_
      exact aw_zreturn dX12_must_21 rfl (Or.inr rfl) h
  · replace h := h.2 k1
    refine aw_aload_n dX12_must_4 rfl rfl ?_
    refine aw_iload_n dX12_must_5 rfl rfl ?_
    refine aw_invVv (M := MX12_must) (ci := 12) [vI x2] rfl mo_X12_fault rfl lm_X12_397 li_X12_fault ls_X12_fault (by decide +kernel) dX12_must_6 rfl (Nat.le_of_ble_eq_true rfl) (ACv.mono (fun σ3 h => ?_) h)
    refine aw_aload_n dX12_must_9 rfl rfl ?_
    refine aw_getI' rfl fk_1251 lf_X12_167 dX12_must_10 ?_
    refine aw_if_ne (tgt := 20) dX12_must_13 (by decide) (fun k4 => ?_) (fun k4 => ?_)
    · replace h := h.1 k4
      refine aw_iconst (x := 0) dX12_must_20 rfl ?_
      exact aw_zreturn dX12_must_21 rfl (Or.inl rfl) h
    · replace h := h.2 k4
      refine aw_iconst (x := 1) dX12_must_16 rfl ?_
      refine aw_goto (tgt := 21) dX12_must_17 (by decide) ?_
      exact aw_zreturn dX12_must_21 rfl (Or.inr rfl) h
set_option maxRecDepth 4000 in
theorem bk_X12_nameOf_0 {g : GP} {l : Launch} {d : Nat} {σ : St} {Q : Option AV → St → Prop} {x0 : Nat} {x1 : Int}
    (h : LC 12 σ x0 ∧ Bd x1 2800 ∧ (((gI σ 1270 x0 x1.toNat) < 0 → AW g l d MX12_nameOf 29 [some (vR 12 (some x0)), some (vI x1), none] [vI 0] σ Q) ∧ (¬ (gI σ 1270 x0 x1.toNat) < 0 → Bd (gI σ 1270 x0 x1.toNat) 2800 ∧ ((¬ (gI σ 1267 x0 (gI σ 1270 x0 x1.toNat).toNat) = 2 → AW g l d MX12_nameOf 29 [some (vR 12 (some x0)), some (vI x1), none] [vI 0] σ Q) ∧ ((gI σ 1267 x0 (gI σ 1270 x0 x1.toNat).toNat) = 2 → AW g l d MX12_nameOf 29 [some (vR 12 (some x0)), some (vI x1), none] [vI 1] σ Q))))) :
    AW g l d MX12_nameOf 0 [some (vR 12 (some x0)), some (vI x1), none] [] σ Q := by
  refine aw_aload_n dX12_nameOf_0 rfl rfl ?_
  obtain ⟨lc1, h⟩ := h
  refine aw_getA' rfl fk_1270 (by decide) lf_X12_226 dX12_nameOf_1 (LC.ne lc1 rfl rfl) ?_
  refine aw_iload_n dX12_nameOf_4 rfl rfl ?_
  obtain ⟨⟨c2, c2x⟩, h⟩ := h
  refine aw_iaload (by decide) rfl dX12_nameOf_5 c2 (LC.lt lc1 rfl rfl c2x) ?_
  refine aw_if_lt (tgt := 28) dX12_nameOf_6 (by decide) (fun k3 => ?_) (fun k3 => ?_)
  · replace h := h.1 k3
    refine aw_iconst (x := 0) dX12_nameOf_28 rfl ?_
    exact aw_fgt (L' := [some (vR 12 (some x0)), some (vI x1), none]) ⟨rfl, ⟨rfl, trivial⟩⟩ h
  · replace h := h.2 k3
    refine aw_aload_n dX12_nameOf_9 rfl rfl ?_
    refine aw_getA' rfl fk_1267 (by decide) lf_X12_217 dX12_nameOf_10 (LC.ne lc1 rfl rfl) ?_
    refine aw_aload_n dX12_nameOf_13 rfl rfl ?_
    refine aw_getA' rfl fk_1270 (by decide) lf_X12_226 dX12_nameOf_14 (LC.ne lc1 rfl rfl) ?_
    refine aw_iload_n dX12_nameOf_17 rfl rfl ?_
    refine aw_iaload (by decide) rfl dX12_nameOf_18 c2 (LC.lt lc1 rfl rfl c2x) ?_
    obtain ⟨⟨c4, c4x⟩, h⟩ := h
    refine aw_iaload (by decide) rfl dX12_nameOf_19 c4 (LC.lt lc1 rfl rfl c4x) ?_
    refine aw_iconst (x := 2) dX12_nameOf_20 rfl ?_
    refine aw_icmp_ne (tgt := 28) dX12_nameOf_21 (by decide) (fun k5 => ?_) (fun k5 => ?_)
    · replace h := h.1 k5
      refine aw_iconst (x := 0) dX12_nameOf_28 rfl ?_
      exact aw_fgt (L' := [some (vR 12 (some x0)), some (vI x1), none]) ⟨rfl, ⟨rfl, trivial⟩⟩ h
    · replace h := h.2 k5
      refine aw_iconst (x := 1) dX12_nameOf_24 rfl ?_
      refine aw_goto (tgt := 29) dX12_nameOf_25 (by decide) ?_
      exact aw_fgt (L' := [some (vR 12 (some x0)), some (vI x1), none]) ⟨rfl, ⟨rfl, trivial⟩⟩ h
set_option maxRecDepth 4000 in
theorem bk_X12_nameOf_29 {g : GP} {l : Launch} {d : Nat} {σ : St} {Q : Option AV → St → Prop} {x0 : Nat} {x1 : Int} {y0 : Int}
    (h : LC 12 σ x0 ∧ Bd x1 2800 ∧ ((¬ (gI σ 1267 x0 x1.toNat) = 0 → AW g l d MX12_nameOf 68 [some (vR 12 (some x0)), some (vI x1), some (vI y0)] [] σ Q) ∧ ((gI σ 1267 x0 x1.toNat) = 0 → ((0 ≤ (gI σ 1274 x0 x1.toNat) → AW g l d MX12_nameOf 68 [some (vR 12 (some x0)), some (vI x1), some (vI y0)] [] σ Q) ∧ (¬ 0 ≤ (gI σ 1274 x0 x1.toNat) → R32 (20 * (gI σ 1218 x0 0)) ∧ R32 ((20 * (gI σ 1218 x0 0)) + (gI σ 1273 x0 x1.toNat)) ∧ Bd ((20 * (gI σ 1218 x0 0)) + (gI σ 1273 x0 x1.toNat)) 40 ∧ Q (some (vJ (gJ σ 1221 x0 ((20 * (gI σ 1218 x0 0)) + (gI σ 1273 x0 x1.toNat)).toNat))) σ))))) :
    AW g l d MX12_nameOf 29 [some (vR 12 (some x0)), some (vI x1), none] [vI y0] σ Q := by
  refine aw_istore_n (L' := [some (vR 12 (some x0)), some (vI x1), some (vI y0)]) dX12_nameOf_29 rfl (by decide) rfl ?_
  refine aw_aload_n dX12_nameOf_30 rfl rfl ?_
  obtain ⟨lc1, h⟩ := h
  refine aw_getA' rfl fk_1267 (by decide) lf_X12_217 dX12_nameOf_31 (LC.ne lc1 rfl rfl) ?_
  refine aw_iload_n dX12_nameOf_34 rfl rfl ?_
  obtain ⟨⟨c2, c2x⟩, h⟩ := h
  refine aw_iaload (by decide) rfl dX12_nameOf_35 c2 (LC.lt lc1 rfl rfl c2x) ?_
  refine aw_if_ne (tgt := 68) dX12_nameOf_36 (by decide) (fun k3 => ?_) (fun k3 => ?_)
  · replace h := h.1 k3
    exact aw_fgt (L' := [some (vR 12 (some x0)), some (vI x1), some (vI y0)]) ⟨rfl, ⟨rfl, ⟨rfl, trivial⟩⟩⟩ h
  · replace h := h.2 k3
    refine aw_aload_n dX12_nameOf_39 rfl rfl ?_
    refine aw_getA' rfl fk_1274 (by decide) lf_X12_238 dX12_nameOf_40 (LC.ne lc1 rfl rfl) ?_
    refine aw_iload_n dX12_nameOf_43 rfl rfl ?_
    refine aw_iaload (by decide) rfl dX12_nameOf_44 c2 (LC.lt lc1 rfl rfl c2x) ?_
    refine aw_if_ge (tgt := 68) dX12_nameOf_45 (by decide) (fun k4 => ?_) (fun k4 => ?_)
    · replace h := h.1 k4
      exact aw_fgt (L' := [some (vR 12 (some x0)), some (vI x1), some (vI y0)]) ⟨rfl, ⟨rfl, ⟨rfl, trivial⟩⟩⟩ h
    · replace h := h.2 k4
      refine aw_aload_n dX12_nameOf_48 rfl rfl ?_
      refine aw_getA' rfl fk_1221 (by decide) lf_X12_76 dX12_nameOf_49 (LC.ne lc1 rfl rfl) ?_
      refine aw_bipush (x := 20) dX12_nameOf_52 rfl ?_
      refine aw_aload_n dX12_nameOf_54 rfl rfl ?_
      refine aw_getI' rfl fk_1218 lf_X12_67 dX12_nameOf_55 ?_
      obtain ⟨⟨c5, c5x⟩, h⟩ := h
      refine aw_imulc dX12_nameOf_58 c5 c5x ?_
      refine aw_aload_n dX12_nameOf_59 rfl rfl ?_
      refine aw_getA' rfl fk_1273 (by decide) lf_X12_235 dX12_nameOf_60 (LC.ne lc1 rfl rfl) ?_
      refine aw_iload_n dX12_nameOf_63 rfl rfl ?_
      refine aw_iaload (by decide) rfl dX12_nameOf_64 c2 (LC.lt lc1 rfl rfl c2x) ?_
      obtain ⟨⟨c6, c6x⟩, h⟩ := h
      refine aw_iaddc dX12_nameOf_65 c6 c6x ?_
      obtain ⟨⟨c7, c7x⟩, h⟩ := h
      refine aw_laload (by decide) rfl dX12_nameOf_66 c7 (LC.lt lc1 rfl rfl c7x) ?_
      exact aw_lreturn dX12_nameOf_67 rfl h
set_option maxRecDepth 4000 in
theorem bk_X12_nameOf_68 {g : GP} {l : Launch} {d : Nat} {σ : St} {Q : Option AV → St → Prop} {x0 : Nat} {x1 : Int} {x2 : Int}
    (h : LC 12 σ x0 ∧ Bd x1 2800 ∧ (((gI σ 1267 x0 x1.toNat) = 8 → Q (some (vJ 0)) σ) ∧ (¬ (gI σ 1267 x0 x1.toNat) = 8 → ((x2 = 0 → ((¬ (gI σ 1267 x0 x1.toNat) = 4 → Bd (gI σ 1274 x0 x1.toNat) 560 ∧ Q (some (vJ (gJ σ 1238 x0 (gI σ 1274 x0 x1.toNat).toNat))) σ) ∧ ((gI σ 1267 x0 x1.toNat) = 4 → R32 (16 * (gI σ 1274 x0 x1.toNat)) ∧ R32 ((16 * (gI σ 1274 x0 x1.toNat)) + (gI σ 1275 x0 x1.toNat)) ∧ R32 (((16 * (gI σ 1274 x0 x1.toNat)) + (gI σ 1275 x0 x1.toNat)) - 1) ∧ Bd (((16 * (gI σ 1274 x0 x1.toNat)) + (gI σ 1275 x0 x1.toNat)) - 1) 8960 ∧ Q (some (vJ (gJ σ 1239 x0 (((16 * (gI σ 1274 x0 x1.toNat)) + (gI σ 1275 x0 x1.toNat)) - 1).toNat))) σ))) ∧ (¬ x2 = 0 → Q (some (vJ 0)) σ))))) :
    AW g l d MX12_nameOf 68 [some (vR 12 (some x0)), some (vI x1), some (vI x2)] [] σ Q := by
  refine aw_aload_n dX12_nameOf_68 rfl rfl ?_
  obtain ⟨lc1, h⟩ := h
  refine aw_getA' rfl fk_1267 (by decide) lf_X12_217 dX12_nameOf_69 (LC.ne lc1 rfl rfl) ?_
  refine aw_iload_n dX12_nameOf_72 rfl rfl ?_
  obtain ⟨⟨c2, c2x⟩, h⟩ := h
  refine aw_iaload (by decide) rfl dX12_nameOf_73 c2 (LC.lt lc1 rfl rfl c2x) ?_
  refine aw_bipush (x := 8) dX12_nameOf_74 rfl ?_
  refine aw_icmp_eq (tgt := 83) dX12_nameOf_76 (by decide) (fun k3 => ?_) (fun k3 => ?_)
  · replace h := h.1 k3
    refine aw_lconst (x := 0) dX12_nameOf_83 rfl ?_
    exact aw_lreturn dX12_nameOf_84 rfl h
  · replace h := h.2 k3
    refine aw_iload_n dX12_nameOf_79 rfl rfl ?_
    refine aw_if_eq (tgt := 85) dX12_nameOf_80 (by decide) (fun k4 => ?_) (fun k4 => ?_)
    · replace h := h.1 k4
      refine aw_aload_n dX12_nameOf_85 rfl rfl ?_
      refine aw_getA' rfl fk_1267 (by decide) lf_X12_217 dX12_nameOf_86 (LC.ne lc1 rfl rfl) ?_
      refine aw_iload_n dX12_nameOf_89 rfl rfl ?_
      refine aw_iaload (by decide) rfl dX12_nameOf_90 c2 (LC.lt lc1 rfl rfl c2x) ?_
      refine aw_iconst (x := 4) dX12_nameOf_91 rfl ?_
      refine aw_icmp_ne (tgt := 121) dX12_nameOf_92 (by decide) (fun k5 => ?_) (fun k5 => ?_)
      · replace h := h.1 k5
        refine aw_aload_n dX12_nameOf_121 rfl rfl ?_
        refine aw_getA' rfl fk_1238 (by decide) lf_X12_128 dX12_nameOf_122 (LC.ne lc1 rfl rfl) ?_
        refine aw_aload_n dX12_nameOf_125 rfl rfl ?_
        refine aw_getA' rfl fk_1274 (by decide) lf_X12_238 dX12_nameOf_126 (LC.ne lc1 rfl rfl) ?_
        refine aw_iload_n dX12_nameOf_129 rfl rfl ?_
        refine aw_iaload (by decide) rfl dX12_nameOf_130 c2 (LC.lt lc1 rfl rfl c2x) ?_
        obtain ⟨⟨c6, c6x⟩, h⟩ := h
        refine aw_laload (by decide) rfl dX12_nameOf_131 c6 (LC.lt lc1 rfl rfl c6x) ?_
        exact aw_lreturn dX12_nameOf_132 rfl h
      · replace h := h.2 k5
        refine aw_aload_n dX12_nameOf_95 rfl rfl ?_
        refine aw_getA' rfl fk_1239 (by decide) lf_X12_131 dX12_nameOf_96 (LC.ne lc1 rfl rfl) ?_
        refine aw_bipush (x := 16) dX12_nameOf_99 rfl ?_
        refine aw_aload_n dX12_nameOf_101 rfl rfl ?_
        refine aw_getA' rfl fk_1274 (by decide) lf_X12_238 dX12_nameOf_102 (LC.ne lc1 rfl rfl) ?_
        refine aw_iload_n dX12_nameOf_105 rfl rfl ?_
        refine aw_iaload (by decide) rfl dX12_nameOf_106 c2 (LC.lt lc1 rfl rfl c2x) ?_
        obtain ⟨⟨c7, c7x⟩, h⟩ := h
        refine aw_imulc dX12_nameOf_107 c7 c7x ?_
        refine aw_aload_n dX12_nameOf_108 rfl rfl ?_
        refine aw_getA' rfl fk_1275 (by decide) lf_X12_241 dX12_nameOf_109 (LC.ne lc1 rfl rfl) ?_
        refine aw_iload_n dX12_nameOf_112 rfl rfl ?_
        refine aw_iaload (by decide) rfl dX12_nameOf_113 c2 (LC.lt lc1 rfl rfl c2x) ?_
        obtain ⟨⟨c8, c8x⟩, h⟩ := h
        refine aw_iaddc dX12_nameOf_114 c8 c8x ?_
        refine aw_iconst (x := 1) dX12_nameOf_115 rfl ?_
        obtain ⟨⟨c9, c9x⟩, h⟩ := h
        refine aw_isubc dX12_nameOf_116 c9 c9x ?_
        obtain ⟨⟨c10, c10x⟩, h⟩ := h
        refine aw_laload (by decide) rfl dX12_nameOf_117 c10 (LC.lt lc1 rfl rfl c10x) ?_
        refine aw_goto (tgt := 132) dX12_nameOf_118 (by decide) ?_
        exact aw_lreturn dX12_nameOf_132 rfl h
    · replace h := h.2 k4
      refine aw_lconst (x := 0) dX12_nameOf_83 rfl ?_
      exact aw_lreturn dX12_nameOf_84 rfl h
set_option maxRecDepth 4000 in
theorem bk_X12_named_0 {g : GP} {l : Launch} {d : Nat} {σ : St} {Q : Option AV → St → Prop} {x0 : Nat} {x1 : Int}
    (h : ((0 < (gI σ 1251 x0 0) → Q none σ) ∧ (¬ 0 < (gI σ 1251 x0 0) → ACi g l d MX12_fresh [vR 12 (some x0), vI x1] σ (fun v3 σ2 => ((¬ v3 = 0 → LC 12 σ2 x0 ∧ Bd x1 560 ∧ ACv g l d MX12_next [vR 12 (some x0)] (sJ σ2 1238 x0 x1.toNat (gJ σ2 1216 x0 0)) (fun σ7 => Q none σ7)) ∧ (v3 = 0 → Q none σ2)))))) :
    AW g l (d + 1) MX12_named 0 [some (vR 12 (some x0)), some (vI x1)] [] σ Q := by
  refine aw_aload_n dX12_named_0 rfl rfl ?_
  refine aw_getI' rfl fk_1251 lf_X12_167 dX12_named_1 ?_
  refine aw_if_gt (tgt := 15) dX12_named_4 (by decide) (fun k1 => ?_) (fun k1 => ?_)
  · replace h := h.1 k1
    exact aw_ret h rfl dX12_named_15
  · replace h := h.2 k1
    refine aw_aload_n dX12_named_7 rfl rfl ?_
    refine aw_iload_n dX12_named_8 rfl rfl ?_
    refine aw_invVi (M := MX12_named) (ci := 12) [vI x1] rfl mo_X12_fresh rfl lm_X12_454 li_X12_fresh ls_X12_fresh (by decide +kernel) dX12_named_9 rfl (Nat.le_of_ble_eq_true rfl) (ACi.mono (fun v3 σ2 h => ?_) h)
    refine aw_if_ne (tgt := 16) dX12_named_12 (by decide) (fun k4 => ?_) (fun k4 => ?_)
    · replace h := h.1 k4
      refine aw_aload_n dX12_named_16 rfl rfl ?_
      obtain ⟨lc5, h⟩ := h
      refine aw_getA' rfl fk_1238 (by decide) lf_X12_128 dX12_named_17 (LC.ne lc5 rfl rfl) ?_
      refine aw_iload_n dX12_named_20 rfl rfl ?_
      refine aw_aload_n dX12_named_21 rfl rfl ?_
      refine aw_getJ' rfl fk_1216 lf_X12_60 dX12_named_22 ?_
      obtain ⟨⟨c6, c6x⟩, h⟩ := h
      refine aw_lastore (by decide) rfl dX12_named_25 c6 (LC.lt lc5 rfl rfl c6x) ?_
      refine aw_aload_n dX12_named_26 rfl rfl ?_
      refine aw_invVv (M := MX12_named) (ci := 12) [] rfl mo_X12_next rfl lm_X12_408 li_X12_next ls_X12_next (by decide +kernel) dX12_named_27 rfl (Nat.le_of_ble_eq_true rfl) (ACv.mono (fun σ7 h => ?_) h)
      exact aw_ret h rfl dX12_named_30
    · replace h := h.2 k4
      exact aw_ret h rfl dX12_named_15
set_option maxRecDepth 4000 in
theorem bk_X12_named__0 {g : GP} {l : Launch} {d : Nat} {σ : St} {Q : Option AV → St → Prop} {x0 : Nat} {x1 : Int} {x2 : Int}
    (h : LC 12 σ x0 ∧ Bd x1 2800 ∧ ACi g l d MX12_field [vR 12 (some x0), vI (gI σ 1273 x0 x1.toNat), vI (i_div x2 16)] σ (fun v4 σ3 => LC 12 σ3 x0 ∧ AW g l (d + 1) MX12_named_ 23 [some (vR 12 (some x0)), none, some (vI x2), some (vI v4), some (vI (gI σ3 1276 x0 x1.toNat)), none] [] σ3 Q)) :
    AW g l (d + 1) MX12_named_ 0 [some (vR 12 (some x0)), some (vI x1), some (vI x2), none, none, none] [] σ Q := by
  refine aw_aload_n dX12_named__0 rfl rfl ?_
  refine aw_aload_n dX12_named__1 rfl rfl ?_
  obtain ⟨lc1, h⟩ := h
  refine aw_getA' rfl fk_1273 (by decide) lf_X12_235 dX12_named__2 (LC.ne lc1 rfl rfl) ?_
  refine aw_iload_n dX12_named__5 rfl rfl ?_
  obtain ⟨⟨c2, c2x⟩, h⟩ := h
  refine aw_iaload (by decide) rfl dX12_named__6 c2 (LC.lt lc1 rfl rfl c2x) ?_
  refine aw_iload_n dX12_named__7 rfl rfl ?_
  refine aw_bipush (x := 16) dX12_named__8 rfl ?_
  refine aw_idiv dX12_named__10 (by decide) ?_
  refine aw_invVi (M := MX12_named_) (ci := 12) [vI (gI σ 1273 x0 x1.toNat), vI (i_div x2 16)] rfl mo_X12_field rfl lm_X12_447 li_X12_field ls_X12_field (by decide +kernel) dX12_named__11 rfl (Nat.le_of_ble_eq_true rfl) (ACi.mono (fun v4 σ3 h => ?_) h)
  refine aw_istore_n (L' := [some (vR 12 (some x0)), some (vI x1), some (vI x2), some (vI v4), none, none]) dX12_named__14 rfl (by decide) rfl ?_
  refine aw_aload_n dX12_named__15 rfl rfl ?_
  obtain ⟨lc5, h⟩ := h
  refine aw_getA' rfl fk_1276 (by decide) lf_X12_244 dX12_named__16 (LC.ne lc5 rfl rfl) ?_
  refine aw_iload_n dX12_named__19 rfl rfl ?_
  refine aw_iaload (by decide) rfl dX12_named__20 c2 (LC.lt lc5 rfl rfl c2x) ?_
  refine aw_istore (L' := [some (vR 12 (some x0)), some (vI x1), some (vI x2), some (vI v4), some (vI (gI σ3 1276 x0 x1.toNat)), none]) dX12_named__21 (by decide) rfl ?_
  exact aw_fgt (L' := [some (vR 12 (some x0)), none, some (vI x2), some (vI v4), some (vI (gI σ3 1276 x0 x1.toNat)), none]) ⟨rfl, ⟨rfl, ⟨rfl, ⟨rfl, trivial⟩⟩⟩⟩ h
set_option maxRecDepth 4000 in
theorem bk_X12_named__23 {g : GP} {l : Launch} {d : Nat} {σ : St} {Q : Option AV → St → Prop} {x0 : Nat} {x2 : Int} {x3 : Int} {x4 : Int}
    (h : ((x4 < 0 → Q (some (vJ 0)) (sI σ 1286 x0 0 1)) ∧ (¬ x4 < 0 → LC 12 σ x0 ∧ Bd x4 2800 ∧ ((¬ (gI σ 1274 x0 x4.toNat) = x3 → AW g l (d + 1) MX12_named_ 23 [some (vR 12 (some x0)), none, some (vI x2), some (vI x3), some (vI (gI σ 1278 x0 x4.toNat)), none] [] σ Q) ∧ ((gI σ 1274 x0 x4.toNat) = x3 → ((¬ (gI σ 1272 x0 x4.toNat) = 1 → ((¬ (i_rem x2 16) = 0 → AW g l (d + 1) MX12_named_ 76 [some (vR 12 (some x0)), none, some (vI x2), some (vI x3), some (vI x4), some (vI (gI σ 1276 x0 x4.toNat))] [] σ Q) ∧ ((i_rem x2 16) = 0 → ACj g l d MX12_valueOf [vR 12 (some x0), vI x4] σ (fun v8 σ7 => Q (some (vJ v8)) σ7)))) ∧ ((gI σ 1272 x0 x4.toNat) = 1 → AW g l (d + 1) MX12_named_ 23 [some (vR 12 (some x0)), none, some (vI x2), some (vI x3), some (vI (gI σ 1278 x0 x4.toNat)), none] [] σ Q))))))) :
    AW g l (d + 1) MX12_named_ 23 [some (vR 12 (some x0)), none, some (vI x2), some (vI x3), some (vI x4), none] [] σ Q := by
  refine aw_iload dX12_named__23 rfl ?_
  refine aw_if_lt (tgt := 126) dX12_named__25 (by decide) (fun k1 => ?_) (fun k1 => ?_)
  · replace h := h.1 k1
    refine aw_aload_n dX12_named__126 rfl rfl ?_
    refine aw_iconst (x := 1) dX12_named__127 rfl ?_
    refine aw_putZ' rfl fk_1286 (Or.inl rfl) lf_X12_274 dX12_named__128 (Or.inr rfl) ?_
    refine aw_lconst (x := 0) dX12_named__131 rfl ?_
    exact aw_lreturn dX12_named__132 rfl h
  · replace h := h.2 k1
    refine aw_aload_n dX12_named__28 rfl rfl ?_
    obtain ⟨lc2, h⟩ := h
    refine aw_getA' rfl fk_1274 (by decide) lf_X12_238 dX12_named__29 (LC.ne lc2 rfl rfl) ?_
    refine aw_iload dX12_named__32 rfl ?_
    obtain ⟨⟨c3, c3x⟩, h⟩ := h
    refine aw_iaload (by decide) rfl dX12_named__34 c3 (LC.lt lc2 rfl rfl c3x) ?_
    refine aw_iload_n dX12_named__35 rfl rfl ?_
    refine aw_icmp_ne (tgt := 114) dX12_named__36 (by decide) (fun k4 => ?_) (fun k4 => ?_)
    · replace h := h.1 k4
      refine aw_aload_n dX12_named__114 rfl rfl ?_
      refine aw_getA' rfl fk_1278 (by decide) lf_X12_250 dX12_named__115 (LC.ne lc2 rfl rfl) ?_
      refine aw_iload dX12_named__118 rfl ?_
      refine aw_iaload (by decide) rfl dX12_named__120 c3 (LC.lt lc2 rfl rfl c3x) ?_
      refine aw_istore (L' := [some (vR 12 (some x0)), none, some (vI x2), some (vI x3), some (vI (gI σ 1278 x0 x4.toNat)), none]) dX12_named__121 (by decide) rfl ?_
      refine aw_goto (tgt := 23) dX12_named__123 (by decide) ?_
      exact aw_fgt (L' := [some (vR 12 (some x0)), none, some (vI x2), some (vI x3), some (vI (gI σ 1278 x0 x4.toNat)), none]) ⟨rfl, ⟨rfl, ⟨rfl, ⟨rfl, trivial⟩⟩⟩⟩ h
    · replace h := h.2 k4
      refine aw_aload_n dX12_named__39 rfl rfl ?_
      refine aw_getA' rfl fk_1272 (by decide) lf_X12_232 dX12_named__40 (LC.ne lc2 rfl rfl) ?_
      refine aw_iload dX12_named__43 rfl ?_
      refine aw_iaload (by decide) rfl dX12_named__45 c3 (LC.lt lc2 rfl rfl c3x) ?_
      refine aw_iconst (x := 1) dX12_named__46 rfl ?_
      refine aw_icmp_ne (tgt := 53) dX12_named__47 (by decide) (fun k5 => ?_) (fun k5 => ?_)
      · replace h := h.1 k5
        refine aw_iload_n dX12_named__53 rfl rfl ?_
        refine aw_bipush (x := 16) dX12_named__54 rfl ?_
        refine aw_irem dX12_named__56 (by decide) ?_
        refine aw_if_ne (tgt := 67) dX12_named__57 (by decide) (fun k6 => ?_) (fun k6 => ?_)
        · replace h := h.1 k6
          refine aw_aload_n dX12_named__67 rfl rfl ?_
          refine aw_getA' rfl fk_1276 (by decide) lf_X12_244 dX12_named__68 (LC.ne lc2 rfl rfl) ?_
          refine aw_iload dX12_named__71 rfl ?_
          refine aw_iaload (by decide) rfl dX12_named__73 c3 (LC.lt lc2 rfl rfl c3x) ?_
          refine aw_istore (L' := [some (vR 12 (some x0)), none, some (vI x2), some (vI x3), some (vI x4), some (vI (gI σ 1276 x0 x4.toNat))]) dX12_named__74 (by decide) rfl ?_
          exact aw_fgt (L' := [some (vR 12 (some x0)), none, some (vI x2), some (vI x3), some (vI x4), some (vI (gI σ 1276 x0 x4.toNat))]) ⟨rfl, ⟨rfl, ⟨rfl, ⟨rfl, ⟨rfl, trivial⟩⟩⟩⟩⟩ h
        · replace h := h.2 k6
          refine aw_aload_n dX12_named__60 rfl rfl ?_
          refine aw_iload dX12_named__61 rfl ?_
          refine aw_invVj (M := MX12_named_) (ci := 12) [vI x4] rfl mo_X12_valueOf rfl lm_X12_643 li_X12_valueOf ls_X12_valueOf (by decide +kernel) dX12_named__63 rfl (Nat.le_of_ble_eq_true rfl) (ACj.mono (fun v8 σ7 h => ?_) h)
          exact aw_lreturn dX12_named__66 rfl h
      · replace h := h.2 k5
        refine aw_goto (tgt := 114) dX12_named__50 (by decide) ?_
        refine aw_aload_n dX12_named__114 rfl rfl ?_
        refine aw_getA' rfl fk_1278 (by decide) lf_X12_250 dX12_named__115 (LC.ne lc2 rfl rfl) ?_
        refine aw_iload dX12_named__118 rfl ?_
        refine aw_iaload (by decide) rfl dX12_named__120 c3 (LC.lt lc2 rfl rfl c3x) ?_
        refine aw_istore (L' := [some (vR 12 (some x0)), none, some (vI x2), some (vI x3), some (vI (gI σ 1278 x0 x4.toNat)), none]) dX12_named__121 (by decide) rfl ?_
        refine aw_goto (tgt := 23) dX12_named__123 (by decide) ?_
        exact aw_fgt (L' := [some (vR 12 (some x0)), none, some (vI x2), some (vI x3), some (vI (gI σ 1278 x0 x4.toNat)), none]) ⟨rfl, ⟨rfl, ⟨rfl, ⟨rfl, trivial⟩⟩⟩⟩ h
set_option maxRecDepth 4000 in
theorem bk_X12_named__76 {g : GP} {l : Launch} {d : Nat} {σ : St} {Q : Option AV → St → Prop} {x0 : Nat} {x2 : Int} {x3 : Int} {x4 : Int} {x5 : Int}
    (h : ((x5 < 0 → LC 12 σ x0 ∧ Bd x4 2800 ∧ AW g l (d + 1) MX12_named_ 23 [some (vR 12 (some x0)), none, some (vI x2), some (vI x3), some (vI (gI σ 1278 x0 x4.toNat)), none] [] σ Q) ∧ (¬ x5 < 0 → LC 12 σ x0 ∧ Bd x5 2800 ∧ ((¬ (gI σ 1275 x0 x5.toNat) = (i_rem x2 16) → AW g l (d + 1) MX12_named_ 76 [some (vR 12 (some x0)), none, some (vI x2), some (vI x3), some (vI x4), some (vI (gI σ 1278 x0 x5.toNat))] [] σ Q) ∧ ((gI σ 1275 x0 x5.toNat) = (i_rem x2 16) → ACj g l d MX12_valueOf [vR 12 (some x0), vI x5] σ (fun v8 σ7 => Q (some (vJ v8)) σ7)))))) :
    AW g l (d + 1) MX12_named_ 76 [some (vR 12 (some x0)), none, some (vI x2), some (vI x3), some (vI x4), some (vI x5)] [] σ Q := by
  refine aw_iload dX12_named__76 rfl ?_
  refine aw_if_lt (tgt := 114) dX12_named__78 (by decide) (fun k1 => ?_) (fun k1 => ?_)
  · replace h := h.1 k1
    refine aw_aload_n dX12_named__114 rfl rfl ?_
    obtain ⟨lc2, h⟩ := h
    refine aw_getA' rfl fk_1278 (by decide) lf_X12_250 dX12_named__115 (LC.ne lc2 rfl rfl) ?_
    refine aw_iload dX12_named__118 rfl ?_
    obtain ⟨⟨c3, c3x⟩, h⟩ := h
    refine aw_iaload (by decide) rfl dX12_named__120 c3 (LC.lt lc2 rfl rfl c3x) ?_
    refine aw_istore (L' := [some (vR 12 (some x0)), none, some (vI x2), some (vI x3), some (vI (gI σ 1278 x0 x4.toNat)), some (vI x5)]) dX12_named__121 (by decide) rfl ?_
    refine aw_goto (tgt := 23) dX12_named__123 (by decide) ?_
    exact aw_fgt (L' := [some (vR 12 (some x0)), none, some (vI x2), some (vI x3), some (vI (gI σ 1278 x0 x4.toNat)), none]) ⟨rfl, ⟨rfl, ⟨rfl, ⟨rfl, trivial⟩⟩⟩⟩ h
  · replace h := h.2 k1
    refine aw_aload_n dX12_named__81 rfl rfl ?_
    obtain ⟨lc4, h⟩ := h
    refine aw_getA' rfl fk_1275 (by decide) lf_X12_241 dX12_named__82 (LC.ne lc4 rfl rfl) ?_
    refine aw_iload dX12_named__85 rfl ?_
    obtain ⟨⟨c5, c5x⟩, h⟩ := h
    refine aw_iaload (by decide) rfl dX12_named__87 c5 (LC.lt lc4 rfl rfl c5x) ?_
    refine aw_iload_n dX12_named__88 rfl rfl ?_
    refine aw_bipush (x := 16) dX12_named__89 rfl ?_
    refine aw_irem dX12_named__91 (by decide) ?_
    refine aw_icmp_ne (tgt := 102) dX12_named__92 (by decide) (fun k6 => ?_) (fun k6 => ?_)
    · replace h := h.1 k6
      refine aw_aload_n dX12_named__102 rfl rfl ?_
      refine aw_getA' rfl fk_1278 (by decide) lf_X12_250 dX12_named__103 (LC.ne lc4 rfl rfl) ?_
      refine aw_iload dX12_named__106 rfl ?_
      refine aw_iaload (by decide) rfl dX12_named__108 c5 (LC.lt lc4 rfl rfl c5x) ?_
      refine aw_istore (L' := [some (vR 12 (some x0)), none, some (vI x2), some (vI x3), some (vI x4), some (vI (gI σ 1278 x0 x5.toNat))]) dX12_named__109 (by decide) rfl ?_
      refine aw_goto (tgt := 76) dX12_named__111 (by decide) ?_
      exact aw_fgt (L' := [some (vR 12 (some x0)), none, some (vI x2), some (vI x3), some (vI x4), some (vI (gI σ 1278 x0 x5.toNat))]) ⟨rfl, ⟨rfl, ⟨rfl, ⟨rfl, ⟨rfl, trivial⟩⟩⟩⟩⟩ h
    · replace h := h.2 k6
      refine aw_aload_n dX12_named__95 rfl rfl ?_
      refine aw_iload dX12_named__96 rfl ?_
      refine aw_invVj (M := MX12_named_) (ci := 12) [vI x5] rfl mo_X12_valueOf rfl lm_X12_643 li_X12_valueOf ls_X12_valueOf (by decide +kernel) dX12_named__98 rfl (Nat.le_of_ble_eq_true rfl) (ACj.mono (fun v8 σ7 h => ?_) h)
      exact aw_lreturn dX12_named__101 rfl h
set_option maxRecDepth 4000 in
theorem bk_X12_names_0 {g : GP} {l : Launch} {d : Nat} {σ : St} {Q : Option AV → St → Prop} {x0 : Nat} {x1 : Int} {x2 : Int}
    (h : AW g l (d + 1) MX12_names 5 [some (vR 12 (some x0)), some (vI x1), some (vI x2), some (vI 0), some (vI 0), none, none] [] σ Q) :
    AW g l (d + 1) MX12_names 0 [some (vR 12 (some x0)), some (vI x1), some (vI x2), none, none, none, none] [] σ Q := by
  refine aw_iconst (x := 0) dX12_names_0 rfl ?_
  refine aw_istore_n (L' := [some (vR 12 (some x0)), some (vI x1), some (vI x2), some (vI 0), none, none, none]) dX12_names_1 rfl (by decide) rfl ?_
  refine aw_iconst (x := 0) dX12_names_2 rfl ?_
  refine aw_istore (L' := [some (vR 12 (some x0)), some (vI x1), some (vI x2), some (vI 0), some (vI 0), none, none]) dX12_names_3 (by decide) rfl ?_
  exact aw_fgt (L' := [some (vR 12 (some x0)), some (vI x1), some (vI x2), some (vI 0), some (vI 0), none, none]) ⟨rfl, ⟨rfl, ⟨rfl, ⟨rfl, ⟨rfl, trivial⟩⟩⟩⟩⟩ h
set_option maxRecDepth 4000 in
theorem bk_X12_names_5 {g : GP} {l : Launch} {d : Nat} {σ : St} {Q : Option AV → St → Prop} {x0 : Nat} {x1 : Int} {x2 : Int} {x3 : Int} {x4 : Int}
    (h : LC 12 σ x0 ∧ R32 (20 * (gI σ 1253 x0 0)) ∧ R32 ((20 * (gI σ 1253 x0 0)) + x1) ∧ Bd ((20 * (gI σ 1253 x0 0)) + x1) 40 ∧ (((gI σ 1222 x0 ((20 * (gI σ 1253 x0 0)) + x1).toNat) ≤ x4 → ((x3 = 0 ∨ x3 = 1) ∧ Q (some (vI x3)) σ)) ∧ (¬ (gI σ 1222 x0 ((20 * (gI σ 1253 x0 0)) + x1).toNat) ≤ x4 → ACi g l d MX12_field [vR 12 (some x0), vI x1, vI x4] σ (fun v7 σ6 => LC 12 σ6 x0 ∧ Bd v7 560 ∧ (((gI σ6 1228 x0 v7.toNat) = 2 → AW g l (d + 1) MX12_names 68 [some (vR 12 (some x0)), some (vI x1), some (vI x2), none, some (vI x4), some (vI v7), none] [vI x3] σ6 Q) ∧ (¬ (gI σ6 1228 x0 v7.toNat) = 2 → (((gI σ6 1228 x0 v7.toNat) = 3 → AW g l (d + 1) MX12_names 68 [some (vR 12 (some x0)), some (vI x1), some (vI x2), none, some (vI x4), some (vI v7), none] [vI x3] σ6 Q) ∧ (¬ (gI σ6 1228 x0 v7.toNat) = 3 → ((¬ (gI σ6 1228 x0 v7.toNat) = 8 → AW g l (d + 1) MX12_names 89 [some (vR 12 (some x0)), some (vI x1), some (vI x2), some (vI (i_or x3 0)), some (vI x4), some (vI v7), some (vI 0)] [] σ6 Q) ∧ ((gI σ6 1228 x0 v7.toNat) = 8 → AW g l (d + 1) MX12_names 68 [some (vR 12 (some x0)), some (vI x1), some (vI x2), none, some (vI x4), some (vI v7), none] [vI x3] σ6 Q)))))))))) :
    AW g l (d + 1) MX12_names 5 [some (vR 12 (some x0)), some (vI x1), some (vI x2), some (vI x3), some (vI x4), none, none] [] σ Q := by
  refine aw_iload dX12_names_5 rfl ?_
  refine aw_aload_n dX12_names_7 rfl rfl ?_
  obtain ⟨lc1, h⟩ := h
  refine aw_getA' rfl fk_1222 (by decide) lf_X12_80 dX12_names_8 (LC.ne lc1 rfl rfl) ?_
  refine aw_bipush (x := 20) dX12_names_11 rfl ?_
  refine aw_aload_n dX12_names_13 rfl rfl ?_
  refine aw_getI' rfl fk_1253 lf_X12_173 dX12_names_14 ?_
  obtain ⟨⟨c2, c2x⟩, h⟩ := h
  refine aw_imulc dX12_names_17 c2 c2x ?_
  refine aw_iload_n dX12_names_18 rfl rfl ?_
  obtain ⟨⟨c3, c3x⟩, h⟩ := h
  refine aw_iaddc dX12_names_19 c3 c3x ?_
  obtain ⟨⟨c4, c4x⟩, h⟩ := h
  refine aw_iaload (by decide) rfl dX12_names_20 c4 (LC.lt lc1 rfl rfl c4x) ?_
  refine aw_icmp_ge (tgt := 181) dX12_names_21 (by decide) (fun k5 => ?_) (fun k5 => ?_)
  · replace h := h.1 k5
    refine aw_iload_n dX12_names_181 rfl rfl ?_
    exact aw_zreturn dX12_names_182 rfl h.1 h.2
  · replace h := h.2 k5
    refine aw_aload_n dX12_names_24 rfl rfl ?_
    refine aw_iload_n dX12_names_25 rfl rfl ?_
    refine aw_iload dX12_names_26 rfl ?_
    refine aw_invVi (M := MX12_names) (ci := 12) [vI x1, vI x4] rfl mo_X12_field rfl lm_X12_447 li_X12_field ls_X12_field (by decide +kernel) dX12_names_28 rfl (Nat.le_of_ble_eq_true rfl) (ACi.mono (fun v7 σ6 h => ?_) h)
    refine aw_istore (L' := [some (vR 12 (some x0)), some (vI x1), some (vI x2), some (vI x3), some (vI x4), some (vI v7), none]) dX12_names_31 (by decide) rfl ?_
    refine aw_iload_n dX12_names_33 rfl rfl ?_
    refine aw_aload_n dX12_names_34 rfl rfl ?_
    obtain ⟨lc8, h⟩ := h
    refine aw_getA' rfl fk_1228 (by decide) lf_X12_98 dX12_names_35 (LC.ne lc8 rfl rfl) ?_
    refine aw_iload dX12_names_38 rfl ?_
    obtain ⟨⟨c9, c9x⟩, h⟩ := h
    refine aw_iaload (by decide) rfl dX12_names_40 c9 (LC.lt lc8 rfl rfl c9x) ?_
    refine aw_iconst (x := 2) dX12_names_41 rfl ?_
    refine aw_icmp_eq (tgt := 68) dX12_names_42 (by decide) (fun k10 => ?_) (fun k10 => ?_)
    · replace h := h.1 k10
      exact aw_fgt (L' := [some (vR 12 (some x0)), some (vI x1), some (vI x2), none, some (vI x4), some (vI v7), none]) ⟨rfl, ⟨rfl, ⟨rfl, ⟨rfl, ⟨rfl, trivial⟩⟩⟩⟩⟩ h
    · replace h := h.2 k10
      refine aw_aload_n dX12_names_45 rfl rfl ?_
      refine aw_getA' rfl fk_1228 (by decide) lf_X12_98 dX12_names_46 (LC.ne lc8 rfl rfl) ?_
      refine aw_iload dX12_names_49 rfl ?_
      refine aw_iaload (by decide) rfl dX12_names_51 c9 (LC.lt lc8 rfl rfl c9x) ?_
      refine aw_iconst (x := 3) dX12_names_52 rfl ?_
      refine aw_icmp_eq (tgt := 68) dX12_names_53 (by decide) (fun k11 => ?_) (fun k11 => ?_)
      · replace h := h.1 k11
        exact aw_fgt (L' := [some (vR 12 (some x0)), some (vI x1), some (vI x2), none, some (vI x4), some (vI v7), none]) ⟨rfl, ⟨rfl, ⟨rfl, ⟨rfl, ⟨rfl, trivial⟩⟩⟩⟩⟩ h
      · replace h := h.2 k11
        refine aw_aload_n dX12_names_56 rfl rfl ?_
        refine aw_getA' rfl fk_1228 (by decide) lf_X12_98 dX12_names_57 (LC.ne lc8 rfl rfl) ?_
        refine aw_iload dX12_names_60 rfl ?_
        refine aw_iaload (by decide) rfl dX12_names_62 c9 (LC.lt lc8 rfl rfl c9x) ?_
        refine aw_bipush (x := 8) dX12_names_63 rfl ?_
        refine aw_icmp_ne (tgt := 83) dX12_names_65 (by decide) (fun k12 => ?_) (fun k12 => ?_)
        · replace h := h.1 k12
          refine aw_iconst (x := 0) dX12_names_83 rfl ?_
          refine aw_ior dX12_names_84 ?_
          refine aw_istore_n (L' := [some (vR 12 (some x0)), some (vI x1), some (vI x2), some (vI (i_or x3 0)), some (vI x4), some (vI v7), none]) dX12_names_85 rfl (by decide) rfl ?_
          refine aw_iconst (x := 0) dX12_names_86 rfl ?_
          refine aw_istore (L' := [some (vR 12 (some x0)), some (vI x1), some (vI x2), some (vI (i_or x3 0)), some (vI x4), some (vI v7), some (vI 0)]) dX12_names_87 (by decide) rfl ?_
          exact aw_fgt (L' := [some (vR 12 (some x0)), some (vI x1), some (vI x2), some (vI (i_or x3 0)), some (vI x4), some (vI v7), some (vI 0)]) ⟨rfl, ⟨rfl, ⟨rfl, ⟨rfl, ⟨rfl, ⟨rfl, ⟨rfl, trivial⟩⟩⟩⟩⟩⟩⟩ h
        · replace h := h.2 k12
          exact aw_fgt (L' := [some (vR 12 (some x0)), some (vI x1), some (vI x2), none, some (vI x4), some (vI v7), none]) ⟨rfl, ⟨rfl, ⟨rfl, ⟨rfl, ⟨rfl, trivial⟩⟩⟩⟩⟩ h
set_option maxRecDepth 4000 in
theorem bk_X12_names_68 {g : GP} {l : Launch} {d : Nat} {σ : St} {Q : Option AV → St → Prop} {x0 : Nat} {x1 : Int} {x2 : Int} {x4 : Int} {x5 : Int} {y0 : Int}
    (h : LC 12 σ x0 ∧ Bd x5 560 ∧ ((¬ (gI σ 1231 x0 x5.toNat) = x2 → AW g l (d + 1) MX12_names 89 [some (vR 12 (some x0)), some (vI x1), some (vI x2), some (vI (i_or y0 0)), some (vI x4), some (vI x5), some (vI 0)] [] σ Q) ∧ ((gI σ 1231 x0 x5.toNat) = x2 → AW g l (d + 1) MX12_names 89 [some (vR 12 (some x0)), some (vI x1), some (vI x2), some (vI (i_or y0 1)), some (vI x4), some (vI x5), some (vI 0)] [] σ Q))) :
    AW g l (d + 1) MX12_names 68 [some (vR 12 (some x0)), some (vI x1), some (vI x2), none, some (vI x4), some (vI x5), none] [vI y0] σ Q := by
  refine aw_aload_n dX12_names_68 rfl rfl ?_
  obtain ⟨lc1, h⟩ := h
  refine aw_getA' rfl fk_1231 (by decide) lf_X12_107 dX12_names_69 (LC.ne lc1 rfl rfl) ?_
  refine aw_iload dX12_names_72 rfl ?_
  obtain ⟨⟨c2, c2x⟩, h⟩ := h
  refine aw_iaload (by decide) rfl dX12_names_74 c2 (LC.lt lc1 rfl rfl c2x) ?_
  refine aw_iload_n dX12_names_75 rfl rfl ?_
  refine aw_icmp_ne (tgt := 83) dX12_names_76 (by decide) (fun k3 => ?_) (fun k3 => ?_)
  · replace h := h.1 k3
    refine aw_iconst (x := 0) dX12_names_83 rfl ?_
    refine aw_ior dX12_names_84 ?_
    refine aw_istore_n (L' := [some (vR 12 (some x0)), some (vI x1), some (vI x2), some (vI (i_or y0 0)), some (vI x4), some (vI x5), none]) dX12_names_85 rfl (by decide) rfl ?_
    refine aw_iconst (x := 0) dX12_names_86 rfl ?_
    refine aw_istore (L' := [some (vR 12 (some x0)), some (vI x1), some (vI x2), some (vI (i_or y0 0)), some (vI x4), some (vI x5), some (vI 0)]) dX12_names_87 (by decide) rfl ?_
    exact aw_fgt (L' := [some (vR 12 (some x0)), some (vI x1), some (vI x2), some (vI (i_or y0 0)), some (vI x4), some (vI x5), some (vI 0)]) ⟨rfl, ⟨rfl, ⟨rfl, ⟨rfl, ⟨rfl, ⟨rfl, ⟨rfl, trivial⟩⟩⟩⟩⟩⟩⟩ h
  · replace h := h.2 k3
    refine aw_iconst (x := 1) dX12_names_79 rfl ?_
    refine aw_goto (tgt := 84) dX12_names_80 (by decide) ?_
    refine aw_ior dX12_names_84 ?_
    refine aw_istore_n (L' := [some (vR 12 (some x0)), some (vI x1), some (vI x2), some (vI (i_or y0 1)), some (vI x4), some (vI x5), none]) dX12_names_85 rfl (by decide) rfl ?_
    refine aw_iconst (x := 0) dX12_names_86 rfl ?_
    refine aw_istore (L' := [some (vR 12 (some x0)), some (vI x1), some (vI x2), some (vI (i_or y0 1)), some (vI x4), some (vI x5), some (vI 0)]) dX12_names_87 (by decide) rfl ?_
    exact aw_fgt (L' := [some (vR 12 (some x0)), some (vI x1), some (vI x2), some (vI (i_or y0 1)), some (vI x4), some (vI x5), some (vI 0)]) ⟨rfl, ⟨rfl, ⟨rfl, ⟨rfl, ⟨rfl, ⟨rfl, ⟨rfl, trivial⟩⟩⟩⟩⟩⟩⟩ h
set_option maxRecDepth 4000 in
theorem bk_X12_names_89 {g : GP} {l : Launch} {d : Nat} {σ : St} {Q : Option AV → St → Prop} {x0 : Nat} {x1 : Int} {x2 : Int} {x3 : Int} {x4 : Int} {x5 : Int} {x6 : Int}
    (h : LC 12 σ x0 ∧ Bd x5 560 ∧ ((¬ (gI σ 1228 x0 x5.toNat) = 7 → AW g l (d + 1) MX12_names 144 [some (vR 12 (some x0)), some (vI x1), some (vI x2), some (vI x3), some (vI x4), some (vI x5), none] [] σ Q) ∧ ((gI σ 1228 x0 x5.toNat) = 7 → (((gI σ 1237 x0 x5.toNat) ≤ x6 → AW g l (d + 1) MX12_names 144 [some (vR 12 (some x0)), some (vI x1), some (vI x2), some (vI x3), some (vI x4), some (vI x5), none] [] σ Q) ∧ (¬ (gI σ 1237 x0 x5.toNat) ≤ x6 → R32 (16 * x5) ∧ R32 ((16 * x5) + x6) ∧ Bd ((16 * x5) + x6) 8960 ∧ ((¬ (gI σ 1241 x0 ((16 * x5) + x6).toNat) = x2 → R32 (x6 + 1) ∧ AW g l (d + 1) MX12_names 89 [some (vR 12 (some x0)), some (vI x1), some (vI x2), some (vI (i_or x3 0)), some (vI x4), some (vI x5), some (vI (x6 + 1))] [] σ Q) ∧ ((gI σ 1241 x0 ((16 * x5) + x6).toNat) = x2 → R32 (x6 + 1) ∧ AW g l (d + 1) MX12_names 89 [some (vR 12 (some x0)), some (vI x1), some (vI x2), some (vI (i_or x3 1)), some (vI x4), some (vI x5), some (vI (x6 + 1))] [] σ Q))))))) :
    AW g l (d + 1) MX12_names 89 [some (vR 12 (some x0)), some (vI x1), some (vI x2), some (vI x3), some (vI x4), some (vI x5), some (vI x6)] [] σ Q := by
  refine aw_aload_n dX12_names_89 rfl rfl ?_
  obtain ⟨lc1, h⟩ := h
  refine aw_getA' rfl fk_1228 (by decide) lf_X12_98 dX12_names_90 (LC.ne lc1 rfl rfl) ?_
  refine aw_iload dX12_names_93 rfl ?_
  obtain ⟨⟨c2, c2x⟩, h⟩ := h
  refine aw_iaload (by decide) rfl dX12_names_95 c2 (LC.lt lc1 rfl rfl c2x) ?_
  refine aw_bipush (x := 7) dX12_names_96 rfl ?_
  refine aw_icmp_ne (tgt := 144) dX12_names_98 (by decide) (fun k3 => ?_) (fun k3 => ?_)
  · replace h := h.1 k3
    exact aw_fgt (L' := [some (vR 12 (some x0)), some (vI x1), some (vI x2), some (vI x3), some (vI x4), some (vI x5), none]) ⟨rfl, ⟨rfl, ⟨rfl, ⟨rfl, ⟨rfl, ⟨rfl, trivial⟩⟩⟩⟩⟩⟩ h
  · replace h := h.2 k3
    refine aw_iload dX12_names_101 rfl ?_
    refine aw_aload_n dX12_names_103 rfl rfl ?_
    refine aw_getA' rfl fk_1237 (by decide) lf_X12_125 dX12_names_104 (LC.ne lc1 rfl rfl) ?_
    refine aw_iload dX12_names_107 rfl ?_
    refine aw_iaload (by decide) rfl dX12_names_109 c2 (LC.lt lc1 rfl rfl c2x) ?_
    refine aw_icmp_ge (tgt := 144) dX12_names_110 (by decide) (fun k4 => ?_) (fun k4 => ?_)
    · replace h := h.1 k4
      exact aw_fgt (L' := [some (vR 12 (some x0)), some (vI x1), some (vI x2), some (vI x3), some (vI x4), some (vI x5), none]) ⟨rfl, ⟨rfl, ⟨rfl, ⟨rfl, ⟨rfl, ⟨rfl, trivial⟩⟩⟩⟩⟩⟩ h
    · replace h := h.2 k4
      refine aw_iload_n dX12_names_113 rfl rfl ?_
      refine aw_aload_n dX12_names_114 rfl rfl ?_
      refine aw_getA' rfl fk_1241 (by decide) lf_X12_137 dX12_names_115 (LC.ne lc1 rfl rfl) ?_
      refine aw_bipush (x := 16) dX12_names_118 rfl ?_
      refine aw_iload dX12_names_120 rfl ?_
      obtain ⟨⟨c5, c5x⟩, h⟩ := h
      refine aw_imulc dX12_names_122 c5 c5x ?_
      refine aw_iload dX12_names_123 rfl ?_
      obtain ⟨⟨c6, c6x⟩, h⟩ := h
      refine aw_iaddc dX12_names_125 c6 c6x ?_
      obtain ⟨⟨c7, c7x⟩, h⟩ := h
      refine aw_iaload (by decide) rfl dX12_names_126 c7 (LC.lt lc1 rfl rfl c7x) ?_
      refine aw_iload_n dX12_names_127 rfl rfl ?_
      refine aw_icmp_ne (tgt := 135) dX12_names_128 (by decide) (fun k8 => ?_) (fun k8 => ?_)
      · replace h := h.1 k8
        refine aw_iconst (x := 0) dX12_names_135 rfl ?_
        refine aw_ior dX12_names_136 ?_
        refine aw_istore_n (L' := [some (vR 12 (some x0)), some (vI x1), some (vI x2), some (vI (i_or x3 0)), some (vI x4), some (vI x5), some (vI x6)]) dX12_names_137 rfl (by decide) rfl ?_
        obtain ⟨⟨c9, c9x⟩, h⟩ := h
        refine aw_iincc (L' := [some (vR 12 (some x0)), some (vI x1), some (vI x2), some (vI (i_or x3 0)), some (vI x4), some (vI x5), some (vI (x6 + 1))]) dX12_names_138 rfl (by decide) rfl c9 c9x rfl ?_
        refine aw_goto (tgt := 89) dX12_names_141 (by decide) ?_
        exact aw_fgt (L' := [some (vR 12 (some x0)), some (vI x1), some (vI x2), some (vI (i_or x3 0)), some (vI x4), some (vI x5), some (vI (x6 + 1))]) ⟨rfl, ⟨rfl, ⟨rfl, ⟨rfl, ⟨rfl, ⟨rfl, ⟨rfl, trivial⟩⟩⟩⟩⟩⟩⟩ h
      · replace h := h.2 k8
        refine aw_iconst (x := 1) dX12_names_131 rfl ?_
        refine aw_goto (tgt := 136) dX12_names_132 (by decide) ?_
        refine aw_ior dX12_names_136 ?_
        refine aw_istore_n (L' := [some (vR 12 (some x0)), some (vI x1), some (vI x2), some (vI (i_or x3 1)), some (vI x4), some (vI x5), some (vI x6)]) dX12_names_137 rfl (by decide) rfl ?_
        obtain ⟨⟨c10, c10x⟩, h⟩ := h
        refine aw_iincc (L' := [some (vR 12 (some x0)), some (vI x1), some (vI x2), some (vI (i_or x3 1)), some (vI x4), some (vI x5), some (vI (x6 + 1))]) dX12_names_138 rfl (by decide) rfl c10 c10x rfl ?_
        refine aw_goto (tgt := 89) dX12_names_141 (by decide) ?_
        exact aw_fgt (L' := [some (vR 12 (some x0)), some (vI x1), some (vI x2), some (vI (i_or x3 1)), some (vI x4), some (vI x5), some (vI (x6 + 1))]) ⟨rfl, ⟨rfl, ⟨rfl, ⟨rfl, ⟨rfl, ⟨rfl, ⟨rfl, trivial⟩⟩⟩⟩⟩⟩⟩ h
set_option maxRecDepth 4000 in
theorem bk_X12_names_144 {g : GP} {l : Launch} {d : Nat} {σ : St} {Q : Option AV → St → Prop} {x0 : Nat} {x1 : Int} {x2 : Int} {x3 : Int} {x4 : Int} {x5 : Int}
    (h : LC 12 σ x0 ∧ Bd x5 560 ∧ ((¬ (gI σ 1228 x0 x5.toNat) = 7 → R32 (x4 + 1) ∧ AW g l (d + 1) MX12_names 5 [some (vR 12 (some x0)), some (vI x1), some (vI x2), some (vI (i_or x3 0)), some (vI (x4 + 1)), none, none] [] σ Q) ∧ ((gI σ 1228 x0 x5.toNat) = 7 → ((¬ (gI σ 1236 x0 x5.toNat) = x2 → R32 (x4 + 1) ∧ AW g l (d + 1) MX12_names 5 [some (vR 12 (some x0)), some (vI x1), some (vI x2), some (vI (i_or x3 0)), some (vI (x4 + 1)), none, none] [] σ Q) ∧ ((gI σ 1236 x0 x5.toNat) = x2 → R32 (x4 + 1) ∧ AW g l (d + 1) MX12_names 5 [some (vR 12 (some x0)), some (vI x1), some (vI x2), some (vI (i_or x3 1)), some (vI (x4 + 1)), none, none] [] σ Q))))) :
    AW g l (d + 1) MX12_names 144 [some (vR 12 (some x0)), some (vI x1), some (vI x2), some (vI x3), some (vI x4), some (vI x5), none] [] σ Q := by
  refine aw_iload_n dX12_names_144 rfl rfl ?_
  refine aw_aload_n dX12_names_145 rfl rfl ?_
  obtain ⟨lc1, h⟩ := h
  refine aw_getA' rfl fk_1228 (by decide) lf_X12_98 dX12_names_146 (LC.ne lc1 rfl rfl) ?_
  refine aw_iload dX12_names_149 rfl ?_
  obtain ⟨⟨c2, c2x⟩, h⟩ := h
  refine aw_iaload (by decide) rfl dX12_names_151 c2 (LC.lt lc1 rfl rfl c2x) ?_
  refine aw_bipush (x := 7) dX12_names_152 rfl ?_
  refine aw_icmp_ne (tgt := 172) dX12_names_154 (by decide) (fun k3 => ?_) (fun k3 => ?_)
  · replace h := h.1 k3
    refine aw_iconst (x := 0) dX12_names_172 rfl ?_
    refine aw_ior dX12_names_173 ?_
    refine aw_istore_n (L' := [some (vR 12 (some x0)), some (vI x1), some (vI x2), some (vI (i_or x3 0)), some (vI x4), some (vI x5), none]) dX12_names_174 rfl (by decide) rfl ?_
    obtain ⟨⟨c4, c4x⟩, h⟩ := h
    refine aw_iincc (L' := [some (vR 12 (some x0)), some (vI x1), some (vI x2), some (vI (i_or x3 0)), some (vI (x4 + 1)), some (vI x5), none]) dX12_names_175 rfl (by decide) rfl c4 c4x rfl ?_
    refine aw_goto (tgt := 5) dX12_names_178 (by decide) ?_
    exact aw_fgt (L' := [some (vR 12 (some x0)), some (vI x1), some (vI x2), some (vI (i_or x3 0)), some (vI (x4 + 1)), none, none]) ⟨rfl, ⟨rfl, ⟨rfl, ⟨rfl, ⟨rfl, trivial⟩⟩⟩⟩⟩ h
  · replace h := h.2 k3
    refine aw_aload_n dX12_names_157 rfl rfl ?_
    refine aw_getA' rfl fk_1236 (by decide) lf_X12_122 dX12_names_158 (LC.ne lc1 rfl rfl) ?_
    refine aw_iload dX12_names_161 rfl ?_
    refine aw_iaload (by decide) rfl dX12_names_163 c2 (LC.lt lc1 rfl rfl c2x) ?_
    refine aw_iload_n dX12_names_164 rfl rfl ?_
    refine aw_icmp_ne (tgt := 172) dX12_names_165 (by decide) (fun k5 => ?_) (fun k5 => ?_)
    · replace h := h.1 k5
      refine aw_iconst (x := 0) dX12_names_172 rfl ?_
      refine aw_ior dX12_names_173 ?_
      refine aw_istore_n (L' := [some (vR 12 (some x0)), some (vI x1), some (vI x2), some (vI (i_or x3 0)), some (vI x4), some (vI x5), none]) dX12_names_174 rfl (by decide) rfl ?_
      obtain ⟨⟨c6, c6x⟩, h⟩ := h
      refine aw_iincc (L' := [some (vR 12 (some x0)), some (vI x1), some (vI x2), some (vI (i_or x3 0)), some (vI (x4 + 1)), some (vI x5), none]) dX12_names_175 rfl (by decide) rfl c6 c6x rfl ?_
      refine aw_goto (tgt := 5) dX12_names_178 (by decide) ?_
      exact aw_fgt (L' := [some (vR 12 (some x0)), some (vI x1), some (vI x2), some (vI (i_or x3 0)), some (vI (x4 + 1)), none, none]) ⟨rfl, ⟨rfl, ⟨rfl, ⟨rfl, ⟨rfl, trivial⟩⟩⟩⟩⟩ h
    · replace h := h.2 k5
      refine aw_iconst (x := 1) dX12_names_168 rfl ?_
      refine aw_goto (tgt := 173) dX12_names_169 (by decide) ?_
      refine aw_ior dX12_names_173 ?_
      refine aw_istore_n (L' := [some (vR 12 (some x0)), some (vI x1), some (vI x2), some (vI (i_or x3 1)), some (vI x4), some (vI x5), none]) dX12_names_174 rfl (by decide) rfl ?_
      obtain ⟨⟨c7, c7x⟩, h⟩ := h
      refine aw_iincc (L' := [some (vR 12 (some x0)), some (vI x1), some (vI x2), some (vI (i_or x3 1)), some (vI (x4 + 1)), some (vI x5), none]) dX12_names_175 rfl (by decide) rfl c7 c7x rfl ?_
      refine aw_goto (tgt := 5) dX12_names_178 (by decide) ?_
      exact aw_fgt (L' := [some (vR 12 (some x0)), some (vI x1), some (vI x2), some (vI (i_or x3 1)), some (vI (x4 + 1)), none, none]) ⟨rfl, ⟨rfl, ⟨rfl, ⟨rfl, ⟨rfl, trivial⟩⟩⟩⟩⟩ h
set_option maxRecDepth 4000 in
theorem bk_X12_next_0 {g : GP} {l : Launch} {d : Nat} {σ : St} {Q : Option AV → St → Prop} {x0 : Nat}
    (h : AW g l (d + 1) MX12_next 8 [some (vR 12 (some x0)), none, none] [] (sI σ 1214 x0 0 (gI σ 1215 x0 0)) Q) :
    AW g l (d + 1) MX12_next 0 [some (vR 12 (some x0)), none, none] [] σ Q := by
  refine aw_aload_n dX12_next_0 rfl rfl ?_
  refine aw_aload_n dX12_next_1 rfl rfl ?_
  refine aw_getI' rfl fk_1215 lf_X12_57 dX12_next_2 ?_
  refine aw_putI' rfl fk_1214 (Or.inl rfl) lf_X12_54 dX12_next_5 ?_
  exact aw_fgt (L' := [some (vR 12 (some x0)), none, none]) ⟨rfl, trivial⟩ h
set_option maxRecDepth 4000 in
theorem bk_X12_next_8 {g : GP} {l : Launch} {d : Nat} {σ : St} {Q : Option AV → St → Prop} {x0 : Nat}
    (h : (((gI σ 1211 x0 0) ≤ (gI σ 1214 x0 0) → AW g l (d + 1) MX12_next 60 [some (vR 12 (some x0)), none, none] [] σ Q) ∧ (¬ (gI σ 1211 x0 0) ≤ (gI σ 1214 x0 0) → LC 12 σ x0 ∧ Bd (gI σ 1214 x0 0) 3000 ∧ (((gI σ 1210 x0 (gI σ 1214 x0 0).toNat) = 32 → R32 ((gI σ 1214 x0 0) + 1) ∧ AW g l (d + 1) MX12_next 8 [some (vR 12 (some x0)), none, none] [] (sI σ 1214 x0 0 ((gI σ 1214 x0 0) + 1)) Q) ∧ (¬ (gI σ 1210 x0 (gI σ 1214 x0 0).toNat) = 32 → ((¬ (gI σ 1210 x0 (gI σ 1214 x0 0).toNat) = 10 → AW g l (d + 1) MX12_next 60 [some (vR 12 (some x0)), none, none] [] σ Q) ∧ ((gI σ 1210 x0 (gI σ 1214 x0 0).toNat) = 10 → R32 ((gI σ 1214 x0 0) + 1) ∧ AW g l (d + 1) MX12_next 8 [some (vR 12 (some x0)), none, none] [] (sI σ 1214 x0 0 ((gI σ 1214 x0 0) + 1)) Q))))))) :
    AW g l (d + 1) MX12_next 8 [some (vR 12 (some x0)), none, none] [] σ Q := by
  refine aw_aload_n dX12_next_8 rfl rfl ?_
  refine aw_getI' rfl fk_1214 lf_X12_54 dX12_next_9 ?_
  refine aw_aload_n dX12_next_12 rfl rfl ?_
  refine aw_getI' rfl fk_1211 lf_X12_45 dX12_next_13 ?_
  refine aw_icmp_ge (tgt := 60) dX12_next_16 (by decide) (fun k1 => ?_) (fun k1 => ?_)
  · replace h := h.1 k1
    exact aw_fgt (L' := [some (vR 12 (some x0)), none, none]) ⟨rfl, trivial⟩ h
  · replace h := h.2 k1
    refine aw_aload_n dX12_next_19 rfl rfl ?_
    obtain ⟨lc2, h⟩ := h
    refine aw_getA' rfl fk_1210 (by decide) lf_X12_42 dX12_next_20 (LC.ne lc2 rfl rfl) ?_
    refine aw_aload_n dX12_next_23 rfl rfl ?_
    refine aw_getI' rfl fk_1214 lf_X12_54 dX12_next_24 ?_
    obtain ⟨⟨c3, c3x⟩, h⟩ := h
    refine aw_iaload (by decide) rfl dX12_next_27 c3 (LC.lt lc2 rfl rfl c3x) ?_
    refine aw_bipush (x := 32) dX12_next_28 rfl ?_
    refine aw_icmp_eq (tgt := 47) dX12_next_30 (by decide) (fun k4 => ?_) (fun k4 => ?_)
    · replace h := h.1 k4
      refine aw_aload_n dX12_next_47 rfl rfl ?_
      refine aw_dup dX12_next_48 rfl ?_
      refine aw_getI' rfl fk_1214 lf_X12_54 dX12_next_49 ?_
      refine aw_iconst (x := 1) dX12_next_52 rfl ?_
      obtain ⟨⟨c5, c5x⟩, h⟩ := h
      refine aw_iaddc dX12_next_53 c5 c5x ?_
      refine aw_putI' rfl fk_1214 (Or.inl rfl) lf_X12_54 dX12_next_54 ?_
      refine aw_goto (tgt := 8) dX12_next_57 (by decide) ?_
      exact aw_fgt (L' := [some (vR 12 (some x0)), none, none]) ⟨rfl, trivial⟩ h
    · replace h := h.2 k4
      refine aw_aload_n dX12_next_33 rfl rfl ?_
      refine aw_getA' rfl fk_1210 (by decide) lf_X12_42 dX12_next_34 (LC.ne lc2 rfl rfl) ?_
      refine aw_aload_n dX12_next_37 rfl rfl ?_
      refine aw_getI' rfl fk_1214 lf_X12_54 dX12_next_38 ?_
      refine aw_iaload (by decide) rfl dX12_next_41 c3 (LC.lt lc2 rfl rfl c3x) ?_
      refine aw_bipush (x := 10) dX12_next_42 rfl ?_
      refine aw_icmp_ne (tgt := 60) dX12_next_44 (by decide) (fun k6 => ?_) (fun k6 => ?_)
      · replace h := h.1 k6
        exact aw_fgt (L' := [some (vR 12 (some x0)), none, none]) ⟨rfl, trivial⟩ h
      · replace h := h.2 k6
        refine aw_aload_n dX12_next_47 rfl rfl ?_
        refine aw_dup dX12_next_48 rfl ?_
        refine aw_getI' rfl fk_1214 lf_X12_54 dX12_next_49 ?_
        refine aw_iconst (x := 1) dX12_next_52 rfl ?_
        obtain ⟨⟨c7, c7x⟩, h⟩ := h
        refine aw_iaddc dX12_next_53 c7 c7x ?_
        refine aw_putI' rfl fk_1214 (Or.inl rfl) lf_X12_54 dX12_next_54 ?_
        refine aw_goto (tgt := 8) dX12_next_57 (by decide) ?_
        exact aw_fgt (L' := [some (vR 12 (some x0)), none, none]) ⟨rfl, trivial⟩ h
set_option maxRecDepth 4000 in
theorem bk_X12_next_60 {g : GP} {l : Launch} {d : Nat} {σ : St} {Q : Option AV → St → Prop} {x0 : Nat}
    (h : ACi g l d MX12_tapeAt [vR 12 (some x0), vI (gI σ 1214 x0 0)] (sI σ 1215 x0 0 (gI σ 1214 x0 0)) (fun v2 σ1 => (((gI σ1 1214 x0 0) < (gI σ1 1211 x0 0) → ACi g l d MX12_letter [vR 12 (some x0), vI v2] σ1 (fun v5 σ4 => ((¬ v5 = 0 → AW g l (d + 1) MX12_next 112 [some (vR 12 (some x0)), some (vI v2), none] [] σ4 Q) ∧ (v5 = 0 → ACi g l d MX12_digit [vR 12 (some x0), vI v2] σ4 (fun v8 σ7 => ((v8 = 0 → R32 ((gI σ7 1215 x0 0) + 1) ∧ ACi g l d MX12_sign [vR 12 (some x0), vI v2] (sI σ7 1215 x0 0 ((gI σ7 1215 x0 0) + 1)) (fun v12 σ11 => ((v12 = 0 → Q none (sJ (sI σ11 1213 x0 0 4) 1217 x0 0 (i2j v2))) ∧ (¬ v12 = 0 → Q none (sJ (sI σ11 1213 x0 0 3) 1217 x0 0 (i2j v2)))))) ∧ (¬ v8 = 0 → AW g l (d + 1) MX12_next 112 [some (vR 12 (some x0)), some (vI v2), none] [] σ7 Q))))))) ∧ (¬ (gI σ1 1214 x0 0) < (gI σ1 1211 x0 0) → Q none (sI σ1 1213 x0 0 0))))) :
    AW g l (d + 1) MX12_next 60 [some (vR 12 (some x0)), none, none] [] σ Q := by
  refine aw_aload_n dX12_next_60 rfl rfl ?_
  refine aw_aload_n dX12_next_61 rfl rfl ?_
  refine aw_getI' rfl fk_1214 lf_X12_54 dX12_next_62 ?_
  refine aw_putI' rfl fk_1215 (Or.inl rfl) lf_X12_57 dX12_next_65 ?_
  refine aw_aload_n dX12_next_68 rfl rfl ?_
  refine aw_aload_n dX12_next_69 rfl rfl ?_
  refine aw_getIe (v := gI σ 1214 x0 0) rfl fk_1214 lf_X12_54 dX12_next_70 rfl ?_
  refine aw_invVi (M := MX12_next) (ci := 12) [vI (gI σ 1214 x0 0)] rfl mo_X12_tapeAt rfl lm_X12_311 li_X12_tapeAt ls_X12_tapeAt (by decide +kernel) dX12_next_73 rfl (Nat.le_of_ble_eq_true rfl) (ACi.mono (fun v2 σ1 h => ?_) h)
  refine aw_istore_n (L' := [some (vR 12 (some x0)), some (vI v2), none]) dX12_next_76 rfl (by decide) rfl ?_
  refine aw_aload_n dX12_next_77 rfl rfl ?_
  refine aw_getI' rfl fk_1214 lf_X12_54 dX12_next_78 ?_
  refine aw_aload_n dX12_next_81 rfl rfl ?_
  refine aw_getI' rfl fk_1211 lf_X12_45 dX12_next_82 ?_
  refine aw_icmp_lt (tgt := 96) dX12_next_85 (by decide) (fun k3 => ?_) (fun k3 => ?_)
  · replace h := h.1 k3
    refine aw_aload_n dX12_next_96 rfl rfl ?_
    refine aw_iload_n dX12_next_97 rfl rfl ?_
    refine aw_invVi (M := MX12_next) (ci := 12) [vI v2] rfl mo_X12_letter rfl lm_X12_315 li_X12_letter ls_X12_letter (by decide +kernel) dX12_next_98 rfl (Nat.le_of_ble_eq_true rfl) (ACi.mono (fun v5 σ4 h => ?_) h)
    refine aw_if_ne (tgt := 112) dX12_next_101 (by decide) (fun k6 => ?_) (fun k6 => ?_)
    · replace h := h.1 k6
      exact aw_fgt (L' := [some (vR 12 (some x0)), some (vI v2), none]) ⟨rfl, ⟨rfl, trivial⟩⟩ h
    · replace h := h.2 k6
      refine aw_aload_n dX12_next_104 rfl rfl ?_
      refine aw_iload_n dX12_next_105 rfl rfl ?_
      refine aw_invVi (M := MX12_next) (ci := 12) [vI v2] rfl mo_X12_digit rfl lm_X12_318 li_X12_digit ls_X12_digit (by decide +kernel) dX12_next_106 rfl (Nat.le_of_ble_eq_true rfl) (ACi.mono (fun v8 σ7 h => ?_) h)
      refine aw_if_eq (tgt := 259) dX12_next_109 (by decide) (fun k9 => ?_) (fun k9 => ?_)
      · replace h := h.1 k9
        refine aw_aload_n dX12_next_259 rfl rfl ?_
        refine aw_dup dX12_next_260 rfl ?_
        refine aw_getI' rfl fk_1215 lf_X12_57 dX12_next_261 ?_
        refine aw_iconst (x := 1) dX12_next_264 rfl ?_
        obtain ⟨⟨c10, c10x⟩, h⟩ := h
        refine aw_iaddc dX12_next_265 c10 c10x ?_
        refine aw_putI' rfl fk_1215 (Or.inl rfl) lf_X12_57 dX12_next_266 ?_
        refine aw_aload_n dX12_next_269 rfl rfl ?_
        refine aw_aload_n dX12_next_270 rfl rfl ?_
        refine aw_iload_n dX12_next_271 rfl rfl ?_
        refine aw_invVi (M := MX12_next) (ci := 12) [vI v2] rfl mo_X12_sign rfl lm_X12_325 li_X12_sign ls_X12_sign (by decide +kernel) dX12_next_272 rfl (Nat.le_of_ble_eq_true rfl) (ACi.mono (fun v12 σ11 h => ?_) h)
        refine aw_if_eq (tgt := 282) dX12_next_275 (by decide) (fun k13 => ?_) (fun k13 => ?_)
        · replace h := h.1 k13
          refine aw_iconst (x := 4) dX12_next_282 rfl ?_
          refine aw_putI' rfl fk_1213 (Or.inl rfl) lf_X12_51 dX12_next_283 ?_
          refine aw_aload_n dX12_next_286 rfl rfl ?_
          refine aw_iload_n dX12_next_287 rfl rfl ?_
          refine aw_i2l dX12_next_288 ?_
          refine aw_putJ' rfl fk_1217 (Or.inl rfl) lf_X12_64 dX12_next_289 ?_
          exact aw_ret h rfl dX12_next_292
        · replace h := h.2 k13
          refine aw_iconst (x := 3) dX12_next_278 rfl ?_
          refine aw_goto (tgt := 283) dX12_next_279 (by decide) ?_
          refine aw_putI' rfl fk_1213 (Or.inl rfl) lf_X12_51 dX12_next_283 ?_
          refine aw_aload_n dX12_next_286 rfl rfl ?_
          refine aw_iload_n dX12_next_287 rfl rfl ?_
          refine aw_i2l dX12_next_288 ?_
          refine aw_putJ' rfl fk_1217 (Or.inl rfl) lf_X12_64 dX12_next_289 ?_
          exact aw_ret h rfl dX12_next_292
      · replace h := h.2 k9
        exact aw_fgt (L' := [some (vR 12 (some x0)), some (vI v2), none]) ⟨rfl, ⟨rfl, trivial⟩⟩ h
  · replace h := h.2 k3
    refine aw_aload_n dX12_next_88 rfl rfl ?_
    refine aw_iconst (x := 0) dX12_next_89 rfl ?_
    refine aw_putI' rfl fk_1213 (Or.inl rfl) lf_X12_51 dX12_next_90 ?_
    refine aw_goto (tgt := 292) dX12_next_93 (by decide) ?_
    exact aw_ret h rfl dX12_next_292
set_option maxRecDepth 4000 in
theorem bk_X12_next_112 {g : GP} {l : Launch} {d : Nat} {σ : St} {Q : Option AV → St → Prop} {x0 : Nat} {x1 : Int}
    (h : ACi g l d MX12_tapeAt [vR 12 (some x0), vI (gI σ 1215 x0 0)] σ (fun v2 σ1 => ACi g l d MX12_letter [vR 12 (some x0), vI v2] σ1 (fun v4 σ3 => ((¬ v4 = 0 → R32 ((gI σ3 1215 x0 0) + 1) ∧ AW g l (d + 1) MX12_next 112 [some (vR 12 (some x0)), some (vI x1), none] [] (sI σ3 1215 x0 0 ((gI σ3 1215 x0 0) + 1)) Q) ∧ (v4 = 0 → ACi g l d MX12_tapeAt [vR 12 (some x0), vI (gI σ3 1215 x0 0)] σ3 (fun v8 σ7 => ACi g l d MX12_digit [vR 12 (some x0), vI v8] σ7 (fun v10 σ9 => ((v10 = 0 → ACi g l d MX12_letter [vR 12 (some x0), vI x1] σ9 (fun v13 σ12 => ((v13 = 0 → ACi g l d MX12_numeral [vR 12 (some x0)] σ12 (fun v16 σ15 => ((v16 = 0 → AW g l (d + 1) MX12_next 215 [some (vR 12 (some x0)), none, some (vI (gI σ15 1214 x0 0))] [] (sJ (sI σ15 1213 x0 0 4) 1216 x0 0 0) Q) ∧ (¬ v16 = 0 → AW g l (d + 1) MX12_next 215 [some (vR 12 (some x0)), none, some (vI (gI σ15 1214 x0 0))] [] (sJ (sI σ15 1213 x0 0 2) 1216 x0 0 0) Q)))) ∧ (¬ v13 = 0 → R32 ((gI σ12 1215 x0 0) - (gI σ12 1214 x0 0)) ∧ ((((gI σ12 1215 x0 0) - (gI σ12 1214 x0 0)) ≤ 8 → AW g l (d + 1) MX12_next 215 [some (vR 12 (some x0)), none, some (vI (gI σ12 1214 x0 0))] [] (sJ (sI σ12 1213 x0 0 1) 1216 x0 0 0) Q) ∧ (¬ ((gI σ12 1215 x0 0) - (gI σ12 1214 x0 0)) ≤ 8 → AW g l (d + 1) MX12_next 215 [some (vR 12 (some x0)), none, some (vI (gI σ12 1214 x0 0))] [] (sJ (sI σ12 1213 x0 0 4) 1216 x0 0 0) Q)))))) ∧ (¬ v10 = 0 → R32 ((gI σ9 1215 x0 0) + 1) ∧ AW g l (d + 1) MX12_next 112 [some (vR 12 (some x0)), some (vI x1), none] [] (sI σ9 1215 x0 0 ((gI σ9 1215 x0 0) + 1)) Q))))))))) :
    AW g l (d + 1) MX12_next 112 [some (vR 12 (some x0)), some (vI x1), none] [] σ Q := by
  refine aw_aload_n dX12_next_112 rfl rfl ?_
  refine aw_aload_n dX12_next_113 rfl rfl ?_
  refine aw_aload_n dX12_next_114 rfl rfl ?_
  refine aw_getI' rfl fk_1215 lf_X12_57 dX12_next_115 ?_
  refine aw_invVi (M := MX12_next) (ci := 12) [vI (gI σ 1215 x0 0)] rfl mo_X12_tapeAt rfl lm_X12_311 li_X12_tapeAt ls_X12_tapeAt (by decide +kernel) dX12_next_118 rfl (Nat.le_of_ble_eq_true rfl) (ACi.mono (fun v2 σ1 h => ?_) h)
  refine aw_invVi (M := MX12_next) (ci := 12) [vI v2] rfl mo_X12_letter rfl lm_X12_315 li_X12_letter ls_X12_letter (by decide +kernel) dX12_next_121 rfl (Nat.le_of_ble_eq_true rfl) (ACi.mono (fun v4 σ3 h => ?_) h)
  refine aw_if_ne (tgt := 142) dX12_next_124 (by decide) (fun k5 => ?_) (fun k5 => ?_)
  · replace h := h.1 k5
    refine aw_aload_n dX12_next_142 rfl rfl ?_
    refine aw_dup dX12_next_143 rfl ?_
    refine aw_getI' rfl fk_1215 lf_X12_57 dX12_next_144 ?_
    refine aw_iconst (x := 1) dX12_next_147 rfl ?_
    obtain ⟨⟨c6, c6x⟩, h⟩ := h
    refine aw_iaddc dX12_next_148 c6 c6x ?_
    refine aw_putI' rfl fk_1215 (Or.inl rfl) lf_X12_57 dX12_next_149 ?_
    refine aw_goto (tgt := 112) dX12_next_152 (by decide) ?_
    exact aw_fgt (L' := [some (vR 12 (some x0)), some (vI x1), none]) ⟨rfl, ⟨rfl, trivial⟩⟩ h
  · replace h := h.2 k5
    refine aw_aload_n dX12_next_127 rfl rfl ?_
    refine aw_aload_n dX12_next_128 rfl rfl ?_
    refine aw_aload_n dX12_next_129 rfl rfl ?_
    refine aw_getI' rfl fk_1215 lf_X12_57 dX12_next_130 ?_
    refine aw_invVi (M := MX12_next) (ci := 12) [vI (gI σ3 1215 x0 0)] rfl mo_X12_tapeAt rfl lm_X12_311 li_X12_tapeAt ls_X12_tapeAt (by decide +kernel) dX12_next_133 rfl (Nat.le_of_ble_eq_true rfl) (ACi.mono (fun v8 σ7 h => ?_) h)
    refine aw_invVi (M := MX12_next) (ci := 12) [vI v8] rfl mo_X12_digit rfl lm_X12_318 li_X12_digit ls_X12_digit (by decide +kernel) dX12_next_136 rfl (Nat.le_of_ble_eq_true rfl) (ACi.mono (fun v10 σ9 h => ?_) h)
    refine aw_if_eq (tgt := 155) dX12_next_139 (by decide) (fun k11 => ?_) (fun k11 => ?_)
    · replace h := h.1 k11
      refine aw_aload_n dX12_next_155 rfl rfl ?_
      refine aw_iload_n dX12_next_156 rfl rfl ?_
      refine aw_invVi (M := MX12_next) (ci := 12) [vI x1] rfl mo_X12_letter rfl lm_X12_315 li_X12_letter ls_X12_letter (by decide +kernel) dX12_next_157 rfl (Nat.le_of_ble_eq_true rfl) (ACi.mono (fun v13 σ12 h => ?_) h)
      refine aw_if_eq (tgt := 189) dX12_next_160 (by decide) (fun k14 => ?_) (fun k14 => ?_)
      · replace h := h.1 k14
        refine aw_aload_n dX12_next_189 rfl rfl ?_
        refine aw_aload_n dX12_next_190 rfl rfl ?_
        refine aw_invVi (M := MX12_next) (ci := 12) [] rfl mo_X12_numeral rfl lm_X12_321 li_X12_numeral ls_X12_numeral (by decide +kernel) dX12_next_191 rfl (Nat.le_of_ble_eq_true rfl) (ACi.mono (fun v16 σ15 h => ?_) h)
        refine aw_if_eq (tgt := 201) dX12_next_194 (by decide) (fun k17 => ?_) (fun k17 => ?_)
        · replace h := h.1 k17
          refine aw_iconst (x := 4) dX12_next_201 rfl ?_
          refine aw_putI' rfl fk_1213 (Or.inl rfl) lf_X12_51 dX12_next_202 ?_
          refine aw_aload_n dX12_next_205 rfl rfl ?_
          refine aw_lconst (x := 0) dX12_next_206 rfl ?_
          refine aw_putJ' rfl fk_1216 (Or.inl rfl) lf_X12_60 dX12_next_207 ?_
          refine aw_aload_n dX12_next_210 rfl rfl ?_
          refine aw_getIe (v := gI σ15 1214 x0 0) rfl fk_1214 lf_X12_54 dX12_next_211 rfl ?_
          refine aw_istore_n (L' := [some (vR 12 (some x0)), some (vI x1), some (vI (gI σ15 1214 x0 0))]) dX12_next_214 rfl (by decide) rfl ?_
          exact aw_fgt (L' := [some (vR 12 (some x0)), none, some (vI (gI σ15 1214 x0 0))]) ⟨rfl, ⟨rfl, trivial⟩⟩ h
        · replace h := h.2 k17
          refine aw_iconst (x := 2) dX12_next_197 rfl ?_
          refine aw_goto (tgt := 202) dX12_next_198 (by decide) ?_
          refine aw_putI' rfl fk_1213 (Or.inl rfl) lf_X12_51 dX12_next_202 ?_
          refine aw_aload_n dX12_next_205 rfl rfl ?_
          refine aw_lconst (x := 0) dX12_next_206 rfl ?_
          refine aw_putJ' rfl fk_1216 (Or.inl rfl) lf_X12_60 dX12_next_207 ?_
          refine aw_aload_n dX12_next_210 rfl rfl ?_
          refine aw_getIe (v := gI σ15 1214 x0 0) rfl fk_1214 lf_X12_54 dX12_next_211 rfl ?_
          refine aw_istore_n (L' := [some (vR 12 (some x0)), some (vI x1), some (vI (gI σ15 1214 x0 0))]) dX12_next_214 rfl (by decide) rfl ?_
          exact aw_fgt (L' := [some (vR 12 (some x0)), none, some (vI (gI σ15 1214 x0 0))]) ⟨rfl, ⟨rfl, trivial⟩⟩ h
      · replace h := h.2 k14
        refine aw_aload_n dX12_next_163 rfl rfl ?_
        refine aw_aload_n dX12_next_164 rfl rfl ?_
        refine aw_getI' rfl fk_1215 lf_X12_57 dX12_next_165 ?_
        refine aw_aload_n dX12_next_168 rfl rfl ?_
        refine aw_getI' rfl fk_1214 lf_X12_54 dX12_next_169 ?_
        obtain ⟨⟨c18, c18x⟩, h⟩ := h
        refine aw_isubc dX12_next_172 c18 c18x ?_
        refine aw_bipush (x := 8) dX12_next_173 rfl ?_
        refine aw_icmp_le (tgt := 182) dX12_next_175 (by decide) (fun k19 => ?_) (fun k19 => ?_)
        · replace h := h.1 k19
          refine aw_iconst (x := 1) dX12_next_182 rfl ?_
          refine aw_putI' rfl fk_1213 (Or.inl rfl) lf_X12_51 dX12_next_183 ?_
          refine aw_goto (tgt := 205) dX12_next_186 (by decide) ?_
          refine aw_aload_n dX12_next_205 rfl rfl ?_
          refine aw_lconst (x := 0) dX12_next_206 rfl ?_
          refine aw_putJ' rfl fk_1216 (Or.inl rfl) lf_X12_60 dX12_next_207 ?_
          refine aw_aload_n dX12_next_210 rfl rfl ?_
          refine aw_getIe (v := gI σ12 1214 x0 0) rfl fk_1214 lf_X12_54 dX12_next_211 rfl ?_
          refine aw_istore_n (L' := [some (vR 12 (some x0)), some (vI x1), some (vI (gI σ12 1214 x0 0))]) dX12_next_214 rfl (by decide) rfl ?_
          exact aw_fgt (L' := [some (vR 12 (some x0)), none, some (vI (gI σ12 1214 x0 0))]) ⟨rfl, ⟨rfl, trivial⟩⟩ h
        · replace h := h.2 k19
          refine aw_iconst (x := 4) dX12_next_178 rfl ?_
          refine aw_goto (tgt := 183) dX12_next_179 (by decide) ?_
          refine aw_putI' rfl fk_1213 (Or.inl rfl) lf_X12_51 dX12_next_183 ?_
          refine aw_goto (tgt := 205) dX12_next_186 (by decide) ?_
          refine aw_aload_n dX12_next_205 rfl rfl ?_
          refine aw_lconst (x := 0) dX12_next_206 rfl ?_
          refine aw_putJ' rfl fk_1216 (Or.inl rfl) lf_X12_60 dX12_next_207 ?_
          refine aw_aload_n dX12_next_210 rfl rfl ?_
          refine aw_getIe (v := gI σ12 1214 x0 0) rfl fk_1214 lf_X12_54 dX12_next_211 rfl ?_
          refine aw_istore_n (L' := [some (vR 12 (some x0)), some (vI x1), some (vI (gI σ12 1214 x0 0))]) dX12_next_214 rfl (by decide) rfl ?_
          exact aw_fgt (L' := [some (vR 12 (some x0)), none, some (vI (gI σ12 1214 x0 0))]) ⟨rfl, ⟨rfl, trivial⟩⟩ h
    · replace h := h.2 k11
      refine aw_aload_n dX12_next_142 rfl rfl ?_
      refine aw_dup dX12_next_143 rfl ?_
      refine aw_getI' rfl fk_1215 lf_X12_57 dX12_next_144 ?_
      refine aw_iconst (x := 1) dX12_next_147 rfl ?_
      obtain ⟨⟨c20, c20x⟩, h⟩ := h
      refine aw_iaddc dX12_next_148 c20 c20x ?_
      refine aw_putI' rfl fk_1215 (Or.inl rfl) lf_X12_57 dX12_next_149 ?_
      refine aw_goto (tgt := 112) dX12_next_152 (by decide) ?_
      exact aw_fgt (L' := [some (vR 12 (some x0)), some (vI x1), none]) ⟨rfl, ⟨rfl, trivial⟩⟩ h
set_option maxRecDepth 4000 in
theorem bk_X12_next_215 {g : GP} {l : Launch} {d : Nat} {σ : St} {Q : Option AV → St → Prop} {x0 : Nat} {x2 : Int}
    (h : (((gI σ 1215 x0 0) ≤ x2 → Q none σ) ∧ (¬ (gI σ 1215 x0 0) ≤ x2 → ((¬ (gI σ 1213 x0 0) = 1 → Q none σ) ∧ ((gI σ 1213 x0 0) = 1 → LC 12 σ x0 ∧ Bd x2 3000 ∧ R32 (x2 + 1) ∧ AW g l (d + 1) MX12_next 215 [some (vR 12 (some x0)), none, some (vI (x2 + 1))] [] (sJ σ 1216 x0 0 ((j_shl (gJ σ 1216 x0 0) 8) ||| (i2j (gI σ 1210 x0 x2.toNat)))) Q))))) :
    AW g l (d + 1) MX12_next 215 [some (vR 12 (some x0)), none, some (vI x2)] [] σ Q := by
  refine aw_iload_n dX12_next_215 rfl rfl ?_
  refine aw_aload_n dX12_next_216 rfl rfl ?_
  refine aw_getI' rfl fk_1215 lf_X12_57 dX12_next_217 ?_
  refine aw_icmp_ge (tgt := 256) dX12_next_220 (by decide) (fun k1 => ?_) (fun k1 => ?_)
  · replace h := h.1 k1
    refine aw_goto (tgt := 292) dX12_next_256 (by decide) ?_
    exact aw_ret h rfl dX12_next_292
  · replace h := h.2 k1
    refine aw_aload_n dX12_next_223 rfl rfl ?_
    refine aw_getI' rfl fk_1213 lf_X12_51 dX12_next_224 ?_
    refine aw_iconst (x := 1) dX12_next_227 rfl ?_
    refine aw_icmp_ne (tgt := 256) dX12_next_228 (by decide) (fun k2 => ?_) (fun k2 => ?_)
    · replace h := h.1 k2
      refine aw_goto (tgt := 292) dX12_next_256 (by decide) ?_
      exact aw_ret h rfl dX12_next_292
    · replace h := h.2 k2
      refine aw_aload_n dX12_next_231 rfl rfl ?_
      refine aw_aload_n dX12_next_232 rfl rfl ?_
      refine aw_getJ' rfl fk_1216 lf_X12_60 dX12_next_233 ?_
      refine aw_bipush (x := 8) dX12_next_236 rfl ?_
      refine aw_lshl dX12_next_238 ?_
      refine aw_aload_n dX12_next_239 rfl rfl ?_
      obtain ⟨lc3, h⟩ := h
      refine aw_getA' rfl fk_1210 (by decide) lf_X12_42 dX12_next_240 (LC.ne lc3 rfl rfl) ?_
      refine aw_iload_n dX12_next_243 rfl rfl ?_
      obtain ⟨⟨c4, c4x⟩, h⟩ := h
      refine aw_iaload (by decide) rfl dX12_next_244 c4 (LC.lt lc3 rfl rfl c4x) ?_
      refine aw_i2l dX12_next_245 ?_
      refine aw_lor dX12_next_246 ?_
      refine aw_putJ' rfl fk_1216 (Or.inl rfl) lf_X12_60 dX12_next_247 ?_
      obtain ⟨⟨c5, c5x⟩, h⟩ := h
      refine aw_iincc (L' := [some (vR 12 (some x0)), none, some (vI (x2 + 1))]) dX12_next_250 rfl (by decide) rfl c5 c5x rfl ?_
      refine aw_goto (tgt := 215) dX12_next_253 (by decide) ?_
      exact aw_fgt (L' := [some (vR 12 (some x0)), none, some (vI (x2 + 1))]) ⟨rfl, ⟨rfl, trivial⟩⟩ h
