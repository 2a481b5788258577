set_option maxRecDepth 4000 in
theorem bk_X12_sign__0 {g : GP} {l : Launch} {d : Nat} {σ : St} {Q : Option AV → St → Prop} {x0 : Nat} {x1 : Int} {x2 : Int} {x3 : Int}
    (h : ACi g l d MX12_isNode [vR 12 (some x0), vI x1, vI x2] σ (fun v2 σ1 => ((¬ v2 = 0 → R32 (400 * x1) ∧ R32 ((400 * x1) + x2) ∧ LC 12 σ1 x0 ∧ Bd ((400 * x1) + x2) 2800 ∧ ((¬ (gI σ1 1267 x0 ((400 * x1) + x2).toNat) = 5 → Q (some (vI (-1))) σ1) ∧ ((gI σ1 1267 x0 ((400 * x1) + x2).toNat) = 5 → ((x3 < 0 → Q (some (vI (-1))) σ1) ∧ (¬ x3 < 0 → ACj g l d MX12_valueOf [vR 12 (some x0), vI ((400 * x1) + x2)] σ1 (fun v11 σ10 => (((i2j x3).toInt < v11.toInt → LC 12 σ10 x0 ∧ R32 ((gI σ10 1268 x0 ((400 * x1) + x2).toNat) + x3) ∧ ACi g l d MX12_has [vR 12 (some x0), vI (gI σ10 1281 x0 0), vI ((gI σ10 1268 x0 ((400 * x1) + x2).toNat) + x3)] σ10 (fun v16 σ15 => Q (some (vI v16)) σ15)) ∧ (¬ (i2j x3).toInt < v11.toInt → Q (some (vI (-1))) σ10)))))))) ∧ (v2 = 0 → Q (some (vI (-1))) σ1)))) :
    AW g l (d + 1) MX12_sign_ 0 [some (vR 12 (some x0)), some (vI x1), some (vI x2), some (vI x3), none] [] σ Q := by
  refine aw_aload_n dX12_sign__0 rfl rfl ?_
  refine aw_iload_n dX12_sign__1 rfl rfl ?_
  refine aw_iload_n dX12_sign__2 rfl rfl ?_
  refine aw_invVi (M := MX12_sign_) (ci := 12) [vI x1, vI x2] rfl mo_X12_isNode rfl lm_X12_688 li_X12_isNode ls_X12_isNode (by decide +kernel) dX12_sign__3 rfl (Nat.le_of_ble_eq_true rfl) (ACi.mono (fun v2 σ1 h => ?_) h)
  refine aw_if_ne (tgt := 11) dX12_sign__6 (by decide) (fun k3 => ?_) (fun k3 => ?_)
  · replace h := h.1 k3
    refine aw_sipush (x := 400) dX12_sign__11 rfl ?_
    refine aw_iload_n dX12_sign__14 rfl rfl ?_
    obtain ⟨⟨c4, c4x⟩, h⟩ := h
    refine aw_imulc dX12_sign__15 c4 c4x ?_
    refine aw_iload_n dX12_sign__16 rfl rfl ?_
    obtain ⟨⟨c5, c5x⟩, h⟩ := h
    refine aw_iaddc dX12_sign__17 c5 c5x ?_
    refine aw_istore (L' := [some (vR 12 (some x0)), some (vI x1), some (vI x2), some (vI x3), some (vI ((400 * x1) + x2))]) dX12_sign__18 (by decide) rfl ?_
    refine aw_aload_n dX12_sign__20 rfl rfl ?_
    obtain ⟨lc6, h⟩ := h
    refine aw_getA' rfl fk_1267 (by decide) lf_X12_217 dX12_sign__21 (LC.ne lc6 rfl rfl) ?_
    refine aw_iload dX12_sign__24 rfl ?_
    obtain ⟨⟨c7, c7x⟩, h⟩ := h
    refine aw_iaload (by decide) rfl dX12_sign__26 c7 (LC.lt lc6 rfl rfl c7x) ?_
    refine aw_iconst (x := 5) dX12_sign__27 rfl ?_
    refine aw_icmp_ne (tgt := 47) dX12_sign__28 (by decide) (fun k8 => ?_) (fun k8 => ?_)
    · replace h := h.1 k8
      refine aw_iconst (x := (-1)) dX12_sign__47 rfl ?_
      exact aw_ireturn dX12_sign__48 rfl h
    · replace h := h.2 k8
      refine aw_iload_n dX12_sign__31 rfl rfl ?_
      refine aw_if_lt (tgt := 47) dX12_sign__32 (by decide) (fun k9 => ?_) (fun k9 => ?_)
      · replace h := h.1 k9
        refine aw_iconst (x := (-1)) dX12_sign__47 rfl ?_
        exact aw_ireturn dX12_sign__48 rfl h
      · replace h := h.2 k9
        refine aw_iload_n dX12_sign__35 rfl rfl ?_
        refine aw_i2l dX12_sign__36 ?_
        refine aw_aload_n dX12_sign__37 rfl rfl ?_
        refine aw_iload dX12_sign__38 rfl ?_
        refine aw_invVj (M := MX12_sign_) (ci := 12) [vI ((400 * x1) + x2)] rfl mo_X12_valueOf rfl lm_X12_643 li_X12_valueOf ls_X12_valueOf (by decide +kernel) dX12_sign__40 rfl (Nat.le_of_ble_eq_true rfl) (ACj.mono (fun v11 σ10 h => ?_) h)
        refine aw_lcmp_lt (M := MX12_sign_) (tgt := 49) dX12_sign__43 dX12_sign__44 (by decide) (fun k12 => ?_) (fun k12 => ?_)
        · replace h := h.1 k12
          refine aw_aload_n dX12_sign__49 rfl rfl ?_
          refine aw_aload_n dX12_sign__50 rfl rfl ?_
          refine aw_getI' rfl fk_1281 lf_X12_259 dX12_sign__51 ?_
          refine aw_aload_n dX12_sign__54 rfl rfl ?_
          obtain ⟨lc13, h⟩ := h
          refine aw_getA' rfl fk_1268 (by decide) lf_X12_220 dX12_sign__55 (LC.ne lc13 rfl rfl) ?_
          refine aw_iload dX12_sign__58 rfl ?_
          refine aw_iaload (by decide) rfl dX12_sign__60 c7 (LC.lt lc13 rfl rfl c7x) ?_
          refine aw_iload_n dX12_sign__61 rfl rfl ?_
          obtain ⟨⟨c14, c14x⟩, h⟩ := h
          refine aw_iaddc dX12_sign__62 c14 c14x ?_
          refine aw_invVi (M := MX12_sign_) (ci := 12) [vI (gI σ10 1281 x0 0), vI ((gI σ10 1268 x0 ((400 * x1) + x2).toNat) + x3)] rfl mo_X12_has rfl lm_X12_299 li_X12_has ls_X12_has (by decide +kernel) dX12_sign__63 rfl (Nat.le_of_ble_eq_true rfl) (ACi.mono (fun v16 σ15 h => ?_) h)
          exact aw_ireturn dX12_sign__66 rfl h
        · replace h := h.2 k12
          refine aw_iconst (x := (-1)) dX12_sign__47 rfl ?_
          exact aw_ireturn dX12_sign__48 rfl h
  · replace h := h.2 k3
    refine aw_iconst (x := (-1)) dX12_sign__9 rfl ?_
    exact aw_ireturn dX12_sign__10 rfl h
set_option maxRecDepth 4000 in
theorem bk_X12_signed_0 {g : GP} {l : Launch} {d : Nat} {σ : St} {Q : Option AV → St → Prop} {x0 : Nat}
    (h : (((gI σ 1251 x0 0) ≤ 0 → ACi g l d MX12_isSign [vR 12 (some x0), vI 45] σ (fun v3 σ2 => ((v3 = 0 → ((¬ (gI σ2 1213 x0 0) = 2 → AW g l (d + 1) MX12_signed 38 [some (vR 12 (some x0)), some (vI v3), none, none] [vI 0, vR 12 (some x0)] σ2 Q) ∧ ((gI σ2 1213 x0 0) = 2 → AW g l (d + 1) MX12_signed 38 [some (vR 12 (some x0)), some (vI v3), none, none] [vI 1, vR 12 (some x0)] σ2 Q))) ∧ (¬ v3 = 0 → ACv g l d MX12_next [vR 12 (some x0)] σ2 (fun σ6 => ((¬ (gI σ6 1213 x0 0) = 2 → AW g l (d + 1) MX12_signed 38 [some (vR 12 (some x0)), some (vI v3), none, none] [vI 0, vR 12 (some x0)] σ6 Q) ∧ ((gI σ6 1213 x0 0) = 2 → AW g l (d + 1) MX12_signed 38 [some (vR 12 (some x0)), some (vI v3), none, none] [vI 1, vR 12 (some x0)] σ6 Q))))))) ∧ (¬ (gI σ 1251 x0 0) ≤ 0 → Q (some (vJ 0)) σ))) :
    AW g l (d + 1) MX12_signed 0 [some (vR 12 (some x0)), none, none, none] [] σ Q := by
  refine aw_aload_n dX12_signed_0 rfl rfl ?_
  refine aw_getI' rfl fk_1251 lf_X12_167 dX12_signed_1 ?_
  refine aw_if_le (tgt := 9) dX12_signed_4 (by decide) (fun k1 => ?_) (fun k1 => ?_)
  · replace h := h.1 k1
    refine aw_aload_n dX12_signed_9 rfl rfl ?_
    refine aw_bipush (x := 45) dX12_signed_10 rfl ?_
    refine aw_invVi (M := MX12_signed) (ci := 12) [vI 45] rfl mo_X12_isSign rfl lm_X12_401 li_X12_isSign ls_X12_isSign (by decide +kernel) dX12_signed_12 rfl (Nat.le_of_ble_eq_true rfl) (ACi.mono (fun v3 σ2 h => ?_) h)
    refine aw_istore_n (L' := [some (vR 12 (some x0)), some (vI v3), none, none]) dX12_signed_15 rfl (by decide) rfl ?_
    refine aw_iload_n dX12_signed_16 rfl rfl ?_
    refine aw_if_eq (tgt := 24) dX12_signed_17 (by decide) (fun k4 => ?_) (fun k4 => ?_)
    · replace h := h.1 k4
      refine aw_aload_n dX12_signed_24 rfl rfl ?_
      refine aw_aload_n dX12_signed_25 rfl rfl ?_
      refine aw_getI' rfl fk_1213 lf_X12_51 dX12_signed_26 ?_
      refine aw_iconst (x := 2) dX12_signed_29 rfl ?_
      refine aw_icmp_ne (tgt := 37) dX12_signed_30 (by decide) (fun k5 => ?_) (fun k5 => ?_)
      · replace h := h.1 k5
        refine aw_iconst (x := 0) dX12_signed_37 rfl ?_
        exact aw_fgt (L' := [some (vR 12 (some x0)), some (vI v3), none, none]) ⟨rfl, ⟨rfl, trivial⟩⟩ h
      · replace h := h.2 k5
        refine aw_iconst (x := 1) dX12_signed_33 rfl ?_
        refine aw_goto (tgt := 38) dX12_signed_34 (by decide) ?_
        exact aw_fgt (L' := [some (vR 12 (some x0)), some (vI v3), none, none]) ⟨rfl, ⟨rfl, trivial⟩⟩ h
    · replace h := h.2 k4
      refine aw_aload_n dX12_signed_20 rfl rfl ?_
      refine aw_invVv (M := MX12_signed) (ci := 12) [] rfl mo_X12_next rfl lm_X12_408 li_X12_next ls_X12_next (by decide +kernel) dX12_signed_21 rfl (Nat.le_of_ble_eq_true rfl) (ACv.mono (fun σ6 h => ?_) h)
      refine aw_aload_n dX12_signed_24 rfl rfl ?_
      refine aw_aload_n dX12_signed_25 rfl rfl ?_
      refine aw_getI' rfl fk_1213 lf_X12_51 dX12_signed_26 ?_
      refine aw_iconst (x := 2) dX12_signed_29 rfl ?_
      refine aw_icmp_ne (tgt := 37) dX12_signed_30 (by decide) (fun k7 => ?_) (fun k7 => ?_)
      · replace h := h.1 k7
        refine aw_iconst (x := 0) dX12_signed_37 rfl ?_
        exact aw_fgt (L' := [some (vR 12 (some x0)), some (vI v3), none, none]) ⟨rfl, ⟨rfl, trivial⟩⟩ h
      · replace h := h.2 k7
        refine aw_iconst (x := 1) dX12_signed_33 rfl ?_
        refine aw_goto (tgt := 38) dX12_signed_34 (by decide) ?_
        exact aw_fgt (L' := [some (vR 12 (some x0)), some (vI v3), none, none]) ⟨rfl, ⟨rfl, trivial⟩⟩ h
  · replace h := h.2 k1
    refine aw_lconst (x := 0) dX12_signed_7 rfl ?_
    exact aw_lreturn dX12_signed_8 rfl h
set_option maxRecDepth 4000 in
theorem bk_X12_signed_38 {g : GP} {l : Launch} {d : Nat} {σ : St} {Q : Option AV → St → Prop} {x0 : Nat} {x1 : Int} {y0 : Int} {y1 : Option Nat}
    (h : ∃ r1, y1 = some r1 ∧ ACi g l d MX12_must [vR 12 (some r1), vI y0, vI 2] σ (fun v4 σ3 => ((¬ v4 = 0 → ((x1 = 0 → ACv g l d MX12_next [vR 12 (some x0)] σ3 (fun σ7 => Q (some (vJ (gJ σ3 1217 x0 0))) σ7)) ∧ (¬ x1 = 0 → ACv g l d MX12_next [vR 12 (some x0)] σ3 (fun σ8 => Q (some (vJ (-(gJ σ3 1217 x0 0)))) σ8)))) ∧ (v4 = 0 → Q (some (vJ 0)) σ3)))) :
    AW g l (d + 1) MX12_signed 38 [some (vR 12 (some x0)), some (vI x1), none, none] [vI y0, vR 12 y1] σ Q := by
  refine aw_iconst (x := 2) dX12_signed_38 rfl ?_
  obtain ⟨r1, e2, h⟩ := h
  refine aw_invVi (M := MX12_signed) (ci := 12) [vI y0, vI 2] e2 mo_X12_must rfl lm_X12_404 li_X12_must ls_X12_must (by decide +kernel) dX12_signed_39 rfl (Nat.le_of_ble_eq_true rfl) (ACi.mono (fun v4 σ3 h => ?_) h)
  refine aw_if_ne (tgt := 47) dX12_signed_42 (by decide) (fun k5 => ?_) (fun k5 => ?_)
  · replace h := h.1 k5
    refine aw_iload_n dX12_signed_47 rfl rfl ?_
    refine aw_if_eq (tgt := 59) dX12_signed_48 (by decide) (fun k6 => ?_) (fun k6 => ?_)
    · replace h := h.1 k6
      refine aw_aload_n dX12_signed_59 rfl rfl ?_
      refine aw_getJ' rfl fk_1217 lf_X12_64 dX12_signed_60 ?_
      refine aw_lstore_n (L' := [some (vR 12 (some x0)), some (vI x1), some (vJ (gJ σ3 1217 x0 0)), none]) dX12_signed_63 rfl (by decide) rfl ?_
      refine aw_aload_n dX12_signed_64 rfl rfl ?_
      refine aw_invVv (M := MX12_signed) (ci := 12) [] rfl mo_X12_next rfl lm_X12_408 li_X12_next ls_X12_next (by decide +kernel) dX12_signed_65 rfl (Nat.le_of_ble_eq_true rfl) (ACv.mono (fun σ7 h => ?_) h)
      refine aw_lload_n dX12_signed_68 rfl rfl ?_
      exact aw_lreturn dX12_signed_69 rfl h
    · replace h := h.2 k6
      refine aw_aload_n dX12_signed_51 rfl rfl ?_
      refine aw_getJ' rfl fk_1217 lf_X12_64 dX12_signed_52 ?_
      refine aw_lneg dX12_signed_55 ?_
      refine aw_goto (tgt := 63) dX12_signed_56 (by decide) ?_
      refine aw_lstore_n (L' := [some (vR 12 (some x0)), some (vI x1), some (vJ (-(gJ σ3 1217 x0 0))), none]) dX12_signed_63 rfl (by decide) rfl ?_
      refine aw_aload_n dX12_signed_64 rfl rfl ?_
      refine aw_invVv (M := MX12_signed) (ci := 12) [] rfl mo_X12_next rfl lm_X12_408 li_X12_next ls_X12_next (by decide +kernel) dX12_signed_65 rfl (Nat.le_of_ble_eq_true rfl) (ACv.mono (fun σ8 h => ?_) h)
      refine aw_lload_n dX12_signed_68 rfl rfl ?_
      exact aw_lreturn dX12_signed_69 rfl h
  · replace h := h.2 k5
    refine aw_lconst (x := 0) dX12_signed_45 rfl ?_
    exact aw_lreturn dX12_signed_46 rfl h
set_option maxRecDepth 4000 in
theorem bk_X12_single_0 {g : GP} {l : Launch} {d : Nat} {σ : St} {Q : Option AV → St → Prop} {x0 : Nat}
    (h : ((¬ (gI σ 1213 x0 0) = 2 → ACi g l d MX12_isWord [vR 12 (some x0), vJ 1751478885] σ (fun v3 σ2 => ((¬ v3 = 0 → AW g l (d + 1) MX12_single 55 [some (vR 12 (some x0)), none, none] [] σ2 Q) ∧ (v3 = 0 → ACi g l d MX12_isWord [vR 12 (some x0), vJ 1818584692] σ2 (fun v6 σ5 => ((¬ v6 = 0 → AW g l (d + 1) MX12_single 55 [some (vR 12 (some x0)), none, none] [] σ5 Q) ∧ (v6 = 0 → ACi g l d MX12_isWord [vR 12 (some x0), vJ 422608071022] σ5 (fun v9 σ8 => ((v9 = 0 → ACi g l d MX12_isName [vR 12 (some x0)] σ8 (fun v12 σ11 => ACi g l d MX12_must [vR 12 (some x0), vI v12, vI 2] σ11 (fun v14 σ13 => ((¬ v14 = 0 → ACi g l d MX12_lookedUp [vR 12 (some x0)] σ13 (fun v17 σ16 => ((v17 < 0 → AW g l (d + 1) MX12_single 124 [some (vR 12 (some x0)), none, some (vI v17)] [vI 0, vR 12 (some x0)] σ16 Q) ∧ (¬ v17 < 0 → AW g l (d + 1) MX12_single 124 [some (vR 12 (some x0)), none, some (vI v17)] [vI 1, vR 12 (some x0)] σ16 Q)))) ∧ (v14 = 0 → Q (some (vI (-1))) σ13))))) ∧ (¬ v9 = 0 → AW g l (d + 1) MX12_single 55 [some (vR 12 (some x0)), none, none] [] σ8 Q)))))))))) ∧ ((gI σ 1213 x0 0) = 2 → ACi g l d MX12_node [vR 12 (some x0), vI 0, vI (-1), vI (-1), vJ (gJ σ 1217 x0 0)] σ (fun v20 σ19 => ACv g l d MX12_next [vR 12 (some x0)] σ19 (fun σ21 => Q (some (vI v20)) σ21))))) :
    AW g l (d + 1) MX12_single 0 [some (vR 12 (some x0)), none, none] [] σ Q := by
  refine aw_iconst (x := (-1)) dX12_single_0 rfl ?_
  refine aw_istore_n (L' := [some (vR 12 (some x0)), some (vI (-1)), none]) dX12_single_1 rfl (by decide) rfl ?_
  refine aw_aload_n dX12_single_2 rfl rfl ?_
  refine aw_getI' rfl fk_1213 lf_X12_51 dX12_single_3 ?_
  refine aw_iconst (x := 2) dX12_single_6 rfl ?_
  refine aw_icmp_ne (tgt := 25) dX12_single_7 (by decide) (fun k1 => ?_) (fun k1 => ?_)
  · replace h := h.1 k1
    refine aw_aload_n dX12_single_25 rfl rfl ?_
    refine aw_ldc2 lk_X12_360 dX12_single_26 ?_
    refine aw_invVi (M := MX12_single) (ci := 12) [vJ 1751478885] rfl mo_X12_isWord rfl lm_X12_334 li_X12_isWord ls_X12_isWord (by decide +kernel) dX12_single_29 rfl (Nat.le_of_ble_eq_true rfl) (ACi.mono (fun v3 σ2 h => ?_) h)
    refine aw_if_ne (tgt := 55) dX12_single_32 (by decide) (fun k4 => ?_) (fun k4 => ?_)
    · replace h := h.1 k4
      exact aw_fgt (L' := [some (vR 12 (some x0)), none, none]) ⟨rfl, trivial⟩ h
    · replace h := h.2 k4
      refine aw_aload_n dX12_single_35 rfl rfl ?_
      refine aw_ldc2 lk_X12_380 dX12_single_36 ?_
      refine aw_invVi (M := MX12_single) (ci := 12) [vJ 1818584692] rfl mo_X12_isWord rfl lm_X12_334 li_X12_isWord ls_X12_isWord (by decide +kernel) dX12_single_39 rfl (Nat.le_of_ble_eq_true rfl) (ACi.mono (fun v6 σ5 h => ?_) h)
      refine aw_if_ne (tgt := 55) dX12_single_42 (by decide) (fun k7 => ?_) (fun k7 => ?_)
      · replace h := h.1 k7
        exact aw_fgt (L' := [some (vR 12 (some x0)), none, none]) ⟨rfl, trivial⟩ h
      · replace h := h.2 k7
        refine aw_aload_n dX12_single_45 rfl rfl ?_
        refine aw_ldc2 lk_X12_382 dX12_single_46 ?_
        refine aw_invVi (M := MX12_single) (ci := 12) [vJ 422608071022] rfl mo_X12_isWord rfl lm_X12_334 li_X12_isWord ls_X12_isWord (by decide +kernel) dX12_single_49 rfl (Nat.le_of_ble_eq_true rfl) (ACi.mono (fun v9 σ8 h => ?_) h)
        refine aw_if_eq (tgt := 95) dX12_single_52 (by decide) (fun k10 => ?_) (fun k10 => ?_)
        · replace h := h.1 k10
          refine aw_aload_n dX12_single_95 rfl rfl ?_
          refine aw_aload_n dX12_single_96 rfl rfl ?_
          refine aw_invVi (M := MX12_single) (ci := 12) [] rfl mo_X12_isName rfl lm_X12_418 li_X12_isName ls_X12_isName (by decide +kernel) dX12_single_97 rfl (Nat.le_of_ble_eq_true rfl) (ACi.mono (fun v12 σ11 h => ?_) h)
          refine aw_iconst (x := 2) dX12_single_100 rfl ?_
          refine aw_invVi (M := MX12_single) (ci := 12) [vI v12, vI 2] rfl mo_X12_must rfl lm_X12_404 li_X12_must ls_X12_must (by decide +kernel) dX12_single_101 rfl (Nat.le_of_ble_eq_true rfl) (ACi.mono (fun v14 σ13 h => ?_) h)
          refine aw_if_ne (tgt := 109) dX12_single_104 (by decide) (fun k15 => ?_) (fun k15 => ?_)
          · replace h := h.1 k15
            refine aw_aload_n dX12_single_109 rfl rfl ?_
            refine aw_invVi (M := MX12_single) (ci := 12) [] rfl mo_X12_lookedUp rfl lm_X12_554 li_X12_lookedUp ls_X12_lookedUp (by decide +kernel) dX12_single_110 rfl (Nat.le_of_ble_eq_true rfl) (ACi.mono (fun v17 σ16 h => ?_) h)
            refine aw_istore_n (L' := [some (vR 12 (some x0)), some (vI (-1)), some (vI v17)]) dX12_single_113 rfl (by decide) rfl ?_
            refine aw_aload_n dX12_single_114 rfl rfl ?_
            refine aw_iload_n dX12_single_115 rfl rfl ?_
            refine aw_if_lt (tgt := 123) dX12_single_116 (by decide) (fun k18 => ?_) (fun k18 => ?_)
            · replace h := h.1 k18
              refine aw_iconst (x := 0) dX12_single_123 rfl ?_
              exact aw_fgt (L' := [some (vR 12 (some x0)), none, some (vI v17)]) ⟨rfl, ⟨rfl, trivial⟩⟩ h
            · replace h := h.2 k18
              refine aw_iconst (x := 1) dX12_single_119 rfl ?_
              refine aw_goto (tgt := 124) dX12_single_120 (by decide) ?_
              exact aw_fgt (L' := [some (vR 12 (some x0)), none, some (vI v17)]) ⟨rfl, ⟨rfl, trivial⟩⟩ h
          · replace h := h.2 k15
            refine aw_iconst (x := (-1)) dX12_single_107 rfl ?_
            exact aw_ireturn dX12_single_108 rfl h
        · replace h := h.2 k10
          exact aw_fgt (L' := [some (vR 12 (some x0)), none, none]) ⟨rfl, trivial⟩ h
  · replace h := h.2 k1
    refine aw_aload_n dX12_single_10 rfl rfl ?_
    refine aw_iconst (x := 0) dX12_single_11 rfl ?_
    refine aw_iconst (x := (-1)) dX12_single_12 rfl ?_
    refine aw_iconst (x := (-1)) dX12_single_13 rfl ?_
    refine aw_aload_n dX12_single_14 rfl rfl ?_
    refine aw_getJ' rfl fk_1217 lf_X12_64 dX12_single_15 ?_
    refine aw_invVi (M := MX12_single) (ci := 12) [vI 0, vI (-1), vI (-1), vJ (gJ σ 1217 x0 0)] rfl mo_X12_node rfl lm_X12_529 li_X12_node ls_X12_node (by decide +kernel) dX12_single_18 rfl (Nat.le_of_ble_eq_true rfl) (ACi.mono (fun v20 σ19 h => ?_) h)
    refine aw_istore_n (L' := [some (vR 12 (some x0)), some (vI v20), none]) dX12_single_21 rfl (by decide) rfl ?_
    refine aw_goto (tgt := 143) dX12_single_22 (by decide) ?_
    refine aw_aload_n dX12_single_143 rfl rfl ?_
    refine aw_invVv (M := MX12_single) (ci := 12) [] rfl mo_X12_next rfl lm_X12_408 li_X12_next ls_X12_next (by decide +kernel) dX12_single_144 rfl (Nat.le_of_ble_eq_true rfl) (ACv.mono (fun σ21 h => ?_) h)
    refine aw_iload_n dX12_single_147 rfl rfl ?_
    exact aw_ireturn dX12_single_148 rfl h
set_option maxRecDepth 4000 in
theorem bk_X12_single_55 {g : GP} {l : Launch} {d : Nat} {σ : St} {Q : Option AV → St → Prop} {x0 : Nat}
    (h : ACi g l d MX12_isWord [vR 12 (some x0), vJ 1751478885] σ (fun v2 σ1 => ((v2 = 0 → ACi g l d MX12_isWord [vR 12 (some x0), vJ 1818584692] σ1 (fun v5 σ4 => ((v5 = 0 → AW g l (d + 1) MX12_single 85 [some (vR 12 (some x0)), none, none] [vI 4, vR 12 (some x0)] σ4 Q) ∧ (¬ v5 = 0 → AW g l (d + 1) MX12_single 85 [some (vR 12 (some x0)), none, none] [vI 3, vR 12 (some x0)] σ4 Q)))) ∧ (¬ v2 = 0 → AW g l (d + 1) MX12_single 85 [some (vR 12 (some x0)), none, none] [vI 2, vR 12 (some x0)] σ1 Q)))) :
    AW g l (d + 1) MX12_single 55 [some (vR 12 (some x0)), none, none] [] σ Q := by
  refine aw_aload_n dX12_single_55 rfl rfl ?_
  refine aw_aload_n dX12_single_56 rfl rfl ?_
  refine aw_ldc2 lk_X12_360 dX12_single_57 ?_
  refine aw_invVi (M := MX12_single) (ci := 12) [vJ 1751478885] rfl mo_X12_isWord rfl lm_X12_334 li_X12_isWord ls_X12_isWord (by decide +kernel) dX12_single_60 rfl (Nat.le_of_ble_eq_true rfl) (ACi.mono (fun v2 σ1 h => ?_) h)
  refine aw_if_eq (tgt := 70) dX12_single_63 (by decide) (fun k3 => ?_) (fun k3 => ?_)
  · replace h := h.1 k3
    refine aw_aload_n dX12_single_70 rfl rfl ?_
    refine aw_ldc2 lk_X12_380 dX12_single_71 ?_
    refine aw_invVi (M := MX12_single) (ci := 12) [vJ 1818584692] rfl mo_X12_isWord rfl lm_X12_334 li_X12_isWord ls_X12_isWord (by decide +kernel) dX12_single_74 rfl (Nat.le_of_ble_eq_true rfl) (ACi.mono (fun v5 σ4 h => ?_) h)
    refine aw_if_eq (tgt := 84) dX12_single_77 (by decide) (fun k6 => ?_) (fun k6 => ?_)
    · replace h := h.1 k6
      refine aw_iconst (x := 4) dX12_single_84 rfl ?_
      exact aw_fgt (L' := [some (vR 12 (some x0)), none, none]) ⟨rfl, trivial⟩ h
    · replace h := h.2 k6
      refine aw_iconst (x := 3) dX12_single_80 rfl ?_
      refine aw_goto (tgt := 85) dX12_single_81 (by decide) ?_
      exact aw_fgt (L' := [some (vR 12 (some x0)), none, none]) ⟨rfl, trivial⟩ h
  · replace h := h.2 k3
    refine aw_iconst (x := 2) dX12_single_66 rfl ?_
    refine aw_goto (tgt := 85) dX12_single_67 (by decide) ?_
    exact aw_fgt (L' := [some (vR 12 (some x0)), none, none]) ⟨rfl, trivial⟩ h
set_option maxRecDepth 4000 in
theorem bk_X12_single_85 {g : GP} {l : Launch} {d : Nat} {σ : St} {Q : Option AV → St → Prop} {x0 : Nat} {y0 : Int} {y1 : Option Nat}
    (h : ∃ r1, y1 = some r1 ∧ ACi g l d MX12_node [vR 12 (some r1), vI y0, vI (-1), vI (-1), vJ 0] σ (fun v4 σ3 => ACv g l d MX12_next [vR 12 (some x0)] σ3 (fun σ5 => Q (some (vI v4)) σ5))) :
    AW g l (d + 1) MX12_single 85 [some (vR 12 (some x0)), none, none] [vI y0, vR 12 y1] σ Q := by
  refine aw_iconst (x := (-1)) dX12_single_85 rfl ?_
  refine aw_iconst (x := (-1)) dX12_single_86 rfl ?_
  refine aw_lconst (x := 0) dX12_single_87 rfl ?_
  obtain ⟨r1, e2, h⟩ := h
  refine aw_invVi (M := MX12_single) (ci := 12) [vI y0, vI (-1), vI (-1), vJ 0] e2 mo_X12_node rfl lm_X12_529 li_X12_node ls_X12_node (by decide +kernel) dX12_single_88 rfl (Nat.le_of_ble_eq_true rfl) (ACi.mono (fun v4 σ3 h => ?_) h)
  refine aw_istore_n (L' := [some (vR 12 (some x0)), some (vI v4), none]) dX12_single_91 rfl (by decide) rfl ?_
  refine aw_goto (tgt := 143) dX12_single_92 (by decide) ?_
  refine aw_aload_n dX12_single_143 rfl rfl ?_
  refine aw_invVv (M := MX12_single) (ci := 12) [] rfl mo_X12_next rfl lm_X12_408 li_X12_next ls_X12_next (by decide +kernel) dX12_single_144 rfl (Nat.le_of_ble_eq_true rfl) (ACv.mono (fun σ5 h => ?_) h)
  refine aw_iload_n dX12_single_147 rfl rfl ?_
  exact aw_ireturn dX12_single_148 rfl h
set_option maxRecDepth 4000 in
theorem bk_X12_single_124 {g : GP} {l : Launch} {d : Nat} {σ : St} {Q : Option AV → St → Prop} {x0 : Nat} {x2 : Int} {y0 : Int} {y1 : Option Nat}
    (h : ∃ r1, y1 = some r1 ∧ ACi g l d MX12_must [vR 12 (some r1), vI y0, vI 4] σ (fun v4 σ3 => ((¬ v4 = 0 → ACi g l d MX12_node [vR 12 (some x0), vI 1, vI (-1), vI (-1), vJ (i2j x2)] σ3 (fun v7 σ6 => ACv g l d MX12_next [vR 12 (some x0)] σ6 (fun σ8 => Q (some (vI v7)) σ8))) ∧ (v4 = 0 → Q (some (vI (-1))) σ3)))) :
    AW g l (d + 1) MX12_single 124 [some (vR 12 (some x0)), none, some (vI x2)] [vI y0, vR 12 y1] σ Q := by
  refine aw_iconst (x := 4) dX12_single_124 rfl ?_
  obtain ⟨r1, e2, h⟩ := h
  refine aw_invVi (M := MX12_single) (ci := 12) [vI y0, vI 4] e2 mo_X12_must rfl lm_X12_404 li_X12_must ls_X12_must (by decide +kernel) dX12_single_125 rfl (Nat.le_of_ble_eq_true rfl) (ACi.mono (fun v4 σ3 h => ?_) h)
  refine aw_if_ne (tgt := 133) dX12_single_128 (by decide) (fun k5 => ?_) (fun k5 => ?_)
  · replace h := h.1 k5
    refine aw_aload_n dX12_single_133 rfl rfl ?_
    refine aw_iconst (x := 1) dX12_single_134 rfl ?_
    refine aw_iconst (x := (-1)) dX12_single_135 rfl ?_
    refine aw_iconst (x := (-1)) dX12_single_136 rfl ?_
    refine aw_iload_n dX12_single_137 rfl rfl ?_
    refine aw_i2l dX12_single_138 ?_
    refine aw_invVi (M := MX12_single) (ci := 12) [vI 1, vI (-1), vI (-1), vJ (i2j x2)] rfl mo_X12_node rfl lm_X12_529 li_X12_node ls_X12_node (by decide +kernel) dX12_single_139 rfl (Nat.le_of_ble_eq_true rfl) (ACi.mono (fun v7 σ6 h => ?_) h)
    refine aw_istore_n (L' := [some (vR 12 (some x0)), some (vI v7), some (vI x2)]) dX12_single_142 rfl (by decide) rfl ?_
    refine aw_aload_n dX12_single_143 rfl rfl ?_
    refine aw_invVv (M := MX12_single) (ci := 12) [] rfl mo_X12_next rfl lm_X12_408 li_X12_next ls_X12_next (by decide +kernel) dX12_single_144 rfl (Nat.le_of_ble_eq_true rfl) (ACv.mono (fun σ8 h => ?_) h)
    refine aw_iload_n dX12_single_147 rfl rfl ?_
    exact aw_ireturn dX12_single_148 rfl h
  · replace h := h.2 k5
    refine aw_iconst (x := (-1)) dX12_single_131 rfl ?_
    exact aw_ireturn dX12_single_132 rfl h
set_option maxRecDepth 4000 in
theorem bk_X12_size_0 {g : GP} {l : Launch} {d : Nat} {σ : St} {Q : Option AV → St → Prop} {x0 : Nat} {x1 : Int}
    (h : ACi g l d MX12_isStruct [vR 12 (some x0), vI x1] σ (fun v2 σ1 => ((¬ v2 = 0 → LC 12 σ1 x0 ∧ R32 (20 * (gI σ1 1218 x0 0)) ∧ R32 ((20 * (gI σ1 1218 x0 0)) + x1) ∧ Bd ((20 * (gI σ1 1218 x0 0)) + x1) 40 ∧ ∀ z8 : Int, z8 = gI σ1 1223 x0 ((20 * (gI σ1 1218 x0 0)) + x1).toNat → ((0 ≤ z8 → Q (some (vI z8)) σ1) ∧ (¬ 0 ≤ z8 → Q (some (vI (-3))) σ1))) ∧ (v2 = 0 → Q (some (vI (-1))) σ1)))) :
    AW g l (d + 1) MX12_size 0 [some (vR 12 (some x0)), some (vI x1), none] [] σ Q := by
  refine aw_aload_n dX12_size_0 rfl rfl ?_
  refine aw_iload_n dX12_size_1 rfl rfl ?_
  refine aw_invVi (M := MX12_size) (ci := 12) [vI x1] rfl mo_X12_isStruct rfl lm_X12_570 li_X12_isStruct ls_X12_isStruct (by decide +kernel) dX12_size_2 rfl (Nat.le_of_ble_eq_true rfl) (ACi.mono (fun v2 σ1 h => ?_) h)
  refine aw_if_ne (tgt := 10) dX12_size_5 (by decide) (fun k3 => ?_) (fun k3 => ?_)
  · replace h := h.1 k3
    refine aw_aload_n dX12_size_10 rfl rfl ?_
    obtain ⟨lc4, h⟩ := h
    refine aw_getA' rfl fk_1223 (by decide) lf_X12_83 dX12_size_11 (LC.ne lc4 rfl rfl) ?_
    refine aw_bipush (x := 20) dX12_size_14 rfl ?_
    refine aw_aload_n dX12_size_16 rfl rfl ?_
    refine aw_getI' rfl fk_1218 lf_X12_67 dX12_size_17 ?_
    obtain ⟨⟨c5, c5x⟩, h⟩ := h
    refine aw_imulc dX12_size_20 c5 c5x ?_
    refine aw_iload_n dX12_size_21 rfl rfl ?_
    obtain ⟨⟨c6, c6x⟩, h⟩ := h
    refine aw_iaddc dX12_size_22 c6 c6x ?_
    obtain ⟨⟨c7, c7x⟩, h⟩ := h
    refine aw_iaload (by decide) rfl dX12_size_23 c7 (LC.lt lc4 rfl rfl c7x) ?_
    refine aw_istore_n (L' := [some (vR 12 (some x0)), some (vI x1), some (vI (gI σ1 1223 x0 ((20 * (gI σ1 1218 x0 0)) + x1).toNat))]) dX12_size_24 rfl (by decide) rfl ?_
    obtain ⟨z8, hz8⟩ : ∃ z : Int, z = gI σ1 1223 x0 ((20 * (gI σ1 1218 x0 0)) + x1).toNat := ⟨_, rfl⟩
    rw [← hz8]
    replace h := h z8 hz8
    refine aw_iload_n dX12_size_25 rfl rfl ?_
    refine aw_if_ge (tgt := 34) dX12_size_26 (by decide) (fun k9 => ?_) (fun k9 => ?_)
    · replace h := h.1 k9
      refine aw_iload_n dX12_size_34 rfl rfl ?_
      exact aw_ireturn dX12_size_35 rfl h
    · replace h := h.2 k9
      refine aw_bipush (x := (-3)) dX12_size_29 rfl ?_
      refine aw_goto (tgt := 35) dX12_size_31 (by decide) ?_
      exact aw_ireturn dX12_size_35 rfl h
  · replace h := h.2 k3
    refine aw_iconst (x := (-1)) dX12_size_8 rfl ?_
    exact aw_ireturn dX12_size_9 rfl h
set_option maxRecDepth 4000 in
theorem bk_X12_sizeOf_0 {g : GP} {l : Launch} {d : Nat} {σ : St} {Q : Option AV → St → Prop} {x0 : Nat} {x1 : Int} {x2 : Int64}
    (h : LC 12 σ x0 ∧ Bd x1 560 ∧ (((gI σ 1228 x0 x1.toNat) = 1 → ((0 ≤ (gI σ 1233 x0 x1.toNat) → ACj g l d MX12_plain [vR 12 (some x0), vI (gI σ 1233 x0 x1.toNat), vJ 200] σ (fun v5 σ4 => AW g l (d + 1) MX12_sizeOf 88 [some (vR 12 (some x0)), some (vI x1), none, none, none, none, none] [vJ v5] σ4 Q)) ∧ (¬ 0 ≤ (gI σ 1233 x0 x1.toNat) → AW g l (d + 1) MX12_sizeOf 88 [some (vR 12 (some x0)), some (vI x1), none, none, none, none, none] [vJ (-1)] σ Q))) ∧ ((gI σ 1228 x0 x1.toNat) = 2 → R32 (20 * (gI σ 1253 x0 0)) ∧ R32 ((20 * (gI σ 1253 x0 0)) + (gI σ 1231 x0 x1.toNat)) ∧ Bd ((20 * (gI σ 1253 x0 0)) + (gI σ 1231 x0 x1.toNat)) 40 ∧ Q (some (vJ (i2j (gI σ 1223 x0 ((20 * (gI σ 1253 x0 0)) + (gI σ 1231 x0 x1.toNat)).toNat)))) σ) ∧ ((gI σ 1228 x0 x1.toNat) = 3 → ((0 ≤ (gI σ 1233 x0 x1.toNat) → ACj g l d MX12_plain [vR 12 (some x0), vI (gI σ 1233 x0 x1.toNat), vJ 200] σ (fun v11 σ10 => AW g l (d + 1) MX12_sizeOf 166 [some (vR 12 (some x0)), some (vI x1), none, none, none, none, none] [vJ v11] σ10 Q)) ∧ (¬ 0 ≤ (gI σ 1233 x0 x1.toNat) → AW g l (d + 1) MX12_sizeOf 166 [some (vR 12 (some x0)), some (vI x1), none, none, none, none, none] [vJ (-1)] σ Q))) ∧ ((gI σ 1228 x0 x1.toNat) = 4 → Q (some (vJ (i2j (i_and (gI σ 1229 x0 x1.toNat) 15)))) σ) ∧ ((gI σ 1228 x0 x1.toNat) = 5 → ACj g l d MX12_plain [vR 12 (some x0), vI (gI σ 1233 x0 x1.toNat), vJ 2000] σ (fun v13 σ12 => Q (some (vJ v13)) σ12)) ∧ ((gI σ 1228 x0 x1.toNat) = 6 → Q (some (vJ (-1))) σ) ∧ ((gI σ 1228 x0 x1.toNat) = 7 → ((0 ≤ (gI σ 1236 x0 x1.toNat) → R32 (20 * (gI σ 1253 x0 0)) ∧ R32 ((20 * (gI σ 1253 x0 0)) + (gI σ 1236 x0 x1.toNat)) ∧ Bd ((20 * (gI σ 1253 x0 0)) + (gI σ 1236 x0 x1.toNat)) 40 ∧ AW g l (d + 1) MX12_sizeOf 283 [some (vR 12 (some x0)), some (vI x1), none, none, some (vJ (i2j (gI σ 1223 x0 ((20 * (gI σ 1253 x0 0)) + (gI σ 1236 x0 x1.toNat)).toNat))), none, some (vI 0)] [] σ Q) ∧ (¬ 0 ≤ (gI σ 1236 x0 x1.toNat) → Q (some (vJ (-1))) σ))) ∧ ((gI σ 1228 x0 x1.toNat) = 8 → Q (some (vJ (i2j (i_and (gI σ 1229 x0 x1.toNat) 15)))) σ) ∧ ((gI σ 1228 x0 x1.toNat) = 9 → ¬ (i2j (gI σ 1235 x0 x1.toNat)) = 0 ∧ ¬ (i2j (gI σ 1235 x0 x1.toNat)) = 0 ∧ Q (some (vJ (j_rem ((i2j (gI σ 1235 x0 x1.toNat)) - (j_rem x2 (i2j (gI σ 1235 x0 x1.toNat)))) (i2j (gI σ 1235 x0 x1.toNat))))) σ) ∧ ((gI σ 1228 x0 x1.toNat) = 10 → Q (some (vJ (i2j (gI σ 1237 x0 x1.toNat)))) σ) ∧ ((gI σ 1228 x0 x1.toNat) < 1 ∨ 10 < (gI σ 1228 x0 x1.toNat) → Q (some (vJ (i2j (i_and (gI σ 1229 x0 x1.toNat) 15)))) σ))) :
    AW g l (d + 1) MX12_sizeOf 0 [some (vR 12 (some x0)), some (vI x1), some (vJ x2), none, none, none, none] [] σ Q := by
  refine aw_aload_n dX12_sizeOf_0 rfl rfl ?_
  obtain ⟨lc1, h⟩ := h
  refine aw_getA' rfl fk_1228 (by decide) lf_X12_98 dX12_sizeOf_1 (LC.ne lc1 rfl rfl) ?_
  refine aw_iload_n dX12_sizeOf_4 rfl rfl ?_
  obtain ⟨⟨c2, c2x⟩, h⟩ := h
  refine aw_iaload (by decide) rfl dX12_sizeOf_5 c2 (LC.lt lc1 rfl rfl c2x) ?_
  obtain ⟨h0, h1, h2, h3, h4, h5, h6, h7, h8, h9, hd⟩ := h
  refine aw_table (M := MX12_sizeOf) (dt := 373) [60, 117, 138, 373, 227, 241, 245, 373, 339, 365] dX12_sizeOf_6 (by decide) (by decide) (by decide) ⟨fun hc => ?_, fun hc => ?_, fun hc => ?_, fun hc => ?_, fun hc => ?_, fun hc => ?_, fun hc => ?_, fun hc => ?_, fun hc => ?_, fun hc => ?_, trivial⟩ (fun hc => ?_)
  · have h := h0 hc; clear h0 h1 h2 h3 h4 h5 h6 h7 h8 h9 hd
    refine aw_aload_n dX12_sizeOf_60 rfl rfl ?_
    refine aw_getA' rfl fk_1233 (by decide) lf_X12_113 dX12_sizeOf_61 (LC.ne lc1 rfl rfl) ?_
    refine aw_iload_n dX12_sizeOf_64 rfl rfl ?_
    refine aw_iaload (by decide) rfl dX12_sizeOf_65 c2 (LC.lt lc1 rfl rfl c2x) ?_
    refine aw_if_ge (tgt := 75) dX12_sizeOf_66 (by decide) (fun k3 => ?_) (fun k3 => ?_)
    · replace h := h.1 k3
      refine aw_aload_n dX12_sizeOf_75 rfl rfl ?_
      refine aw_aload_n dX12_sizeOf_76 rfl rfl ?_
      refine aw_getA' rfl fk_1233 (by decide) lf_X12_113 dX12_sizeOf_77 (LC.ne lc1 rfl rfl) ?_
      refine aw_iload_n dX12_sizeOf_80 rfl rfl ?_
      refine aw_iaload (by decide) rfl dX12_sizeOf_81 c2 (LC.lt lc1 rfl rfl c2x) ?_
      refine aw_ldc2 lk_X12_563 dX12_sizeOf_82 ?_
      refine aw_invVj (M := MX12_sizeOf) (ci := 12) [vI (gI σ 1233 x0 x1.toNat), vJ 200] rfl mo_X12_plain rfl lm_X12_565 li_X12_plain ls_X12_plain (by decide +kernel) dX12_sizeOf_85 rfl (Nat.le_of_ble_eq_true rfl) (ACj.mono (fun v5 σ4 h => ?_) h)
      exact aw_fgt (L' := [some (vR 12 (some x0)), some (vI x1), none, none, none, none, none]) ⟨rfl, ⟨rfl, trivial⟩⟩ h
    · replace h := h.2 k3
      refine aw_ldc2 lk_X12_521 dX12_sizeOf_69 ?_
      refine aw_goto (tgt := 88) dX12_sizeOf_72 (by decide) ?_
      exact aw_fgt (L' := [some (vR 12 (some x0)), some (vI x1), none, none, none, none, none]) ⟨rfl, ⟨rfl, trivial⟩⟩ h
  · have h := h1 hc; clear h0 h1 h2 h3 h4 h5 h6 h7 h8 h9 hd
    refine aw_aload_n dX12_sizeOf_117 rfl rfl ?_
    refine aw_getA' rfl fk_1223 (by decide) lf_X12_83 dX12_sizeOf_118 (LC.ne lc1 rfl rfl) ?_
    refine aw_bipush (x := 20) dX12_sizeOf_121 rfl ?_
    refine aw_aload_n dX12_sizeOf_123 rfl rfl ?_
    refine aw_getI' rfl fk_1253 lf_X12_173 dX12_sizeOf_124 ?_
    obtain ⟨⟨c6, c6x⟩, h⟩ := h
    refine aw_imulc dX12_sizeOf_127 c6 c6x ?_
    refine aw_aload_n dX12_sizeOf_128 rfl rfl ?_
    refine aw_getA' rfl fk_1231 (by decide) lf_X12_107 dX12_sizeOf_129 (LC.ne lc1 rfl rfl) ?_
    refine aw_iload_n dX12_sizeOf_132 rfl rfl ?_
    refine aw_iaload (by decide) rfl dX12_sizeOf_133 c2 (LC.lt lc1 rfl rfl c2x) ?_
    obtain ⟨⟨c7, c7x⟩, h⟩ := h
    refine aw_iaddc dX12_sizeOf_134 c7 c7x ?_
    obtain ⟨⟨c8, c8x⟩, h⟩ := h
    refine aw_iaload (by decide) rfl dX12_sizeOf_135 c8 (LC.lt lc1 rfl rfl c8x) ?_
    refine aw_i2l dX12_sizeOf_136 ?_
    exact aw_lreturn dX12_sizeOf_137 rfl h
  · have h := h2 hc; clear h0 h1 h2 h3 h4 h5 h6 h7 h8 h9 hd
    refine aw_aload_n dX12_sizeOf_138 rfl rfl ?_
    refine aw_getA' rfl fk_1233 (by decide) lf_X12_113 dX12_sizeOf_139 (LC.ne lc1 rfl rfl) ?_
    refine aw_iload_n dX12_sizeOf_142 rfl rfl ?_
    refine aw_iaload (by decide) rfl dX12_sizeOf_143 c2 (LC.lt lc1 rfl rfl c2x) ?_
    refine aw_if_ge (tgt := 153) dX12_sizeOf_144 (by decide) (fun k9 => ?_) (fun k9 => ?_)
    · replace h := h.1 k9
      refine aw_aload_n dX12_sizeOf_153 rfl rfl ?_
      refine aw_aload_n dX12_sizeOf_154 rfl rfl ?_
      refine aw_getA' rfl fk_1233 (by decide) lf_X12_113 dX12_sizeOf_155 (LC.ne lc1 rfl rfl) ?_
      refine aw_iload_n dX12_sizeOf_158 rfl rfl ?_
      refine aw_iaload (by decide) rfl dX12_sizeOf_159 c2 (LC.lt lc1 rfl rfl c2x) ?_
      refine aw_ldc2 lk_X12_563 dX12_sizeOf_160 ?_
      refine aw_invVj (M := MX12_sizeOf) (ci := 12) [vI (gI σ 1233 x0 x1.toNat), vJ 200] rfl mo_X12_plain rfl lm_X12_565 li_X12_plain ls_X12_plain (by decide +kernel) dX12_sizeOf_163 rfl (Nat.le_of_ble_eq_true rfl) (ACj.mono (fun v11 σ10 h => ?_) h)
      exact aw_fgt (L' := [some (vR 12 (some x0)), some (vI x1), none, none, none, none, none]) ⟨rfl, ⟨rfl, trivial⟩⟩ h
    · replace h := h.2 k9
      refine aw_ldc2 lk_X12_521 dX12_sizeOf_147 ?_
      refine aw_goto (tgt := 166) dX12_sizeOf_150 (by decide) ?_
      exact aw_fgt (L' := [some (vR 12 (some x0)), some (vI x1), none, none, none, none, none]) ⟨rfl, ⟨rfl, trivial⟩⟩ h
  · have h := h3 hc; clear h0 h1 h2 h3 h4 h5 h6 h7 h8 h9 hd
    refine aw_aload_n dX12_sizeOf_373 rfl rfl ?_
    refine aw_getA' rfl fk_1229 (by decide) lf_X12_101 dX12_sizeOf_374 (LC.ne lc1 rfl rfl) ?_
    refine aw_iload_n dX12_sizeOf_377 rfl rfl ?_
    refine aw_iaload (by decide) rfl dX12_sizeOf_378 c2 (LC.lt lc1 rfl rfl c2x) ?_
    refine aw_bipush (x := 15) dX12_sizeOf_379 rfl ?_
    refine aw_iand dX12_sizeOf_381 ?_
    refine aw_i2l dX12_sizeOf_382 ?_
    exact aw_lreturn dX12_sizeOf_383 rfl h
  · have h := h4 hc; clear h0 h1 h2 h3 h4 h5 h6 h7 h8 h9 hd
    refine aw_aload_n dX12_sizeOf_227 rfl rfl ?_
    refine aw_aload_n dX12_sizeOf_228 rfl rfl ?_
    refine aw_getA' rfl fk_1233 (by decide) lf_X12_113 dX12_sizeOf_229 (LC.ne lc1 rfl rfl) ?_
    refine aw_iload_n dX12_sizeOf_232 rfl rfl ?_
    refine aw_iaload (by decide) rfl dX12_sizeOf_233 c2 (LC.lt lc1 rfl rfl c2x) ?_
    refine aw_ldc2 lk_X12_568 dX12_sizeOf_234 ?_
    refine aw_invVj (M := MX12_sizeOf) (ci := 12) [vI (gI σ 1233 x0 x1.toNat), vJ 2000] rfl mo_X12_plain rfl lm_X12_565 li_X12_plain ls_X12_plain (by decide +kernel) dX12_sizeOf_237 rfl (Nat.le_of_ble_eq_true rfl) (ACj.mono (fun v13 σ12 h => ?_) h)
    exact aw_lreturn dX12_sizeOf_240 rfl h
  · have h := h5 hc; clear h0 h1 h2 h3 h4 h5 h6 h7 h8 h9 hd
    refine aw_ldc2 lk_X12_521 dX12_sizeOf_241 ?_
    exact aw_lreturn dX12_sizeOf_244 rfl h
  · have h := h6 hc; clear h0 h1 h2 h3 h4 h5 h6 h7 h8 h9 hd
    refine aw_aload_n dX12_sizeOf_245 rfl rfl ?_
    refine aw_getA' rfl fk_1236 (by decide) lf_X12_122 dX12_sizeOf_246 (LC.ne lc1 rfl rfl) ?_
    refine aw_iload_n dX12_sizeOf_249 rfl rfl ?_
    refine aw_iaload (by decide) rfl dX12_sizeOf_250 c2 (LC.lt lc1 rfl rfl c2x) ?_
    refine aw_if_ge (tgt := 258) dX12_sizeOf_251 (by decide) (fun k14 => ?_) (fun k14 => ?_)
    · replace h := h.1 k14
      refine aw_aload_n dX12_sizeOf_258 rfl rfl ?_
      refine aw_getA' rfl fk_1223 (by decide) lf_X12_83 dX12_sizeOf_259 (LC.ne lc1 rfl rfl) ?_
      refine aw_bipush (x := 20) dX12_sizeOf_262 rfl ?_
      refine aw_aload_n dX12_sizeOf_264 rfl rfl ?_
      refine aw_getI' rfl fk_1253 lf_X12_173 dX12_sizeOf_265 ?_
      obtain ⟨⟨c15, c15x⟩, h⟩ := h
      refine aw_imulc dX12_sizeOf_268 c15 c15x ?_
      refine aw_aload_n dX12_sizeOf_269 rfl rfl ?_
      refine aw_getA' rfl fk_1236 (by decide) lf_X12_122 dX12_sizeOf_270 (LC.ne lc1 rfl rfl) ?_
      refine aw_iload_n dX12_sizeOf_273 rfl rfl ?_
      refine aw_iaload (by decide) rfl dX12_sizeOf_274 c2 (LC.lt lc1 rfl rfl c2x) ?_
      obtain ⟨⟨c16, c16x⟩, h⟩ := h
      refine aw_iaddc dX12_sizeOf_275 c16 c16x ?_
      obtain ⟨⟨c17, c17x⟩, h⟩ := h
      refine aw_iaload (by decide) rfl dX12_sizeOf_276 c17 (LC.lt lc1 rfl rfl c17x) ?_
      refine aw_i2l dX12_sizeOf_277 ?_
      refine aw_lstore (L' := [some (vR 12 (some x0)), some (vI x1), some (vJ x2), none, some (vJ (i2j (gI σ 1223 x0 ((20 * (gI σ 1253 x0 0)) + (gI σ 1236 x0 x1.toNat)).toNat))), none, none]) dX12_sizeOf_278 (by decide) rfl ?_
      refine aw_iconst (x := 0) dX12_sizeOf_280 rfl ?_
      refine aw_istore (L' := [some (vR 12 (some x0)), some (vI x1), some (vJ x2), none, some (vJ (i2j (gI σ 1223 x0 ((20 * (gI σ 1253 x0 0)) + (gI σ 1236 x0 x1.toNat)).toNat))), none, some (vI 0)]) dX12_sizeOf_281 (by decide) rfl ?_
      exact aw_fgt (L' := [some (vR 12 (some x0)), some (vI x1), none, none, some (vJ (i2j (gI σ 1223 x0 ((20 * (gI σ 1253 x0 0)) + (gI σ 1236 x0 x1.toNat)).toNat))), none, some (vI 0)]) ⟨rfl, ⟨rfl, ⟨rfl, ⟨rfl, trivial⟩⟩⟩⟩ h
    · replace h := h.2 k14
      refine aw_ldc2 lk_X12_521 dX12_sizeOf_254 ?_
      exact aw_lreturn dX12_sizeOf_257 rfl h
  · have h := h7 hc; clear h0 h1 h2 h3 h4 h5 h6 h7 h8 h9 hd
    refine aw_aload_n dX12_sizeOf_373 rfl rfl ?_
    refine aw_getA' rfl fk_1229 (by decide) lf_X12_101 dX12_sizeOf_374 (LC.ne lc1 rfl rfl) ?_
    refine aw_iload_n dX12_sizeOf_377 rfl rfl ?_
    refine aw_iaload (by decide) rfl dX12_sizeOf_378 c2 (LC.lt lc1 rfl rfl c2x) ?_
    refine aw_bipush (x := 15) dX12_sizeOf_379 rfl ?_
    refine aw_iand dX12_sizeOf_381 ?_
    refine aw_i2l dX12_sizeOf_382 ?_
    exact aw_lreturn dX12_sizeOf_383 rfl h
  · have h := h8 hc; clear h0 h1 h2 h3 h4 h5 h6 h7 h8 h9 hd
    refine aw_aload_n dX12_sizeOf_339 rfl rfl ?_
    refine aw_getA' rfl fk_1235 (by decide) lf_X12_119 dX12_sizeOf_340 (LC.ne lc1 rfl rfl) ?_
    refine aw_iload_n dX12_sizeOf_343 rfl rfl ?_
    refine aw_iaload (by decide) rfl dX12_sizeOf_344 c2 (LC.lt lc1 rfl rfl c2x) ?_
    refine aw_i2l dX12_sizeOf_345 ?_
    refine aw_lload_n dX12_sizeOf_346 rfl rfl ?_
    refine aw_aload_n dX12_sizeOf_347 rfl rfl ?_
    refine aw_getA' rfl fk_1235 (by decide) lf_X12_119 dX12_sizeOf_348 (LC.ne lc1 rfl rfl) ?_
    refine aw_iload_n dX12_sizeOf_351 rfl rfl ?_
    refine aw_iaload (by decide) rfl dX12_sizeOf_352 c2 (LC.lt lc1 rfl rfl c2x) ?_
    refine aw_i2l dX12_sizeOf_353 ?_
    obtain ⟨h0, h⟩ := h
    refine aw_lrem dX12_sizeOf_354 h0 ?_
    refine aw_lsub dX12_sizeOf_355 ?_
    refine aw_aload_n dX12_sizeOf_356 rfl rfl ?_
    refine aw_getA' rfl fk_1235 (by decide) lf_X12_119 dX12_sizeOf_357 (LC.ne lc1 rfl rfl) ?_
    refine aw_iload_n dX12_sizeOf_360 rfl rfl ?_
    refine aw_iaload (by decide) rfl dX12_sizeOf_361 c2 (LC.lt lc1 rfl rfl c2x) ?_
    refine aw_i2l dX12_sizeOf_362 ?_
    obtain ⟨h0, h⟩ := h
    refine aw_lrem dX12_sizeOf_363 h0 ?_
    exact aw_lreturn dX12_sizeOf_364 rfl h
  · have h := h9 hc; clear h0 h1 h2 h3 h4 h5 h6 h7 h8 h9 hd
    refine aw_aload_n dX12_sizeOf_365 rfl rfl ?_
    refine aw_getA' rfl fk_1237 (by decide) lf_X12_125 dX12_sizeOf_366 (LC.ne lc1 rfl rfl) ?_
    refine aw_iload_n dX12_sizeOf_369 rfl rfl ?_
    refine aw_iaload (by decide) rfl dX12_sizeOf_370 c2 (LC.lt lc1 rfl rfl c2x) ?_
    refine aw_i2l dX12_sizeOf_371 ?_
    exact aw_lreturn dX12_sizeOf_372 rfl h
  · have h := hd hc; clear h0 h1 h2 h3 h4 h5 h6 h7 h8 h9 hd
    refine aw_aload_n dX12_sizeOf_373 rfl rfl ?_
    refine aw_getA' rfl fk_1229 (by decide) lf_X12_101 dX12_sizeOf_374 (LC.ne lc1 rfl rfl) ?_
    refine aw_iload_n dX12_sizeOf_377 rfl rfl ?_
    refine aw_iaload (by decide) rfl dX12_sizeOf_378 c2 (LC.lt lc1 rfl rfl c2x) ?_
    refine aw_bipush (x := 15) dX12_sizeOf_379 rfl ?_
    refine aw_iand dX12_sizeOf_381 ?_
    refine aw_i2l dX12_sizeOf_382 ?_
    exact aw_lreturn dX12_sizeOf_383 rfl h
set_option maxRecDepth 4000 in
theorem bk_X12_sizeOf_88 {g : GP} {l : Launch} {d : Nat} {σ : St} {Q : Option AV → St → Prop} {x0 : Nat} {x1 : Int} {y0 : Int64}
    (h : (((0 : Int64).toInt ≤ y0.toInt → LC 12 σ x0 ∧ Bd x1 560 ∧ Q (some (vJ (y0 * (i2j (i_and (gI σ 1229 x0 x1.toNat) 15))))) σ) ∧ (¬ (0 : Int64).toInt ≤ y0.toInt → Q (some (vJ (-1))) σ))) :
    AW g l (d + 1) MX12_sizeOf 88 [some (vR 12 (some x0)), some (vI x1), none, none, none, none, none] [vJ y0] σ Q := by
  refine aw_lstore (L' := [some (vR 12 (some x0)), some (vI x1), none, none, some (vJ y0), none, none]) dX12_sizeOf_88 (by decide) rfl ?_
  refine aw_lload dX12_sizeOf_90 rfl ?_
  refine aw_lconst (x := 0) dX12_sizeOf_92 rfl ?_
  refine aw_lcmp_ge (M := MX12_sizeOf) (tgt := 103) dX12_sizeOf_93 dX12_sizeOf_94 (by decide) (fun k1 => ?_) (fun k1 => ?_)
  · replace h := h.1 k1
    refine aw_lload dX12_sizeOf_103 rfl ?_
    refine aw_aload_n dX12_sizeOf_105 rfl rfl ?_
    obtain ⟨lc2, h⟩ := h
    refine aw_getA' rfl fk_1229 (by decide) lf_X12_101 dX12_sizeOf_106 (LC.ne lc2 rfl rfl) ?_
    refine aw_iload_n dX12_sizeOf_109 rfl rfl ?_
    obtain ⟨⟨c3, c3x⟩, h⟩ := h
    refine aw_iaload (by decide) rfl dX12_sizeOf_110 c3 (LC.lt lc2 rfl rfl c3x) ?_
    refine aw_bipush (x := 15) dX12_sizeOf_111 rfl ?_
    refine aw_iand dX12_sizeOf_113 ?_
    refine aw_i2l dX12_sizeOf_114 ?_
    refine aw_lmul dX12_sizeOf_115 ?_
    exact aw_lreturn dX12_sizeOf_116 rfl h
  · replace h := h.2 k1
    refine aw_ldc2 lk_X12_521 dX12_sizeOf_97 ?_
    refine aw_goto (tgt := 116) dX12_sizeOf_100 (by decide) ?_
    exact aw_lreturn dX12_sizeOf_116 rfl h
set_option maxRecDepth 4000 in
theorem bk_X12_sizeOf_166 {g : GP} {l : Launch} {d : Nat} {σ : St} {Q : Option AV → St → Prop} {x0 : Nat} {x1 : Int} {y0 : Int64}
    (h : ((y0.toInt < (0 : Int64).toInt → Q (some (vJ (-1))) σ) ∧ (¬ y0.toInt < (0 : Int64).toInt → LC 12 σ x0 ∧ R32 (20 * (gI σ 1253 x0 0)) ∧ Bd x1 560 ∧ R32 ((20 * (gI σ 1253 x0 0)) + (gI σ 1231 x0 x1.toNat)) ∧ Bd ((20 * (gI σ 1253 x0 0)) + (gI σ 1231 x0 x1.toNat)) 40 ∧ ((0 ≤ (gI σ 1223 x0 ((20 * (gI σ 1253 x0 0)) + (gI σ 1231 x0 x1.toNat)).toNat) → Q (some (vJ (y0 * (i2j (gI σ 1223 x0 ((20 * (gI σ 1253 x0 0)) + (gI σ 1231 x0 x1.toNat)).toNat))))) σ) ∧ (¬ 0 ≤ (gI σ 1223 x0 ((20 * (gI σ 1253 x0 0)) + (gI σ 1231 x0 x1.toNat)).toNat) → Q (some (vJ (-1))) σ))))) :
    AW g l (d + 1) MX12_sizeOf 166 [some (vR 12 (some x0)), some (vI x1), none, none, none, none, none] [vJ y0] σ Q := by
  refine aw_lstore (L' := [some (vR 12 (some x0)), some (vI x1), none, none, some (vJ y0), none, none]) dX12_sizeOf_166 (by decide) rfl ?_
  refine aw_lload dX12_sizeOf_168 rfl ?_
  refine aw_lconst (x := 0) dX12_sizeOf_170 rfl ?_
  refine aw_lcmp_lt (M := MX12_sizeOf) (tgt := 197) dX12_sizeOf_171 dX12_sizeOf_172 (by decide) (fun k1 => ?_) (fun k1 => ?_)
  · replace h := h.1 k1
    refine aw_ldc2 lk_X12_521 dX12_sizeOf_197 ?_
    refine aw_goto (tgt := 226) dX12_sizeOf_200 (by decide) ?_
    exact aw_lreturn dX12_sizeOf_226 rfl h
  · replace h := h.2 k1
    refine aw_aload_n dX12_sizeOf_175 rfl rfl ?_
    obtain ⟨lc2, h⟩ := h
    refine aw_getA' rfl fk_1223 (by decide) lf_X12_83 dX12_sizeOf_176 (LC.ne lc2 rfl rfl) ?_
    refine aw_bipush (x := 20) dX12_sizeOf_179 rfl ?_
    refine aw_aload_n dX12_sizeOf_181 rfl rfl ?_
    refine aw_getI' rfl fk_1253 lf_X12_173 dX12_sizeOf_182 ?_
    obtain ⟨⟨c3, c3x⟩, h⟩ := h
    refine aw_imulc dX12_sizeOf_185 c3 c3x ?_
    refine aw_aload_n dX12_sizeOf_186 rfl rfl ?_
    refine aw_getA' rfl fk_1231 (by decide) lf_X12_107 dX12_sizeOf_187 (LC.ne lc2 rfl rfl) ?_
    refine aw_iload_n dX12_sizeOf_190 rfl rfl ?_
    obtain ⟨⟨c4, c4x⟩, h⟩ := h
    refine aw_iaload (by decide) rfl dX12_sizeOf_191 c4 (LC.lt lc2 rfl rfl c4x) ?_
    obtain ⟨⟨c5, c5x⟩, h⟩ := h
    refine aw_iaddc dX12_sizeOf_192 c5 c5x ?_
    obtain ⟨⟨c6, c6x⟩, h⟩ := h
    refine aw_iaload (by decide) rfl dX12_sizeOf_193 c6 (LC.lt lc2 rfl rfl c6x) ?_
    refine aw_if_ge (tgt := 203) dX12_sizeOf_194 (by decide) (fun k7 => ?_) (fun k7 => ?_)
    · replace h := h.1 k7
      refine aw_lload dX12_sizeOf_203 rfl ?_
      refine aw_aload_n dX12_sizeOf_205 rfl rfl ?_
      refine aw_getA' rfl fk_1223 (by decide) lf_X12_83 dX12_sizeOf_206 (LC.ne lc2 rfl rfl) ?_
      refine aw_bipush (x := 20) dX12_sizeOf_209 rfl ?_
      refine aw_aload_n dX12_sizeOf_211 rfl rfl ?_
      refine aw_getI' rfl fk_1253 lf_X12_173 dX12_sizeOf_212 ?_
      refine aw_imulc dX12_sizeOf_215 c3 c3x ?_
      refine aw_aload_n dX12_sizeOf_216 rfl rfl ?_
      refine aw_getA' rfl fk_1231 (by decide) lf_X12_107 dX12_sizeOf_217 (LC.ne lc2 rfl rfl) ?_
      refine aw_iload_n dX12_sizeOf_220 rfl rfl ?_
      refine aw_iaload (by decide) rfl dX12_sizeOf_221 c4 (LC.lt lc2 rfl rfl c4x) ?_
      refine aw_iaddc dX12_sizeOf_222 c5 c5x ?_
      refine aw_iaload (by decide) rfl dX12_sizeOf_223 c6 (LC.lt lc2 rfl rfl c6x) ?_
      refine aw_i2l dX12_sizeOf_224 ?_
      refine aw_lmul dX12_sizeOf_225 ?_
      exact aw_lreturn dX12_sizeOf_226 rfl h
    · replace h := h.2 k7
      refine aw_ldc2 lk_X12_521 dX12_sizeOf_197 ?_
      refine aw_goto (tgt := 226) dX12_sizeOf_200 (by decide) ?_
      exact aw_lreturn dX12_sizeOf_226 rfl h
set_option maxRecDepth 4000 in
theorem bk_X12_sizeOf_283 {g : GP} {l : Launch} {d : Nat} {σ : St} {Q : Option AV → St → Prop} {x0 : Nat} {x1 : Int} {x4 : Int64} {x6 : Int}
    (h : LC 12 σ x0 ∧ Bd x1 560 ∧ (((gI σ 1237 x0 x1.toNat) ≤ x6 → Q (some (vJ x4)) σ) ∧ (¬ (gI σ 1237 x0 x1.toNat) ≤ x6 → R32 (20 * (gI σ 1253 x0 0)) ∧ R32 (16 * x1) ∧ R32 ((16 * x1) + x6) ∧ Bd ((16 * x1) + x6) 8960 ∧ R32 ((20 * (gI σ 1253 x0 0)) + (gI σ 1241 x0 ((16 * x1) + x6).toNat)) ∧ Bd ((20 * (gI σ 1253 x0 0)) + (gI σ 1241 x0 ((16 * x1) + x6).toNat)) 40 ∧ (((i2j (gI σ 1223 x0 ((20 * (gI σ 1253 x0 0)) + (gI σ 1241 x0 ((16 * x1) + x6).toNat)).toNat)) = x4 → R32 (x6 + 1) ∧ AW g l (d + 1) MX12_sizeOf 283 [some (vR 12 (some x0)), some (vI x1), none, none, some (vJ x4), none, some (vI (x6 + 1))] [] σ Q) ∧ (¬ (i2j (gI σ 1223 x0 ((20 * (gI σ 1253 x0 0)) + (gI σ 1241 x0 ((16 * x1) + x6).toNat)).toNat)) = x4 → Q (some (vJ (-1))) σ))))) :
    AW g l (d + 1) MX12_sizeOf 283 [some (vR 12 (some x0)), some (vI x1), none, none, some (vJ x4), none, some (vI x6)] [] σ Q := by
  refine aw_iload dX12_sizeOf_283 rfl ?_
  refine aw_aload_n dX12_sizeOf_285 rfl rfl ?_
  obtain ⟨lc1, h⟩ := h
  refine aw_getA' rfl fk_1237 (by decide) lf_X12_125 dX12_sizeOf_286 (LC.ne lc1 rfl rfl) ?_
  refine aw_iload_n dX12_sizeOf_289 rfl rfl ?_
  obtain ⟨⟨c2, c2x⟩, h⟩ := h
  refine aw_iaload (by decide) rfl dX12_sizeOf_290 c2 (LC.lt lc1 rfl rfl c2x) ?_
  refine aw_icmp_ge (tgt := 336) dX12_sizeOf_291 (by decide) (fun k3 => ?_) (fun k3 => ?_)
  · replace h := h.1 k3
    refine aw_lload dX12_sizeOf_336 rfl ?_
    exact aw_lreturn dX12_sizeOf_338 rfl h
  · replace h := h.2 k3
    refine aw_aload_n dX12_sizeOf_294 rfl rfl ?_
    refine aw_getA' rfl fk_1223 (by decide) lf_X12_83 dX12_sizeOf_295 (LC.ne lc1 rfl rfl) ?_
    refine aw_bipush (x := 20) dX12_sizeOf_298 rfl ?_
    refine aw_aload_n dX12_sizeOf_300 rfl rfl ?_
    refine aw_getI' rfl fk_1253 lf_X12_173 dX12_sizeOf_301 ?_
    obtain ⟨⟨c4, c4x⟩, h⟩ := h
    refine aw_imulc dX12_sizeOf_304 c4 c4x ?_
    refine aw_aload_n dX12_sizeOf_305 rfl rfl ?_
    refine aw_getA' rfl fk_1241 (by decide) lf_X12_137 dX12_sizeOf_306 (LC.ne lc1 rfl rfl) ?_
    refine aw_bipush (x := 16) dX12_sizeOf_309 rfl ?_
    refine aw_iload_n dX12_sizeOf_311 rfl rfl ?_
    obtain ⟨⟨c5, c5x⟩, h⟩ := h
    refine aw_imulc dX12_sizeOf_312 c5 c5x ?_
    refine aw_iload dX12_sizeOf_313 rfl ?_
    obtain ⟨⟨c6, c6x⟩, h⟩ := h
    refine aw_iaddc dX12_sizeOf_315 c6 c6x ?_
    obtain ⟨⟨c7, c7x⟩, h⟩ := h
    refine aw_iaload (by decide) rfl dX12_sizeOf_316 c7 (LC.lt lc1 rfl rfl c7x) ?_
    obtain ⟨⟨c8, c8x⟩, h⟩ := h
    refine aw_iaddc dX12_sizeOf_317 c8 c8x ?_
    obtain ⟨⟨c9, c9x⟩, h⟩ := h
    refine aw_iaload (by decide) rfl dX12_sizeOf_318 c9 (LC.lt lc1 rfl rfl c9x) ?_
    refine aw_i2l dX12_sizeOf_319 ?_
    refine aw_lload dX12_sizeOf_320 rfl ?_
    refine aw_lcmp_eq (M := MX12_sizeOf) (tgt := 330) dX12_sizeOf_322 dX12_sizeOf_323 (by decide) (fun k10 => ?_) (fun k10 => ?_)
    · replace h := h.1 k10
      obtain ⟨⟨c11, c11x⟩, h⟩ := h
      refine aw_iincc (L' := [some (vR 12 (some x0)), some (vI x1), none, none, some (vJ x4), none, some (vI (x6 + 1))]) dX12_sizeOf_330 rfl (by decide) rfl c11 c11x rfl ?_
      refine aw_goto (tgt := 283) dX12_sizeOf_333 (by decide) ?_
      exact aw_fgt (L' := [some (vR 12 (some x0)), some (vI x1), none, none, some (vJ x4), none, some (vI (x6 + 1))]) ⟨rfl, ⟨rfl, ⟨rfl, ⟨rfl, trivial⟩⟩⟩⟩ h
    · replace h := h.2 k10
      refine aw_ldc2 lk_X12_521 dX12_sizeOf_326 ?_
      exact aw_lreturn dX12_sizeOf_329 rfl h
set_option maxRecDepth 4000 in
theorem bk_X12_sized_0 {g : GP} {l : Launch} {d : Nat} {σ : St} {Q : Option AV → St → Prop} {x0 : Nat} {x1 : Int}
    (h : AW g l (d + 1) MX12_sized 5 [some (vR 12 (some x0)), some (vI x1), some (vJ 0), none, some (vI 0), none, none, none] [] σ Q) :
    AW g l (d + 1) MX12_sized 0 [some (vR 12 (some x0)), some (vI x1), none, none, none, none, none, none] [] σ Q := by
  refine aw_lconst (x := 0) dX12_sized_0 rfl ?_
  refine aw_lstore_n (L' := [some (vR 12 (some x0)), some (vI x1), some (vJ 0), none, none, none, none, none]) dX12_sized_1 rfl (by decide) rfl ?_
  refine aw_iconst (x := 0) dX12_sized_2 rfl ?_
  refine aw_istore (L' := [some (vR 12 (some x0)), some (vI x1), some (vJ 0), none, some (vI 0), none, none, none]) dX12_sized_3 (by decide) rfl ?_
  exact aw_fgt (L' := [some (vR 12 (some x0)), some (vI x1), some (vJ 0), none, some (vI 0), none, none, none]) ⟨rfl, ⟨rfl, ⟨rfl, ⟨rfl, trivial⟩⟩⟩⟩ h
set_option maxRecDepth 4000 in
theorem bk_X12_sized_5 {g : GP} {l : Launch} {d : Nat} {σ : St} {Q : Option AV → St → Prop} {x0 : Nat} {x1 : Int} {x2 : Int64} {x4 : Int}
    (h : LC 12 σ x0 ∧ R32 (20 * (gI σ 1253 x0 0)) ∧ R32 ((20 * (gI σ 1253 x0 0)) + x1) ∧ Bd ((20 * (gI σ 1253 x0 0)) + x1) 40 ∧ (((gI σ 1222 x0 ((20 * (gI σ 1253 x0 0)) + x1).toNat) ≤ x4 → Q (some (vI (j2i x2))) σ) ∧ (¬ (gI σ 1222 x0 ((20 * (gI σ 1253 x0 0)) + x1).toNat) ≤ x4 → ACi g l d MX12_field [vR 12 (some x0), vI x1, vI x4] σ (fun v7 σ6 => ACj g l d MX12_sizeOf [vR 12 (some x0), vI v7, vJ x2] σ6 (fun v9 σ8 => LC 12 σ8 x0 ∧ Bd v7 560 ∧ ((0 ≤ (gI σ8 1232 x0 v7.toNat) → Q (some (vI (-1))) σ8) ∧ (¬ 0 ≤ (gI σ8 1232 x0 v7.toNat) → (((0 : Int64).toInt ≤ v9.toInt → (((x2 + v9).toInt ≤ (1000000 : Int64).toInt → R32 (x4 + 1) ∧ AW g l (d + 1) MX12_sized 5 [some (vR 12 (some x0)), some (vI x1), some (vJ (x2 + v9)), none, some (vI (x4 + 1)), none, none, none] [] σ8 Q) ∧ (¬ (x2 + v9).toInt ≤ (1000000 : Int64).toInt → Q (some (vI (-1))) σ8))) ∧ (¬ (0 : Int64).toInt ≤ v9.toInt → Q (some (vI (-1))) σ8))))))))) :
    AW g l (d + 1) MX12_sized 5 [some (vR 12 (some x0)), some (vI x1), some (vJ x2), none, some (vI x4), none, none, none] [] σ Q := by
  refine aw_iload dX12_sized_5 rfl ?_
  refine aw_aload_n dX12_sized_7 rfl rfl ?_
  obtain ⟨lc1, h⟩ := h
  refine aw_getA' rfl fk_1222 (by decide) lf_X12_80 dX12_sized_8 (LC.ne lc1 rfl rfl) ?_
  refine aw_bipush (x := 20) dX12_sized_11 rfl ?_
  refine aw_aload_n dX12_sized_13 rfl rfl ?_
  refine aw_getI' rfl fk_1253 lf_X12_173 dX12_sized_14 ?_
  obtain ⟨⟨c2, c2x⟩, h⟩ := h
  refine aw_imulc dX12_sized_17 c2 c2x ?_
  refine aw_iload_n dX12_sized_18 rfl rfl ?_
  obtain ⟨⟨c3, c3x⟩, h⟩ := h
  refine aw_iaddc dX12_sized_19 c3 c3x ?_
  obtain ⟨⟨c4, c4x⟩, h⟩ := h
  refine aw_iaload (by decide) rfl dX12_sized_20 c4 (LC.lt lc1 rfl rfl c4x) ?_
  refine aw_icmp_ge (tgt := 82) dX12_sized_21 (by decide) (fun k5 => ?_) (fun k5 => ?_)
  · replace h := h.1 k5
    refine aw_lload_n dX12_sized_82 rfl rfl ?_
    refine aw_l2i dX12_sized_83 ?_
    exact aw_ireturn dX12_sized_84 rfl h
  · replace h := h.2 k5
    refine aw_aload_n dX12_sized_24 rfl rfl ?_
    refine aw_iload_n dX12_sized_25 rfl rfl ?_
    refine aw_iload dX12_sized_26 rfl ?_
    refine aw_invVi (M := MX12_sized) (ci := 12) [vI x1, vI x4] rfl mo_X12_field rfl lm_X12_447 li_X12_field ls_X12_field (by decide +kernel) dX12_sized_28 rfl (Nat.le_of_ble_eq_true rfl) (ACi.mono (fun v7 σ6 h => ?_) h)
    refine aw_istore (L' := [some (vR 12 (some x0)), some (vI x1), some (vJ x2), none, some (vI x4), some (vI v7), none, none]) dX12_sized_31 (by decide) rfl ?_
    refine aw_aload_n dX12_sized_33 rfl rfl ?_
    refine aw_iload dX12_sized_34 rfl ?_
    refine aw_lload_n dX12_sized_36 rfl rfl ?_
    refine aw_invVj (M := MX12_sized) (ci := 12) [vI v7, vJ x2] rfl mo_X12_sizeOf rfl lm_X12_557 li_X12_sizeOf ls_X12_sizeOf (by decide +kernel) dX12_sized_37 rfl (Nat.le_of_ble_eq_true rfl) (ACj.mono (fun v9 σ8 h => ?_) h)
    refine aw_lstore (L' := [some (vR 12 (some x0)), some (vI x1), some (vJ x2), none, some (vI x4), some (vI v7), some (vJ v9), none]) dX12_sized_40 (by decide) rfl ?_
    refine aw_aload_n dX12_sized_42 rfl rfl ?_
    obtain ⟨lc10, h⟩ := h
    refine aw_getA' rfl fk_1232 (by decide) lf_X12_110 dX12_sized_43 (LC.ne lc10 rfl rfl) ?_
    refine aw_iload dX12_sized_46 rfl ?_
    obtain ⟨⟨c11, c11x⟩, h⟩ := h
    refine aw_iaload (by decide) rfl dX12_sized_48 c11 (LC.lt lc10 rfl rfl c11x) ?_
    refine aw_if_ge (tgt := 59) dX12_sized_49 (by decide) (fun k12 => ?_) (fun k12 => ?_)
    · replace h := h.1 k12
      refine aw_iconst (x := (-1)) dX12_sized_59 rfl ?_
      exact aw_ireturn dX12_sized_60 rfl h
    · replace h := h.2 k12
      refine aw_lload dX12_sized_52 rfl ?_
      refine aw_lconst (x := 0) dX12_sized_54 rfl ?_
      refine aw_lcmp_ge (M := MX12_sized) (tgt := 61) dX12_sized_55 dX12_sized_56 (by decide) (fun k13 => ?_) (fun k13 => ?_)
      · replace h := h.1 k13
        refine aw_lload_n dX12_sized_61 rfl rfl ?_
        refine aw_lload dX12_sized_62 rfl ?_
        refine aw_ladd dX12_sized_64 ?_
        refine aw_lstore_n (L' := [some (vR 12 (some x0)), some (vI x1), some (vJ (x2 + v9)), none, some (vI x4), some (vI v7), some (vJ v9), none]) dX12_sized_65 rfl (by decide) rfl ?_
        refine aw_lload_n dX12_sized_66 rfl rfl ?_
        refine aw_ldc2 lk_X12_561 dX12_sized_67 ?_
        refine aw_lcmp_le (M := MX12_sized) (tgt := 76) dX12_sized_70 dX12_sized_71 (by decide) (fun k14 => ?_) (fun k14 => ?_)
        · replace h := h.1 k14
          obtain ⟨⟨c15, c15x⟩, h⟩ := h
          refine aw_iincc (L' := [some (vR 12 (some x0)), some (vI x1), some (vJ (x2 + v9)), none, some (vI (x4 + 1)), some (vI v7), some (vJ v9), none]) dX12_sized_76 rfl (by decide) rfl c15 c15x rfl ?_
          refine aw_goto (tgt := 5) dX12_sized_79 (by decide) ?_
          exact aw_fgt (L' := [some (vR 12 (some x0)), some (vI x1), some (vJ (x2 + v9)), none, some (vI (x4 + 1)), none, none, none]) ⟨rfl, ⟨rfl, ⟨rfl, ⟨rfl, trivial⟩⟩⟩⟩ h
        · replace h := h.2 k14
          refine aw_iconst (x := (-1)) dX12_sized_74 rfl ?_
          exact aw_ireturn dX12_sized_75 rfl h
      · replace h := h.2 k13
        refine aw_iconst (x := (-1)) dX12_sized_59 rfl ?_
        exact aw_ireturn dX12_sized_60 rfl h
set_option maxRecDepth 4000 in
theorem bk_X12_stops_0 {g : GP} {l : Launch} {d : Nat} {σ : St} {Q : Option AV → St → Prop} {x0 : Nat}
    (h : R32 ((gI σ 1285 x0 0) - 1) ∧ AW g l d MX12_stops 7 [some (vR 12 (some x0)), some (vI ((gI σ 1285 x0 0) - 1))] [] σ Q) :
    AW g l d MX12_stops 0 [some (vR 12 (some x0)), none] [] σ Q := by
  refine aw_aload_n dX12_stops_0 rfl rfl ?_
  refine aw_getI' rfl fk_1285 lf_X12_271 dX12_stops_1 ?_
  refine aw_iconst (x := 1) dX12_stops_4 rfl ?_
  obtain ⟨⟨c1, c1x⟩, h⟩ := h
  refine aw_isubc dX12_stops_5 c1 c1x ?_
  refine aw_istore_n (L' := [some (vR 12 (some x0)), some (vI ((gI σ 1285 x0 0) - 1))]) dX12_stops_6 rfl (by decide) rfl ?_
  exact aw_fgt (L' := [some (vR 12 (some x0)), some (vI ((gI σ 1285 x0 0) - 1))]) ⟨rfl, ⟨rfl, trivial⟩⟩ h
set_option maxRecDepth 4000 in
theorem bk_X12_stops_7 {g : GP} {l : Launch} {d : Nat} {σ : St} {Q : Option AV → St → Prop} {x0 : Nat} {x1 : Int}
    (h : LC 12 σ x0 ∧ Bd x1 128 ∧ Bd (gI σ 1283 x0 x1.toNat) 2800 ∧ (((gI σ 1267 x0 (gI σ 1283 x0 x1.toNat).toNat) = 0 → Q none (sI σ 1284 x0 x1.toNat 14)) ∧ (¬ (gI σ 1267 x0 (gI σ 1283 x0 x1.toNat).toNat) = 0 → R32 (x1 + (-1)) ∧ AW g l d MX12_stops 7 [some (vR 12 (some x0)), some (vI (x1 + (-1)))] [] σ Q))) :
    AW g l d MX12_stops 7 [some (vR 12 (some x0)), some (vI x1)] [] σ Q := by
  refine aw_aload_n dX12_stops_7 rfl rfl ?_
  obtain ⟨lc1, h⟩ := h
  refine aw_getA' rfl fk_1267 (by decide) lf_X12_217 dX12_stops_8 (LC.ne lc1 rfl rfl) ?_
  refine aw_aload_n dX12_stops_11 rfl rfl ?_
  refine aw_getA' rfl fk_1283 (by decide) lf_X12_265 dX12_stops_12 (LC.ne lc1 rfl rfl) ?_
  refine aw_iload_n dX12_stops_15 rfl rfl ?_
  obtain ⟨⟨c2, c2x⟩, h⟩ := h
  refine aw_iaload (by decide) rfl dX12_stops_16 c2 (LC.lt lc1 rfl rfl c2x) ?_
  obtain ⟨⟨c3, c3x⟩, h⟩ := h
  refine aw_iaload (by decide) rfl dX12_stops_17 c3 (LC.lt lc1 rfl rfl c3x) ?_
  refine aw_if_eq (tgt := 27) dX12_stops_18 (by decide) (fun k4 => ?_) (fun k4 => ?_)
  · replace h := h.1 k4
    refine aw_aload_n dX12_stops_27 rfl rfl ?_
    refine aw_getA' rfl fk_1284 (by decide) lf_X12_268 dX12_stops_28 (LC.ne lc1 rfl rfl) ?_
    refine aw_iload_n dX12_stops_31 rfl rfl ?_
    refine aw_bipush (x := 14) dX12_stops_32 rfl ?_
    refine aw_iastore (by decide) rfl dX12_stops_34 c2 (LC.lt lc1 rfl rfl c2x) ?_
    exact aw_ret h rfl dX12_stops_35
  · replace h := h.2 k4
    obtain ⟨⟨c5, c5x⟩, h⟩ := h
    refine aw_iincc (L' := [some (vR 12 (some x0)), some (vI (x1 + (-1)))]) dX12_stops_21 rfl (by decide) rfl c5 c5x rfl ?_
    refine aw_goto (tgt := 7) dX12_stops_24 (by decide) ?_
    exact aw_fgt (L' := [some (vR 12 (some x0)), some (vI (x1 + (-1)))]) ⟨rfl, ⟨rfl, trivial⟩⟩ h
set_option maxRecDepth 4000 in
theorem bk_X12_strength_0 {g : GP} {l : Launch} {d : Nat} {σ : St} {Q : Option AV → St → Prop} {x0 : Nat} {x1 : Int}
    (h : ((¬ x1 = 17 → ((¬ x1 = 16 → ((x1 < 13 → AW g l d MX12_strength 36 [none, some (vI x1)] [] σ Q) ∧ (¬ x1 < 13 → ((15 < x1 → AW g l d MX12_strength 36 [none, some (vI x1)] [] σ Q) ∧ (¬ 15 < x1 → Q (some (vI 3)) σ))))) ∧ (x1 = 16 → Q (some (vI 2)) σ))) ∧ (x1 = 17 → Q (some (vI 1)) σ))) :
    AW g l d MX12_strength 0 [some (vR 12 (some x0)), some (vI x1)] [] σ Q := by
  refine aw_iload_n dX12_strength_0 rfl rfl ?_
  refine aw_bipush (x := 17) dX12_strength_1 rfl ?_
  refine aw_icmp_ne (tgt := 10) dX12_strength_3 (by decide) (fun k1 => ?_) (fun k1 => ?_)
  · replace h := h.1 k1
    refine aw_iload_n dX12_strength_10 rfl rfl ?_
    refine aw_bipush (x := 16) dX12_strength_11 rfl ?_
    refine aw_icmp_ne (tgt := 20) dX12_strength_13 (by decide) (fun k2 => ?_) (fun k2 => ?_)
    · replace h := h.1 k2
      refine aw_iload_n dX12_strength_20 rfl rfl ?_
      refine aw_bipush (x := 13) dX12_strength_21 rfl ?_
      refine aw_icmp_lt (tgt := 36) dX12_strength_23 (by decide) (fun k3 => ?_) (fun k3 => ?_)
      · replace h := h.1 k3
        exact aw_fgt (L' := [none, some (vI x1)]) ⟨rfl, trivial⟩ h
      · replace h := h.2 k3
        refine aw_iload_n dX12_strength_26 rfl rfl ?_
        refine aw_bipush (x := 15) dX12_strength_27 rfl ?_
        refine aw_icmp_gt (tgt := 36) dX12_strength_29 (by decide) (fun k4 => ?_) (fun k4 => ?_)
        · replace h := h.1 k4
          exact aw_fgt (L' := [none, some (vI x1)]) ⟨rfl, trivial⟩ h
        · replace h := h.2 k4
          refine aw_iconst (x := 3) dX12_strength_32 rfl ?_
          refine aw_goto (tgt := 80) dX12_strength_33 (by decide) ?_
          exact aw_ireturn dX12_strength_80 rfl h
    · replace h := h.2 k2
      refine aw_iconst (x := 2) dX12_strength_16 rfl ?_
      refine aw_goto (tgt := 80) dX12_strength_17 (by decide) ?_
      exact aw_ireturn dX12_strength_80 rfl h
  · replace h := h.2 k1
    refine aw_iconst (x := 1) dX12_strength_6 rfl ?_
    refine aw_goto (tgt := 80) dX12_strength_7 (by decide) ?_
    exact aw_ireturn dX12_strength_80 rfl h
set_option maxRecDepth 4000 in
theorem bk_X12_strength_36 {g : GP} {l : Launch} {d : Nat} {σ : St} {Q : Option AV → St → Prop} {x1 : Int}
    (h : ((x1 = 7 → Q (some (vI 4)) σ) ∧ (¬ x1 = 7 → ((¬ x1 = 8 → ((x1 < 9 → ((¬ x1 = 18 → Q (some (vI 6)) σ) ∧ (x1 = 18 → Q (some (vI 0)) σ))) ∧ (¬ x1 < 9 → ((12 < x1 → ((¬ x1 = 18 → Q (some (vI 6)) σ) ∧ (x1 = 18 → Q (some (vI 0)) σ))) ∧ (¬ 12 < x1 → Q (some (vI 5)) σ))))) ∧ (x1 = 8 → Q (some (vI 4)) σ))))) :
    AW g l d MX12_strength 36 [none, some (vI x1)] [] σ Q := by
  refine aw_iload_n dX12_strength_36 rfl rfl ?_
  refine aw_bipush (x := 7) dX12_strength_37 rfl ?_
  refine aw_icmp_eq (tgt := 48) dX12_strength_39 (by decide) (fun k1 => ?_) (fun k1 => ?_)
  · replace h := h.1 k1
    refine aw_iconst (x := 4) dX12_strength_48 rfl ?_
    refine aw_goto (tgt := 80) dX12_strength_49 (by decide) ?_
    exact aw_ireturn dX12_strength_80 rfl h
  · replace h := h.2 k1
    refine aw_iload_n dX12_strength_42 rfl rfl ?_
    refine aw_bipush (x := 8) dX12_strength_43 rfl ?_
    refine aw_icmp_ne (tgt := 52) dX12_strength_45 (by decide) (fun k2 => ?_) (fun k2 => ?_)
    · replace h := h.1 k2
      refine aw_iload_n dX12_strength_52 rfl rfl ?_
      refine aw_bipush (x := 9) dX12_strength_53 rfl ?_
      refine aw_icmp_lt (tgt := 68) dX12_strength_55 (by decide) (fun k3 => ?_) (fun k3 => ?_)
      · replace h := h.1 k3
        refine aw_iload_n dX12_strength_68 rfl rfl ?_
        refine aw_bipush (x := 18) dX12_strength_69 rfl ?_
        refine aw_icmp_ne (tgt := 78) dX12_strength_71 (by decide) (fun k4 => ?_) (fun k4 => ?_)
        · replace h := h.1 k4
          refine aw_bipush (x := 6) dX12_strength_78 rfl ?_
          exact aw_ireturn dX12_strength_80 rfl h
        · replace h := h.2 k4
          refine aw_iconst (x := 0) dX12_strength_74 rfl ?_
          refine aw_goto (tgt := 80) dX12_strength_75 (by decide) ?_
          exact aw_ireturn dX12_strength_80 rfl h
      · replace h := h.2 k3
        refine aw_iload_n dX12_strength_58 rfl rfl ?_
        refine aw_bipush (x := 12) dX12_strength_59 rfl ?_
        refine aw_icmp_gt (tgt := 68) dX12_strength_61 (by decide) (fun k5 => ?_) (fun k5 => ?_)
        · replace h := h.1 k5
          refine aw_iload_n dX12_strength_68 rfl rfl ?_
          refine aw_bipush (x := 18) dX12_strength_69 rfl ?_
          refine aw_icmp_ne (tgt := 78) dX12_strength_71 (by decide) (fun k6 => ?_) (fun k6 => ?_)
          · replace h := h.1 k6
            refine aw_bipush (x := 6) dX12_strength_78 rfl ?_
            exact aw_ireturn dX12_strength_80 rfl h
          · replace h := h.2 k6
            refine aw_iconst (x := 0) dX12_strength_74 rfl ?_
            refine aw_goto (tgt := 80) dX12_strength_75 (by decide) ?_
            exact aw_ireturn dX12_strength_80 rfl h
        · replace h := h.2 k5
          refine aw_iconst (x := 5) dX12_strength_64 rfl ?_
          refine aw_goto (tgt := 80) dX12_strength_65 (by decide) ?_
          exact aw_ireturn dX12_strength_80 rfl h
    · replace h := h.2 k2
      refine aw_iconst (x := 4) dX12_strength_48 rfl ?_
      refine aw_goto (tgt := 80) dX12_strength_49 (by decide) ?_
      exact aw_ireturn dX12_strength_80 rfl h
set_option maxRecDepth 4000 in
theorem bk_X12_structNamed_0 {g : GP} {l : Launch} {d : Nat} {σ : St} {Q : Option AV → St → Prop} {x0 : Nat} {x1 : Int64} {x3 : Int}
    (h : AW g l d MX12_structNamed 3 [some (vR 12 (some x0)), some (vJ x1), none, some (vI x3), some (vI 0)] [] σ Q) :
    AW g l d MX12_structNamed 0 [some (vR 12 (some x0)), some (vJ x1), none, some (vI x3), none] [] σ Q := by
  refine aw_iconst (x := 0) dX12_structNamed_0 rfl ?_
  refine aw_istore (L' := [some (vR 12 (some x0)), some (vJ x1), none, some (vI x3), some (vI 0)]) dX12_structNamed_1 (by decide) rfl ?_
  exact aw_fgt (L' := [some (vR 12 (some x0)), some (vJ x1), none, some (vI x3), some (vI 0)]) ⟨rfl, ⟨rfl, ⟨rfl, ⟨rfl, trivial⟩⟩⟩⟩ h
set_option maxRecDepth 4000 in
theorem bk_X12_structNamed_3 {g : GP} {l : Launch} {d : Nat} {σ : St} {Q : Option AV → St → Prop} {x0 : Nat} {x1 : Int64} {x3 : Int} {x4 : Int}
    (h : ((x3 ≤ x4 → Q (some (vI (-1))) σ) ∧ (¬ x3 ≤ x4 → LC 12 σ x0 ∧ R32 (20 * (gI σ 1253 x0 0)) ∧ R32 ((20 * (gI σ 1253 x0 0)) + x4) ∧ Bd ((20 * (gI σ 1253 x0 0)) + x4) 40 ∧ ((¬ (gJ σ 1221 x0 ((20 * (gI σ 1253 x0 0)) + x4).toNat) = x1 → R32 (x4 + 1) ∧ AW g l d MX12_structNamed 3 [some (vR 12 (some x0)), some (vJ x1), none, some (vI x3), some (vI (x4 + 1))] [] σ Q) ∧ ((gJ σ 1221 x0 ((20 * (gI σ 1253 x0 0)) + x4).toNat) = x1 → Q (some (vI x4)) σ))))) :
    AW g l d MX12_structNamed 3 [some (vR 12 (some x0)), some (vJ x1), none, some (vI x3), some (vI x4)] [] σ Q := by
  refine aw_iload dX12_structNamed_3 rfl ?_
  refine aw_iload_n dX12_structNamed_5 rfl rfl ?_
  refine aw_icmp_ge (tgt := 38) dX12_structNamed_6 (by decide) (fun k1 => ?_) (fun k1 => ?_)
  · replace h := h.1 k1
    refine aw_iconst (x := (-1)) dX12_structNamed_38 rfl ?_
    exact aw_ireturn dX12_structNamed_39 rfl h
  · replace h := h.2 k1
    refine aw_aload_n dX12_structNamed_9 rfl rfl ?_
    obtain ⟨lc2, h⟩ := h
    refine aw_getA' rfl fk_1221 (by decide) lf_X12_76 dX12_structNamed_10 (LC.ne lc2 rfl rfl) ?_
    refine aw_bipush (x := 20) dX12_structNamed_13 rfl ?_
    refine aw_aload_n dX12_structNamed_15 rfl rfl ?_
    refine aw_getI' rfl fk_1253 lf_X12_173 dX12_structNamed_16 ?_
    obtain ⟨⟨c3, c3x⟩, h⟩ := h
    refine aw_imulc dX12_structNamed_19 c3 c3x ?_
    refine aw_iload dX12_structNamed_20 rfl ?_
    obtain ⟨⟨c4, c4x⟩, h⟩ := h
    refine aw_iaddc dX12_structNamed_22 c4 c4x ?_
    obtain ⟨⟨c5, c5x⟩, h⟩ := h
    refine aw_laload (by decide) rfl dX12_structNamed_23 c5 (LC.lt lc2 rfl rfl c5x) ?_
    refine aw_lload_n dX12_structNamed_24 rfl rfl ?_
    refine aw_lcmp_ne (M := MX12_structNamed) (tgt := 32) dX12_structNamed_25 dX12_structNamed_26 (by decide) (fun k6 => ?_) (fun k6 => ?_)
    · replace h := h.1 k6
      obtain ⟨⟨c7, c7x⟩, h⟩ := h
      refine aw_iincc (L' := [some (vR 12 (some x0)), some (vJ x1), none, some (vI x3), some (vI (x4 + 1))]) dX12_structNamed_32 rfl (by decide) rfl c7 c7x rfl ?_
      refine aw_goto (tgt := 3) dX12_structNamed_35 (by decide) ?_
      exact aw_fgt (L' := [some (vR 12 (some x0)), some (vJ x1), none, some (vI x3), some (vI (x4 + 1))]) ⟨rfl, ⟨rfl, ⟨rfl, ⟨rfl, trivial⟩⟩⟩⟩ h
    · replace h := h.2 k6
      refine aw_iload dX12_structNamed_29 rfl ?_
      exact aw_ireturn dX12_structNamed_31 rfl h
set_option maxRecDepth 4000 in
theorem bk_X12_sumBounds_0 {g : GP} {l : Launch} {d : Nat} {σ : St} {Q : Option AV → St → Prop} {x0 : Nat} {x1 : Int} {x2 : Int} {x3 : Int}
    (h : LC 12 σ x0 ∧ Bd x2 560 ∧ Bd x1 2800 ∧ ACj g l d MX12_worked [vR 12 (some x0), vI (gI σ 1233 x0 x2.toNat), vI x3, vI (gI σ 1268 x0 x1.toNat)] σ (fun v5 σ4 => LC 12 σ4 x0 ∧ ACj g l d MX12_worked [vR 12 (some x0), vI (gI σ4 1234 x0 x2.toNat), vI x3, vI (gI σ4 1268 x0 x1.toNat)] (sJ σ4 1288 x0 0 v5) (fun v8 σ7 => ((¬ (gI σ4 1286 x0 0) = 0 → Q (some (vI 6)) (sJ σ7 1289 x0 0 v8)) ∧ ((gI σ4 1286 x0 0) = 0 → (((gI σ7 1286 x0 0) = 0 → (((gJ σ7 1288 x0 0).toInt < (0 : Int64).toInt → Q (some (vI 5)) (sJ σ7 1289 x0 0 v8)) ∧ (¬ (gJ σ7 1288 x0 0).toInt < (0 : Int64).toInt → ((v8.toInt < (gJ σ7 1288 x0 0).toInt → Q (some (vI 5)) (sJ σ7 1289 x0 0 v8)) ∧ (¬ v8.toInt < (gJ σ7 1288 x0 0).toInt → LC 12 σ7 x0 ∧ Bd (gI σ7 1281 x0 0) 6 ∧ Bd x3 2800 ∧ R32 ((gI σ7 1201 x0 (gI σ7 1281 x0 0).toNat) - (gI σ7 1268 x0 x3.toNat)) ∧ ((v8.toInt ≤ (i2j ((gI σ7 1201 x0 (gI σ7 1281 x0 0).toNat) - (gI σ7 1268 x0 x3.toNat))).toInt → Q (some (vI 0)) (sJ σ7 1289 x0 0 v8)) ∧ (¬ v8.toInt ≤ (i2j ((gI σ7 1201 x0 (gI σ7 1281 x0 0).toNat) - (gI σ7 1268 x0 x3.toNat))).toInt → Q (some (vI 5)) (sJ σ7 1289 x0 0 v8)))))))) ∧ (¬ (gI σ7 1286 x0 0) = 0 → Q (some (vI 6)) (sJ σ7 1289 x0 0 v8)))))))) :
    AW g l (d + 1) MX12_sumBounds 0 [some (vR 12 (some x0)), some (vI x1), some (vI x2), some (vI x3), none] [] σ Q := by
  refine aw_aload_n dX12_sumBounds_0 rfl rfl ?_
  refine aw_aload_n dX12_sumBounds_1 rfl rfl ?_
  refine aw_aload_n dX12_sumBounds_2 rfl rfl ?_
  obtain ⟨lc1, h⟩ := h
  refine aw_getA' rfl fk_1233 (by decide) lf_X12_113 dX12_sumBounds_3 (LC.ne lc1 rfl rfl) ?_
  refine aw_iload_n dX12_sumBounds_6 rfl rfl ?_
  obtain ⟨⟨c2, c2x⟩, h⟩ := h
  refine aw_iaload (by decide) rfl dX12_sumBounds_7 c2 (LC.lt lc1 rfl rfl c2x) ?_
  refine aw_iload_n dX12_sumBounds_8 rfl rfl ?_
  refine aw_aload_n dX12_sumBounds_9 rfl rfl ?_
  refine aw_getA' rfl fk_1268 (by decide) lf_X12_220 dX12_sumBounds_10 (LC.ne lc1 rfl rfl) ?_
  refine aw_iload_n dX12_sumBounds_13 rfl rfl ?_
  obtain ⟨⟨c3, c3x⟩, h⟩ := h
  refine aw_iaload (by decide) rfl dX12_sumBounds_14 c3 (LC.lt lc1 rfl rfl c3x) ?_
  refine aw_invVj (M := MX12_sumBounds) (ci := 12) [vI (gI σ 1233 x0 x2.toNat), vI x3, vI (gI σ 1268 x0 x1.toNat)] rfl mo_X12_worked rfl lm_X12_608 li_X12_worked ls_X12_worked (by decide +kernel) dX12_sumBounds_15 rfl (Nat.le_of_ble_eq_true rfl) (ACj.mono (fun v5 σ4 h => ?_) h)
  refine aw_putJ' rfl fk_1288 (Or.inl rfl) lf_X12_280 dX12_sumBounds_18 ?_
  refine aw_aload_n dX12_sumBounds_21 rfl rfl ?_
  refine aw_getZe (v := gI σ4 1286 x0 0) rfl fk_1286 lf_X12_274 dX12_sumBounds_22 rfl ?_
  refine aw_istore (L' := [some (vR 12 (some x0)), some (vI x1), some (vI x2), some (vI x3), some (vI (gI σ4 1286 x0 0))]) dX12_sumBounds_25 (by decide) rfl ?_
  refine aw_aload_n dX12_sumBounds_27 rfl rfl ?_
  refine aw_aload_n dX12_sumBounds_28 rfl rfl ?_
  refine aw_aload_n dX12_sumBounds_29 rfl rfl ?_
  obtain ⟨lc6, h⟩ := h
  refine aw_getA' rfl fk_1234 (by decide) lf_X12_116 dX12_sumBounds_30 (LC.ne lc6 rfl rfl) ?_
  refine aw_iload_n dX12_sumBounds_33 rfl rfl ?_
  refine aw_ialoade (v := gI σ4 1234 x0 x2.toNat) (by decide) rfl dX12_sumBounds_34 c2 (LC.lt lc6 rfl rfl c2x) rfl ?_
  refine aw_iload_n dX12_sumBounds_35 rfl rfl ?_
  refine aw_aload_n dX12_sumBounds_36 rfl rfl ?_
  refine aw_getA' rfl fk_1268 (by decide) lf_X12_220 dX12_sumBounds_37 (LC.ne lc6 rfl rfl) ?_
  refine aw_iload_n dX12_sumBounds_40 rfl rfl ?_
  refine aw_ialoade (v := gI σ4 1268 x0 x1.toNat) (by decide) rfl dX12_sumBounds_41 c3 (LC.lt lc6 rfl rfl c3x) rfl ?_
  refine aw_invVj (M := MX12_sumBounds) (ci := 12) [vI (gI σ4 1234 x0 x2.toNat), vI x3, vI (gI σ4 1268 x0 x1.toNat)] rfl mo_X12_worked rfl lm_X12_608 li_X12_worked ls_X12_worked (by decide +kernel) dX12_sumBounds_42 rfl (Nat.le_of_ble_eq_true rfl) (ACj.mono (fun v8 σ7 h => ?_) h)
  refine aw_putJ' rfl fk_1289 (Or.inl rfl) lf_X12_283 dX12_sumBounds_45 ?_
  refine aw_iload dX12_sumBounds_48 rfl ?_
  refine aw_if_ne (tgt := 60) dX12_sumBounds_50 (by decide) (fun k9 => ?_) (fun k9 => ?_)
  · replace h := h.1 k9
    refine aw_bipush (x := 6) dX12_sumBounds_60 rfl ?_
    exact aw_ireturn dX12_sumBounds_62 rfl h
  · replace h := h.2 k9
    refine aw_aload_n dX12_sumBounds_53 rfl rfl ?_
    refine aw_getZe (v := gI σ7 1286 x0 0) rfl fk_1286 lf_X12_274 dX12_sumBounds_54 rfl ?_
    refine aw_if_eq (tgt := 63) dX12_sumBounds_57 (by decide) (fun k10 => ?_) (fun k10 => ?_)
    · replace h := h.1 k10
      refine aw_aload_n dX12_sumBounds_63 rfl rfl ?_
      refine aw_getJe (v := gJ σ7 1288 x0 0) rfl fk_1288 lf_X12_280 dX12_sumBounds_64 rfl ?_
      refine aw_lconst (x := 0) dX12_sumBounds_67 rfl ?_
      refine aw_lcmp_lt (M := MX12_sumBounds) (tgt := 109) dX12_sumBounds_68 dX12_sumBounds_69 (by decide) (fun k11 => ?_) (fun k11 => ?_)
      · replace h := h.1 k11
        refine aw_iconst (x := 5) dX12_sumBounds_109 rfl ?_
        refine aw_goto (tgt := 114) dX12_sumBounds_110 (by decide) ?_
        exact aw_ireturn dX12_sumBounds_114 rfl h
      · replace h := h.2 k11
        refine aw_aload_n dX12_sumBounds_72 rfl rfl ?_
        refine aw_getJe (v := v8) rfl fk_1289 lf_X12_283 dX12_sumBounds_73 (gJ_slf σ7 1289 x0 0 v8) ?_
        refine aw_aload_n dX12_sumBounds_76 rfl rfl ?_
        refine aw_getJe (v := gJ σ7 1288 x0 0) rfl fk_1288 lf_X12_280 dX12_sumBounds_77 rfl ?_
        refine aw_lcmp_lt (M := MX12_sumBounds) (tgt := 109) dX12_sumBounds_80 dX12_sumBounds_81 (by decide) (fun k12 => ?_) (fun k12 => ?_)
        · replace h := h.1 k12
          refine aw_iconst (x := 5) dX12_sumBounds_109 rfl ?_
          refine aw_goto (tgt := 114) dX12_sumBounds_110 (by decide) ?_
          exact aw_ireturn dX12_sumBounds_114 rfl h
        · replace h := h.2 k12
          refine aw_aload_n dX12_sumBounds_84 rfl rfl ?_
          refine aw_getJe (v := v8) rfl fk_1289 lf_X12_283 dX12_sumBounds_85 (gJ_slf σ7 1289 x0 0 v8) ?_
          refine aw_aload_n dX12_sumBounds_88 rfl rfl ?_
          obtain ⟨lc13, h⟩ := h
          refine aw_getA' rfl fk_1201 (by decide) lf_X12_13 dX12_sumBounds_89 (LC.ne lc13 rfl rfl) ?_
          refine aw_aload_n dX12_sumBounds_92 rfl rfl ?_
          refine aw_getIe (v := gI σ7 1281 x0 0) rfl fk_1281 lf_X12_259 dX12_sumBounds_93 rfl ?_
          obtain ⟨⟨c14, c14x⟩, h⟩ := h
          refine aw_ialoade (v := gI σ7 1201 x0 (gI σ7 1281 x0 0).toNat) (by decide) rfl dX12_sumBounds_96 c14 (LC.lt lc13 rfl rfl c14x) rfl ?_
          refine aw_aload_n dX12_sumBounds_97 rfl rfl ?_
          refine aw_getA' rfl fk_1268 (by decide) lf_X12_220 dX12_sumBounds_98 (LC.ne lc13 rfl rfl) ?_
          refine aw_iload_n dX12_sumBounds_101 rfl rfl ?_
          obtain ⟨⟨c15, c15x⟩, h⟩ := h
          refine aw_ialoade (v := gI σ7 1268 x0 x3.toNat) (by decide) rfl dX12_sumBounds_102 c15 (LC.lt lc13 rfl rfl c15x) rfl ?_
          obtain ⟨⟨c16, c16x⟩, h⟩ := h
          refine aw_isubc dX12_sumBounds_103 c16 c16x ?_
          refine aw_i2l dX12_sumBounds_104 ?_
          refine aw_lcmp_le (M := MX12_sumBounds) (tgt := 113) dX12_sumBounds_105 dX12_sumBounds_106 (by decide) (fun k17 => ?_) (fun k17 => ?_)
          · replace h := h.1 k17
            refine aw_iconst (x := 0) dX12_sumBounds_113 rfl ?_
            exact aw_ireturn dX12_sumBounds_114 rfl h
          · replace h := h.2 k17
            refine aw_iconst (x := 5) dX12_sumBounds_109 rfl ?_
            refine aw_goto (tgt := 114) dX12_sumBounds_110 (by decide) ?_
            exact aw_ireturn dX12_sumBounds_114 rfl h
    · replace h := h.2 k10
      refine aw_bipush (x := 6) dX12_sumBounds_60 rfl ?_
      exact aw_ireturn dX12_sumBounds_62 rfl h
set_option maxRecDepth 4000 in
theorem bk_X12_summed_0 {g : GP} {l : Launch} {d : Nat} {σ : St} {Q : Option AV → St → Prop} {x0 : Nat} {x1 : Int} {x2 : Int} {x3 : Int}
    (h : ACi g l d MX12_sumBounds [vR 12 (some x0), vI x1, vI x2, vI x3] σ (fun v2 σ1 => ((v2 ≤ 0 → LC 12 σ1 x0 ∧ Bd x1 2800 ∧ Bd x2 560 ∧ ACj g l d MX12_raw [vR 12 (some x0), vI (gI σ1 1268 x0 x1.toNat), vI (gI σ1 1229 x0 x2.toNat)] σ1 (fun v8 σ7 => ACj g l d MX12_due [vR 12 (some x0), vI x1, vI x2, vI x3] σ7 (fun v10 σ9 => ((v8 = v10 → Q none σ9) ∧ (¬ v8 = v10 → ACv g l d MX12_faulty [vR 12 (some x0), vI x1, vI 3] σ9 (fun σ12 => Q none σ12)))))) ∧ (¬ v2 ≤ 0 → ACv g l d MX12_faulty [vR 12 (some x0), vI x1, vI v2] σ1 (fun σ13 => Q none σ13))))) :
    AW g l (d + 1) MX12_summed 0 [some (vR 12 (some x0)), some (vI x1), some (vI x2), some (vI x3), none] [] σ Q := by
  refine aw_aload_n dX12_summed_0 rfl rfl ?_
  refine aw_iload_n dX12_summed_1 rfl rfl ?_
  refine aw_iload_n dX12_summed_2 rfl rfl ?_
  refine aw_iload_n dX12_summed_3 rfl rfl ?_
  refine aw_invVi (M := MX12_summed) (ci := 12) [vI x1, vI x2, vI x3] rfl mo_X12_sumBounds rfl lm_X12_672 li_X12_sumBounds ls_X12_sumBounds (by decide +kernel) dX12_summed_4 rfl (Nat.le_of_ble_eq_true rfl) (ACi.mono (fun v2 σ1 h => ?_) h)
  refine aw_istore (L' := [some (vR 12 (some x0)), some (vI x1), some (vI x2), some (vI x3), some (vI v2)]) dX12_summed_7 (by decide) rfl ?_
  refine aw_iload dX12_summed_9 rfl ?_
  refine aw_if_le (tgt := 24) dX12_summed_11 (by decide) (fun k3 => ?_) (fun k3 => ?_)
  · replace h := h.1 k3
    refine aw_aload_n dX12_summed_24 rfl rfl ?_
    refine aw_aload_n dX12_summed_25 rfl rfl ?_
    obtain ⟨lc4, h⟩ := h
    refine aw_getA' rfl fk_1268 (by decide) lf_X12_220 dX12_summed_26 (LC.ne lc4 rfl rfl) ?_
    refine aw_iload_n dX12_summed_29 rfl rfl ?_
    obtain ⟨⟨c5, c5x⟩, h⟩ := h
    refine aw_iaload (by decide) rfl dX12_summed_30 c5 (LC.lt lc4 rfl rfl c5x) ?_
    refine aw_aload_n dX12_summed_31 rfl rfl ?_
    refine aw_getA' rfl fk_1229 (by decide) lf_X12_101 dX12_summed_32 (LC.ne lc4 rfl rfl) ?_
    refine aw_iload_n dX12_summed_35 rfl rfl ?_
    obtain ⟨⟨c6, c6x⟩, h⟩ := h
    refine aw_iaload (by decide) rfl dX12_summed_36 c6 (LC.lt lc4 rfl rfl c6x) ?_
    refine aw_invVj (M := MX12_summed) (ci := 12) [vI (gI σ1 1268 x0 x1.toNat), vI (gI σ1 1229 x0 x2.toNat)] rfl mo_X12_raw rfl lm_X12_657 li_X12_raw ls_X12_raw (by decide +kernel) dX12_summed_37 rfl (Nat.le_of_ble_eq_true rfl) (ACj.mono (fun v8 σ7 h => ?_) h)
    refine aw_aload_n dX12_summed_40 rfl rfl ?_
    refine aw_iload_n dX12_summed_41 rfl rfl ?_
    refine aw_iload_n dX12_summed_42 rfl rfl ?_
    refine aw_iload_n dX12_summed_43 rfl rfl ?_
    refine aw_invVj (M := MX12_summed) (ci := 12) [vI x1, vI x2, vI x3] rfl mo_X12_due rfl lm_X12_675 li_X12_due ls_X12_due (by decide +kernel) dX12_summed_44 rfl (Nat.le_of_ble_eq_true rfl) (ACj.mono (fun v10 σ9 h => ?_) h)
    refine aw_lcmp_eq (M := MX12_summed) (tgt := 57) dX12_summed_47 dX12_summed_48 (by decide) (fun k11 => ?_) (fun k11 => ?_)
    · replace h := h.1 k11
      exact aw_ret h rfl dX12_summed_57
    · replace h := h.2 k11
      refine aw_aload_n dX12_summed_51 rfl rfl ?_
      refine aw_iload_n dX12_summed_52 rfl rfl ?_
      refine aw_iconst (x := 3) dX12_summed_53 rfl ?_
      refine aw_invVv (M := MX12_summed) (ci := 12) [vI x1, vI 3] rfl mo_X12_faulty rfl lm_X12_577 li_X12_faulty ls_X12_faulty (by decide +kernel) dX12_summed_54 rfl (Nat.le_of_ble_eq_true rfl) (ACv.mono (fun σ12 h => ?_) h)
      exact aw_ret h rfl dX12_summed_57
  · replace h := h.2 k3
    refine aw_aload_n dX12_summed_14 rfl rfl ?_
    refine aw_iload_n dX12_summed_15 rfl rfl ?_
    refine aw_iload dX12_summed_16 rfl ?_
    refine aw_invVv (M := MX12_summed) (ci := 12) [vI x1, vI v2] rfl mo_X12_faulty rfl lm_X12_577 li_X12_faulty ls_X12_faulty (by decide +kernel) dX12_summed_18 rfl (Nat.le_of_ble_eq_true rfl) (ACv.mono (fun σ13 h => ?_) h)
    refine aw_goto (tgt := 57) dX12_summed_21 (by decide) ?_
    exact aw_ret h rfl dX12_summed_57
set_option maxRecDepth 4000 in
theorem bk_X12_take_0 {g : GP} {l : Launch} {d : Nat} {σ : St} {Q : Option AV → St → Prop} {x0 : Nat} {x1 : Int}
    (h : ACi g l d MX12_isSign [vR 12 (some x0), vI x1] σ (fun v2 σ1 => ACi g l d MX12_must [vR 12 (some x0), vI v2, vI 2] σ1 (fun v4 σ3 => ((v4 = 0 → Q none σ3) ∧ (¬ v4 = 0 → ACv g l d MX12_next [vR 12 (some x0)] σ3 (fun σ6 => Q none σ6)))))) :
    AW g l (d + 1) MX12_take 0 [some (vR 12 (some x0)), some (vI x1)] [] σ Q := by
  refine aw_aload_n dX12_take_0 rfl rfl ?_
  refine aw_aload_n dX12_take_1 rfl rfl ?_
  refine aw_iload_n dX12_take_2 rfl rfl ?_
  refine aw_invVi (M := MX12_take) (ci := 12) [vI x1] rfl mo_X12_isSign rfl lm_X12_401 li_X12_isSign ls_X12_isSign (by decide +kernel) dX12_take_3 rfl (Nat.le_of_ble_eq_true rfl) (ACi.mono (fun v2 σ1 h => ?_) h)
  refine aw_iconst (x := 2) dX12_take_6 rfl ?_
  refine aw_invVi (M := MX12_take) (ci := 12) [vI v2, vI 2] rfl mo_X12_must rfl lm_X12_404 li_X12_must ls_X12_must (by decide +kernel) dX12_take_7 rfl (Nat.le_of_ble_eq_true rfl) (ACi.mono (fun v4 σ3 h => ?_) h)
  refine aw_if_eq (tgt := 17) dX12_take_10 (by decide) (fun k5 => ?_) (fun k5 => ?_)
  · replace h := h.1 k5
    exact aw_ret h rfl dX12_take_17
  · replace h := h.2 k5
    refine aw_aload_n dX12_take_13 rfl rfl ?_
    refine aw_invVv (M := MX12_take) (ci := 12) [] rfl mo_X12_next rfl lm_X12_408 li_X12_next ls_X12_next (by decide +kernel) dX12_take_14 rfl (Nat.le_of_ble_eq_true rfl) (ACv.mono (fun σ6 h => ?_) h)
    exact aw_ret h rfl dX12_take_17
set_option maxRecDepth 4000 in
theorem bk_X12_takeWord_0 {g : GP} {l : Launch} {d : Nat} {σ : St} {Q : Option AV → St → Prop} {x0 : Nat} {x1 : Int64}
    (h : ACi g l d MX12_isWord [vR 12 (some x0), vJ x1] σ (fun v2 σ1 => ACi g l d MX12_must [vR 12 (some x0), vI v2, vI 2] σ1 (fun v4 σ3 => ((v4 = 0 → Q none σ3) ∧ (¬ v4 = 0 → ACv g l d MX12_next [vR 12 (some x0)] σ3 (fun σ6 => Q none σ6)))))) :
    AW g l (d + 1) MX12_takeWord 0 [some (vR 12 (some x0)), some (vJ x1), none] [] σ Q := by
  refine aw_aload_n dX12_takeWord_0 rfl rfl ?_
  refine aw_aload_n dX12_takeWord_1 rfl rfl ?_
  refine aw_lload_n dX12_takeWord_2 rfl rfl ?_
  refine aw_invVi (M := MX12_takeWord) (ci := 12) [vJ x1] rfl mo_X12_isWord rfl lm_X12_334 li_X12_isWord ls_X12_isWord (by decide +kernel) dX12_takeWord_3 rfl (Nat.le_of_ble_eq_true rfl) (ACi.mono (fun v2 σ1 h => ?_) h)
  refine aw_iconst (x := 2) dX12_takeWord_6 rfl ?_
  refine aw_invVi (M := MX12_takeWord) (ci := 12) [vI v2, vI 2] rfl mo_X12_must rfl lm_X12_404 li_X12_must ls_X12_must (by decide +kernel) dX12_takeWord_7 rfl (Nat.le_of_ble_eq_true rfl) (ACi.mono (fun v4 σ3 h => ?_) h)
  refine aw_if_eq (tgt := 17) dX12_takeWord_10 (by decide) (fun k5 => ?_) (fun k5 => ?_)
  · replace h := h.1 k5
    exact aw_ret h rfl dX12_takeWord_17
  · replace h := h.2 k5
    refine aw_aload_n dX12_takeWord_13 rfl rfl ?_
    refine aw_invVv (M := MX12_takeWord) (ci := 12) [] rfl mo_X12_next rfl lm_X12_408 li_X12_next ls_X12_next (by decide +kernel) dX12_takeWord_14 rfl (Nat.le_of_ble_eq_true rfl) (ACv.mono (fun σ6 h => ?_) h)
    exact aw_ret h rfl dX12_takeWord_17
set_option maxRecDepth 4000 in
theorem bk_X12_tapeAt_0 {g : GP} {l : Launch} {d : Nat} {σ : St} {Q : Option AV → St → Prop} {x0 : Nat} {x1 : Int}
    (h : (((gI σ 1211 x0 0) ≤ x1 → Q (some (vI 0)) σ) ∧ (¬ (gI σ 1211 x0 0) ≤ x1 → LC 12 σ x0 ∧ Bd x1 3000 ∧ Q (some (vI (gI σ 1210 x0 x1.toNat))) σ))) :
    AW g l d MX12_tapeAt 0 [some (vR 12 (some x0)), some (vI x1)] [] σ Q := by
  refine aw_iload_n dX12_tapeAt_0 rfl rfl ?_
  refine aw_aload_n dX12_tapeAt_1 rfl rfl ?_
  refine aw_getI' rfl fk_1211 lf_X12_45 dX12_tapeAt_2 ?_
  refine aw_icmp_ge (tgt := 17) dX12_tapeAt_5 (by decide) (fun k1 => ?_) (fun k1 => ?_)
  · replace h := h.1 k1
    refine aw_iconst (x := 0) dX12_tapeAt_17 rfl ?_
    exact aw_ireturn dX12_tapeAt_18 rfl h
  · replace h := h.2 k1
    refine aw_aload_n dX12_tapeAt_8 rfl rfl ?_
    obtain ⟨lc2, h⟩ := h
    refine aw_getA' rfl fk_1210 (by decide) lf_X12_42 dX12_tapeAt_9 (LC.ne lc2 rfl rfl) ?_
    refine aw_iload_n dX12_tapeAt_12 rfl rfl ?_
    obtain ⟨⟨c3, c3x⟩, h⟩ := h
    refine aw_iaload (by decide) rfl dX12_tapeAt_13 c3 (LC.lt lc2 rfl rfl c3x) ?_
    refine aw_goto (tgt := 18) dX12_tapeAt_14 (by decide) ?_
    exact aw_ireturn dX12_tapeAt_18 rfl h
set_option maxRecDepth 4000 in
theorem bk_X12_textLaid_0 {g : GP} {l : Launch} {d : Nat} {σ : St} {Q : Option AV → St → Prop} {x0 : Nat} {x1 : Int} {x2 : Int} {x3 : Int}
    (h : LC 12 σ x0 ∧ Bd x2 560 ∧ Bd x1 2800 ∧ ACj g l d MX12_worked [vR 12 (some x0), vI (gI σ 1233 x0 x2.toNat), vI x3, vI (gI σ 1268 x0 x1.toNat)] σ (fun v5 σ4 => ((¬ (gI σ4 1286 x0 0) = 0 → AW g l (d + 1) MX12_textLaid 42 [some (vR 12 (some x0)), some (vI x1), none, none, none, none] [] σ4 Q) ∧ ((gI σ4 1286 x0 0) = 0 → ((v5.toInt < (0 : Int64).toInt → AW g l (d + 1) MX12_textLaid 42 [some (vR 12 (some x0)), some (vI x1), none, none, none, none] [] σ4 Q) ∧ (¬ v5.toInt < (0 : Int64).toInt → ((v5.toInt ≤ (2000 : Int64).toInt → ACi g l d MX12_reaches [vR 12 (some x0), vI x1, vJ v5] σ4 (fun v10 σ9 => ((v10 = 0 ∨ v10 = 1) ∧ Q (some (vI v10)) σ9))) ∧ (¬ v5.toInt ≤ (2000 : Int64).toInt → AW g l (d + 1) MX12_textLaid 42 [some (vR 12 (some x0)), some (vI x1), none, none, none, none] [] σ4 Q)))))))) :
    AW g l (d + 1) MX12_textLaid 0 [some (vR 12 (some x0)), some (vI x1), some (vI x2), some (vI x3), none, none] [] σ Q := by
  refine aw_aload_n dX12_textLaid_0 rfl rfl ?_
  refine aw_aload_n dX12_textLaid_1 rfl rfl ?_
  obtain ⟨lc1, h⟩ := h
  refine aw_getA' rfl fk_1233 (by decide) lf_X12_113 dX12_textLaid_2 (LC.ne lc1 rfl rfl) ?_
  refine aw_iload_n dX12_textLaid_5 rfl rfl ?_
  obtain ⟨⟨c2, c2x⟩, h⟩ := h
  refine aw_iaload (by decide) rfl dX12_textLaid_6 c2 (LC.lt lc1 rfl rfl c2x) ?_
  refine aw_iload_n dX12_textLaid_7 rfl rfl ?_
  refine aw_aload_n dX12_textLaid_8 rfl rfl ?_
  refine aw_getA' rfl fk_1268 (by decide) lf_X12_220 dX12_textLaid_9 (LC.ne lc1 rfl rfl) ?_
  refine aw_iload_n dX12_textLaid_12 rfl rfl ?_
  obtain ⟨⟨c3, c3x⟩, h⟩ := h
  refine aw_iaload (by decide) rfl dX12_textLaid_13 c3 (LC.lt lc1 rfl rfl c3x) ?_
  refine aw_invVj (M := MX12_textLaid) (ci := 12) [vI (gI σ 1233 x0 x2.toNat), vI x3, vI (gI σ 1268 x0 x1.toNat)] rfl mo_X12_worked rfl lm_X12_608 li_X12_worked ls_X12_worked (by decide +kernel) dX12_textLaid_14 rfl (Nat.le_of_ble_eq_true rfl) (ACj.mono (fun v5 σ4 h => ?_) h)
  refine aw_lstore (L' := [some (vR 12 (some x0)), some (vI x1), some (vI x2), some (vI x3), some (vJ v5), none]) dX12_textLaid_17 (by decide) rfl ?_
  refine aw_aload_n dX12_textLaid_19 rfl rfl ?_
  refine aw_getZ' rfl fk_1286 lf_X12_274 dX12_textLaid_20 ?_
  refine aw_if_ne (tgt := 42) dX12_textLaid_23 (by decide) (fun k6 => ?_) (fun k6 => ?_)
  · replace h := h.1 k6
    exact aw_fgt (L' := [some (vR 12 (some x0)), some (vI x1), none, none, none, none]) ⟨rfl, ⟨rfl, trivial⟩⟩ h
  · replace h := h.2 k6
    refine aw_lload dX12_textLaid_26 rfl ?_
    refine aw_lconst (x := 0) dX12_textLaid_28 rfl ?_
    refine aw_lcmp_lt (M := MX12_textLaid) (tgt := 42) dX12_textLaid_29 dX12_textLaid_30 (by decide) (fun k7 => ?_) (fun k7 => ?_)
    · replace h := h.1 k7
      exact aw_fgt (L' := [some (vR 12 (some x0)), some (vI x1), none, none, none, none]) ⟨rfl, ⟨rfl, trivial⟩⟩ h
    · replace h := h.2 k7
      refine aw_lload dX12_textLaid_33 rfl ?_
      refine aw_ldc2 lk_X12_568 dX12_textLaid_35 ?_
      refine aw_lcmp_le (M := MX12_textLaid) (tgt := 62) dX12_textLaid_38 dX12_textLaid_39 (by decide) (fun k8 => ?_) (fun k8 => ?_)
      · replace h := h.1 k8
        refine aw_aload_n dX12_textLaid_62 rfl rfl ?_
        refine aw_iload_n dX12_textLaid_63 rfl rfl ?_
        refine aw_lload dX12_textLaid_64 rfl ?_
        refine aw_invVi (M := MX12_textLaid) (ci := 12) [vI x1, vJ v5] rfl mo_X12_reaches rfl lm_X12_602 li_X12_reaches ls_X12_reaches (by decide +kernel) dX12_textLaid_66 rfl (Nat.le_of_ble_eq_true rfl) (ACi.mono (fun v10 σ9 h => ?_) h)
        exact aw_zreturn dX12_textLaid_69 rfl h.1 h.2
      · replace h := h.2 k8
        exact aw_fgt (L' := [some (vR 12 (some x0)), some (vI x1), none, none, none, none]) ⟨rfl, ⟨rfl, trivial⟩⟩ h
set_option maxRecDepth 4000 in
theorem bk_X12_textLaid_42 {g : GP} {l : Launch} {d : Nat} {σ : St} {Q : Option AV → St → Prop} {x0 : Nat} {x1 : Int}
    (h : (((gI σ 1286 x0 0) = 0 → ACv g l d MX12_faulty [vR 12 (some x0), vI x1, vI 5] σ (fun σ2 => Q (some (vI 1)) σ2)) ∧ (¬ (gI σ 1286 x0 0) = 0 → ACv g l d MX12_faulty [vR 12 (some x0), vI x1, vI 6] σ (fun σ3 => Q (some (vI 1)) σ3)))) :
    AW g l (d + 1) MX12_textLaid 42 [some (vR 12 (some x0)), some (vI x1), none, none, none, none] [] σ Q := by
  refine aw_aload_n dX12_textLaid_42 rfl rfl ?_
  refine aw_iload_n dX12_textLaid_43 rfl rfl ?_
  refine aw_aload_n dX12_textLaid_44 rfl rfl ?_
  refine aw_getZ' rfl fk_1286 lf_X12_274 dX12_textLaid_45 ?_
  refine aw_if_eq (tgt := 56) dX12_textLaid_48 (by decide) (fun k1 => ?_) (fun k1 => ?_)
  · replace h := h.1 k1
    refine aw_iconst (x := 5) dX12_textLaid_56 rfl ?_
    refine aw_invVv (M := MX12_textLaid) (ci := 12) [vI x1, vI 5] rfl mo_X12_faulty rfl lm_X12_577 li_X12_faulty ls_X12_faulty (by decide +kernel) dX12_textLaid_57 rfl (Nat.le_of_ble_eq_true rfl) (ACv.mono (fun σ2 h => ?_) h)
    refine aw_iconst (x := 1) dX12_textLaid_60 rfl ?_
    exact aw_zreturn dX12_textLaid_61 rfl (Or.inr rfl) h
  · replace h := h.2 k1
    refine aw_bipush (x := 6) dX12_textLaid_51 rfl ?_
    refine aw_goto (tgt := 57) dX12_textLaid_53 (by decide) ?_
    refine aw_invVv (M := MX12_textLaid) (ci := 12) [vI x1, vI 6] rfl mo_X12_faulty rfl lm_X12_577 li_X12_faulty ls_X12_faulty (by decide +kernel) dX12_textLaid_57 rfl (Nat.le_of_ble_eq_true rfl) (ACv.mono (fun σ3 h => ?_) h)
    refine aw_iconst (x := 1) dX12_textLaid_60 rfl ?_
    exact aw_zreturn dX12_textLaid_61 rfl (Or.inr rfl) h
set_option maxRecDepth 4000 in
theorem bk_X12_told_0 {g : GP} {l : Launch} {d : Nat} {σ : St} {Q : Option AV → St → Prop} {x0 : Nat} {x1 : Int} {x2 : Int64}
    (h : LC 12 σ x0 ∧ Bd x1 560 ∧ (((gI σ 1228 x0 x1.toNat) = 9 → AW g l d MX12_told 27 [some (vR 12 (some x0)), some (vI x1), some (vJ x2), none, some (vI 0)] [] σ Q) ∧ (¬ (gI σ 1228 x0 x1.toNat) = 9 → ((¬ (gJ σ 1238 x0 x1.toNat) = x2 → AW g l d MX12_told 27 [some (vR 12 (some x0)), some (vI x1), some (vJ x2), none, some (vI 0)] [] σ Q) ∧ ((gJ σ 1238 x0 x1.toNat) = x2 → Q (some (vI 1)) σ))))) :
    AW g l d MX12_told 0 [some (vR 12 (some x0)), some (vI x1), some (vJ x2), none, none] [] σ Q := by
  refine aw_aload_n dX12_told_0 rfl rfl ?_
  obtain ⟨lc1, h⟩ := h
  refine aw_getA' rfl fk_1228 (by decide) lf_X12_98 dX12_told_1 (LC.ne lc1 rfl rfl) ?_
  refine aw_iload_n dX12_told_4 rfl rfl ?_
  obtain ⟨⟨c2, c2x⟩, h⟩ := h
  refine aw_iaload (by decide) rfl dX12_told_5 c2 (LC.lt lc1 rfl rfl c2x) ?_
  refine aw_bipush (x := 9) dX12_told_6 rfl ?_
  refine aw_icmp_eq (tgt := 24) dX12_told_8 (by decide) (fun k3 => ?_) (fun k3 => ?_)
  · replace h := h.1 k3
    refine aw_iconst (x := 0) dX12_told_24 rfl ?_
    refine aw_istore (L' := [some (vR 12 (some x0)), some (vI x1), some (vJ x2), none, some (vI 0)]) dX12_told_25 (by decide) rfl ?_
    exact aw_fgt (L' := [some (vR 12 (some x0)), some (vI x1), some (vJ x2), none, some (vI 0)]) ⟨rfl, ⟨rfl, ⟨rfl, ⟨rfl, trivial⟩⟩⟩⟩ h
  · replace h := h.2 k3
    refine aw_aload_n dX12_told_11 rfl rfl ?_
    refine aw_getA' rfl fk_1238 (by decide) lf_X12_128 dX12_told_12 (LC.ne lc1 rfl rfl) ?_
    refine aw_iload_n dX12_told_15 rfl rfl ?_
    refine aw_laload (by decide) rfl dX12_told_16 c2 (LC.lt lc1 rfl rfl c2x) ?_
    refine aw_lload_n dX12_told_17 rfl rfl ?_
    refine aw_lcmp_ne (M := MX12_told) (tgt := 24) dX12_told_18 dX12_told_19 (by decide) (fun k4 => ?_) (fun k4 => ?_)
    · replace h := h.1 k4
      refine aw_iconst (x := 0) dX12_told_24 rfl ?_
      refine aw_istore (L' := [some (vR 12 (some x0)), some (vI x1), some (vJ x2), none, some (vI 0)]) dX12_told_25 (by decide) rfl ?_
      exact aw_fgt (L' := [some (vR 12 (some x0)), some (vI x1), some (vJ x2), none, some (vI 0)]) ⟨rfl, ⟨rfl, ⟨rfl, ⟨rfl, trivial⟩⟩⟩⟩ h
    · replace h := h.2 k4
      refine aw_iconst (x := 1) dX12_told_22 rfl ?_
      exact aw_zreturn dX12_told_23 rfl (Or.inr rfl) h
set_option maxRecDepth 4000 in
theorem bk_X12_told_27 {g : GP} {l : Launch} {d : Nat} {σ : St} {Q : Option AV → St → Prop} {x0 : Nat} {x1 : Int} {x2 : Int64} {x4 : Int}
    (h : LC 12 σ x0 ∧ Bd x1 560 ∧ ((¬ (gI σ 1228 x0 x1.toNat) = 4 → Q (some (vI 0)) σ) ∧ ((gI σ 1228 x0 x1.toNat) = 4 → (((gI σ 1237 x0 x1.toNat) ≤ x4 → Q (some (vI 0)) σ) ∧ (¬ (gI σ 1237 x0 x1.toNat) ≤ x4 → R32 (16 * x1) ∧ R32 ((16 * x1) + x4) ∧ Bd ((16 * x1) + x4) 8960 ∧ ((¬ (gJ σ 1239 x0 ((16 * x1) + x4).toNat) = x2 → R32 (x4 + 1) ∧ AW g l d MX12_told 27 [some (vR 12 (some x0)), some (vI x1), some (vJ x2), none, some (vI (x4 + 1))] [] σ Q) ∧ ((gJ σ 1239 x0 ((16 * x1) + x4).toNat) = x2 → Q (some (vI 1)) σ))))))) :
    AW g l d MX12_told 27 [some (vR 12 (some x0)), some (vI x1), some (vJ x2), none, some (vI x4)] [] σ Q := by
  refine aw_aload_n dX12_told_27 rfl rfl ?_
  obtain ⟨lc1, h⟩ := h
  refine aw_getA' rfl fk_1228 (by decide) lf_X12_98 dX12_told_28 (LC.ne lc1 rfl rfl) ?_
  refine aw_iload_n dX12_told_31 rfl rfl ?_
  obtain ⟨⟨c2, c2x⟩, h⟩ := h
  refine aw_iaload (by decide) rfl dX12_told_32 c2 (LC.lt lc1 rfl rfl c2x) ?_
  refine aw_iconst (x := 4) dX12_told_33 rfl ?_
  refine aw_icmp_ne (tgt := 73) dX12_told_34 (by decide) (fun k3 => ?_) (fun k3 => ?_)
  · replace h := h.1 k3
    refine aw_iconst (x := 0) dX12_told_73 rfl ?_
    exact aw_zreturn dX12_told_74 rfl (Or.inl rfl) h
  · replace h := h.2 k3
    refine aw_iload dX12_told_37 rfl ?_
    refine aw_aload_n dX12_told_39 rfl rfl ?_
    refine aw_getA' rfl fk_1237 (by decide) lf_X12_125 dX12_told_40 (LC.ne lc1 rfl rfl) ?_
    refine aw_iload_n dX12_told_43 rfl rfl ?_
    refine aw_iaload (by decide) rfl dX12_told_44 c2 (LC.lt lc1 rfl rfl c2x) ?_
    refine aw_icmp_ge (tgt := 73) dX12_told_45 (by decide) (fun k4 => ?_) (fun k4 => ?_)
    · replace h := h.1 k4
      refine aw_iconst (x := 0) dX12_told_73 rfl ?_
      exact aw_zreturn dX12_told_74 rfl (Or.inl rfl) h
    · replace h := h.2 k4
      refine aw_aload_n dX12_told_48 rfl rfl ?_
      refine aw_getA' rfl fk_1239 (by decide) lf_X12_131 dX12_told_49 (LC.ne lc1 rfl rfl) ?_
      refine aw_bipush (x := 16) dX12_told_52 rfl ?_
      refine aw_iload_n dX12_told_54 rfl rfl ?_
      obtain ⟨⟨c5, c5x⟩, h⟩ := h
      refine aw_imulc dX12_told_55 c5 c5x ?_
      refine aw_iload dX12_told_56 rfl ?_
      obtain ⟨⟨c6, c6x⟩, h⟩ := h
      refine aw_iaddc dX12_told_58 c6 c6x ?_
      obtain ⟨⟨c7, c7x⟩, h⟩ := h
      refine aw_laload (by decide) rfl dX12_told_59 c7 (LC.lt lc1 rfl rfl c7x) ?_
      refine aw_lload_n dX12_told_60 rfl rfl ?_
      refine aw_lcmp_ne (M := MX12_told) (tgt := 67) dX12_told_61 dX12_told_62 (by decide) (fun k8 => ?_) (fun k8 => ?_)
      · replace h := h.1 k8
        obtain ⟨⟨c9, c9x⟩, h⟩ := h
        refine aw_iincc (L' := [some (vR 12 (some x0)), some (vI x1), some (vJ x2), none, some (vI (x4 + 1))]) dX12_told_67 rfl (by decide) rfl c9 c9x rfl ?_
        refine aw_goto (tgt := 27) dX12_told_70 (by decide) ?_
        exact aw_fgt (L' := [some (vR 12 (some x0)), some (vI x1), some (vJ x2), none, some (vI (x4 + 1))]) ⟨rfl, ⟨rfl, ⟨rfl, ⟨rfl, trivial⟩⟩⟩⟩ h
      · replace h := h.2 k8
        refine aw_iconst (x := 1) dX12_told_65 rfl ?_
        exact aw_zreturn dX12_told_66 rfl (Or.inr rfl) h
set_option maxRecDepth 4000 in
theorem bk_X12_top_0 {g : GP} {l : Launch} {d : Nat} {σ : St} {Q : Option AV → St → Prop} {x0 : Nat} {x1 : Int} {x2 : Int}
    (h : ACi g l d MX12_isImage [vR 12 (some x0), vI x1] σ (fun v2 σ1 => ((¬ v2 = 0 → LC 12 σ1 x0 ∧ Bd x1 6 ∧ ((¬ (gI σ1 1202 x0 x1.toNat) = 0 → R32 ((gI σ1 1202 x0 x1.toNat) - 1) ∧ ∀ z8 : Int, z8 = (gI σ1 1202 x0 x1.toNat) - 1 → AW g l (d + 1) MX12_top 37 [some (vR 12 (some x0)), some (vI x1), some (vI x2), some (vI z8), some (vI 0), some (vI 0), none] [] σ1 Q) ∧ ((gI σ1 1202 x0 x1.toNat) = 0 → Q (some (vI (-7))) σ1))) ∧ (v2 = 0 → Q (some (vI (-1))) σ1)))) :
    AW g l (d + 1) MX12_top 0 [some (vR 12 (some x0)), some (vI x1), some (vI x2), none, none, none, none] [] σ Q := by
  refine aw_aload_n dX12_top_0 rfl rfl ?_
  refine aw_iload_n dX12_top_1 rfl rfl ?_
  refine aw_invVi (M := MX12_top) (ci := 12) [vI x1] rfl mo_X12_isImage rfl lm_X12_293 li_X12_isImage ls_X12_isImage (by decide +kernel) dX12_top_2 rfl (Nat.le_of_ble_eq_true rfl) (ACi.mono (fun v2 σ1 h => ?_) h)
  refine aw_if_ne (tgt := 10) dX12_top_5 (by decide) (fun k3 => ?_) (fun k3 => ?_)
  · replace h := h.1 k3
    refine aw_aload_n dX12_top_10 rfl rfl ?_
    obtain ⟨lc4, h⟩ := h
    refine aw_getA' rfl fk_1202 (by decide) lf_X12_17 dX12_top_11 (LC.ne lc4 rfl rfl) ?_
    refine aw_iload_n dX12_top_14 rfl rfl ?_
    obtain ⟨⟨c5, c5x⟩, h⟩ := h
    refine aw_iaload (by decide) rfl dX12_top_15 c5 (LC.lt lc4 rfl rfl c5x) ?_
    refine aw_if_ne (tgt := 22) dX12_top_16 (by decide) (fun k6 => ?_) (fun k6 => ?_)
    · replace h := h.1 k6
      refine aw_aload_n dX12_top_22 rfl rfl ?_
      refine aw_getA' rfl fk_1202 (by decide) lf_X12_17 dX12_top_23 (LC.ne lc4 rfl rfl) ?_
      refine aw_iload_n dX12_top_26 rfl rfl ?_
      refine aw_iaload (by decide) rfl dX12_top_27 c5 (LC.lt lc4 rfl rfl c5x) ?_
      refine aw_iconst (x := 1) dX12_top_28 rfl ?_
      obtain ⟨⟨c7, c7x⟩, h⟩ := h
      refine aw_isubc dX12_top_29 c7 c7x ?_
      refine aw_istore_n (L' := [some (vR 12 (some x0)), some (vI x1), some (vI x2), some (vI ((gI σ1 1202 x0 x1.toNat) - 1)), none, none, none]) dX12_top_30 rfl (by decide) rfl ?_
      obtain ⟨z8, hz8⟩ : ∃ z : Int, z = (gI σ1 1202 x0 x1.toNat) - 1 := ⟨_, rfl⟩
      rw [← hz8]
      replace h := h z8 hz8
      refine aw_iconst (x := 0) dX12_top_31 rfl ?_
      refine aw_istore (L' := [some (vR 12 (some x0)), some (vI x1), some (vI x2), some (vI z8), some (vI 0), none, none]) dX12_top_32 (by decide) rfl ?_
      refine aw_iconst (x := 0) dX12_top_34 rfl ?_
      refine aw_istore (L' := [some (vR 12 (some x0)), some (vI x1), some (vI x2), some (vI z8), some (vI 0), some (vI 0), none]) dX12_top_35 (by decide) rfl ?_
      exact aw_fgt (L' := [some (vR 12 (some x0)), some (vI x1), some (vI x2), some (vI z8), some (vI 0), some (vI 0), none]) ⟨rfl, ⟨rfl, ⟨rfl, ⟨rfl, ⟨rfl, ⟨rfl, trivial⟩⟩⟩⟩⟩⟩ h
    · replace h := h.2 k6
      refine aw_bipush (x := (-7)) dX12_top_19 rfl ?_
      exact aw_ireturn dX12_top_21 rfl h
  · replace h := h.2 k3
    refine aw_iconst (x := (-1)) dX12_top_8 rfl ?_
    exact aw_ireturn dX12_top_9 rfl h
set_option maxRecDepth 4000 in
theorem bk_X12_top_37 {g : GP} {l : Launch} {d : Nat} {σ : St} {Q : Option AV → St → Prop} {x0 : Nat} {x1 : Int} {x2 : Int} {x3 : Int} {x4 : Int} {x5 : Int}
    (h : LC 12 σ x0 ∧ Bd x1 6 ∧ (((gI σ 1201 x0 x1.toNat) ≤ x5 → Q (some (vI x4)) (sI σ 1202 x0 x1.toNat x3)) ∧ (¬ (gI σ 1201 x0 x1.toNat) ≤ x5 → ACi g l d MX12_cell [vR 12 (some x0), vI x1, vI x3, vI x5] σ (fun v5 σ4 => LC 12 σ4 x0 ∧ Bd v5 48000 ∧ ((0 ≤ (gI σ4 1204 x0 v5.toNat) → R32 (x4 + 1) ∧ ((x2 = 0 → AW g l (d + 1) MX12_top 102 [some (vR 12 (some x0)), some (vI x1), some (vI x2), some (vI x3), some (vI (x4 + 1)), some (vI x5), some (vI (gI σ4 1204 x0 v5.toNat))] [] σ4 Q) ∧ (¬ x2 = 0 → ((x3 ≤ 0 → AW g l (d + 1) MX12_top 102 [some (vR 12 (some x0)), some (vI x1), some (vI x2), some (vI x3), some (vI (x4 + 1)), some (vI x5), some (vI (gI σ4 1204 x0 v5.toNat))] [] σ4 Q) ∧ (¬ x3 ≤ 0 → R32 (x3 - 1) ∧ ACi g l d MX12_cell [vR 12 (some x0), vI x1, vI (x3 - 1), vI x5] σ4 (fun v14 σ13 => LC 12 σ13 x0 ∧ Bd v14 48000 ∧ R32 (x5 + 1) ∧ AW g l (d + 1) MX12_top 37 [some (vR 12 (some x0)), some (vI x1), some (vI x2), some (vI x3), some (vI (x4 + 1)), some (vI (x5 + 1)), none] [] (sI σ13 1204 x0 v14.toNat (gI σ4 1204 x0 v5.toNat)) Q)))))) ∧ (¬ 0 ≤ (gI σ4 1204 x0 v5.toNat) → R32 (x5 + 1) ∧ AW g l (d + 1) MX12_top 37 [some (vR 12 (some x0)), some (vI x1), some (vI x2), some (vI x3), some (vI x4), some (vI (x5 + 1)), none] [] σ4 Q)))))) :
    AW g l (d + 1) MX12_top 37 [some (vR 12 (some x0)), some (vI x1), some (vI x2), some (vI x3), some (vI x4), some (vI x5), none] [] σ Q := by
  refine aw_iload dX12_top_37 rfl ?_
  refine aw_aload_n dX12_top_39 rfl rfl ?_
  obtain ⟨lc1, h⟩ := h
  refine aw_getA' rfl fk_1201 (by decide) lf_X12_13 dX12_top_40 (LC.ne lc1 rfl rfl) ?_
  refine aw_iload_n dX12_top_43 rfl rfl ?_
  obtain ⟨⟨c2, c2x⟩, h⟩ := h
  refine aw_iaload (by decide) rfl dX12_top_44 c2 (LC.lt lc1 rfl rfl c2x) ?_
  refine aw_icmp_ge (tgt := 127) dX12_top_45 (by decide) (fun k3 => ?_) (fun k3 => ?_)
  · replace h := h.1 k3
    refine aw_aload_n dX12_top_127 rfl rfl ?_
    refine aw_getA' rfl fk_1202 (by decide) lf_X12_17 dX12_top_128 (LC.ne lc1 rfl rfl) ?_
    refine aw_iload_n dX12_top_131 rfl rfl ?_
    refine aw_iload_n dX12_top_132 rfl rfl ?_
    refine aw_iastore (by decide) rfl dX12_top_133 c2 (LC.lt lc1 rfl rfl c2x) ?_
    refine aw_iload dX12_top_134 rfl ?_
    exact aw_ireturn dX12_top_136 rfl h
  · replace h := h.2 k3
    refine aw_aload_n dX12_top_48 rfl rfl ?_
    refine aw_getA' rfl fk_1204 (by decide) lf_X12_24 dX12_top_49 (LC.ne lc1 rfl rfl) ?_
    refine aw_aload_n dX12_top_52 rfl rfl ?_
    refine aw_iload_n dX12_top_53 rfl rfl ?_
    refine aw_iload_n dX12_top_54 rfl rfl ?_
    refine aw_iload dX12_top_55 rfl ?_
    refine aw_invVi (M := MX12_top) (ci := 12) [vI x1, vI x3, vI x5] rfl mo_X12_cell rfl lm_X12_289 li_X12_cell ls_X12_cell (by decide +kernel) dX12_top_57 rfl (Nat.le_of_ble_eq_true rfl) (ACi.mono (fun v5 σ4 h => ?_) h)
    obtain ⟨lc6, h⟩ := h
    obtain ⟨⟨c7, c7x⟩, h⟩ := h
    refine aw_iaload (by decide) rfl dX12_top_60 c7 (LC.lt lc6 rfl rfl c7x) ?_
    refine aw_istore (L' := [some (vR 12 (some x0)), some (vI x1), some (vI x2), some (vI x3), some (vI x4), some (vI x5), some (vI (gI σ4 1204 x0 v5.toNat))]) dX12_top_61 (by decide) rfl ?_
    refine aw_iload dX12_top_63 rfl ?_
    refine aw_if_ge (tgt := 71) dX12_top_65 (by decide) (fun k8 => ?_) (fun k8 => ?_)
    · replace h := h.1 k8
      obtain ⟨⟨c9, c9x⟩, h⟩ := h
      refine aw_iincc (L' := [some (vR 12 (some x0)), some (vI x1), some (vI x2), some (vI x3), some (vI (x4 + 1)), some (vI x5), some (vI (gI σ4 1204 x0 v5.toNat))]) dX12_top_71 rfl (by decide) rfl c9 c9x rfl ?_
      refine aw_iload_n dX12_top_74 rfl rfl ?_
      refine aw_if_eq (tgt := 102) dX12_top_75 (by decide) (fun k10 => ?_) (fun k10 => ?_)
      · replace h := h.1 k10
        exact aw_fgt (L' := [some (vR 12 (some x0)), some (vI x1), some (vI x2), some (vI x3), some (vI (x4 + 1)), some (vI x5), some (vI (gI σ4 1204 x0 v5.toNat))]) ⟨rfl, ⟨rfl, ⟨rfl, ⟨rfl, ⟨rfl, ⟨rfl, ⟨rfl, trivial⟩⟩⟩⟩⟩⟩⟩ h
      · replace h := h.2 k10
        refine aw_iload_n dX12_top_78 rfl rfl ?_
        refine aw_if_le (tgt := 102) dX12_top_79 (by decide) (fun k11 => ?_) (fun k11 => ?_)
        · replace h := h.1 k11
          exact aw_fgt (L' := [some (vR 12 (some x0)), some (vI x1), some (vI x2), some (vI x3), some (vI (x4 + 1)), some (vI x5), some (vI (gI σ4 1204 x0 v5.toNat))]) ⟨rfl, ⟨rfl, ⟨rfl, ⟨rfl, ⟨rfl, ⟨rfl, ⟨rfl, trivial⟩⟩⟩⟩⟩⟩⟩ h
        · replace h := h.2 k11
          refine aw_aload_n dX12_top_82 rfl rfl ?_
          refine aw_getA' rfl fk_1204 (by decide) lf_X12_24 dX12_top_83 (LC.ne lc6 rfl rfl) ?_
          refine aw_aload_n dX12_top_86 rfl rfl ?_
          refine aw_iload_n dX12_top_87 rfl rfl ?_
          refine aw_iload_n dX12_top_88 rfl rfl ?_
          refine aw_iconst (x := 1) dX12_top_89 rfl ?_
          obtain ⟨⟨c12, c12x⟩, h⟩ := h
          refine aw_isubc dX12_top_90 c12 c12x ?_
          refine aw_iload dX12_top_91 rfl ?_
          refine aw_invVi (M := MX12_top) (ci := 12) [vI x1, vI (x3 - 1), vI x5] rfl mo_X12_cell rfl lm_X12_289 li_X12_cell ls_X12_cell (by decide +kernel) dX12_top_93 rfl (Nat.le_of_ble_eq_true rfl) (ACi.mono (fun v14 σ13 h => ?_) h)
          refine aw_iload dX12_top_96 rfl ?_
          obtain ⟨lc15, h⟩ := h
          obtain ⟨⟨c16, c16x⟩, h⟩ := h
          refine aw_iastore (by decide) rfl dX12_top_98 c16 (LC.lt lc15 rfl rfl c16x) ?_
          refine aw_goto (tgt := 121) dX12_top_99 (by decide) ?_
          obtain ⟨⟨c17, c17x⟩, h⟩ := h
          refine aw_iincc (L' := [some (vR 12 (some x0)), some (vI x1), some (vI x2), some (vI x3), some (vI (x4 + 1)), some (vI (x5 + 1)), some (vI (gI σ4 1204 x0 v5.toNat))]) dX12_top_121 rfl (by decide) rfl c17 c17x rfl ?_
          refine aw_goto (tgt := 37) dX12_top_124 (by decide) ?_
          exact aw_fgt (L' := [some (vR 12 (some x0)), some (vI x1), some (vI x2), some (vI x3), some (vI (x4 + 1)), some (vI (x5 + 1)), none]) ⟨rfl, ⟨rfl, ⟨rfl, ⟨rfl, ⟨rfl, ⟨rfl, trivial⟩⟩⟩⟩⟩⟩ h
    · replace h := h.2 k8
      refine aw_goto (tgt := 121) dX12_top_68 (by decide) ?_
      obtain ⟨⟨c18, c18x⟩, h⟩ := h
      refine aw_iincc (L' := [some (vR 12 (some x0)), some (vI x1), some (vI x2), some (vI x3), some (vI x4), some (vI (x5 + 1)), some (vI (gI σ4 1204 x0 v5.toNat))]) dX12_top_121 rfl (by decide) rfl c18 c18x rfl ?_
      refine aw_goto (tgt := 37) dX12_top_124 (by decide) ?_
      exact aw_fgt (L' := [some (vR 12 (some x0)), some (vI x1), some (vI x2), some (vI x3), some (vI x4), some (vI (x5 + 1)), none]) ⟨rfl, ⟨rfl, ⟨rfl, ⟨rfl, ⟨rfl, ⟨rfl, trivial⟩⟩⟩⟩⟩⟩ h
set_option maxRecDepth 4000 in
theorem bk_X12_top_102 {g : GP} {l : Launch} {d : Nat} {σ : St} {Q : Option AV → St → Prop} {x0 : Nat} {x1 : Int} {x2 : Int} {x3 : Int} {x4 : Int} {x5 : Int} {x6 : Int}
    (h : ((x2 = 0 → R32 (x5 + 1) ∧ AW g l (d + 1) MX12_top 37 [some (vR 12 (some x0)), some (vI x1), some (vI x2), some (vI x3), some (vI x4), some (vI (x5 + 1)), none] [] σ Q) ∧ (¬ x2 = 0 → LC 12 σ x0 ∧ R32 (2000 * x1) ∧ R32 ((2000 * x1) + x5) ∧ Bd ((2000 * x1) + x5) 12000 ∧ R32 (x5 + 1) ∧ AW g l (d + 1) MX12_top 37 [some (vR 12 (some x0)), some (vI x1), some (vI x2), some (vI x3), some (vI x4), some (vI (x5 + 1)), none] [] (sI σ 1203 x0 ((2000 * x1) + x5).toNat x6) Q))) :
    AW g l (d + 1) MX12_top 102 [some (vR 12 (some x0)), some (vI x1), some (vI x2), some (vI x3), some (vI x4), some (vI x5), some (vI x6)] [] σ Q := by
  refine aw_iload_n dX12_top_102 rfl rfl ?_
  refine aw_if_eq (tgt := 121) dX12_top_103 (by decide) (fun k1 => ?_) (fun k1 => ?_)
  · replace h := h.1 k1
    obtain ⟨⟨c2, c2x⟩, h⟩ := h
    refine aw_iincc (L' := [some (vR 12 (some x0)), some (vI x1), some (vI x2), some (vI x3), some (vI x4), some (vI (x5 + 1)), some (vI x6)]) dX12_top_121 rfl (by decide) rfl c2 c2x rfl ?_
    refine aw_goto (tgt := 37) dX12_top_124 (by decide) ?_
    exact aw_fgt (L' := [some (vR 12 (some x0)), some (vI x1), some (vI x2), some (vI x3), some (vI x4), some (vI (x5 + 1)), none]) ⟨rfl, ⟨rfl, ⟨rfl, ⟨rfl, ⟨rfl, ⟨rfl, trivial⟩⟩⟩⟩⟩⟩ h
  · replace h := h.2 k1
    refine aw_aload_n dX12_top_106 rfl rfl ?_
    obtain ⟨lc3, h⟩ := h
    refine aw_getA' rfl fk_1203 (by decide) lf_X12_20 dX12_top_107 (LC.ne lc3 rfl rfl) ?_
    refine aw_sipush (x := 2000) dX12_top_110 rfl ?_
    refine aw_iload_n dX12_top_113 rfl rfl ?_
    obtain ⟨⟨c4, c4x⟩, h⟩ := h
    refine aw_imulc dX12_top_114 c4 c4x ?_
    refine aw_iload dX12_top_115 rfl ?_
    obtain ⟨⟨c5, c5x⟩, h⟩ := h
    refine aw_iaddc dX12_top_117 c5 c5x ?_
    refine aw_iload dX12_top_118 rfl ?_
    obtain ⟨⟨c6, c6x⟩, h⟩ := h
    refine aw_iastore (by decide) rfl dX12_top_120 c6 (LC.lt lc3 rfl rfl c6x) ?_
    obtain ⟨⟨c7, c7x⟩, h⟩ := h
    refine aw_iincc (L' := [some (vR 12 (some x0)), some (vI x1), some (vI x2), some (vI x3), some (vI x4), some (vI (x5 + 1)), some (vI x6)]) dX12_top_121 rfl (by decide) rfl c7 c7x rfl ?_
    refine aw_goto (tgt := 37) dX12_top_124 (by decide) ?_
    exact aw_fgt (L' := [some (vR 12 (some x0)), some (vI x1), some (vI x2), some (vI x3), some (vI x4), some (vI (x5 + 1)), none]) ⟨rfl, ⟨rfl, ⟨rfl, ⟨rfl, ⟨rfl, ⟨rfl, trivial⟩⟩⟩⟩⟩⟩ h
set_option maxRecDepth 4000 in
theorem bk_X12_undo_0 {g : GP} {l : Launch} {d : Nat} {σ : St} {Q : Option AV → St → Prop} {x0 : Nat} {x1 : Int}
    (h : ACi g l d MX12_isImage [vR 12 (some x0), vI x1] σ (fun v2 σ1 => ((¬ v2 = 0 → LC 12 σ1 x0 ∧ Bd x1 6 ∧ ((¬ (gI σ1 1202 x0 x1.toNat) = 0 → R32 (4 * x1) ∧ R32 ((4 * x1) + (gI σ1 1202 x0 x1.toNat)) ∧ R32 (((4 * x1) + (gI σ1 1202 x0 x1.toNat)) - 1) ∧ ∀ z10 : Int, z10 = ((4 * x1) + (gI σ1 1202 x0 x1.toNat)) - 1 → Bd z10 24 ∧ ((¬ (gI σ1 1205 x0 z10.toNat) = 0 → R32 ((gI σ1 1205 x0 z10.toNat) - 1) ∧ R32 (20 * z10) ∧ R32 ((20 * z10) + ((gI σ1 1205 x0 z10.toNat) - 1)) ∧ ∀ z16 : Int, z16 = (20 * z10) + ((gI σ1 1205 x0 z10.toNat) - 1) → AW g l (d + 1) MX12_undo 71 [some (vR 12 (some x0)), some (vI x1), none, some (vI z16), some (vI 0)] [] (sI σ1 1205 x0 z10.toNat ((gI σ1 1205 x0 z10.toNat) - 1)) Q) ∧ ((gI σ1 1205 x0 z10.toNat) = 0 → Q (some (vI 0)) σ1))) ∧ ((gI σ1 1202 x0 x1.toNat) = 0 → Q (some (vI (-7))) σ1))) ∧ (v2 = 0 → Q (some (vI (-1))) σ1)))) :
    AW g l (d + 1) MX12_undo 0 [some (vR 12 (some x0)), some (vI x1), none, none, none] [] σ Q := by
  refine aw_aload_n dX12_undo_0 rfl rfl ?_
  refine aw_iload_n dX12_undo_1 rfl rfl ?_
  refine aw_invVi (M := MX12_undo) (ci := 12) [vI x1] rfl mo_X12_isImage rfl lm_X12_293 li_X12_isImage ls_X12_isImage (by decide +kernel) dX12_undo_2 rfl (Nat.le_of_ble_eq_true rfl) (ACi.mono (fun v2 σ1 h => ?_) h)
  refine aw_if_ne (tgt := 10) dX12_undo_5 (by decide) (fun k3 => ?_) (fun k3 => ?_)
  · replace h := h.1 k3
    refine aw_aload_n dX12_undo_10 rfl rfl ?_
    obtain ⟨lc4, h⟩ := h
    refine aw_getA' rfl fk_1202 (by decide) lf_X12_17 dX12_undo_11 (LC.ne lc4 rfl rfl) ?_
    refine aw_iload_n dX12_undo_14 rfl rfl ?_
    obtain ⟨⟨c5, c5x⟩, h⟩ := h
    refine aw_iaload (by decide) rfl dX12_undo_15 c5 (LC.lt lc4 rfl rfl c5x) ?_
    refine aw_if_ne (tgt := 22) dX12_undo_16 (by decide) (fun k6 => ?_) (fun k6 => ?_)
    · replace h := h.1 k6
      refine aw_iconst (x := 4) dX12_undo_22 rfl ?_
      refine aw_iload_n dX12_undo_23 rfl rfl ?_
      obtain ⟨⟨c7, c7x⟩, h⟩ := h
      refine aw_imulc dX12_undo_24 c7 c7x ?_
      refine aw_aload_n dX12_undo_25 rfl rfl ?_
      refine aw_getA' rfl fk_1202 (by decide) lf_X12_17 dX12_undo_26 (LC.ne lc4 rfl rfl) ?_
      refine aw_iload_n dX12_undo_29 rfl rfl ?_
      refine aw_iaload (by decide) rfl dX12_undo_30 c5 (LC.lt lc4 rfl rfl c5x) ?_
      obtain ⟨⟨c8, c8x⟩, h⟩ := h
      refine aw_iaddc dX12_undo_31 c8 c8x ?_
      refine aw_iconst (x := 1) dX12_undo_32 rfl ?_
      obtain ⟨⟨c9, c9x⟩, h⟩ := h
      refine aw_isubc dX12_undo_33 c9 c9x ?_
      refine aw_istore_n (L' := [some (vR 12 (some x0)), some (vI x1), some (vI (((4 * x1) + (gI σ1 1202 x0 x1.toNat)) - 1)), none, none]) dX12_undo_34 rfl (by decide) rfl ?_
      obtain ⟨z10, hz10⟩ : ∃ z : Int, z = ((4 * x1) + (gI σ1 1202 x0 x1.toNat)) - 1 := ⟨_, rfl⟩
      rw [← hz10]
      replace h := h z10 hz10
      refine aw_aload_n dX12_undo_35 rfl rfl ?_
      refine aw_getA' rfl fk_1205 (by decide) lf_X12_27 dX12_undo_36 (LC.ne lc4 rfl rfl) ?_
      refine aw_iload_n dX12_undo_39 rfl rfl ?_
      obtain ⟨⟨c11, c11x⟩, h⟩ := h
      refine aw_iaload (by decide) rfl dX12_undo_40 c11 (LC.lt lc4 rfl rfl c11x) ?_
      refine aw_if_ne (tgt := 46) dX12_undo_41 (by decide) (fun k12 => ?_) (fun k12 => ?_)
      · replace h := h.1 k12
        refine aw_aload_n dX12_undo_46 rfl rfl ?_
        refine aw_getA' rfl fk_1205 (by decide) lf_X12_27 dX12_undo_47 (LC.ne lc4 rfl rfl) ?_
        refine aw_iload_n dX12_undo_50 rfl rfl ?_
        refine aw_dup2 dX12_undo_51 rfl rfl ?_
        refine aw_iaload (by decide) rfl dX12_undo_52 c11 (LC.lt lc4 rfl rfl c11x) ?_
        refine aw_iconst (x := 1) dX12_undo_53 rfl ?_
        obtain ⟨⟨c13, c13x⟩, h⟩ := h
        refine aw_isubc dX12_undo_54 c13 c13x ?_
        refine aw_iastore (by decide) rfl dX12_undo_55 c11 (LC.lt lc4 rfl rfl c11x) ?_
        refine aw_bipush (x := 20) dX12_undo_56 rfl ?_
        refine aw_iload_n dX12_undo_58 rfl rfl ?_
        obtain ⟨⟨c14, c14x⟩, h⟩ := h
        refine aw_imulc dX12_undo_59 c14 c14x ?_
        refine aw_aload_n dX12_undo_60 rfl rfl ?_
        refine aw_getA' rfl fk_1205 (by decide) lf_X12_27 dX12_undo_61 (LC.ne lc4 rfl rfl) ?_
        refine aw_iload_n dX12_undo_64 rfl rfl ?_
        refine aw_ialoade (v := ((gI σ1 1205 x0 z10.toNat) - 1)) (by decide) rfl dX12_undo_65 c11 (LC.lt lc4 rfl rfl c11x) (gI_slf σ1 1205 x0 z10.toNat ((gI σ1 1205 x0 z10.toNat) - 1)) ?_
        obtain ⟨⟨c15, c15x⟩, h⟩ := h
        refine aw_iaddc dX12_undo_66 c15 c15x ?_
        refine aw_istore_n (L' := [some (vR 12 (some x0)), some (vI x1), some (vI z10), some (vI ((20 * z10) + ((gI σ1 1205 x0 z10.toNat) - 1))), none]) dX12_undo_67 rfl (by decide) rfl ?_
        obtain ⟨z16, hz16⟩ : ∃ z : Int, z = (20 * z10) + ((gI σ1 1205 x0 z10.toNat) - 1) := ⟨_, rfl⟩
        rw [← hz16]
        replace h := h z16 hz16
        refine aw_iconst (x := 0) dX12_undo_68 rfl ?_
        refine aw_istore (L' := [some (vR 12 (some x0)), some (vI x1), some (vI z10), some (vI z16), some (vI 0)]) dX12_undo_69 (by decide) rfl ?_
        exact aw_fgt (L' := [some (vR 12 (some x0)), some (vI x1), none, some (vI z16), some (vI 0)]) ⟨rfl, ⟨rfl, ⟨rfl, ⟨rfl, trivial⟩⟩⟩⟩ h
      · replace h := h.2 k12
        refine aw_iconst (x := 0) dX12_undo_44 rfl ?_
        exact aw_ireturn dX12_undo_45 rfl h
    · replace h := h.2 k6
      refine aw_bipush (x := (-7)) dX12_undo_19 rfl ?_
      exact aw_ireturn dX12_undo_21 rfl h
  · replace h := h.2 k3
    refine aw_iconst (x := (-1)) dX12_undo_8 rfl ?_
    exact aw_ireturn dX12_undo_9 rfl h
set_option maxRecDepth 4000 in
theorem bk_X12_undo_71 {g : GP} {l : Launch} {d : Nat} {σ : St} {Q : Option AV → St → Prop} {x0 : Nat} {x1 : Int} {x3 : Int} {x4 : Int}
    (h : LC 12 σ x0 ∧ Bd x3 480 ∧ (((gI σ 1206 x0 x3.toNat) ≤ x4 → Q (some (vI (gI σ 1206 x0 x3.toNat))) σ) ∧ (¬ (gI σ 1206 x0 x3.toNat) ≤ x4 → Bd x1 6 ∧ R32 ((gI σ 1202 x0 x1.toNat) - 1) ∧ R32 (8 * x3) ∧ R32 ((8 * x3) + x4) ∧ Bd ((8 * x3) + x4) 3840 ∧ ACi g l d MX12_cell [vR 12 (some x0), vI x1, vI ((gI σ 1202 x0 x1.toNat) - 1), vI (gI σ 1207 x0 ((8 * x3) + x4).toNat)] σ (fun v10 σ9 => LC 12 σ9 x0 ∧ Bd v10 48000 ∧ R32 (x4 + 1) ∧ AW g l (d + 1) MX12_undo 71 [some (vR 12 (some x0)), some (vI x1), none, some (vI x3), some (vI (x4 + 1))] [] (sI σ9 1204 x0 v10.toNat (gI σ9 1208 x0 ((8 * x3) + x4).toNat)) Q)))) :
    AW g l (d + 1) MX12_undo 71 [some (vR 12 (some x0)), some (vI x1), none, some (vI x3), some (vI x4)] [] σ Q := by
  refine aw_iload dX12_undo_71 rfl ?_
  refine aw_aload_n dX12_undo_73 rfl rfl ?_
  obtain ⟨lc1, h⟩ := h
  refine aw_getA' rfl fk_1206 (by decide) lf_X12_30 dX12_undo_74 (LC.ne lc1 rfl rfl) ?_
  refine aw_iload_n dX12_undo_77 rfl rfl ?_
  obtain ⟨⟨c2, c2x⟩, h⟩ := h
  refine aw_iaload (by decide) rfl dX12_undo_78 c2 (LC.lt lc1 rfl rfl c2x) ?_
  refine aw_icmp_ge (tgt := 130) dX12_undo_79 (by decide) (fun k3 => ?_) (fun k3 => ?_)
  · replace h := h.1 k3
    refine aw_aload_n dX12_undo_130 rfl rfl ?_
    refine aw_getA' rfl fk_1206 (by decide) lf_X12_30 dX12_undo_131 (LC.ne lc1 rfl rfl) ?_
    refine aw_iload_n dX12_undo_134 rfl rfl ?_
    refine aw_iaload (by decide) rfl dX12_undo_135 c2 (LC.lt lc1 rfl rfl c2x) ?_
    exact aw_ireturn dX12_undo_136 rfl h
  · replace h := h.2 k3
    refine aw_aload_n dX12_undo_82 rfl rfl ?_
    refine aw_getA' rfl fk_1204 (by decide) lf_X12_24 dX12_undo_83 (LC.ne lc1 rfl rfl) ?_
    refine aw_aload_n dX12_undo_86 rfl rfl ?_
    refine aw_iload_n dX12_undo_87 rfl rfl ?_
    refine aw_aload_n dX12_undo_88 rfl rfl ?_
    refine aw_getA' rfl fk_1202 (by decide) lf_X12_17 dX12_undo_89 (LC.ne lc1 rfl rfl) ?_
    refine aw_iload_n dX12_undo_92 rfl rfl ?_
    obtain ⟨⟨c4, c4x⟩, h⟩ := h
    refine aw_iaload (by decide) rfl dX12_undo_93 c4 (LC.lt lc1 rfl rfl c4x) ?_
    refine aw_iconst (x := 1) dX12_undo_94 rfl ?_
    obtain ⟨⟨c5, c5x⟩, h⟩ := h
    refine aw_isubc dX12_undo_95 c5 c5x ?_
    refine aw_aload_n dX12_undo_96 rfl rfl ?_
    refine aw_getA' rfl fk_1207 (by decide) lf_X12_33 dX12_undo_97 (LC.ne lc1 rfl rfl) ?_
    refine aw_bipush (x := 8) dX12_undo_100 rfl ?_
    refine aw_iload_n dX12_undo_102 rfl rfl ?_
    obtain ⟨⟨c6, c6x⟩, h⟩ := h
    refine aw_imulc dX12_undo_103 c6 c6x ?_
    refine aw_iload dX12_undo_104 rfl ?_
    obtain ⟨⟨c7, c7x⟩, h⟩ := h
    refine aw_iaddc dX12_undo_106 c7 c7x ?_
    obtain ⟨⟨c8, c8x⟩, h⟩ := h
    refine aw_iaload (by decide) rfl dX12_undo_107 c8 (LC.lt lc1 rfl rfl c8x) ?_
    refine aw_invVi (M := MX12_undo) (ci := 12) [vI x1, vI ((gI σ 1202 x0 x1.toNat) - 1), vI (gI σ 1207 x0 ((8 * x3) + x4).toNat)] rfl mo_X12_cell rfl lm_X12_289 li_X12_cell ls_X12_cell (by decide +kernel) dX12_undo_108 rfl (Nat.le_of_ble_eq_true rfl) (ACi.mono (fun v10 σ9 h => ?_) h)
    refine aw_aload_n dX12_undo_111 rfl rfl ?_
    obtain ⟨lc11, h⟩ := h
    refine aw_getA' rfl fk_1208 (by decide) lf_X12_36 dX12_undo_112 (LC.ne lc11 rfl rfl) ?_
    refine aw_bipush (x := 8) dX12_undo_115 rfl ?_
    refine aw_iload_n dX12_undo_117 rfl rfl ?_
    refine aw_imulc dX12_undo_118 c6 c6x ?_
    refine aw_iload dX12_undo_119 rfl ?_
    refine aw_iaddc dX12_undo_121 c7 c7x ?_
    refine aw_iaload (by decide) rfl dX12_undo_122 c8 (LC.lt lc11 rfl rfl c8x) ?_
    obtain ⟨⟨c12, c12x⟩, h⟩ := h
    refine aw_iastore (by decide) rfl dX12_undo_123 c12 (LC.lt lc11 rfl rfl c12x) ?_
    obtain ⟨⟨c13, c13x⟩, h⟩ := h
    refine aw_iincc (L' := [some (vR 12 (some x0)), some (vI x1), none, some (vI x3), some (vI (x4 + 1))]) dX12_undo_124 rfl (by decide) rfl c13 c13x rfl ?_
    refine aw_goto (tgt := 71) dX12_undo_127 (by decide) ?_
    exact aw_fgt (L' := [some (vR 12 (some x0)), some (vI x1), none, some (vI x3), some (vI (x4 + 1))]) ⟨rfl, ⟨rfl, ⟨rfl, ⟨rfl, trivial⟩⟩⟩⟩ h
set_option maxRecDepth 4000 in
theorem bk_X12_unionLaid_0 {g : GP} {l : Launch} {d : Nat} {σ : St} {Q : Option AV → St → Prop} {x0 : Nat} {x1 : Int} {x2 : Int} {x3 : Int}
    (h : LC 12 σ x0 ∧ Bd x2 560 ∧ Bd x1 2800 ∧ ACj g l d MX12_worked [vR 12 (some x0), vI (gI σ 1233 x0 x2.toNat), vI x3, vI (gI σ 1268 x0 x1.toNat)] σ (fun v5 σ4 => (((gI σ4 1286 x0 0) = 0 → LC 12 σ4 x0 ∧ R32 ((gI σ4 1237 x0 x2.toNat) - 1) ∧ ∀ z9 : Int, z9 = (gI σ4 1237 x0 x2.toNat) - 1 → AW g l (d + 1) MX12_unionLaid 52 [some (vR 12 (some x0)), some (vI x1), some (vI x2), none, some (vJ v5), none, some (vI (gI σ4 1236 x0 x2.toNat)), some (vI z9)] [] σ4 Q) ∧ (¬ (gI σ4 1286 x0 0) = 0 → ACv g l d MX12_faulty [vR 12 (some x0), vI x1, vI 6] σ4 (fun σ10 => Q none σ10))))) :
    AW g l (d + 1) MX12_unionLaid 0 [some (vR 12 (some x0)), some (vI x1), some (vI x2), some (vI x3), none, none, none, none] [] σ Q := by
  refine aw_aload_n dX12_unionLaid_0 rfl rfl ?_
  refine aw_aload_n dX12_unionLaid_1 rfl rfl ?_
  obtain ⟨lc1, h⟩ := h
  refine aw_getA' rfl fk_1233 (by decide) lf_X12_113 dX12_unionLaid_2 (LC.ne lc1 rfl rfl) ?_
  refine aw_iload_n dX12_unionLaid_5 rfl rfl ?_
  obtain ⟨⟨c2, c2x⟩, h⟩ := h
  refine aw_iaload (by decide) rfl dX12_unionLaid_6 c2 (LC.lt lc1 rfl rfl c2x) ?_
  refine aw_iload_n dX12_unionLaid_7 rfl rfl ?_
  refine aw_aload_n dX12_unionLaid_8 rfl rfl ?_
  refine aw_getA' rfl fk_1268 (by decide) lf_X12_220 dX12_unionLaid_9 (LC.ne lc1 rfl rfl) ?_
  refine aw_iload_n dX12_unionLaid_12 rfl rfl ?_
  obtain ⟨⟨c3, c3x⟩, h⟩ := h
  refine aw_iaload (by decide) rfl dX12_unionLaid_13 c3 (LC.lt lc1 rfl rfl c3x) ?_
  refine aw_invVj (M := MX12_unionLaid) (ci := 12) [vI (gI σ 1233 x0 x2.toNat), vI x3, vI (gI σ 1268 x0 x1.toNat)] rfl mo_X12_worked rfl lm_X12_608 li_X12_worked ls_X12_worked (by decide +kernel) dX12_unionLaid_14 rfl (Nat.le_of_ble_eq_true rfl) (ACj.mono (fun v5 σ4 h => ?_) h)
  refine aw_lstore (L' := [some (vR 12 (some x0)), some (vI x1), some (vI x2), some (vI x3), some (vJ v5), none, none, none]) dX12_unionLaid_17 (by decide) rfl ?_
  refine aw_aload_n dX12_unionLaid_19 rfl rfl ?_
  refine aw_getZ' rfl fk_1286 lf_X12_274 dX12_unionLaid_20 ?_
  refine aw_if_eq (tgt := 34) dX12_unionLaid_23 (by decide) (fun k6 => ?_) (fun k6 => ?_)
  · replace h := h.1 k6
    refine aw_aload_n dX12_unionLaid_34 rfl rfl ?_
    obtain ⟨lc7, h⟩ := h
    refine aw_getA' rfl fk_1236 (by decide) lf_X12_122 dX12_unionLaid_35 (LC.ne lc7 rfl rfl) ?_
    refine aw_iload_n dX12_unionLaid_38 rfl rfl ?_
    refine aw_iaload (by decide) rfl dX12_unionLaid_39 c2 (LC.lt lc7 rfl rfl c2x) ?_
    refine aw_istore (L' := [some (vR 12 (some x0)), some (vI x1), some (vI x2), some (vI x3), some (vJ v5), none, some (vI (gI σ4 1236 x0 x2.toNat)), none]) dX12_unionLaid_40 (by decide) rfl ?_
    refine aw_aload_n dX12_unionLaid_42 rfl rfl ?_
    refine aw_getA' rfl fk_1237 (by decide) lf_X12_125 dX12_unionLaid_43 (LC.ne lc7 rfl rfl) ?_
    refine aw_iload_n dX12_unionLaid_46 rfl rfl ?_
    refine aw_iaload (by decide) rfl dX12_unionLaid_47 c2 (LC.lt lc7 rfl rfl c2x) ?_
    refine aw_iconst (x := 1) dX12_unionLaid_48 rfl ?_
    obtain ⟨⟨c8, c8x⟩, h⟩ := h
    refine aw_isubc dX12_unionLaid_49 c8 c8x ?_
    refine aw_istore (L' := [some (vR 12 (some x0)), some (vI x1), some (vI x2), some (vI x3), some (vJ v5), none, some (vI (gI σ4 1236 x0 x2.toNat)), some (vI ((gI σ4 1237 x0 x2.toNat) - 1))]) dX12_unionLaid_50 (by decide) rfl ?_
    obtain ⟨z9, hz9⟩ : ∃ z : Int, z = (gI σ4 1237 x0 x2.toNat) - 1 := ⟨_, rfl⟩
    rw [← hz9]
    replace h := h z9 hz9
    exact aw_fgt (L' := [some (vR 12 (some x0)), some (vI x1), some (vI x2), none, some (vJ v5), none, some (vI (gI σ4 1236 x0 x2.toNat)), some (vI z9)]) ⟨rfl, ⟨rfl, ⟨rfl, ⟨rfl, ⟨rfl, ⟨rfl, trivial⟩⟩⟩⟩⟩⟩ h
  · replace h := h.2 k6
    refine aw_aload_n dX12_unionLaid_26 rfl rfl ?_
    refine aw_iload_n dX12_unionLaid_27 rfl rfl ?_
    refine aw_bipush (x := 6) dX12_unionLaid_28 rfl ?_
    refine aw_invVv (M := MX12_unionLaid) (ci := 12) [vI x1, vI 6] rfl mo_X12_faulty rfl lm_X12_577 li_X12_faulty ls_X12_faulty (by decide +kernel) dX12_unionLaid_30 rfl (Nat.le_of_ble_eq_true rfl) (ACv.mono (fun σ10 h => ?_) h)
    exact aw_ret h rfl dX12_unionLaid_33
set_option maxRecDepth 4000 in
theorem bk_X12_unionLaid_52 {g : GP} {l : Launch} {d : Nat} {σ : St} {Q : Option AV → St → Prop} {x0 : Nat} {x1 : Int} {x2 : Int} {x4 : Int64} {x6 : Int} {x7 : Int}
    (h : ((x7 < 0 → ((0 ≤ x6 → ACv g l d MX12_opens [vR 12 (some x0), vI x1, vI 0] σ (fun σ3 => LC 12 σ3 x0 ∧ Bd x1 2800 ∧ ACv g l d MX12_begun [vR 12 (some x0), vI x6, vI x1, vI (gI σ3 1268 x0 x1.toNat), vI (-1)] σ3 (fun σ6 => Q none σ6))) ∧ (¬ 0 ≤ x6 → ACv g l d MX12_faulty [vR 12 (some x0), vI x1, vI 7] σ (fun σ7 => Q none σ7)))) ∧ (¬ x7 < 0 → LC 12 σ x0 ∧ R32 (16 * x2) ∧ R32 ((16 * x2) + x7) ∧ Bd ((16 * x2) + x7) 8960 ∧ ((¬ (gJ σ 1240 x0 ((16 * x2) + x7).toNat) = x4 → R32 (x7 + (-1)) ∧ AW g l (d + 1) MX12_unionLaid 52 [some (vR 12 (some x0)), some (vI x1), some (vI x2), none, some (vJ x4), none, some (vI x6), some (vI (x7 + (-1)))] [] σ Q) ∧ ((gJ σ 1240 x0 ((16 * x2) + x7).toNat) = x4 → ∀ z14 : Int, z14 = gI σ 1241 x0 ((16 * x2) + x7).toNat → R32 (x7 + (-1)) ∧ AW g l (d + 1) MX12_unionLaid 52 [some (vR 12 (some x0)), some (vI x1), some (vI x2), none, some (vJ x4), none, some (vI z14), some (vI (x7 + (-1)))] [] σ Q))))) :
    AW g l (d + 1) MX12_unionLaid 52 [some (vR 12 (some x0)), some (vI x1), some (vI x2), none, some (vJ x4), none, some (vI x6), some (vI x7)] [] σ Q := by
  refine aw_iload dX12_unionLaid_52 rfl ?_
  refine aw_if_lt (tgt := 95) dX12_unionLaid_54 (by decide) (fun k1 => ?_) (fun k1 => ?_)
  · replace h := h.1 k1
    refine aw_iload dX12_unionLaid_95 rfl ?_
    refine aw_if_ge (tgt := 108) dX12_unionLaid_97 (by decide) (fun k2 => ?_) (fun k2 => ?_)
    · replace h := h.1 k2
      refine aw_aload_n dX12_unionLaid_108 rfl rfl ?_
      refine aw_iload_n dX12_unionLaid_109 rfl rfl ?_
      refine aw_iconst (x := 0) dX12_unionLaid_110 rfl ?_
      refine aw_invVv (M := MX12_unionLaid) (ci := 12) [vI x1, vI 0] rfl mo_X12_opens rfl lm_X12_587 li_X12_opens ls_X12_opens (by decide +kernel) dX12_unionLaid_111 rfl (Nat.le_of_ble_eq_true rfl) (ACv.mono (fun σ3 h => ?_) h)
      refine aw_aload_n dX12_unionLaid_114 rfl rfl ?_
      refine aw_iload dX12_unionLaid_115 rfl ?_
      refine aw_iload_n dX12_unionLaid_117 rfl rfl ?_
      refine aw_aload_n dX12_unionLaid_118 rfl rfl ?_
      obtain ⟨lc4, h⟩ := h
      refine aw_getA' rfl fk_1268 (by decide) lf_X12_220 dX12_unionLaid_119 (LC.ne lc4 rfl rfl) ?_
      refine aw_iload_n dX12_unionLaid_122 rfl rfl ?_
      obtain ⟨⟨c5, c5x⟩, h⟩ := h
      refine aw_iaload (by decide) rfl dX12_unionLaid_123 c5 (LC.lt lc4 rfl rfl c5x) ?_
      refine aw_iconst (x := (-1)) dX12_unionLaid_124 rfl ?_
      refine aw_invVv (M := MX12_unionLaid) (ci := 12) [vI x6, vI x1, vI (gI σ3 1268 x0 x1.toNat), vI (-1)] rfl mo_X12_begun rfl lm_X12_590 li_X12_begun ls_X12_begun (by decide +kernel) dX12_unionLaid_125 rfl (Nat.le_of_ble_eq_true rfl) (ACv.mono (fun σ6 h => ?_) h)
      exact aw_ret h rfl dX12_unionLaid_128
    · replace h := h.2 k2
      refine aw_aload_n dX12_unionLaid_100 rfl rfl ?_
      refine aw_iload_n dX12_unionLaid_101 rfl rfl ?_
      refine aw_bipush (x := 7) dX12_unionLaid_102 rfl ?_
      refine aw_invVv (M := MX12_unionLaid) (ci := 12) [vI x1, vI 7] rfl mo_X12_faulty rfl lm_X12_577 li_X12_faulty ls_X12_faulty (by decide +kernel) dX12_unionLaid_104 rfl (Nat.le_of_ble_eq_true rfl) (ACv.mono (fun σ7 h => ?_) h)
      exact aw_ret h rfl dX12_unionLaid_107
  · replace h := h.2 k1
    refine aw_aload_n dX12_unionLaid_57 rfl rfl ?_
    obtain ⟨lc8, h⟩ := h
    refine aw_getA' rfl fk_1240 (by decide) lf_X12_134 dX12_unionLaid_58 (LC.ne lc8 rfl rfl) ?_
    refine aw_bipush (x := 16) dX12_unionLaid_61 rfl ?_
    refine aw_iload_n dX12_unionLaid_63 rfl rfl ?_
    obtain ⟨⟨c9, c9x⟩, h⟩ := h
    refine aw_imulc dX12_unionLaid_64 c9 c9x ?_
    refine aw_iload dX12_unionLaid_65 rfl ?_
    obtain ⟨⟨c10, c10x⟩, h⟩ := h
    refine aw_iaddc dX12_unionLaid_67 c10 c10x ?_
    obtain ⟨⟨c11, c11x⟩, h⟩ := h
    refine aw_laload (by decide) rfl dX12_unionLaid_68 c11 (LC.lt lc8 rfl rfl c11x) ?_
    refine aw_lload dX12_unionLaid_69 rfl ?_
    refine aw_lcmp_ne (M := MX12_unionLaid) (tgt := 89) dX12_unionLaid_71 dX12_unionLaid_72 (by decide) (fun k12 => ?_) (fun k12 => ?_)
    · replace h := h.1 k12
      obtain ⟨⟨c13, c13x⟩, h⟩ := h
      refine aw_iincc (L' := [some (vR 12 (some x0)), some (vI x1), some (vI x2), none, some (vJ x4), none, some (vI x6), some (vI (x7 + (-1)))]) dX12_unionLaid_89 rfl (by decide) rfl c13 c13x rfl ?_
      refine aw_goto (tgt := 52) dX12_unionLaid_92 (by decide) ?_
      exact aw_fgt (L' := [some (vR 12 (some x0)), some (vI x1), some (vI x2), none, some (vJ x4), none, some (vI x6), some (vI (x7 + (-1)))]) ⟨rfl, ⟨rfl, ⟨rfl, ⟨rfl, ⟨rfl, ⟨rfl, trivial⟩⟩⟩⟩⟩⟩ h
    · replace h := h.2 k12
      refine aw_aload_n dX12_unionLaid_75 rfl rfl ?_
      refine aw_getA' rfl fk_1241 (by decide) lf_X12_137 dX12_unionLaid_76 (LC.ne lc8 rfl rfl) ?_
      refine aw_bipush (x := 16) dX12_unionLaid_79 rfl ?_
      refine aw_iload_n dX12_unionLaid_81 rfl rfl ?_
      refine aw_imulc dX12_unionLaid_82 c9 c9x ?_
      refine aw_iload dX12_unionLaid_83 rfl ?_
      refine aw_iaddc dX12_unionLaid_85 c10 c10x ?_
      refine aw_iaload (by decide) rfl dX12_unionLaid_86 c11 (LC.lt lc8 rfl rfl c11x) ?_
      refine aw_istore (L' := [some (vR 12 (some x0)), some (vI x1), some (vI x2), none, some (vJ x4), none, some (vI (gI σ 1241 x0 ((16 * x2) + x7).toNat)), some (vI x7)]) dX12_unionLaid_87 (by decide) rfl ?_
      obtain ⟨z14, hz14⟩ : ∃ z : Int, z = gI σ 1241 x0 ((16 * x2) + x7).toNat := ⟨_, rfl⟩
      rw [← hz14]
      replace h := h z14 hz14
      obtain ⟨⟨c15, c15x⟩, h⟩ := h
      refine aw_iincc (L' := [some (vR 12 (some x0)), some (vI x1), some (vI x2), none, some (vJ x4), none, some (vI z14), some (vI (x7 + (-1)))]) dX12_unionLaid_89 rfl (by decide) rfl c15 c15x rfl ?_
      refine aw_goto (tgt := 52) dX12_unionLaid_92 (by decide) ?_
      exact aw_fgt (L' := [some (vR 12 (some x0)), some (vI x1), some (vI x2), none, some (vJ x4), none, some (vI z14), some (vI (x7 + (-1)))]) ⟨rfl, ⟨rfl, ⟨rfl, ⟨rfl, ⟨rfl, ⟨rfl, trivial⟩⟩⟩⟩⟩⟩ h
set_option maxRecDepth 4000 in
theorem bk_X12_untilLaid_0 {g : GP} {l : Launch} {d : Nat} {σ : St} {Q : Option AV → St → Prop} {x0 : Nat} {x1 : Int} {x2 : Int}
    (h : LC 12 σ x0 ∧ Bd x1 2800 ∧ AW g l (d + 1) MX12_untilLaid 7 [some (vR 12 (some x0)), some (vI x1), some (vI x2), some (vI (gI σ 1268 x0 x1.toNat))] [] σ Q) :
    AW g l (d + 1) MX12_untilLaid 0 [some (vR 12 (some x0)), some (vI x1), some (vI x2), none] [] σ Q := by
  refine aw_aload_n dX12_untilLaid_0 rfl rfl ?_
  obtain ⟨lc1, h⟩ := h
  refine aw_getA' rfl fk_1268 (by decide) lf_X12_220 dX12_untilLaid_1 (LC.ne lc1 rfl rfl) ?_
  refine aw_iload_n dX12_untilLaid_4 rfl rfl ?_
  obtain ⟨⟨c2, c2x⟩, h⟩ := h
  refine aw_iaload (by decide) rfl dX12_untilLaid_5 c2 (LC.lt lc1 rfl rfl c2x) ?_
  refine aw_istore_n (L' := [some (vR 12 (some x0)), some (vI x1), some (vI x2), some (vI (gI σ 1268 x0 x1.toNat))]) dX12_untilLaid_6 rfl (by decide) rfl ?_
  exact aw_fgt (L' := [some (vR 12 (some x0)), some (vI x1), some (vI x2), some (vI (gI σ 1268 x0 x1.toNat))]) ⟨rfl, ⟨rfl, ⟨rfl, ⟨rfl, trivial⟩⟩⟩⟩ h
set_option maxRecDepth 4000 in
theorem bk_X12_untilLaid_7 {g : GP} {l : Launch} {d : Nat} {σ : St} {Q : Option AV → St → Prop} {x0 : Nat} {x1 : Int} {x2 : Int} {x3 : Int}
    (h : LC 12 σ x0 ∧ Bd (gI σ 1281 x0 0) 6 ∧ (((gI σ 1201 x0 (gI σ 1281 x0 0).toNat) ≤ x3 → AW g l (d + 1) MX12_untilLaid 44 [some (vR 12 (some x0)), some (vI x1), none, some (vI x3)] [] σ Q) ∧ (¬ (gI σ 1201 x0 (gI σ 1281 x0 0).toNat) ≤ x3 → ACi g l d MX12_has [vR 12 (some x0), vI (gI σ 1281 x0 0), vI x3] σ (fun v5 σ4 => LC 12 σ4 x0 ∧ Bd x2 560 ∧ ((v5 = (gI σ4 1235 x0 x2.toNat) → AW g l (d + 1) MX12_untilLaid 44 [some (vR 12 (some x0)), some (vI x1), none, some (vI x3)] [] σ4 Q) ∧ (¬ v5 = (gI σ4 1235 x0 x2.toNat) → R32 (x3 + 1) ∧ AW g l (d + 1) MX12_untilLaid 7 [some (vR 12 (some x0)), some (vI x1), some (vI x2), some (vI (x3 + 1))] [] σ4 Q)))))) :
    AW g l (d + 1) MX12_untilLaid 7 [some (vR 12 (some x0)), some (vI x1), some (vI x2), some (vI x3)] [] σ Q := by
  refine aw_iload_n dX12_untilLaid_7 rfl rfl ?_
  refine aw_aload_n dX12_untilLaid_8 rfl rfl ?_
  obtain ⟨lc1, h⟩ := h
  refine aw_getA' rfl fk_1201 (by decide) lf_X12_13 dX12_untilLaid_9 (LC.ne lc1 rfl rfl) ?_
  refine aw_aload_n dX12_untilLaid_12 rfl rfl ?_
  refine aw_getI' rfl fk_1281 lf_X12_259 dX12_untilLaid_13 ?_
  obtain ⟨⟨c2, c2x⟩, h⟩ := h
  refine aw_iaload (by decide) rfl dX12_untilLaid_16 c2 (LC.lt lc1 rfl rfl c2x) ?_
  refine aw_icmp_ge (tgt := 44) dX12_untilLaid_17 (by decide) (fun k3 => ?_) (fun k3 => ?_)
  · replace h := h.1 k3
    exact aw_fgt (L' := [some (vR 12 (some x0)), some (vI x1), none, some (vI x3)]) ⟨rfl, ⟨rfl, ⟨rfl, trivial⟩⟩⟩ h
  · replace h := h.2 k3
    refine aw_aload_n dX12_untilLaid_20 rfl rfl ?_
    refine aw_aload_n dX12_untilLaid_21 rfl rfl ?_
    refine aw_getI' rfl fk_1281 lf_X12_259 dX12_untilLaid_22 ?_
    refine aw_iload_n dX12_untilLaid_25 rfl rfl ?_
    refine aw_invVi (M := MX12_untilLaid) (ci := 12) [vI (gI σ 1281 x0 0), vI x3] rfl mo_X12_has rfl lm_X12_299 li_X12_has ls_X12_has (by decide +kernel) dX12_untilLaid_26 rfl (Nat.le_of_ble_eq_true rfl) (ACi.mono (fun v5 σ4 h => ?_) h)
    refine aw_aload_n dX12_untilLaid_29 rfl rfl ?_
    obtain ⟨lc6, h⟩ := h
    refine aw_getA' rfl fk_1235 (by decide) lf_X12_119 dX12_untilLaid_30 (LC.ne lc6 rfl rfl) ?_
    refine aw_iload_n dX12_untilLaid_33 rfl rfl ?_
    obtain ⟨⟨c7, c7x⟩, h⟩ := h
    refine aw_iaload (by decide) rfl dX12_untilLaid_34 c7 (LC.lt lc6 rfl rfl c7x) ?_
    refine aw_icmp_eq (tgt := 44) dX12_untilLaid_35 (by decide) (fun k8 => ?_) (fun k8 => ?_)
    · replace h := h.1 k8
      exact aw_fgt (L' := [some (vR 12 (some x0)), some (vI x1), none, some (vI x3)]) ⟨rfl, ⟨rfl, ⟨rfl, trivial⟩⟩⟩ h
    · replace h := h.2 k8
      obtain ⟨⟨c9, c9x⟩, h⟩ := h
      refine aw_iincc (L' := [some (vR 12 (some x0)), some (vI x1), some (vI x2), some (vI (x3 + 1))]) dX12_untilLaid_38 rfl (by decide) rfl c9 c9x rfl ?_
      refine aw_goto (tgt := 7) dX12_untilLaid_41 (by decide) ?_
      exact aw_fgt (L' := [some (vR 12 (some x0)), some (vI x1), some (vI x2), some (vI (x3 + 1))]) ⟨rfl, ⟨rfl, ⟨rfl, ⟨rfl, trivial⟩⟩⟩⟩ h
set_option maxRecDepth 4000 in
theorem bk_X12_untilLaid_44 {g : GP} {l : Launch} {d : Nat} {σ : St} {Q : Option AV → St → Prop} {x0 : Nat} {x1 : Int} {x3 : Int}
    (h : R32 (x3 + 1) ∧ LC 12 σ x0 ∧ Bd x1 2800 ∧ R32 ((x3 + 1) - (gI σ 1268 x0 x1.toNat)) ∧ ACi g l d MX12_reaches [vR 12 (some x0), vI x1, vJ (i2j ((x3 + 1) - (gI σ 1268 x0 x1.toNat)))] σ (fun v6 σ5 => ((v6 = 0 ∨ v6 = 1) ∧ Q (some (vI v6)) σ5))) :
    AW g l (d + 1) MX12_untilLaid 44 [some (vR 12 (some x0)), some (vI x1), none, some (vI x3)] [] σ Q := by
  refine aw_aload_n dX12_untilLaid_44 rfl rfl ?_
  refine aw_iload_n dX12_untilLaid_45 rfl rfl ?_
  refine aw_iload_n dX12_untilLaid_46 rfl rfl ?_
  refine aw_iconst (x := 1) dX12_untilLaid_47 rfl ?_
  obtain ⟨⟨c1, c1x⟩, h⟩ := h
  refine aw_iaddc dX12_untilLaid_48 c1 c1x ?_
  refine aw_aload_n dX12_untilLaid_49 rfl rfl ?_
  obtain ⟨lc2, h⟩ := h
  refine aw_getA' rfl fk_1268 (by decide) lf_X12_220 dX12_untilLaid_50 (LC.ne lc2 rfl rfl) ?_
  refine aw_iload_n dX12_untilLaid_53 rfl rfl ?_
  obtain ⟨⟨c3, c3x⟩, h⟩ := h
  refine aw_iaload (by decide) rfl dX12_untilLaid_54 c3 (LC.lt lc2 rfl rfl c3x) ?_
  obtain ⟨⟨c4, c4x⟩, h⟩ := h
  refine aw_isubc dX12_untilLaid_55 c4 c4x ?_
  refine aw_i2l dX12_untilLaid_56 ?_
  refine aw_invVi (M := MX12_untilLaid) (ci := 12) [vI x1, vJ (i2j ((x3 + 1) - (gI σ 1268 x0 x1.toNat)))] rfl mo_X12_reaches rfl lm_X12_602 li_X12_reaches ls_X12_reaches (by decide +kernel) dX12_untilLaid_57 rfl (Nat.le_of_ble_eq_true rfl) (ACi.mono (fun v6 σ5 h => ?_) h)
  exact aw_zreturn dX12_untilLaid_60 rfl h.1 h.2
set_option maxRecDepth 4000 in
theorem bk_X12_uses_0 {g : GP} {l : Launch} {d : Nat} {σ : St} {Q : Option AV → St → Prop} {x0 : Nat} {x1 : Int} {x2 : Int}
    (h : ACi g l d MX12_isStruct [vR 12 (some x0), vI x1] σ (fun v2 σ1 => ((v2 = 0 → Q (some (vI (-1))) σ1) ∧ (¬ v2 = 0 → ACi g l d MX12_isStruct [vR 12 (some x0), vI x2] σ1 (fun v5 σ4 => ((¬ v5 = 0 → AW g l (d + 1) MX12_uses 28 [some (vR 12 (some x0)), some (vI x1), some (vI x2), some (vI 0), none, none] [] (sI σ4 1253 x0 0 (gI σ4 1218 x0 0)) Q) ∧ (v5 = 0 → Q (some (vI (-1))) σ4))))))) :
    AW g l (d + 1) MX12_uses 0 [some (vR 12 (some x0)), some (vI x1), some (vI x2), none, none, none] [] σ Q := by
  refine aw_aload_n dX12_uses_0 rfl rfl ?_
  refine aw_iload_n dX12_uses_1 rfl rfl ?_
  refine aw_invVi (M := MX12_uses) (ci := 12) [vI x1] rfl mo_X12_isStruct rfl lm_X12_570 li_X12_isStruct ls_X12_isStruct (by decide +kernel) dX12_uses_2 rfl (Nat.le_of_ble_eq_true rfl) (ACi.mono (fun v2 σ1 h => ?_) h)
  refine aw_if_eq (tgt := 16) dX12_uses_5 (by decide) (fun k3 => ?_) (fun k3 => ?_)
  · replace h := h.1 k3
    refine aw_iconst (x := (-1)) dX12_uses_16 rfl ?_
    exact aw_ireturn dX12_uses_17 rfl h
  · replace h := h.2 k3
    refine aw_aload_n dX12_uses_8 rfl rfl ?_
    refine aw_iload_n dX12_uses_9 rfl rfl ?_
    refine aw_invVi (M := MX12_uses) (ci := 12) [vI x2] rfl mo_X12_isStruct rfl lm_X12_570 li_X12_isStruct ls_X12_isStruct (by decide +kernel) dX12_uses_10 rfl (Nat.le_of_ble_eq_true rfl) (ACi.mono (fun v5 σ4 h => ?_) h)
    refine aw_if_ne (tgt := 18) dX12_uses_13 (by decide) (fun k6 => ?_) (fun k6 => ?_)
    · replace h := h.1 k6
      refine aw_aload_n dX12_uses_18 rfl rfl ?_
      refine aw_aload_n dX12_uses_19 rfl rfl ?_
      refine aw_getI' rfl fk_1218 lf_X12_67 dX12_uses_20 ?_
      refine aw_putI' rfl fk_1253 (Or.inl rfl) lf_X12_173 dX12_uses_23 ?_
      refine aw_iconst (x := 0) dX12_uses_26 rfl ?_
      refine aw_istore_n (L' := [some (vR 12 (some x0)), some (vI x1), some (vI x2), some (vI 0), none, none]) dX12_uses_27 rfl (by decide) rfl ?_
      exact aw_fgt (L' := [some (vR 12 (some x0)), some (vI x1), some (vI x2), some (vI 0), none, none]) ⟨rfl, ⟨rfl, ⟨rfl, ⟨rfl, trivial⟩⟩⟩⟩ h
    · replace h := h.2 k6
      refine aw_iconst (x := (-1)) dX12_uses_16 rfl ?_
      exact aw_ireturn dX12_uses_17 rfl h
set_option maxRecDepth 4000 in
theorem bk_X12_uses_28 {g : GP} {l : Launch} {d : Nat} {σ : St} {Q : Option AV → St → Prop} {x0 : Nat} {x1 : Int} {x2 : Int} {x3 : Int}
    (h : ((20 ≤ x3 → AW g l (d + 1) MX12_uses 49 [some (vR 12 (some x0)), some (vI x1), some (vI x2), some (vI 1), none, none] [] σ Q) ∧ (¬ 20 ≤ x3 → LC 12 σ x0 ∧ Bd x3 20 ∧ R32 (x3 + 1) ∧ AW g l (d + 1) MX12_uses 28 [some (vR 12 (some x0)), some (vI x1), some (vI x2), some (vI (x3 + 1)), none, none] [] (sI σ 1263 x0 x3.toNat 0) Q))) :
    AW g l (d + 1) MX12_uses 28 [some (vR 12 (some x0)), some (vI x1), some (vI x2), some (vI x3), none, none] [] σ Q := by
  refine aw_iload_n dX12_uses_28 rfl rfl ?_
  refine aw_bipush (x := 20) dX12_uses_29 rfl ?_
  refine aw_icmp_ge (tgt := 47) dX12_uses_31 (by decide) (fun k1 => ?_) (fun k1 => ?_)
  · replace h := h.1 k1
    refine aw_iconst (x := 1) dX12_uses_47 rfl ?_
    refine aw_istore_n (L' := [some (vR 12 (some x0)), some (vI x1), some (vI x2), some (vI 1), none, none]) dX12_uses_48 rfl (by decide) rfl ?_
    exact aw_fgt (L' := [some (vR 12 (some x0)), some (vI x1), some (vI x2), some (vI 1), none, none]) ⟨rfl, ⟨rfl, ⟨rfl, ⟨rfl, trivial⟩⟩⟩⟩ h
  · replace h := h.2 k1
    refine aw_aload_n dX12_uses_34 rfl rfl ?_
    obtain ⟨lc2, h⟩ := h
    refine aw_getA' rfl fk_1263 (by decide) lf_X12_204 dX12_uses_35 (LC.ne lc2 rfl rfl) ?_
    refine aw_iload_n dX12_uses_38 rfl rfl ?_
    refine aw_iconst (x := 0) dX12_uses_39 rfl ?_
    obtain ⟨⟨c3, c3x⟩, h⟩ := h
    refine aw_bastore (by decide) rfl dX12_uses_40 (Or.inl rfl) c3 (LC.lt lc2 rfl rfl c3x) ?_
    obtain ⟨⟨c4, c4x⟩, h⟩ := h
    refine aw_iincc (L' := [some (vR 12 (some x0)), some (vI x1), some (vI x2), some (vI (x3 + 1)), none, none]) dX12_uses_41 rfl (by decide) rfl c4 c4x rfl ?_
    refine aw_goto (tgt := 28) dX12_uses_44 (by decide) ?_
    exact aw_fgt (L' := [some (vR 12 (some x0)), some (vI x1), some (vI x2), some (vI (x3 + 1)), none, none]) ⟨rfl, ⟨rfl, ⟨rfl, ⟨rfl, trivial⟩⟩⟩⟩ h
set_option maxRecDepth 4000 in
theorem bk_X12_uses_49 {g : GP} {l : Launch} {d : Nat} {σ : St} {Q : Option AV → St → Prop} {x0 : Nat} {x1 : Int} {x2 : Int} {x3 : Int}
    (h : ((x3 = 0 → LC 12 σ x0 ∧ Bd x2 20 ∧ (((gI σ 1263 x0 x2.toNat) = 0 → Q (some (vI 0)) σ) ∧ (¬ (gI σ 1263 x0 x2.toNat) = 0 → Q (some (vI 1)) σ))) ∧ (¬ x3 = 0 → AW g l (d + 1) MX12_uses 58 [some (vR 12 (some x0)), some (vI x1), some (vI x2), some (vI 0), some (vI 0), none] [] σ Q))) :
    AW g l (d + 1) MX12_uses 49 [some (vR 12 (some x0)), some (vI x1), some (vI x2), some (vI x3), none, none] [] σ Q := by
  refine aw_iload_n dX12_uses_49 rfl rfl ?_
  refine aw_if_eq (tgt := 157) dX12_uses_50 (by decide) (fun k1 => ?_) (fun k1 => ?_)
  · replace h := h.1 k1
    refine aw_aload_n dX12_uses_157 rfl rfl ?_
    obtain ⟨lc2, h⟩ := h
    refine aw_getA' rfl fk_1263 (by decide) lf_X12_204 dX12_uses_158 (LC.ne lc2 rfl rfl) ?_
    refine aw_iload_n dX12_uses_161 rfl rfl ?_
    obtain ⟨⟨c3, c3x⟩, h⟩ := h
    refine aw_baload (by decide) rfl dX12_uses_162 c3 (LC.lt lc2 rfl rfl c3x) ?_
    refine aw_if_eq (tgt := 170) dX12_uses_163 (by decide) (fun k4 => ?_) (fun k4 => ?_)
    · replace h := h.1 k4
      refine aw_iconst (x := 0) dX12_uses_170 rfl ?_
      exact aw_ireturn dX12_uses_171 rfl h
    · replace h := h.2 k4
      refine aw_iconst (x := 1) dX12_uses_166 rfl ?_
      refine aw_goto (tgt := 171) dX12_uses_167 (by decide) ?_
      exact aw_ireturn dX12_uses_171 rfl h
  · replace h := h.2 k1
    refine aw_iconst (x := 0) dX12_uses_53 rfl ?_
    refine aw_istore_n (L' := [some (vR 12 (some x0)), some (vI x1), some (vI x2), some (vI 0), none, none]) dX12_uses_54 rfl (by decide) rfl ?_
    refine aw_iconst (x := 0) dX12_uses_55 rfl ?_
    refine aw_istore (L' := [some (vR 12 (some x0)), some (vI x1), some (vI x2), some (vI 0), some (vI 0), none]) dX12_uses_56 (by decide) rfl ?_
    exact aw_fgt (L' := [some (vR 12 (some x0)), some (vI x1), some (vI x2), some (vI 0), some (vI 0), none]) ⟨rfl, ⟨rfl, ⟨rfl, ⟨rfl, ⟨rfl, trivial⟩⟩⟩⟩⟩ h
set_option maxRecDepth 4000 in
theorem bk_X12_uses_58 {g : GP} {l : Launch} {d : Nat} {σ : St} {Q : Option AV → St → Prop} {x0 : Nat} {x1 : Int} {x2 : Int} {x3 : Int} {x4 : Int}
    (h : LC 12 σ x0 ∧ Bd (gI σ 1218 x0 0) 2 ∧ (((gI σ 1219 x0 (gI σ 1218 x0 0).toNat) ≤ x4 → AW g l (d + 1) MX12_uses 49 [some (vR 12 (some x0)), some (vI x1), some (vI x2), some (vI x3), none, none] [] σ Q) ∧ (¬ (gI σ 1219 x0 (gI σ 1218 x0 0).toNat) ≤ x4 → ((x4 = x1 → AW g l (d + 1) MX12_uses 94 [some (vR 12 (some x0)), some (vI x1), some (vI x2), some (vI x3), some (vI x4), some (vI 0)] [] σ Q) ∧ (¬ x4 = x1 → Bd x4 20 ∧ ((¬ (gI σ 1263 x0 x4.toNat) = 0 → AW g l (d + 1) MX12_uses 94 [some (vR 12 (some x0)), some (vI x1), some (vI x2), some (vI x3), some (vI x4), some (vI 0)] [] σ Q) ∧ ((gI σ 1263 x0 x4.toNat) = 0 → R32 (x4 + 1) ∧ AW g l (d + 1) MX12_uses 58 [some (vR 12 (some x0)), some (vI x1), some (vI x2), some (vI x3), some (vI (x4 + 1)), none] [] σ Q))))))) :
    AW g l (d + 1) MX12_uses 58 [some (vR 12 (some x0)), some (vI x1), some (vI x2), some (vI x3), some (vI x4), none] [] σ Q := by
  refine aw_iload dX12_uses_58 rfl ?_
  refine aw_aload_n dX12_uses_60 rfl rfl ?_
  obtain ⟨lc1, h⟩ := h
  refine aw_getA' rfl fk_1219 (by decide) lf_X12_70 dX12_uses_61 (LC.ne lc1 rfl rfl) ?_
  refine aw_aload_n dX12_uses_64 rfl rfl ?_
  refine aw_getI' rfl fk_1218 lf_X12_67 dX12_uses_65 ?_
  obtain ⟨⟨c2, c2x⟩, h⟩ := h
  refine aw_iaload (by decide) rfl dX12_uses_68 c2 (LC.lt lc1 rfl rfl c2x) ?_
  refine aw_icmp_ge (tgt := 154) dX12_uses_69 (by decide) (fun k3 => ?_) (fun k3 => ?_)
  · replace h := h.1 k3
    refine aw_goto (tgt := 49) dX12_uses_154 (by decide) ?_
    exact aw_fgt (L' := [some (vR 12 (some x0)), some (vI x1), some (vI x2), some (vI x3), none, none]) ⟨rfl, ⟨rfl, ⟨rfl, ⟨rfl, trivial⟩⟩⟩⟩ h
  · replace h := h.2 k3
    refine aw_iload dX12_uses_72 rfl ?_
    refine aw_iload_n dX12_uses_74 rfl rfl ?_
    refine aw_icmp_eq (tgt := 91) dX12_uses_75 (by decide) (fun k4 => ?_) (fun k4 => ?_)
    · replace h := h.1 k4
      refine aw_iconst (x := 0) dX12_uses_91 rfl ?_
      refine aw_istore (L' := [some (vR 12 (some x0)), some (vI x1), some (vI x2), some (vI x3), some (vI x4), some (vI 0)]) dX12_uses_92 (by decide) rfl ?_
      exact aw_fgt (L' := [some (vR 12 (some x0)), some (vI x1), some (vI x2), some (vI x3), some (vI x4), some (vI 0)]) ⟨rfl, ⟨rfl, ⟨rfl, ⟨rfl, ⟨rfl, ⟨rfl, trivial⟩⟩⟩⟩⟩⟩ h
    · replace h := h.2 k4
      refine aw_aload_n dX12_uses_78 rfl rfl ?_
      refine aw_getA' rfl fk_1263 (by decide) lf_X12_204 dX12_uses_79 (LC.ne lc1 rfl rfl) ?_
      refine aw_iload dX12_uses_82 rfl ?_
      obtain ⟨⟨c5, c5x⟩, h⟩ := h
      refine aw_baload (by decide) rfl dX12_uses_84 c5 (LC.lt lc1 rfl rfl c5x) ?_
      refine aw_if_ne (tgt := 91) dX12_uses_85 (by decide) (fun k6 => ?_) (fun k6 => ?_)
      · replace h := h.1 k6
        refine aw_iconst (x := 0) dX12_uses_91 rfl ?_
        refine aw_istore (L' := [some (vR 12 (some x0)), some (vI x1), some (vI x2), some (vI x3), some (vI x4), some (vI 0)]) dX12_uses_92 (by decide) rfl ?_
        exact aw_fgt (L' := [some (vR 12 (some x0)), some (vI x1), some (vI x2), some (vI x3), some (vI x4), some (vI 0)]) ⟨rfl, ⟨rfl, ⟨rfl, ⟨rfl, ⟨rfl, ⟨rfl, trivial⟩⟩⟩⟩⟩⟩ h
      · replace h := h.2 k6
        refine aw_goto (tgt := 148) dX12_uses_88 (by decide) ?_
        obtain ⟨⟨c7, c7x⟩, h⟩ := h
        refine aw_iincc (L' := [some (vR 12 (some x0)), some (vI x1), some (vI x2), some (vI x3), some (vI (x4 + 1)), none]) dX12_uses_148 rfl (by decide) rfl c7 c7x rfl ?_
        refine aw_goto (tgt := 58) dX12_uses_151 (by decide) ?_
        exact aw_fgt (L' := [some (vR 12 (some x0)), some (vI x1), some (vI x2), some (vI x3), some (vI (x4 + 1)), none]) ⟨rfl, ⟨rfl, ⟨rfl, ⟨rfl, ⟨rfl, trivial⟩⟩⟩⟩⟩ h
set_option maxRecDepth 4000 in
theorem bk_X12_uses_94 {g : GP} {l : Launch} {d : Nat} {σ : St} {Q : Option AV → St → Prop} {x0 : Nat} {x1 : Int} {x2 : Int} {x3 : Int} {x4 : Int} {x5 : Int}
    (h : LC 12 σ x0 ∧ Bd (gI σ 1218 x0 0) 2 ∧ (((gI σ 1219 x0 (gI σ 1218 x0 0).toNat) ≤ x5 → R32 (x4 + 1) ∧ AW g l (d + 1) MX12_uses 58 [some (vR 12 (some x0)), some (vI x1), some (vI x2), some (vI x3), some (vI (x4 + 1)), none] [] σ Q) ∧ (¬ (gI σ 1219 x0 (gI σ 1218 x0 0).toNat) ≤ x5 → Bd x5 20 ∧ ((¬ (gI σ 1263 x0 x5.toNat) = 0 → R32 (x5 + 1) ∧ AW g l (d + 1) MX12_uses 94 [some (vR 12 (some x0)), some (vI x1), some (vI x2), some (vI x3), some (vI x4), some (vI (x5 + 1))] [] σ Q) ∧ ((gI σ 1263 x0 x5.toNat) = 0 → ACi g l d MX12_names [vR 12 (some x0), vI x4, vI x5] σ (fun v9 σ8 => ((¬ v9 = 0 → LC 12 σ8 x0 ∧ R32 (x5 + 1) ∧ AW g l (d + 1) MX12_uses 94 [some (vR 12 (some x0)), some (vI x1), some (vI x2), some (vI 1), some (vI x4), some (vI (x5 + 1))] [] (sI σ8 1263 x0 x5.toNat 1) Q) ∧ (v9 = 0 → R32 (x5 + 1) ∧ AW g l (d + 1) MX12_uses 94 [some (vR 12 (some x0)), some (vI x1), some (vI x2), some (vI x3), some (vI x4), some (vI (x5 + 1))] [] σ8 Q)))))))) :
    AW g l (d + 1) MX12_uses 94 [some (vR 12 (some x0)), some (vI x1), some (vI x2), some (vI x3), some (vI x4), some (vI x5)] [] σ Q := by
  refine aw_iload dX12_uses_94 rfl ?_
  refine aw_aload_n dX12_uses_96 rfl rfl ?_
  obtain ⟨lc1, h⟩ := h
  refine aw_getA' rfl fk_1219 (by decide) lf_X12_70 dX12_uses_97 (LC.ne lc1 rfl rfl) ?_
  refine aw_aload_n dX12_uses_100 rfl rfl ?_
  refine aw_getI' rfl fk_1218 lf_X12_67 dX12_uses_101 ?_
  obtain ⟨⟨c2, c2x⟩, h⟩ := h
  refine aw_iaload (by decide) rfl dX12_uses_104 c2 (LC.lt lc1 rfl rfl c2x) ?_
  refine aw_icmp_ge (tgt := 148) dX12_uses_105 (by decide) (fun k3 => ?_) (fun k3 => ?_)
  · replace h := h.1 k3
    obtain ⟨⟨c4, c4x⟩, h⟩ := h
    refine aw_iincc (L' := [some (vR 12 (some x0)), some (vI x1), some (vI x2), some (vI x3), some (vI (x4 + 1)), some (vI x5)]) dX12_uses_148 rfl (by decide) rfl c4 c4x rfl ?_
    refine aw_goto (tgt := 58) dX12_uses_151 (by decide) ?_
    exact aw_fgt (L' := [some (vR 12 (some x0)), some (vI x1), some (vI x2), some (vI x3), some (vI (x4 + 1)), none]) ⟨rfl, ⟨rfl, ⟨rfl, ⟨rfl, ⟨rfl, trivial⟩⟩⟩⟩⟩ h
  · replace h := h.2 k3
    refine aw_aload_n dX12_uses_108 rfl rfl ?_
    refine aw_getA' rfl fk_1263 (by decide) lf_X12_204 dX12_uses_109 (LC.ne lc1 rfl rfl) ?_
    refine aw_iload dX12_uses_112 rfl ?_
    obtain ⟨⟨c5, c5x⟩, h⟩ := h
    refine aw_baload (by decide) rfl dX12_uses_114 c5 (LC.lt lc1 rfl rfl c5x) ?_
    refine aw_if_ne (tgt := 142) dX12_uses_115 (by decide) (fun k6 => ?_) (fun k6 => ?_)
    · replace h := h.1 k6
      obtain ⟨⟨c7, c7x⟩, h⟩ := h
      refine aw_iincc (L' := [some (vR 12 (some x0)), some (vI x1), some (vI x2), some (vI x3), some (vI x4), some (vI (x5 + 1))]) dX12_uses_142 rfl (by decide) rfl c7 c7x rfl ?_
      refine aw_goto (tgt := 94) dX12_uses_145 (by decide) ?_
      exact aw_fgt (L' := [some (vR 12 (some x0)), some (vI x1), some (vI x2), some (vI x3), some (vI x4), some (vI (x5 + 1))]) ⟨rfl, ⟨rfl, ⟨rfl, ⟨rfl, ⟨rfl, ⟨rfl, trivial⟩⟩⟩⟩⟩⟩ h
    · replace h := h.2 k6
      refine aw_aload_n dX12_uses_118 rfl rfl ?_
      refine aw_iload dX12_uses_119 rfl ?_
      refine aw_iload dX12_uses_121 rfl ?_
      refine aw_invVi (M := MX12_uses) (ci := 12) [vI x4, vI x5] rfl mo_X12_names rfl lm_X12_573 li_X12_names ls_X12_names (by decide +kernel) dX12_uses_123 rfl (Nat.le_of_ble_eq_true rfl) (ACi.mono (fun v9 σ8 h => ?_) h)
      refine aw_if_ne (tgt := 132) dX12_uses_126 (by decide) (fun k10 => ?_) (fun k10 => ?_)
      · replace h := h.1 k10
        refine aw_aload_n dX12_uses_132 rfl rfl ?_
        obtain ⟨lc11, h⟩ := h
        refine aw_getA' rfl fk_1263 (by decide) lf_X12_204 dX12_uses_133 (LC.ne lc11 rfl rfl) ?_
        refine aw_iload dX12_uses_136 rfl ?_
        refine aw_iconst (x := 1) dX12_uses_138 rfl ?_
        refine aw_bastore (by decide) rfl dX12_uses_139 (Or.inr rfl) c5 (LC.lt lc11 rfl rfl c5x) ?_
        refine aw_iconst (x := 1) dX12_uses_140 rfl ?_
        refine aw_istore_n (L' := [some (vR 12 (some x0)), some (vI x1), some (vI x2), some (vI 1), some (vI x4), some (vI x5)]) dX12_uses_141 rfl (by decide) rfl ?_
        obtain ⟨⟨c12, c12x⟩, h⟩ := h
        refine aw_iincc (L' := [some (vR 12 (some x0)), some (vI x1), some (vI x2), some (vI 1), some (vI x4), some (vI (x5 + 1))]) dX12_uses_142 rfl (by decide) rfl c12 c12x rfl ?_
        refine aw_goto (tgt := 94) dX12_uses_145 (by decide) ?_
        exact aw_fgt (L' := [some (vR 12 (some x0)), some (vI x1), some (vI x2), some (vI 1), some (vI x4), some (vI (x5 + 1))]) ⟨rfl, ⟨rfl, ⟨rfl, ⟨rfl, ⟨rfl, ⟨rfl, trivial⟩⟩⟩⟩⟩⟩ h
      · replace h := h.2 k10
        refine aw_goto (tgt := 142) dX12_uses_129 (by decide) ?_
        obtain ⟨⟨c13, c13x⟩, h⟩ := h
        refine aw_iincc (L' := [some (vR 12 (some x0)), some (vI x1), some (vI x2), some (vI x3), some (vI x4), some (vI (x5 + 1))]) dX12_uses_142 rfl (by decide) rfl c13 c13x rfl ?_
        refine aw_goto (tgt := 94) dX12_uses_145 (by decide) ?_
        exact aw_fgt (L' := [some (vR 12 (some x0)), some (vI x1), some (vI x2), some (vI x3), some (vI x4), some (vI (x5 + 1))]) ⟨rfl, ⟨rfl, ⟨rfl, ⟨rfl, ⟨rfl, ⟨rfl, trivial⟩⟩⟩⟩⟩⟩ h
set_option maxRecDepth 4000 in
theorem bk_X12_value_0 {g : GP} {l : Launch} {d : Nat} {σ : St} {Q : Option AV → St → Prop} {x0 : Nat} {x1 : Int} {x2 : Int}
    (h : ACi g l d MX12_isNode [vR 12 (some x0), vI x1, vI x2] σ (fun v2 σ1 => ((v2 = 0 → Q (some (vJ 0)) σ1) ∧ (¬ v2 = 0 → R32 (400 * x1) ∧ R32 ((400 * x1) + x2) ∧ ACj g l d MX12_valueOf [vR 12 (some x0), vI ((400 * x1) + x2)] σ1 (fun v7 σ6 => Q (some (vJ v7)) σ6))))) :
    AW g l (d + 1) MX12_value 0 [some (vR 12 (some x0)), some (vI x1), some (vI x2)] [] σ Q := by
  refine aw_aload_n dX12_value_0 rfl rfl ?_
  refine aw_iload_n dX12_value_1 rfl rfl ?_
  refine aw_iload_n dX12_value_2 rfl rfl ?_
  refine aw_invVi (M := MX12_value) (ci := 12) [vI x1, vI x2] rfl mo_X12_isNode rfl lm_X12_688 li_X12_isNode ls_X12_isNode (by decide +kernel) dX12_value_3 rfl (Nat.le_of_ble_eq_true rfl) (ACi.mono (fun v2 σ1 h => ?_) h)
  refine aw_if_eq (tgt := 23) dX12_value_6 (by decide) (fun k3 => ?_) (fun k3 => ?_)
  · replace h := h.1 k3
    refine aw_lconst (x := 0) dX12_value_23 rfl ?_
    exact aw_lreturn dX12_value_24 rfl h
  · replace h := h.2 k3
    refine aw_aload_n dX12_value_9 rfl rfl ?_
    refine aw_sipush (x := 400) dX12_value_10 rfl ?_
    refine aw_iload_n dX12_value_13 rfl rfl ?_
    obtain ⟨⟨c4, c4x⟩, h⟩ := h
    refine aw_imulc dX12_value_14 c4 c4x ?_
    refine aw_iload_n dX12_value_15 rfl rfl ?_
    obtain ⟨⟨c5, c5x⟩, h⟩ := h
    refine aw_iaddc dX12_value_16 c5 c5x ?_
    refine aw_invVj (M := MX12_value) (ci := 12) [vI ((400 * x1) + x2)] rfl mo_X12_valueOf rfl lm_X12_643 li_X12_valueOf ls_X12_valueOf (by decide +kernel) dX12_value_17 rfl (Nat.le_of_ble_eq_true rfl) (ACj.mono (fun v7 σ6 h => ?_) h)
    refine aw_goto (tgt := 24) dX12_value_20 (by decide) ?_
    exact aw_lreturn dX12_value_24 rfl h
set_option maxRecDepth 4000 in
theorem bk_X12_valueOf_0 {g : GP} {l : Launch} {d : Nat} {σ : St} {Q : Option AV → St → Prop} {x0 : Nat} {x1 : Int}
    (h : LC 12 σ x0 ∧ Bd x1 2800 ∧ ((¬ (gI σ 1272 x0 x1.toNat) = 1 → (((gI σ 1267 x0 x1.toNat) = 1 → AW g l (d + 1) MX12_valueOf 80 [some (vR 12 (some x0)), some (vI x1), some (vI (gI σ 1274 x0 x1.toNat)), none, none, none] [] σ Q) ∧ ((gI σ 1267 x0 x1.toNat) = 2 → Q (some (vJ (i2j (gI σ 1271 x0 x1.toNat)))) σ) ∧ ((gI σ 1267 x0 x1.toNat) = 3 → Bd (gI σ 1274 x0 x1.toNat) 560 ∧ ACj g l d MX12_raw [vR 12 (some x0), vI (gI σ 1268 x0 x1.toNat), vI (gI σ 1229 x0 (gI σ 1274 x0 x1.toNat).toNat)] σ (fun v6 σ5 => Q (some (vJ v6)) σ5)) ∧ ((gI σ 1267 x0 x1.toNat) = 4 → Bd (gI σ 1274 x0 x1.toNat) 560 ∧ ACj g l d MX12_raw [vR 12 (some x0), vI (gI σ 1268 x0 x1.toNat), vI (gI σ 1229 x0 (gI σ 1274 x0 x1.toNat).toNat)] σ (fun v9 σ8 => ACi g l d MX12_shift [vR 12 (some x0), vI x1] σ8 (fun v11 σ10 => LC 12 σ10 x0 ∧ R32 (16 * (gI σ 1274 x0 x1.toNat)) ∧ R32 ((16 * (gI σ 1274 x0 x1.toNat)) + (gI σ10 1275 x0 x1.toNat)) ∧ R32 (((16 * (gI σ 1274 x0 x1.toNat)) + (gI σ10 1275 x0 x1.toNat)) - 1) ∧ Bd (((16 * (gI σ 1274 x0 x1.toNat)) + (gI σ10 1275 x0 x1.toNat)) - 1) 8960 ∧ ACj g l d MX12_mask [vR 12 (some x0), vJ (gJ σ10 1240 x0 (((16 * (gI σ 1274 x0 x1.toNat)) + (gI σ10 1275 x0 x1.toNat)) - 1).toNat)] σ10 (fun v18 σ17 => Q (some (vJ ((j_ushr v9 v11) &&& v18))) σ17)))) ∧ ((gI σ 1267 x0 x1.toNat) = 5 → R32 ((gI σ 1269 x0 x1.toNat) - (gI σ 1268 x0 x1.toNat)) ∧ Bd (gI σ 1274 x0 x1.toNat) 560 ∧ ((¬ (gI σ 1228 x0 (gI σ 1274 x0 x1.toNat).toNat) = 6 → R32 (((gI σ 1269 x0 x1.toNat) - (gI σ 1268 x0 x1.toNat)) - 0) ∧ Q (some (vJ (i2j (((gI σ 1269 x0 x1.toNat) - (gI σ 1268 x0 x1.toNat)) - 0)))) σ) ∧ ((gI σ 1228 x0 (gI σ 1274 x0 x1.toNat).toNat) = 6 → R32 (((gI σ 1269 x0 x1.toNat) - (gI σ 1268 x0 x1.toNat)) - 1) ∧ Q (some (vJ (i2j (((gI σ 1269 x0 x1.toNat) - (gI σ 1268 x0 x1.toNat)) - 1)))) σ))) ∧ ((gI σ 1267 x0 x1.toNat) = 6 → Q (some (vJ 0)) σ) ∧ ((gI σ 1267 x0 x1.toNat) = 7 → AW g l (d + 1) MX12_valueOf 80 [some (vR 12 (some x0)), some (vI x1), some (vI (gI σ 1274 x0 x1.toNat)), none, none, none] [] σ Q) ∧ ((gI σ 1267 x0 x1.toNat) = 8 → Q (some (vJ 0)) σ) ∧ ((gI σ 1267 x0 x1.toNat) = 9 → Q (some (vJ 0)) σ) ∧ ((gI σ 1267 x0 x1.toNat) = 10 → AW g l (d + 1) MX12_valueOf 80 [some (vR 12 (some x0)), some (vI x1), some (vI (gI σ 1274 x0 x1.toNat)), none, none, none] [] σ Q) ∧ ((gI σ 1267 x0 x1.toNat) < 1 ∨ 10 < (gI σ 1267 x0 x1.toNat) → Q (some (vJ 0)) σ))) ∧ ((gI σ 1272 x0 x1.toNat) = 1 → Q (some (vJ 0)) σ))) :
    AW g l (d + 1) MX12_valueOf 0 [some (vR 12 (some x0)), some (vI x1), none, none, none, none] [] σ Q := by
  refine aw_aload_n dX12_valueOf_0 rfl rfl ?_
  obtain ⟨lc1, h⟩ := h
  refine aw_getA' rfl fk_1272 (by decide) lf_X12_232 dX12_valueOf_1 (LC.ne lc1 rfl rfl) ?_
  refine aw_iload_n dX12_valueOf_4 rfl rfl ?_
  obtain ⟨⟨c2, c2x⟩, h⟩ := h
  refine aw_iaload (by decide) rfl dX12_valueOf_5 c2 (LC.lt lc1 rfl rfl c2x) ?_
  refine aw_iconst (x := 1) dX12_valueOf_6 rfl ?_
  refine aw_icmp_ne (tgt := 12) dX12_valueOf_7 (by decide) (fun k3 => ?_) (fun k3 => ?_)
  · replace h := h.1 k3
    refine aw_aload_n dX12_valueOf_12 rfl rfl ?_
    refine aw_getA' rfl fk_1274 (by decide) lf_X12_238 dX12_valueOf_13 (LC.ne lc1 rfl rfl) ?_
    refine aw_iload_n dX12_valueOf_16 rfl rfl ?_
    refine aw_iaload (by decide) rfl dX12_valueOf_17 c2 (LC.lt lc1 rfl rfl c2x) ?_
    refine aw_istore_n (L' := [some (vR 12 (some x0)), some (vI x1), some (vI (gI σ 1274 x0 x1.toNat)), none, none, none]) dX12_valueOf_18 rfl (by decide) rfl ?_
    refine aw_aload_n dX12_valueOf_19 rfl rfl ?_
    refine aw_getA' rfl fk_1267 (by decide) lf_X12_217 dX12_valueOf_20 (LC.ne lc1 rfl rfl) ?_
    refine aw_iload_n dX12_valueOf_23 rfl rfl ?_
    refine aw_iaload (by decide) rfl dX12_valueOf_24 c2 (LC.lt lc1 rfl rfl c2x) ?_
    obtain ⟨h0, h1, h2, h3, h4, h5, h6, h7, h8, h9, hd⟩ := h
    refine aw_table (M := MX12_valueOf) (dt := 241) [80, 201, 138, 155, 209, 241, 80, 241, 241, 80] dX12_valueOf_25 (by decide) (by decide) (by decide) ⟨fun hc => ?_, fun hc => ?_, fun hc => ?_, fun hc => ?_, fun hc => ?_, fun hc => ?_, fun hc => ?_, fun hc => ?_, fun hc => ?_, fun hc => ?_, trivial⟩ (fun hc => ?_)
    · have h := h0 hc; clear h0 h1 h2 h3 h4 h5 h6 h7 h8 h9 hd
      exact aw_fgt (L' := [some (vR 12 (some x0)), some (vI x1), some (vI (gI σ 1274 x0 x1.toNat)), none, none, none]) ⟨rfl, ⟨rfl, ⟨rfl, trivial⟩⟩⟩ h
    · have h := h1 hc; clear h0 h1 h2 h3 h4 h5 h6 h7 h8 h9 hd
      refine aw_aload_n dX12_valueOf_201 rfl rfl ?_
      refine aw_getA' rfl fk_1271 (by decide) lf_X12_229 dX12_valueOf_202 (LC.ne lc1 rfl rfl) ?_
      refine aw_iload_n dX12_valueOf_205 rfl rfl ?_
      refine aw_iaload (by decide) rfl dX12_valueOf_206 c2 (LC.lt lc1 rfl rfl c2x) ?_
      refine aw_i2l dX12_valueOf_207 ?_
      exact aw_lreturn dX12_valueOf_208 rfl h
    · have h := h2 hc; clear h0 h1 h2 h3 h4 h5 h6 h7 h8 h9 hd
      refine aw_aload_n dX12_valueOf_138 rfl rfl ?_
      refine aw_aload_n dX12_valueOf_139 rfl rfl ?_
      refine aw_getA' rfl fk_1268 (by decide) lf_X12_220 dX12_valueOf_140 (LC.ne lc1 rfl rfl) ?_
      refine aw_iload_n dX12_valueOf_143 rfl rfl ?_
      refine aw_iaload (by decide) rfl dX12_valueOf_144 c2 (LC.lt lc1 rfl rfl c2x) ?_
      refine aw_aload_n dX12_valueOf_145 rfl rfl ?_
      refine aw_getA' rfl fk_1229 (by decide) lf_X12_101 dX12_valueOf_146 (LC.ne lc1 rfl rfl) ?_
      refine aw_iload_n dX12_valueOf_149 rfl rfl ?_
      obtain ⟨⟨c4, c4x⟩, h⟩ := h
      refine aw_iaload (by decide) rfl dX12_valueOf_150 c4 (LC.lt lc1 rfl rfl c4x) ?_
      refine aw_invVj (M := MX12_valueOf) (ci := 12) [vI (gI σ 1268 x0 x1.toNat), vI (gI σ 1229 x0 (gI σ 1274 x0 x1.toNat).toNat)] rfl mo_X12_raw rfl lm_X12_657 li_X12_raw ls_X12_raw (by decide +kernel) dX12_valueOf_151 rfl (Nat.le_of_ble_eq_true rfl) (ACj.mono (fun v6 σ5 h => ?_) h)
      exact aw_lreturn dX12_valueOf_154 rfl h
    · have h := h3 hc; clear h0 h1 h2 h3 h4 h5 h6 h7 h8 h9 hd
      refine aw_aload_n dX12_valueOf_155 rfl rfl ?_
      refine aw_aload_n dX12_valueOf_156 rfl rfl ?_
      refine aw_getA' rfl fk_1268 (by decide) lf_X12_220 dX12_valueOf_157 (LC.ne lc1 rfl rfl) ?_
      refine aw_iload_n dX12_valueOf_160 rfl rfl ?_
      refine aw_iaload (by decide) rfl dX12_valueOf_161 c2 (LC.lt lc1 rfl rfl c2x) ?_
      refine aw_aload_n dX12_valueOf_162 rfl rfl ?_
      refine aw_getA' rfl fk_1229 (by decide) lf_X12_101 dX12_valueOf_163 (LC.ne lc1 rfl rfl) ?_
      refine aw_iload_n dX12_valueOf_166 rfl rfl ?_
      obtain ⟨⟨c7, c7x⟩, h⟩ := h
      refine aw_iaload (by decide) rfl dX12_valueOf_167 c7 (LC.lt lc1 rfl rfl c7x) ?_
      refine aw_invVj (M := MX12_valueOf) (ci := 12) [vI (gI σ 1268 x0 x1.toNat), vI (gI σ 1229 x0 (gI σ 1274 x0 x1.toNat).toNat)] rfl mo_X12_raw rfl lm_X12_657 li_X12_raw ls_X12_raw (by decide +kernel) dX12_valueOf_168 rfl (Nat.le_of_ble_eq_true rfl) (ACj.mono (fun v9 σ8 h => ?_) h)
      refine aw_aload_n dX12_valueOf_171 rfl rfl ?_
      refine aw_iload_n dX12_valueOf_172 rfl rfl ?_
      refine aw_invVi (M := MX12_valueOf) (ci := 12) [vI x1] rfl mo_X12_shift rfl lm_X12_660 li_X12_shift ls_X12_shift (by decide +kernel) dX12_valueOf_173 rfl (Nat.le_of_ble_eq_true rfl) (ACi.mono (fun v11 σ10 h => ?_) h)
      refine aw_lushr dX12_valueOf_176 ?_
      refine aw_aload_n dX12_valueOf_177 rfl rfl ?_
      refine aw_aload_n dX12_valueOf_178 rfl rfl ?_
      obtain ⟨lc12, h⟩ := h
      refine aw_getA' rfl fk_1240 (by decide) lf_X12_134 dX12_valueOf_179 (LC.ne lc12 rfl rfl) ?_
      refine aw_bipush (x := 16) dX12_valueOf_182 rfl ?_
      refine aw_iload_n dX12_valueOf_184 rfl rfl ?_
      obtain ⟨⟨c13, c13x⟩, h⟩ := h
      refine aw_imulc dX12_valueOf_185 c13 c13x ?_
      refine aw_aload_n dX12_valueOf_186 rfl rfl ?_
      refine aw_getA' rfl fk_1275 (by decide) lf_X12_241 dX12_valueOf_187 (LC.ne lc12 rfl rfl) ?_
      refine aw_iload_n dX12_valueOf_190 rfl rfl ?_
      refine aw_iaload (by decide) rfl dX12_valueOf_191 c2 (LC.lt lc12 rfl rfl c2x) ?_
      obtain ⟨⟨c14, c14x⟩, h⟩ := h
      refine aw_iaddc dX12_valueOf_192 c14 c14x ?_
      refine aw_iconst (x := 1) dX12_valueOf_193 rfl ?_
      obtain ⟨⟨c15, c15x⟩, h⟩ := h
      refine aw_isubc dX12_valueOf_194 c15 c15x ?_
      obtain ⟨⟨c16, c16x⟩, h⟩ := h
      refine aw_laload (by decide) rfl dX12_valueOf_195 c16 (LC.lt lc12 rfl rfl c16x) ?_
      refine aw_invVj (M := MX12_valueOf) (ci := 12) [vJ (gJ σ10 1240 x0 (((16 * (gI σ 1274 x0 x1.toNat)) + (gI σ10 1275 x0 x1.toNat)) - 1).toNat)] rfl mo_X12_mask rfl lm_X12_663 li_X12_mask ls_X12_mask (by decide +kernel) dX12_valueOf_196 rfl (Nat.le_of_ble_eq_true rfl) (ACj.mono (fun v18 σ17 h => ?_) h)
      refine aw_land dX12_valueOf_199 ?_
      exact aw_lreturn dX12_valueOf_200 rfl h
    · have h := h4 hc; clear h0 h1 h2 h3 h4 h5 h6 h7 h8 h9 hd
      refine aw_aload_n dX12_valueOf_209 rfl rfl ?_
      refine aw_getA' rfl fk_1269 (by decide) lf_X12_223 dX12_valueOf_210 (LC.ne lc1 rfl rfl) ?_
      refine aw_iload_n dX12_valueOf_213 rfl rfl ?_
      refine aw_iaload (by decide) rfl dX12_valueOf_214 c2 (LC.lt lc1 rfl rfl c2x) ?_
      refine aw_aload_n dX12_valueOf_215 rfl rfl ?_
      refine aw_getA' rfl fk_1268 (by decide) lf_X12_220 dX12_valueOf_216 (LC.ne lc1 rfl rfl) ?_
      refine aw_iload_n dX12_valueOf_219 rfl rfl ?_
      refine aw_iaload (by decide) rfl dX12_valueOf_220 c2 (LC.lt lc1 rfl rfl c2x) ?_
      obtain ⟨⟨c19, c19x⟩, h⟩ := h
      refine aw_isubc dX12_valueOf_221 c19 c19x ?_
      refine aw_aload_n dX12_valueOf_222 rfl rfl ?_
      refine aw_getA' rfl fk_1228 (by decide) lf_X12_98 dX12_valueOf_223 (LC.ne lc1 rfl rfl) ?_
      refine aw_iload_n dX12_valueOf_226 rfl rfl ?_
      obtain ⟨⟨c20, c20x⟩, h⟩ := h
      refine aw_iaload (by decide) rfl dX12_valueOf_227 c20 (LC.lt lc1 rfl rfl c20x) ?_
      refine aw_bipush (x := 6) dX12_valueOf_228 rfl ?_
      refine aw_icmp_ne (tgt := 237) dX12_valueOf_230 (by decide) (fun k21 => ?_) (fun k21 => ?_)
      · replace h := h.1 k21
        refine aw_iconst (x := 0) dX12_valueOf_237 rfl ?_
        obtain ⟨⟨c22, c22x⟩, h⟩ := h
        refine aw_isubc dX12_valueOf_238 c22 c22x ?_
        refine aw_i2l dX12_valueOf_239 ?_
        exact aw_lreturn dX12_valueOf_240 rfl h
      · replace h := h.2 k21
        refine aw_iconst (x := 1) dX12_valueOf_233 rfl ?_
        refine aw_goto (tgt := 238) dX12_valueOf_234 (by decide) ?_
        obtain ⟨⟨c23, c23x⟩, h⟩ := h
        refine aw_isubc dX12_valueOf_238 c23 c23x ?_
        refine aw_i2l dX12_valueOf_239 ?_
        exact aw_lreturn dX12_valueOf_240 rfl h
    · have h := h5 hc; clear h0 h1 h2 h3 h4 h5 h6 h7 h8 h9 hd
      refine aw_lconst (x := 0) dX12_valueOf_241 rfl ?_
      exact aw_lreturn dX12_valueOf_242 rfl h
    · have h := h6 hc; clear h0 h1 h2 h3 h4 h5 h6 h7 h8 h9 hd
      exact aw_fgt (L' := [some (vR 12 (some x0)), some (vI x1), some (vI (gI σ 1274 x0 x1.toNat)), none, none, none]) ⟨rfl, ⟨rfl, ⟨rfl, trivial⟩⟩⟩ h
    · have h := h7 hc; clear h0 h1 h2 h3 h4 h5 h6 h7 h8 h9 hd
      refine aw_lconst (x := 0) dX12_valueOf_241 rfl ?_
      exact aw_lreturn dX12_valueOf_242 rfl h
    · have h := h8 hc; clear h0 h1 h2 h3 h4 h5 h6 h7 h8 h9 hd
      refine aw_lconst (x := 0) dX12_valueOf_241 rfl ?_
      exact aw_lreturn dX12_valueOf_242 rfl h
    · have h := h9 hc; clear h0 h1 h2 h3 h4 h5 h6 h7 h8 h9 hd
      exact aw_fgt (L' := [some (vR 12 (some x0)), some (vI x1), some (vI (gI σ 1274 x0 x1.toNat)), none, none, none]) ⟨rfl, ⟨rfl, ⟨rfl, trivial⟩⟩⟩ h
    · have h := hd hc; clear h0 h1 h2 h3 h4 h5 h6 h7 h8 h9 hd
      refine aw_lconst (x := 0) dX12_valueOf_241 rfl ?_
      exact aw_lreturn dX12_valueOf_242 rfl h
  · replace h := h.2 k3
    refine aw_lconst (x := 0) dX12_valueOf_10 rfl ?_
    exact aw_lreturn dX12_valueOf_11 rfl h
set_option maxRecDepth 4000 in
theorem bk_X12_valueOf_80 {g : GP} {l : Launch} {d : Nat} {σ : St} {Q : Option AV → St → Prop} {x0 : Nat} {x1 : Int} {x2 : Int}
    (h : LC 12 σ x0 ∧ Bd x1 2800 ∧ Bd x2 560 ∧ ACj g l d MX12_raw [vR 12 (some x0), vI (gI σ 1268 x0 x1.toNat), vI (gI σ 1229 x0 x2.toNat)] σ (fun v5 σ4 => LC 12 σ4 x0 ∧ R32 (8 * (i_and (gI σ4 1229 x0 x2.toNat) 15)) ∧ R32 (64 - (8 * (i_and (gI σ4 1229 x0 x2.toNat) 15))) ∧ ∀ z9 : Int, z9 = 64 - (8 * (i_and (gI σ4 1229 x0 x2.toNat) 15)) → (((i_and (gI σ4 1229 x0 x2.toNat) 16) ≤ 0 → Q (some (vJ v5)) σ4) ∧ (¬ (i_and (gI σ4 1229 x0 x2.toNat) 16) ≤ 0 → Q (some (vJ (j_shr (j_shl v5 z9) z9))) σ4)))) :
    AW g l (d + 1) MX12_valueOf 80 [some (vR 12 (some x0)), some (vI x1), some (vI x2), none, none, none] [] σ Q := by
  refine aw_aload_n dX12_valueOf_80 rfl rfl ?_
  refine aw_aload_n dX12_valueOf_81 rfl rfl ?_
  obtain ⟨lc1, h⟩ := h
  refine aw_getA' rfl fk_1268 (by decide) lf_X12_220 dX12_valueOf_82 (LC.ne lc1 rfl rfl) ?_
  refine aw_iload_n dX12_valueOf_85 rfl rfl ?_
  obtain ⟨⟨c2, c2x⟩, h⟩ := h
  refine aw_iaload (by decide) rfl dX12_valueOf_86 c2 (LC.lt lc1 rfl rfl c2x) ?_
  refine aw_aload_n dX12_valueOf_87 rfl rfl ?_
  refine aw_getA' rfl fk_1229 (by decide) lf_X12_101 dX12_valueOf_88 (LC.ne lc1 rfl rfl) ?_
  refine aw_iload_n dX12_valueOf_91 rfl rfl ?_
  obtain ⟨⟨c3, c3x⟩, h⟩ := h
  refine aw_iaload (by decide) rfl dX12_valueOf_92 c3 (LC.lt lc1 rfl rfl c3x) ?_
  refine aw_invVj (M := MX12_valueOf) (ci := 12) [vI (gI σ 1268 x0 x1.toNat), vI (gI σ 1229 x0 x2.toNat)] rfl mo_X12_raw rfl lm_X12_657 li_X12_raw ls_X12_raw (by decide +kernel) dX12_valueOf_93 rfl (Nat.le_of_ble_eq_true rfl) (ACj.mono (fun v5 σ4 h => ?_) h)
  refine aw_lstore_n (L' := [some (vR 12 (some x0)), some (vI x1), some (vI x2), some (vJ v5), none, none]) dX12_valueOf_96 rfl (by decide) rfl ?_
  refine aw_bipush (x := 64) dX12_valueOf_97 rfl ?_
  refine aw_bipush (x := 8) dX12_valueOf_99 rfl ?_
  refine aw_aload_n dX12_valueOf_101 rfl rfl ?_
  obtain ⟨lc6, h⟩ := h
  refine aw_getA' rfl fk_1229 (by decide) lf_X12_101 dX12_valueOf_102 (LC.ne lc6 rfl rfl) ?_
  refine aw_iload_n dX12_valueOf_105 rfl rfl ?_
  refine aw_iaload (by decide) rfl dX12_valueOf_106 c3 (LC.lt lc6 rfl rfl c3x) ?_
  refine aw_bipush (x := 15) dX12_valueOf_107 rfl ?_
  refine aw_iand dX12_valueOf_109 ?_
  obtain ⟨⟨c7, c7x⟩, h⟩ := h
  refine aw_imulc dX12_valueOf_110 c7 c7x ?_
  obtain ⟨⟨c8, c8x⟩, h⟩ := h
  refine aw_isubc dX12_valueOf_111 c8 c8x ?_
  refine aw_istore (L' := [some (vR 12 (some x0)), some (vI x1), some (vI x2), some (vJ v5), none, some (vI (64 - (8 * (i_and (gI σ4 1229 x0 x2.toNat) 15))))]) dX12_valueOf_112 (by decide) rfl ?_
  obtain ⟨z9, hz9⟩ : ∃ z : Int, z = 64 - (8 * (i_and (gI σ4 1229 x0 x2.toNat) 15)) := ⟨_, rfl⟩
  rw [← hz9]
  replace h := h z9 hz9
  refine aw_aload_n dX12_valueOf_114 rfl rfl ?_
  refine aw_getA' rfl fk_1229 (by decide) lf_X12_101 dX12_valueOf_115 (LC.ne lc6 rfl rfl) ?_
  refine aw_iload_n dX12_valueOf_118 rfl rfl ?_
  refine aw_iaload (by decide) rfl dX12_valueOf_119 c3 (LC.lt lc6 rfl rfl c3x) ?_
  refine aw_bipush (x := 16) dX12_valueOf_120 rfl ?_
  refine aw_iand dX12_valueOf_122 ?_
  refine aw_if_le (tgt := 136) dX12_valueOf_123 (by decide) (fun k10 => ?_) (fun k10 => ?_)
  · replace h := h.1 k10
    refine aw_lload_n dX12_valueOf_136 rfl rfl ?_
    exact aw_lreturn dX12_valueOf_137 rfl h
  · replace h := h.2 k10
    refine aw_lload_n dX12_valueOf_126 rfl rfl ?_
    refine aw_iload dX12_valueOf_127 rfl ?_
    refine aw_lshl dX12_valueOf_129 ?_
    refine aw_iload dX12_valueOf_130 rfl ?_
    refine aw_lshr dX12_valueOf_132 ?_
    refine aw_goto (tgt := 137) dX12_valueOf_133 (by decide) ?_
    exact aw_lreturn dX12_valueOf_137 rfl h
set_option maxRecDepth 4000 in
theorem bk_X12_whole_0 {g : GP} {l : Launch} {d : Nat} {σ : St} {Q : Option AV → St → Prop} {x0 : Nat}
    (h : ((¬ (gI σ 1213 x0 0) = 1 → Q (some (vI 0)) σ) ∧ ((gI σ 1213 x0 0) = 1 → R32 ((gI σ 1215 x0 0) - (gI σ 1214 x0 0)) ∧ ((((gI σ 1215 x0 0) - (gI σ 1214 x0 0)) < 2 → Q (some (vI 0)) σ) ∧ (¬ ((gI σ 1215 x0 0) - (gI σ 1214 x0 0)) < 2 → ((((gI σ 1215 x0 0) - (gI σ 1214 x0 0)) ≤ 3 → LC 12 σ x0 ∧ Bd (gI σ 1214 x0 0) 3000 ∧ ∀ z7 : Int, z7 = gI σ 1210 x0 (gI σ 1214 x0 0).toNat → R32 ((gI σ 1214 x0 0) + 1) ∧ Bd ((gI σ 1214 x0 0) + 1) 3000 ∧ ∀ z10 : Int, z10 = gI σ 1210 x0 ((gI σ 1214 x0 0) + 1).toNat → ((z7 = 117 → AW g l d MX12_whole 70 [some (vR 12 (some x0)), some (vI z7), some (vI z10)] [] σ Q) ∧ (¬ z7 = 117 → ((¬ z7 = 115 → Q (some (vI 0)) σ) ∧ (z7 = 115 → AW g l d MX12_whole 70 [some (vR 12 (some x0)), some (vI z7), some (vI z10)] [] σ Q))))) ∧ (¬ ((gI σ 1215 x0 0) - (gI σ 1214 x0 0)) ≤ 3 → Q (some (vI 0)) σ))))))) :
    AW g l d MX12_whole 0 [some (vR 12 (some x0)), none, none] [] σ Q := by
  refine aw_aload_n dX12_whole_0 rfl rfl ?_
  refine aw_getI' rfl fk_1213 lf_X12_51 dX12_whole_1 ?_
  refine aw_iconst (x := 1) dX12_whole_4 rfl ?_
  refine aw_icmp_ne (tgt := 34) dX12_whole_5 (by decide) (fun k1 => ?_) (fun k1 => ?_)
  · replace h := h.1 k1
    refine aw_iconst (x := 0) dX12_whole_34 rfl ?_
    exact aw_ireturn dX12_whole_35 rfl h
  · replace h := h.2 k1
    refine aw_aload_n dX12_whole_8 rfl rfl ?_
    refine aw_getI' rfl fk_1215 lf_X12_57 dX12_whole_9 ?_
    refine aw_aload_n dX12_whole_12 rfl rfl ?_
    refine aw_getI' rfl fk_1214 lf_X12_54 dX12_whole_13 ?_
    obtain ⟨⟨c2, c2x⟩, h⟩ := h
    refine aw_isubc dX12_whole_16 c2 c2x ?_
    refine aw_iconst (x := 2) dX12_whole_17 rfl ?_
    refine aw_icmp_lt (tgt := 34) dX12_whole_18 (by decide) (fun k3 => ?_) (fun k3 => ?_)
    · replace h := h.1 k3
      refine aw_iconst (x := 0) dX12_whole_34 rfl ?_
      exact aw_ireturn dX12_whole_35 rfl h
    · replace h := h.2 k3
      refine aw_aload_n dX12_whole_21 rfl rfl ?_
      refine aw_getI' rfl fk_1215 lf_X12_57 dX12_whole_22 ?_
      refine aw_aload_n dX12_whole_25 rfl rfl ?_
      refine aw_getI' rfl fk_1214 lf_X12_54 dX12_whole_26 ?_
      refine aw_isubc dX12_whole_29 c2 c2x ?_
      refine aw_iconst (x := 3) dX12_whole_30 rfl ?_
      refine aw_icmp_le (tgt := 36) dX12_whole_31 (by decide) (fun k4 => ?_) (fun k4 => ?_)
      · replace h := h.1 k4
        refine aw_aload_n dX12_whole_36 rfl rfl ?_
        obtain ⟨lc5, h⟩ := h
        refine aw_getA' rfl fk_1210 (by decide) lf_X12_42 dX12_whole_37 (LC.ne lc5 rfl rfl) ?_
        refine aw_aload_n dX12_whole_40 rfl rfl ?_
        refine aw_getI' rfl fk_1214 lf_X12_54 dX12_whole_41 ?_
        obtain ⟨⟨c6, c6x⟩, h⟩ := h
        refine aw_iaload (by decide) rfl dX12_whole_44 c6 (LC.lt lc5 rfl rfl c6x) ?_
        refine aw_istore_n (L' := [some (vR 12 (some x0)), some (vI (gI σ 1210 x0 (gI σ 1214 x0 0).toNat)), none]) dX12_whole_45 rfl (by decide) rfl ?_
        obtain ⟨z7, hz7⟩ : ∃ z : Int, z = gI σ 1210 x0 (gI σ 1214 x0 0).toNat := ⟨_, rfl⟩
        rw [← hz7]
        replace h := h z7 hz7
        refine aw_aload_n dX12_whole_46 rfl rfl ?_
        refine aw_getA' rfl fk_1210 (by decide) lf_X12_42 dX12_whole_47 (LC.ne lc5 rfl rfl) ?_
        refine aw_aload_n dX12_whole_50 rfl rfl ?_
        refine aw_getI' rfl fk_1214 lf_X12_54 dX12_whole_51 ?_
        refine aw_iconst (x := 1) dX12_whole_54 rfl ?_
        obtain ⟨⟨c8, c8x⟩, h⟩ := h
        refine aw_iaddc dX12_whole_55 c8 c8x ?_
        obtain ⟨⟨c9, c9x⟩, h⟩ := h
        refine aw_iaload (by decide) rfl dX12_whole_56 c9 (LC.lt lc5 rfl rfl c9x) ?_
        refine aw_istore_n (L' := [some (vR 12 (some x0)), some (vI z7), some (vI (gI σ 1210 x0 ((gI σ 1214 x0 0) + 1).toNat))]) dX12_whole_57 rfl (by decide) rfl ?_
        obtain ⟨z10, hz10⟩ : ∃ z : Int, z = gI σ 1210 x0 ((gI σ 1214 x0 0) + 1).toNat := ⟨_, rfl⟩
        rw [← hz10]
        replace h := h z10 hz10
        refine aw_iload_n dX12_whole_58 rfl rfl ?_
        refine aw_bipush (x := 117) dX12_whole_59 rfl ?_
        refine aw_icmp_eq (tgt := 70) dX12_whole_61 (by decide) (fun k11 => ?_) (fun k11 => ?_)
        · replace h := h.1 k11
          exact aw_fgt (L' := [some (vR 12 (some x0)), some (vI z7), some (vI z10)]) ⟨rfl, ⟨rfl, ⟨rfl, trivial⟩⟩⟩ h
        · replace h := h.2 k11
          refine aw_iload_n dX12_whole_64 rfl rfl ?_
          refine aw_bipush (x := 115) dX12_whole_65 rfl ?_
          refine aw_icmp_ne (tgt := 111) dX12_whole_67 (by decide) (fun k12 => ?_) (fun k12 => ?_)
          · replace h := h.1 k12
            refine aw_iconst (x := 0) dX12_whole_111 rfl ?_
            exact aw_ireturn dX12_whole_112 rfl h
          · replace h := h.2 k12
            exact aw_fgt (L' := [some (vR 12 (some x0)), some (vI z7), some (vI z10)]) ⟨rfl, ⟨rfl, ⟨rfl, trivial⟩⟩⟩ h
      · replace h := h.2 k4
        refine aw_iconst (x := 0) dX12_whole_34 rfl ?_
        exact aw_ireturn dX12_whole_35 rfl h
set_option maxRecDepth 4000 in
theorem bk_X12_whole_70 {g : GP} {l : Launch} {d : Nat} {σ : St} {Q : Option AV → St → Prop} {x0 : Nat} {x1 : Int} {x2 : Int}
    (h : ((x2 < 49 → Q (some (vI 0)) σ) ∧ (¬ x2 < 49 → ((56 < x2 → Q (some (vI 0)) σ) ∧ (¬ 56 < x2 → R32 ((gI σ 1215 x0 0) - (gI σ 1214 x0 0)) ∧ ((¬ ((gI σ 1215 x0 0) - (gI σ 1214 x0 0)) = 3 → R32 (x2 - 48) ∧ ((¬ x1 = 115 → AW g l d MX12_whole 129 [some (vR 12 (some x0)), none, none] [vI 0, vI (x2 - 48)] σ Q) ∧ (x1 = 115 → AW g l d MX12_whole 129 [some (vR 12 (some x0)), none, none] [vI 16, vI (x2 - 48)] σ Q))) ∧ (((gI σ 1215 x0 0) - (gI σ 1214 x0 0)) = 3 → LC 12 σ x0 ∧ R32 ((gI σ 1214 x0 0) + 2) ∧ Bd ((gI σ 1214 x0 0) + 2) 3000 ∧ (((gI σ 1210 x0 ((gI σ 1214 x0 0) + 2).toNat) = 98 → R32 (x2 - 48) ∧ ((¬ x1 = 115 → AW g l d MX12_whole 129 [some (vR 12 (some x0)), none, none] [vI 0, vI (x2 - 48)] σ Q) ∧ (x1 = 115 → AW g l d MX12_whole 129 [some (vR 12 (some x0)), none, none] [vI 16, vI (x2 - 48)] σ Q))) ∧ (¬ (gI σ 1210 x0 ((gI σ 1214 x0 0) + 2).toNat) = 98 → Q (some (vI 0)) σ))))))))) :
    AW g l d MX12_whole 70 [some (vR 12 (some x0)), some (vI x1), some (vI x2)] [] σ Q := by
  refine aw_iload_n dX12_whole_70 rfl rfl ?_
  refine aw_bipush (x := 49) dX12_whole_71 rfl ?_
  refine aw_icmp_lt (tgt := 111) dX12_whole_73 (by decide) (fun k1 => ?_) (fun k1 => ?_)
  · replace h := h.1 k1
    refine aw_iconst (x := 0) dX12_whole_111 rfl ?_
    exact aw_ireturn dX12_whole_112 rfl h
  · replace h := h.2 k1
    refine aw_iload_n dX12_whole_76 rfl rfl ?_
    refine aw_bipush (x := 56) dX12_whole_77 rfl ?_
    refine aw_icmp_gt (tgt := 111) dX12_whole_79 (by decide) (fun k2 => ?_) (fun k2 => ?_)
    · replace h := h.1 k2
      refine aw_iconst (x := 0) dX12_whole_111 rfl ?_
      exact aw_ireturn dX12_whole_112 rfl h
    · replace h := h.2 k2
      refine aw_aload_n dX12_whole_82 rfl rfl ?_
      refine aw_getI' rfl fk_1215 lf_X12_57 dX12_whole_83 ?_
      refine aw_aload_n dX12_whole_86 rfl rfl ?_
      refine aw_getI' rfl fk_1214 lf_X12_54 dX12_whole_87 ?_
      obtain ⟨⟨c3, c3x⟩, h⟩ := h
      refine aw_isubc dX12_whole_90 c3 c3x ?_
      refine aw_iconst (x := 3) dX12_whole_91 rfl ?_
      refine aw_icmp_ne (tgt := 113) dX12_whole_92 (by decide) (fun k4 => ?_) (fun k4 => ?_)
      · replace h := h.1 k4
        refine aw_iload_n dX12_whole_113 rfl rfl ?_
        refine aw_bipush (x := 48) dX12_whole_114 rfl ?_
        obtain ⟨⟨c5, c5x⟩, h⟩ := h
        refine aw_isubc dX12_whole_116 c5 c5x ?_
        refine aw_iload_n dX12_whole_117 rfl rfl ?_
        refine aw_bipush (x := 115) dX12_whole_118 rfl ?_
        refine aw_icmp_ne (tgt := 128) dX12_whole_120 (by decide) (fun k6 => ?_) (fun k6 => ?_)
        · replace h := h.1 k6
          refine aw_iconst (x := 0) dX12_whole_128 rfl ?_
          exact aw_fgt (L' := [some (vR 12 (some x0)), none, none]) ⟨rfl, trivial⟩ h
        · replace h := h.2 k6
          refine aw_bipush (x := 16) dX12_whole_123 rfl ?_
          refine aw_goto (tgt := 129) dX12_whole_125 (by decide) ?_
          exact aw_fgt (L' := [some (vR 12 (some x0)), none, none]) ⟨rfl, trivial⟩ h
      · replace h := h.2 k4
        refine aw_aload_n dX12_whole_95 rfl rfl ?_
        obtain ⟨lc7, h⟩ := h
        refine aw_getA' rfl fk_1210 (by decide) lf_X12_42 dX12_whole_96 (LC.ne lc7 rfl rfl) ?_
        refine aw_aload_n dX12_whole_99 rfl rfl ?_
        refine aw_getI' rfl fk_1214 lf_X12_54 dX12_whole_100 ?_
        refine aw_iconst (x := 2) dX12_whole_103 rfl ?_
        obtain ⟨⟨c8, c8x⟩, h⟩ := h
        refine aw_iaddc dX12_whole_104 c8 c8x ?_
        obtain ⟨⟨c9, c9x⟩, h⟩ := h
        refine aw_iaload (by decide) rfl dX12_whole_105 c9 (LC.lt lc7 rfl rfl c9x) ?_
        refine aw_bipush (x := 98) dX12_whole_106 rfl ?_
        refine aw_icmp_eq (tgt := 113) dX12_whole_108 (by decide) (fun k10 => ?_) (fun k10 => ?_)
        · replace h := h.1 k10
          refine aw_iload_n dX12_whole_113 rfl rfl ?_
          refine aw_bipush (x := 48) dX12_whole_114 rfl ?_
          obtain ⟨⟨c11, c11x⟩, h⟩ := h
          refine aw_isubc dX12_whole_116 c11 c11x ?_
          refine aw_iload_n dX12_whole_117 rfl rfl ?_
          refine aw_bipush (x := 115) dX12_whole_118 rfl ?_
          refine aw_icmp_ne (tgt := 128) dX12_whole_120 (by decide) (fun k12 => ?_) (fun k12 => ?_)
          · replace h := h.1 k12
            refine aw_iconst (x := 0) dX12_whole_128 rfl ?_
            exact aw_fgt (L' := [some (vR 12 (some x0)), none, none]) ⟨rfl, trivial⟩ h
          · replace h := h.2 k12
            refine aw_bipush (x := 16) dX12_whole_123 rfl ?_
            refine aw_goto (tgt := 129) dX12_whole_125 (by decide) ?_
            exact aw_fgt (L' := [some (vR 12 (some x0)), none, none]) ⟨rfl, trivial⟩ h
        · replace h := h.2 k10
          refine aw_iconst (x := 0) dX12_whole_111 rfl ?_
          exact aw_ireturn dX12_whole_112 rfl h
set_option maxRecDepth 4000 in
theorem bk_X12_whole_129 {g : GP} {l : Launch} {d : Nat} {σ : St} {Q : Option AV → St → Prop} {x0 : Nat} {y0 : Int} {y1 : Int}
    (h : R32 (y1 + y0) ∧ R32 ((gI σ 1215 x0 0) - (gI σ 1214 x0 0)) ∧ ((¬ ((gI σ 1215 x0 0) - (gI σ 1214 x0 0)) = 3 → R32 ((y1 + y0) + 0) ∧ Q (some (vI ((y1 + y0) + 0))) σ) ∧ (((gI σ 1215 x0 0) - (gI σ 1214 x0 0)) = 3 → R32 ((y1 + y0) + 32) ∧ Q (some (vI ((y1 + y0) + 32))) σ))) :
    AW g l d MX12_whole 129 [some (vR 12 (some x0)), none, none] [vI y0, vI y1] σ Q := by
  obtain ⟨⟨c1, c1x⟩, h⟩ := h
  refine aw_iaddc dX12_whole_129 c1 c1x ?_
  refine aw_aload_n dX12_whole_130 rfl rfl ?_
  refine aw_getI' rfl fk_1215 lf_X12_57 dX12_whole_131 ?_
  refine aw_aload_n dX12_whole_134 rfl rfl ?_
  refine aw_getI' rfl fk_1214 lf_X12_54 dX12_whole_135 ?_
  obtain ⟨⟨c2, c2x⟩, h⟩ := h
  refine aw_isubc dX12_whole_138 c2 c2x ?_
  refine aw_iconst (x := 3) dX12_whole_139 rfl ?_
  refine aw_icmp_ne (tgt := 148) dX12_whole_140 (by decide) (fun k3 => ?_) (fun k3 => ?_)
  · replace h := h.1 k3
    refine aw_iconst (x := 0) dX12_whole_148 rfl ?_
    obtain ⟨⟨c4, c4x⟩, h⟩ := h
    refine aw_iaddc dX12_whole_149 c4 c4x ?_
    exact aw_ireturn dX12_whole_150 rfl h
  · replace h := h.2 k3
    refine aw_bipush (x := 32) dX12_whole_143 rfl ?_
    refine aw_goto (tgt := 149) dX12_whole_145 (by decide) ?_
    obtain ⟨⟨c5, c5x⟩, h⟩ := h
    refine aw_iaddc dX12_whole_149 c5 c5x ?_
    exact aw_ireturn dX12_whole_150 rfl h
set_option maxRecDepth 4000 in
theorem bk_X12_wholeOn_0 {g : GP} {l : Launch} {d : Nat} {σ : St} {Q : Option AV → St → Prop} {x0 : Nat} {x1 : Int}
    (h : (((gI σ 1251 x0 0) ≤ 0 → ACi g l d MX12_isWord [vR 12 (some x0), vJ 26995] σ (fun v3 σ2 => ((v3 = 0 → ACi g l d MX12_isSign [vR 12 (some x0), vI 91] σ2 (fun v6 σ5 => ((v6 = 0 → Q none σ5) ∧ (¬ v6 = 0 → LC 12 σ5 x0 ∧ Bd x1 560 ∧ ACv g l d MX12_array [vR 12 (some x0), vI x1] (sI σ5 1228 x0 x1.toNat 1) (fun σ10 => Q none σ10))))) ∧ (¬ v3 = 0 → ACv g l d MX12_next [vR 12 (some x0)] σ2 (fun σ11 => ACi g l d MX12_isName [vR 12 (some x0)] σ11 (fun v13 σ12 => ACi g l d MX12_must [vR 12 (some x0), vI v13, vI 2] σ12 (fun v15 σ14 => ((v15 = 0 → Q none σ14) ∧ (¬ v15 = 0 → ACi g l d MX12_enumNamed [vR 12 (some x0), vJ (gJ σ14 1216 x0 0)] σ14 (fun v18 σ17 => ((v18 < 0 → AW g l (d + 1) MX12_wholeOn 51 [some (vR 12 (some x0)), some (vI x1)] [vI 0, vR 12 (some x0)] σ17 Q) ∧ (¬ v18 < 0 → AW g l (d + 1) MX12_wholeOn 51 [some (vR 12 (some x0)), some (vI x1)] [vI 1, vR 12 (some x0)] σ17 Q)))))))))))) ∧ (¬ (gI σ 1251 x0 0) ≤ 0 → Q none σ))) :
    AW g l (d + 1) MX12_wholeOn 0 [some (vR 12 (some x0)), some (vI x1)] [] σ Q := by
  refine aw_aload_n dX12_wholeOn_0 rfl rfl ?_
  refine aw_getI' rfl fk_1251 lf_X12_167 dX12_wholeOn_1 ?_
  refine aw_if_le (tgt := 8) dX12_wholeOn_4 (by decide) (fun k1 => ?_) (fun k1 => ?_)
  · replace h := h.1 k1
    refine aw_aload_n dX12_wholeOn_8 rfl rfl ?_
    refine aw_ldc2 lk_X12_342 dX12_wholeOn_9 ?_
    refine aw_invVi (M := MX12_wholeOn) (ci := 12) [vJ 26995] rfl mo_X12_isWord rfl lm_X12_334 li_X12_isWord ls_X12_isWord (by decide +kernel) dX12_wholeOn_12 rfl (Nat.le_of_ble_eq_true rfl) (ACi.mono (fun v3 σ2 h => ?_) h)
    refine aw_if_eq (tgt := 80) dX12_wholeOn_15 (by decide) (fun k4 => ?_) (fun k4 => ?_)
    · replace h := h.1 k4
      refine aw_aload_n dX12_wholeOn_80 rfl rfl ?_
      refine aw_bipush (x := 91) dX12_wholeOn_81 rfl ?_
      refine aw_invVi (M := MX12_wholeOn) (ci := 12) [vI 91] rfl mo_X12_isSign rfl lm_X12_401 li_X12_isSign ls_X12_isSign (by decide +kernel) dX12_wholeOn_83 rfl (Nat.le_of_ble_eq_true rfl) (ACi.mono (fun v6 σ5 h => ?_) h)
      refine aw_if_eq (tgt := 101) dX12_wholeOn_86 (by decide) (fun k7 => ?_) (fun k7 => ?_)
      · replace h := h.1 k7
        exact aw_ret h rfl dX12_wholeOn_101
      · replace h := h.2 k7
        refine aw_aload_n dX12_wholeOn_89 rfl rfl ?_
        obtain ⟨lc8, h⟩ := h
        refine aw_getA' rfl fk_1228 (by decide) lf_X12_98 dX12_wholeOn_90 (LC.ne lc8 rfl rfl) ?_
        refine aw_iload_n dX12_wholeOn_93 rfl rfl ?_
        refine aw_iconst (x := 1) dX12_wholeOn_94 rfl ?_
        obtain ⟨⟨c9, c9x⟩, h⟩ := h
        refine aw_iastore (by decide) rfl dX12_wholeOn_95 c9 (LC.lt lc8 rfl rfl c9x) ?_
        refine aw_aload_n dX12_wholeOn_96 rfl rfl ?_
        refine aw_iload_n dX12_wholeOn_97 rfl rfl ?_
        refine aw_invVv (M := MX12_wholeOn) (ci := 12) [vI x1] rfl mo_X12_array rfl lm_X12_472 li_X12_array ls_X12_array (by decide +kernel) dX12_wholeOn_98 rfl (Nat.le_of_ble_eq_true rfl) (ACv.mono (fun σ10 h => ?_) h)
        exact aw_ret h rfl dX12_wholeOn_101
    · replace h := h.2 k4
      refine aw_aload_n dX12_wholeOn_18 rfl rfl ?_
      refine aw_invVv (M := MX12_wholeOn) (ci := 12) [] rfl mo_X12_next rfl lm_X12_408 li_X12_next ls_X12_next (by decide +kernel) dX12_wholeOn_19 rfl (Nat.le_of_ble_eq_true rfl) (ACv.mono (fun σ11 h => ?_) h)
      refine aw_aload_n dX12_wholeOn_22 rfl rfl ?_
      refine aw_aload_n dX12_wholeOn_23 rfl rfl ?_
      refine aw_invVi (M := MX12_wholeOn) (ci := 12) [] rfl mo_X12_isName rfl lm_X12_418 li_X12_isName ls_X12_isName (by decide +kernel) dX12_wholeOn_24 rfl (Nat.le_of_ble_eq_true rfl) (ACi.mono (fun v13 σ12 h => ?_) h)
      refine aw_iconst (x := 2) dX12_wholeOn_27 rfl ?_
      refine aw_invVi (M := MX12_wholeOn) (ci := 12) [vI v13, vI 2] rfl mo_X12_must rfl lm_X12_404 li_X12_must ls_X12_must (by decide +kernel) dX12_wholeOn_28 rfl (Nat.le_of_ble_eq_true rfl) (ACi.mono (fun v15 σ14 h => ?_) h)
      refine aw_if_eq (tgt := 58) dX12_wholeOn_31 (by decide) (fun k16 => ?_) (fun k16 => ?_)
      · replace h := h.1 k16
        exact aw_ret h rfl dX12_wholeOn_58
      · replace h := h.2 k16
        refine aw_aload_n dX12_wholeOn_34 rfl rfl ?_
        refine aw_aload_n dX12_wholeOn_35 rfl rfl ?_
        refine aw_aload_n dX12_wholeOn_36 rfl rfl ?_
        refine aw_getJ' rfl fk_1216 lf_X12_60 dX12_wholeOn_37 ?_
        refine aw_invVi (M := MX12_wholeOn) (ci := 12) [vJ (gJ σ14 1216 x0 0)] rfl mo_X12_enumNamed rfl lm_X12_421 li_X12_enumNamed ls_X12_enumNamed (by decide +kernel) dX12_wholeOn_40 rfl (Nat.le_of_ble_eq_true rfl) (ACi.mono (fun v18 σ17 h => ?_) h)
        refine aw_if_lt (tgt := 50) dX12_wholeOn_43 (by decide) (fun k19 => ?_) (fun k19 => ?_)
        · replace h := h.1 k19
          refine aw_iconst (x := 0) dX12_wholeOn_50 rfl ?_
          exact aw_fgt (L' := [some (vR 12 (some x0)), some (vI x1)]) ⟨rfl, ⟨rfl, trivial⟩⟩ h
        · replace h := h.2 k19
          refine aw_iconst (x := 1) dX12_wholeOn_46 rfl ?_
          refine aw_goto (tgt := 51) dX12_wholeOn_47 (by decide) ?_
          exact aw_fgt (L' := [some (vR 12 (some x0)), some (vI x1)]) ⟨rfl, ⟨rfl, trivial⟩⟩ h
  · replace h := h.2 k1
    exact aw_ret h rfl dX12_wholeOn_7
set_option maxRecDepth 4000 in
theorem bk_X12_wholeOn_51 {g : GP} {l : Launch} {d : Nat} {σ : St} {Q : Option AV → St → Prop} {x0 : Nat} {x1 : Int} {y0 : Int} {y1 : Option Nat}
    (h : ∃ r1, y1 = some r1 ∧ ACi g l d MX12_must [vR 12 (some r1), vI y0, vI 4] σ (fun v4 σ3 => ((¬ v4 = 0 → LC 12 σ3 x0 ∧ ACi g l d MX12_enumNamed [vR 12 (some x0), vJ (gJ σ3 1216 x0 0)] σ3 (fun v8 σ7 => LC 12 σ7 x0 ∧ Bd x1 560 ∧ ACv g l d MX12_next [vR 12 (some x0)] (sI σ7 1230 x0 x1.toNat v8) (fun σ11 => Q none σ11))) ∧ (v4 = 0 → Q none σ3)))) :
    AW g l (d + 1) MX12_wholeOn 51 [some (vR 12 (some x0)), some (vI x1)] [vI y0, vR 12 y1] σ Q := by
  refine aw_iconst (x := 4) dX12_wholeOn_51 rfl ?_
  obtain ⟨r1, e2, h⟩ := h
  refine aw_invVi (M := MX12_wholeOn) (ci := 12) [vI y0, vI 4] e2 mo_X12_must rfl lm_X12_404 li_X12_must ls_X12_must (by decide +kernel) dX12_wholeOn_52 rfl (Nat.le_of_ble_eq_true rfl) (ACi.mono (fun v4 σ3 h => ?_) h)
  refine aw_if_ne (tgt := 59) dX12_wholeOn_55 (by decide) (fun k5 => ?_) (fun k5 => ?_)
  · replace h := h.1 k5
    refine aw_aload_n dX12_wholeOn_59 rfl rfl ?_
    obtain ⟨lc6, h⟩ := h
    refine aw_getA' rfl fk_1230 (by decide) lf_X12_104 dX12_wholeOn_60 (LC.ne lc6 rfl rfl) ?_
    refine aw_iload_n dX12_wholeOn_63 rfl rfl ?_
    refine aw_aload_n dX12_wholeOn_64 rfl rfl ?_
    refine aw_aload_n dX12_wholeOn_65 rfl rfl ?_
    refine aw_getJ' rfl fk_1216 lf_X12_60 dX12_wholeOn_66 ?_
    refine aw_invVi (M := MX12_wholeOn) (ci := 12) [vJ (gJ σ3 1216 x0 0)] rfl mo_X12_enumNamed rfl lm_X12_421 li_X12_enumNamed ls_X12_enumNamed (by decide +kernel) dX12_wholeOn_69 rfl (Nat.le_of_ble_eq_true rfl) (ACi.mono (fun v8 σ7 h => ?_) h)
    obtain ⟨lc9, h⟩ := h
    obtain ⟨⟨c10, c10x⟩, h⟩ := h
    refine aw_iastore (by decide) rfl dX12_wholeOn_72 c10 (LC.lt lc9 rfl rfl c10x) ?_
    refine aw_aload_n dX12_wholeOn_73 rfl rfl ?_
    refine aw_invVv (M := MX12_wholeOn) (ci := 12) [] rfl mo_X12_next rfl lm_X12_408 li_X12_next ls_X12_next (by decide +kernel) dX12_wholeOn_74 rfl (Nat.le_of_ble_eq_true rfl) (ACv.mono (fun σ11 h => ?_) h)
    refine aw_goto (tgt := 101) dX12_wholeOn_77 (by decide) ?_
    exact aw_ret h rfl dX12_wholeOn_101
  · replace h := h.2 k5
    exact aw_ret h rfl dX12_wholeOn_58
set_option maxRecDepth 4000 in
theorem bk_X12_work_0 {g : GP} {l : Launch} {d : Nat} {σ : St} {Q : Option AV → St → Prop} {x0 : Nat} {x1 : Int} {x2 : Int} {x3 : Int}
    (h : LC 12 σ x0 ∧ Bd x1 9000 ∧ (((gI σ 1242 x0 x1.toNat) = 0 → Q (some (vJ (gJ σ 1245 x0 x1.toNat))) σ) ∧ ((gI σ 1242 x0 x1.toNat) = 1 → ACj g l d MX12_named_ [vR 12 (some x0), vI x2, vI (j2i (gJ σ 1245 x0 x1.toNat))] σ (fun v4 σ3 => Q (some (vJ v4)) σ3)) ∧ ((gI σ 1242 x0 x1.toNat) = 2 → Q (some (vJ (i2j x3))) σ) ∧ ((gI σ 1242 x0 x1.toNat) = 3 → Bd (gI σ 1281 x0 0) 6 ∧ R32 ((gI σ 1201 x0 (gI σ 1281 x0 0).toNat) - x3) ∧ Q (some (vJ (i2j ((gI σ 1201 x0 (gI σ 1281 x0 0).toNat) - x3)))) σ) ∧ ((gI σ 1242 x0 x1.toNat) = 4 → Bd x2 2800 ∧ Q (some (vJ (i2j (gI σ 1268 x0 x2.toNat)))) σ) ∧ ((gI σ 1242 x0 x1.toNat) = 5 → Bd (gI σ 1243 x0 x1.toNat) 9000 ∧ Q (some (vJ (-(gJ σ 1287 x0 (gI σ 1243 x0 x1.toNat).toNat)))) σ) ∧ ((gI σ 1242 x0 x1.toNat) = 6 → Bd (gI σ 1243 x0 x1.toNat) 9000 ∧ ((¬ (gJ σ 1287 x0 (gI σ 1243 x0 x1.toNat).toNat) = (0 : Int64) → Q (some (vJ 0)) σ) ∧ ((gJ σ 1287 x0 (gI σ 1243 x0 x1.toNat).toNat) = (0 : Int64) → Q (some (vJ 1)) σ))) ∧ ((gI σ 1242 x0 x1.toNat) < 0 ∨ 6 < (gI σ 1242 x0 x1.toNat) → Bd (gI σ 1243 x0 x1.toNat) 9000 ∧ Bd (gI σ 1244 x0 x1.toNat) 9000 ∧ ACj g l d MX12_joined [vR 12 (some x0), vI (gI σ 1242 x0 x1.toNat), vJ (gJ σ 1287 x0 (gI σ 1243 x0 x1.toNat).toNat), vJ (gJ σ 1287 x0 (gI σ 1244 x0 x1.toNat).toNat)] σ (fun v14 σ13 => Q (some (vJ v14)) σ13)))) :
    AW g l (d + 1) MX12_work 0 [some (vR 12 (some x0)), some (vI x1), some (vI x2), some (vI x3)] [] σ Q := by
  refine aw_aload_n dX12_work_0 rfl rfl ?_
  obtain ⟨lc1, h⟩ := h
  refine aw_getA' rfl fk_1242 (by decide) lf_X12_140 dX12_work_1 (LC.ne lc1 rfl rfl) ?_
  refine aw_iload_n dX12_work_4 rfl rfl ?_
  obtain ⟨⟨c2, c2x⟩, h⟩ := h
  refine aw_iaload (by decide) rfl dX12_work_5 c2 (LC.lt lc1 rfl rfl c2x) ?_
  obtain ⟨h0, h1, h2, h3, h4, h5, h6, hd⟩ := h
  refine aw_table (M := MX12_work) (dt := 127) [48, 55, 68, 71, 84, 92, 105] dX12_work_6 (by decide) (by decide) (by decide) ⟨fun hc => ?_, fun hc => ?_, fun hc => ?_, fun hc => ?_, fun hc => ?_, fun hc => ?_, fun hc => ?_, trivial⟩ (fun hc => ?_)
  · have h := h0 hc; clear h0 h1 h2 h3 h4 h5 h6 hd
    refine aw_aload_n dX12_work_48 rfl rfl ?_
    refine aw_getA' rfl fk_1245 (by decide) lf_X12_149 dX12_work_49 (LC.ne lc1 rfl rfl) ?_
    refine aw_iload_n dX12_work_52 rfl rfl ?_
    refine aw_laload (by decide) rfl dX12_work_53 c2 (LC.lt lc1 rfl rfl c2x) ?_
    exact aw_lreturn dX12_work_54 rfl h
  · have h := h1 hc; clear h0 h1 h2 h3 h4 h5 h6 hd
    refine aw_aload_n dX12_work_55 rfl rfl ?_
    refine aw_iload_n dX12_work_56 rfl rfl ?_
    refine aw_aload_n dX12_work_57 rfl rfl ?_
    refine aw_getA' rfl fk_1245 (by decide) lf_X12_149 dX12_work_58 (LC.ne lc1 rfl rfl) ?_
    refine aw_iload_n dX12_work_61 rfl rfl ?_
    refine aw_laload (by decide) rfl dX12_work_62 c2 (LC.lt lc1 rfl rfl c2x) ?_
    refine aw_l2i dX12_work_63 ?_
    refine aw_invVj (M := MX12_work) (ci := 12) [vI x2, vI (j2i (gJ σ 1245 x0 x1.toNat))] rfl mo_X12_named_ rfl lm_X12_650 li_X12_named_ ls_X12_named_ (by decide +kernel) dX12_work_64 rfl (Nat.le_of_ble_eq_true rfl) (ACj.mono (fun v4 σ3 h => ?_) h)
    exact aw_lreturn dX12_work_67 rfl h
  · have h := h2 hc; clear h0 h1 h2 h3 h4 h5 h6 hd
    refine aw_iload_n dX12_work_68 rfl rfl ?_
    refine aw_i2l dX12_work_69 ?_
    exact aw_lreturn dX12_work_70 rfl h
  · have h := h3 hc; clear h0 h1 h2 h3 h4 h5 h6 hd
    refine aw_aload_n dX12_work_71 rfl rfl ?_
    refine aw_getA' rfl fk_1201 (by decide) lf_X12_13 dX12_work_72 (LC.ne lc1 rfl rfl) ?_
    refine aw_aload_n dX12_work_75 rfl rfl ?_
    refine aw_getI' rfl fk_1281 lf_X12_259 dX12_work_76 ?_
    obtain ⟨⟨c5, c5x⟩, h⟩ := h
    refine aw_iaload (by decide) rfl dX12_work_79 c5 (LC.lt lc1 rfl rfl c5x) ?_
    refine aw_iload_n dX12_work_80 rfl rfl ?_
    obtain ⟨⟨c6, c6x⟩, h⟩ := h
    refine aw_isubc dX12_work_81 c6 c6x ?_
    refine aw_i2l dX12_work_82 ?_
    exact aw_lreturn dX12_work_83 rfl h
  · have h := h4 hc; clear h0 h1 h2 h3 h4 h5 h6 hd
    refine aw_aload_n dX12_work_84 rfl rfl ?_
    refine aw_getA' rfl fk_1268 (by decide) lf_X12_220 dX12_work_85 (LC.ne lc1 rfl rfl) ?_
    refine aw_iload_n dX12_work_88 rfl rfl ?_
    obtain ⟨⟨c7, c7x⟩, h⟩ := h
    refine aw_iaload (by decide) rfl dX12_work_89 c7 (LC.lt lc1 rfl rfl c7x) ?_
    refine aw_i2l dX12_work_90 ?_
    exact aw_lreturn dX12_work_91 rfl h
  · have h := h5 hc; clear h0 h1 h2 h3 h4 h5 h6 hd
    refine aw_aload_n dX12_work_92 rfl rfl ?_
    refine aw_getA' rfl fk_1287 (by decide) lf_X12_277 dX12_work_93 (LC.ne lc1 rfl rfl) ?_
    refine aw_aload_n dX12_work_96 rfl rfl ?_
    refine aw_getA' rfl fk_1243 (by decide) lf_X12_143 dX12_work_97 (LC.ne lc1 rfl rfl) ?_
    refine aw_iload_n dX12_work_100 rfl rfl ?_
    refine aw_iaload (by decide) rfl dX12_work_101 c2 (LC.lt lc1 rfl rfl c2x) ?_
    obtain ⟨⟨c8, c8x⟩, h⟩ := h
    refine aw_laload (by decide) rfl dX12_work_102 c8 (LC.lt lc1 rfl rfl c8x) ?_
    refine aw_lneg dX12_work_103 ?_
    exact aw_lreturn dX12_work_104 rfl h
  · have h := h6 hc; clear h0 h1 h2 h3 h4 h5 h6 hd
    refine aw_aload_n dX12_work_105 rfl rfl ?_
    refine aw_getA' rfl fk_1287 (by decide) lf_X12_277 dX12_work_106 (LC.ne lc1 rfl rfl) ?_
    refine aw_aload_n dX12_work_109 rfl rfl ?_
    refine aw_getA' rfl fk_1243 (by decide) lf_X12_143 dX12_work_110 (LC.ne lc1 rfl rfl) ?_
    refine aw_iload_n dX12_work_113 rfl rfl ?_
    refine aw_iaload (by decide) rfl dX12_work_114 c2 (LC.lt lc1 rfl rfl c2x) ?_
    obtain ⟨⟨c9, c9x⟩, h⟩ := h
    refine aw_laload (by decide) rfl dX12_work_115 c9 (LC.lt lc1 rfl rfl c9x) ?_
    refine aw_lconst (x := 0) dX12_work_116 rfl ?_
    refine aw_lcmp_ne (M := MX12_work) (tgt := 125) dX12_work_117 dX12_work_118 (by decide) (fun k10 => ?_) (fun k10 => ?_)
    · replace h := h.1 k10
      refine aw_lconst (x := 0) dX12_work_125 rfl ?_
      exact aw_lreturn dX12_work_126 rfl h
    · replace h := h.2 k10
      refine aw_lconst (x := 1) dX12_work_121 rfl ?_
      refine aw_goto (tgt := 126) dX12_work_122 (by decide) ?_
      exact aw_lreturn dX12_work_126 rfl h
  · have h := hd hc; clear h0 h1 h2 h3 h4 h5 h6 hd
    refine aw_aload_n dX12_work_127 rfl rfl ?_
    refine aw_aload_n dX12_work_128 rfl rfl ?_
    refine aw_getA' rfl fk_1242 (by decide) lf_X12_140 dX12_work_129 (LC.ne lc1 rfl rfl) ?_
    refine aw_iload_n dX12_work_132 rfl rfl ?_
    refine aw_iaload (by decide) rfl dX12_work_133 c2 (LC.lt lc1 rfl rfl c2x) ?_
    refine aw_aload_n dX12_work_134 rfl rfl ?_
    refine aw_getA' rfl fk_1287 (by decide) lf_X12_277 dX12_work_135 (LC.ne lc1 rfl rfl) ?_
    refine aw_aload_n dX12_work_138 rfl rfl ?_
    refine aw_getA' rfl fk_1243 (by decide) lf_X12_143 dX12_work_139 (LC.ne lc1 rfl rfl) ?_
    refine aw_iload_n dX12_work_142 rfl rfl ?_
    refine aw_iaload (by decide) rfl dX12_work_143 c2 (LC.lt lc1 rfl rfl c2x) ?_
    obtain ⟨⟨c11, c11x⟩, h⟩ := h
    refine aw_laload (by decide) rfl dX12_work_144 c11 (LC.lt lc1 rfl rfl c11x) ?_
    refine aw_aload_n dX12_work_145 rfl rfl ?_
    refine aw_getA' rfl fk_1287 (by decide) lf_X12_277 dX12_work_146 (LC.ne lc1 rfl rfl) ?_
    refine aw_aload_n dX12_work_149 rfl rfl ?_
    refine aw_getA' rfl fk_1244 (by decide) lf_X12_146 dX12_work_150 (LC.ne lc1 rfl rfl) ?_
    refine aw_iload_n dX12_work_153 rfl rfl ?_
    refine aw_iaload (by decide) rfl dX12_work_154 c2 (LC.lt lc1 rfl rfl c2x) ?_
    obtain ⟨⟨c12, c12x⟩, h⟩ := h
    refine aw_laload (by decide) rfl dX12_work_155 c12 (LC.lt lc1 rfl rfl c12x) ?_
    refine aw_invVj (M := MX12_work) (ci := 12) [vI (gI σ 1242 x0 x1.toNat), vJ (gJ σ 1287 x0 (gI σ 1243 x0 x1.toNat).toNat), vJ (gJ σ 1287 x0 (gI σ 1244 x0 x1.toNat).toNat)] rfl mo_X12_joined rfl lm_X12_653 li_X12_joined ls_X12_joined (by decide +kernel) dX12_work_156 rfl (Nat.le_of_ble_eq_true rfl) (ACj.mono (fun v14 σ13 h => ?_) h)
    exact aw_lreturn dX12_work_159 rfl h
set_option maxRecDepth 4000 in
theorem bk_X12_worked_0 {g : GP} {l : Launch} {d : Nat} {σ : St} {Q : Option AV → St → Prop} {x0 : Nat} {x1 : Int} {x2 : Int} {x3 : Int}
    (h : LC 12 σ x0 ∧ Bd x1 9000 ∧ AW g l (d + 1) MX12_worked 13 [some (vR 12 (some x0)), some (vI x1), some (vI x2), some (vI x3), some (vI (gI σ 1262 x0 x1.toNat))] [] (sI σ 1286 x0 0 0) Q) :
    AW g l (d + 1) MX12_worked 0 [some (vR 12 (some x0)), some (vI x1), some (vI x2), some (vI x3), none] [] σ Q := by
  refine aw_aload_n dX12_worked_0 rfl rfl ?_
  refine aw_iconst (x := 0) dX12_worked_1 rfl ?_
  refine aw_putZ' rfl fk_1286 (Or.inl rfl) lf_X12_274 dX12_worked_2 (Or.inl rfl) ?_
  refine aw_aload_n dX12_worked_5 rfl rfl ?_
  obtain ⟨lc1, h⟩ := h
  refine aw_getA' rfl fk_1262 (by decide) lf_X12_201 dX12_worked_6 (LC.ne lc1 rfl rfl) ?_
  refine aw_iload_n dX12_worked_9 rfl rfl ?_
  obtain ⟨⟨c2, c2x⟩, h⟩ := h
  refine aw_ialoade (v := gI σ 1262 x0 x1.toNat) (by decide) rfl dX12_worked_10 c2 (LC.lt lc1 rfl rfl c2x) rfl ?_
  refine aw_istore (L' := [some (vR 12 (some x0)), some (vI x1), some (vI x2), some (vI x3), some (vI (gI σ 1262 x0 x1.toNat))]) dX12_worked_11 (by decide) rfl ?_
  exact aw_fgt (L' := [some (vR 12 (some x0)), some (vI x1), some (vI x2), some (vI x3), some (vI (gI σ 1262 x0 x1.toNat))]) ⟨rfl, ⟨rfl, ⟨rfl, ⟨rfl, ⟨rfl, trivial⟩⟩⟩⟩⟩ h
set_option maxRecDepth 4000 in
theorem bk_X12_worked_13 {g : GP} {l : Launch} {d : Nat} {σ : St} {Q : Option AV → St → Prop} {x0 : Nat} {x1 : Int} {x2 : Int} {x3 : Int} {x4 : Int}
    (h : ((x1 < x4 → LC 12 σ x0 ∧ Bd x1 9000 ∧ Q (some (vJ (gJ σ 1287 x0 x1.toNat))) σ) ∧ (¬ x1 < x4 → LC 12 σ x0 ∧ ACj g l d MX12_work [vR 12 (some x0), vI x4, vI x2, vI x3] σ (fun v6 σ5 => LC 12 σ5 x0 ∧ Bd x4 9000 ∧ R32 (x4 + 1) ∧ AW g l (d + 1) MX12_worked 13 [some (vR 12 (some x0)), some (vI x1), some (vI x2), some (vI x3), some (vI (x4 + 1))] [] (sJ σ5 1287 x0 x4.toNat v6) Q)))) :
    AW g l (d + 1) MX12_worked 13 [some (vR 12 (some x0)), some (vI x1), some (vI x2), some (vI x3), some (vI x4)] [] σ Q := by
  refine aw_iload dX12_worked_13 rfl ?_
  refine aw_iload_n dX12_worked_15 rfl rfl ?_
  refine aw_icmp_gt (tgt := 40) dX12_worked_16 (by decide) (fun k1 => ?_) (fun k1 => ?_)
  · replace h := h.1 k1
    refine aw_aload_n dX12_worked_40 rfl rfl ?_
    obtain ⟨lc2, h⟩ := h
    refine aw_getA' rfl fk_1287 (by decide) lf_X12_277 dX12_worked_41 (LC.ne lc2 rfl rfl) ?_
    refine aw_iload_n dX12_worked_44 rfl rfl ?_
    obtain ⟨⟨c3, c3x⟩, h⟩ := h
    refine aw_laload (by decide) rfl dX12_worked_45 c3 (LC.lt lc2 rfl rfl c3x) ?_
    exact aw_lreturn dX12_worked_46 rfl h
  · replace h := h.2 k1
    refine aw_aload_n dX12_worked_19 rfl rfl ?_
    obtain ⟨lc4, h⟩ := h
    refine aw_getA' rfl fk_1287 (by decide) lf_X12_277 dX12_worked_20 (LC.ne lc4 rfl rfl) ?_
    refine aw_iload dX12_worked_23 rfl ?_
    refine aw_aload_n dX12_worked_25 rfl rfl ?_
    refine aw_iload dX12_worked_26 rfl ?_
    refine aw_iload_n dX12_worked_28 rfl rfl ?_
    refine aw_iload_n dX12_worked_29 rfl rfl ?_
    refine aw_invVj (M := MX12_worked) (ci := 12) [vI x4, vI x2, vI x3] rfl mo_X12_work rfl lm_X12_647 li_X12_work ls_X12_work (by decide +kernel) dX12_worked_30 rfl (Nat.le_of_ble_eq_true rfl) (ACj.mono (fun v6 σ5 h => ?_) h)
    obtain ⟨lc7, h⟩ := h
    obtain ⟨⟨c8, c8x⟩, h⟩ := h
    refine aw_lastore (by decide) rfl dX12_worked_33 c8 (LC.lt lc7 rfl rfl c8x) ?_
    obtain ⟨⟨c9, c9x⟩, h⟩ := h
    refine aw_iincc (L' := [some (vR 12 (some x0)), some (vI x1), some (vI x2), some (vI x3), some (vI (x4 + 1))]) dX12_worked_34 rfl (by decide) rfl c9 c9x rfl ?_
    refine aw_goto (tgt := 13) dX12_worked_37 (by decide) ?_
    exact aw_fgt (L' := [some (vR 12 (some x0)), some (vI x1), some (vI x2), some (vI x3), some (vI (x4 + 1))]) ⟨rfl, ⟨rfl, ⟨rfl, ⟨rfl, ⟨rfl, trivial⟩⟩⟩⟩⟩ h
set_option maxRecDepth 4000 in
theorem bk_X12_write_0 {g : GP} {l : Launch} {d : Nat} {σ : St} {Q : Option AV → St → Prop} {x0 : Nat} {x1 : Int} {x2 : Int} {x3 : Int}
    (h : LC 12 σ x0 ∧ Bd x1 6 ∧ ((¬ (gI σ 1202 x0 x1.toNat) = 0 → R32 (4 * x1) ∧ R32 ((4 * x1) + (gI σ 1202 x0 x1.toNat)) ∧ R32 (((4 * x1) + (gI σ 1202 x0 x1.toNat)) - 1) ∧ ∀ z7 : Int, z7 = ((4 * x1) + (gI σ 1202 x0 x1.toNat)) - 1 → Bd z7 24 ∧ ((¬ (gI σ 1205 x0 z7.toNat) = 20 → AW g l (d + 1) MX12_write 200 [some (vR 12 (some x0)), some (vI x1), some (vI x2), some (vI x3), some (vI z7), none, none, none] [] σ Q) ∧ ((gI σ 1205 x0 z7.toNat) = 20 → R32 (20 * z7) ∧ AW g l (d + 1) MX12_write 80 [some (vR 12 (some x0)), some (vI x1), some (vI x2), some (vI x3), some (vI z7), some (vI (20 * z7)), none, none] [] σ Q))) ∧ ((gI σ 1202 x0 x1.toNat) = 0 → AW g l (d + 1) MX12_write 12 [some (vR 12 (some x0)), some (vI x1), some (vI x2), some (vI x3), some (vI 0), none, none, none] [] σ Q))) :
    AW g l (d + 1) MX12_write 0 [some (vR 12 (some x0)), some (vI x1), some (vI x2), some (vI x3), none, none, none, none] [] σ Q := by
  refine aw_aload_n dX12_write_0 rfl rfl ?_
  obtain ⟨lc1, h⟩ := h
  refine aw_getA' rfl fk_1202 (by decide) lf_X12_17 dX12_write_1 (LC.ne lc1 rfl rfl) ?_
  refine aw_iload_n dX12_write_4 rfl rfl ?_
  obtain ⟨⟨c2, c2x⟩, h⟩ := h
  refine aw_iaload (by decide) rfl dX12_write_5 c2 (LC.lt lc1 rfl rfl c2x) ?_
  refine aw_if_ne (tgt := 47) dX12_write_6 (by decide) (fun k3 => ?_) (fun k3 => ?_)
  · replace h := h.1 k3
    refine aw_iconst (x := 4) dX12_write_47 rfl ?_
    refine aw_iload_n dX12_write_48 rfl rfl ?_
    obtain ⟨⟨c4, c4x⟩, h⟩ := h
    refine aw_imulc dX12_write_49 c4 c4x ?_
    refine aw_aload_n dX12_write_50 rfl rfl ?_
    refine aw_getA' rfl fk_1202 (by decide) lf_X12_17 dX12_write_51 (LC.ne lc1 rfl rfl) ?_
    refine aw_iload_n dX12_write_54 rfl rfl ?_
    refine aw_iaload (by decide) rfl dX12_write_55 c2 (LC.lt lc1 rfl rfl c2x) ?_
    obtain ⟨⟨c5, c5x⟩, h⟩ := h
    refine aw_iaddc dX12_write_56 c5 c5x ?_
    refine aw_iconst (x := 1) dX12_write_57 rfl ?_
    obtain ⟨⟨c6, c6x⟩, h⟩ := h
    refine aw_isubc dX12_write_58 c6 c6x ?_
    refine aw_istore (L' := [some (vR 12 (some x0)), some (vI x1), some (vI x2), some (vI x3), some (vI (((4 * x1) + (gI σ 1202 x0 x1.toNat)) - 1)), none, none, none]) dX12_write_59 (by decide) rfl ?_
    obtain ⟨z7, hz7⟩ : ∃ z : Int, z = ((4 * x1) + (gI σ 1202 x0 x1.toNat)) - 1 := ⟨_, rfl⟩
    rw [← hz7]
    replace h := h z7 hz7
    refine aw_aload_n dX12_write_61 rfl rfl ?_
    refine aw_getA' rfl fk_1205 (by decide) lf_X12_27 dX12_write_62 (LC.ne lc1 rfl rfl) ?_
    refine aw_iload dX12_write_65 rfl ?_
    obtain ⟨⟨c8, c8x⟩, h⟩ := h
    refine aw_iaload (by decide) rfl dX12_write_67 c8 (LC.lt lc1 rfl rfl c8x) ?_
    refine aw_bipush (x := 20) dX12_write_68 rfl ?_
    refine aw_icmp_ne (tgt := 200) dX12_write_70 (by decide) (fun k9 => ?_) (fun k9 => ?_)
    · replace h := h.1 k9
      exact aw_fgt (L' := [some (vR 12 (some x0)), some (vI x1), some (vI x2), some (vI x3), some (vI z7), none, none, none]) ⟨rfl, ⟨rfl, ⟨rfl, ⟨rfl, ⟨rfl, trivial⟩⟩⟩⟩⟩ h
    · replace h := h.2 k9
      refine aw_bipush (x := 20) dX12_write_73 rfl ?_
      refine aw_iload dX12_write_75 rfl ?_
      obtain ⟨⟨c10, c10x⟩, h⟩ := h
      refine aw_imulc dX12_write_77 c10 c10x ?_
      refine aw_istore (L' := [some (vR 12 (some x0)), some (vI x1), some (vI x2), some (vI x3), some (vI z7), some (vI (20 * z7)), none, none]) dX12_write_78 (by decide) rfl ?_
      exact aw_fgt (L' := [some (vR 12 (some x0)), some (vI x1), some (vI x2), some (vI x3), some (vI z7), some (vI (20 * z7)), none, none]) ⟨rfl, ⟨rfl, ⟨rfl, ⟨rfl, ⟨rfl, ⟨rfl, trivial⟩⟩⟩⟩⟩⟩ h
  · replace h := h.2 k3
    refine aw_iconst (x := 0) dX12_write_9 rfl ?_
    refine aw_istore (L' := [some (vR 12 (some x0)), some (vI x1), some (vI x2), some (vI x3), some (vI 0), none, none, none]) dX12_write_10 (by decide) rfl ?_
    exact aw_fgt (L' := [some (vR 12 (some x0)), some (vI x1), some (vI x2), some (vI x3), some (vI 0), none, none, none]) ⟨rfl, ⟨rfl, ⟨rfl, ⟨rfl, ⟨rfl, trivial⟩⟩⟩⟩⟩ h
set_option maxRecDepth 4000 in
theorem bk_X12_write_12 {g : GP} {l : Launch} {d : Nat} {σ : St} {Q : Option AV → St → Prop} {x0 : Nat} {x1 : Int} {x2 : Int} {x3 : Int} {x4 : Int}
    (h : ((x3 ≤ x4 → Q none σ) ∧ (¬ x3 ≤ x4 → LC 12 σ x0 ∧ R32 (2000 * x1) ∧ R32 ((2000 * x1) + x2) ∧ R32 (((2000 * x1) + x2) + x4) ∧ Bd x4 8 ∧ Bd (((2000 * x1) + x2) + x4) 12000 ∧ R32 (x4 + 1) ∧ AW g l (d + 1) MX12_write 12 [some (vR 12 (some x0)), some (vI x1), some (vI x2), some (vI x3), some (vI (x4 + 1)), none, none, none] [] (sI σ 1203 x0 (((2000 * x1) + x2) + x4).toNat (gI σ 1209 x0 x4.toNat)) Q))) :
    AW g l (d + 1) MX12_write 12 [some (vR 12 (some x0)), some (vI x1), some (vI x2), some (vI x3), some (vI x4), none, none, none] [] σ Q := by
  refine aw_iload dX12_write_12 rfl ?_
  refine aw_iload_n dX12_write_14 rfl rfl ?_
  refine aw_icmp_ge (tgt := 46) dX12_write_15 (by decide) (fun k1 => ?_) (fun k1 => ?_)
  · replace h := h.1 k1
    exact aw_ret h rfl dX12_write_46
  · replace h := h.2 k1
    refine aw_aload_n dX12_write_18 rfl rfl ?_
    obtain ⟨lc2, h⟩ := h
    refine aw_getA' rfl fk_1203 (by decide) lf_X12_20 dX12_write_19 (LC.ne lc2 rfl rfl) ?_
    refine aw_sipush (x := 2000) dX12_write_22 rfl ?_
    refine aw_iload_n dX12_write_25 rfl rfl ?_
    obtain ⟨⟨c3, c3x⟩, h⟩ := h
    refine aw_imulc dX12_write_26 c3 c3x ?_
    refine aw_iload_n dX12_write_27 rfl rfl ?_
    obtain ⟨⟨c4, c4x⟩, h⟩ := h
    refine aw_iaddc dX12_write_28 c4 c4x ?_
    refine aw_iload dX12_write_29 rfl ?_
    obtain ⟨⟨c5, c5x⟩, h⟩ := h
    refine aw_iaddc dX12_write_31 c5 c5x ?_
    refine aw_aload_n dX12_write_32 rfl rfl ?_
    refine aw_getA' rfl fk_1209 (by decide) lf_X12_39 dX12_write_33 (LC.ne lc2 rfl rfl) ?_
    refine aw_iload dX12_write_36 rfl ?_
    obtain ⟨⟨c6, c6x⟩, h⟩ := h
    refine aw_iaload (by decide) rfl dX12_write_38 c6 (LC.lt lc2 rfl rfl c6x) ?_
    obtain ⟨⟨c7, c7x⟩, h⟩ := h
    refine aw_iastore (by decide) rfl dX12_write_39 c7 (LC.lt lc2 rfl rfl c7x) ?_
    obtain ⟨⟨c8, c8x⟩, h⟩ := h
    refine aw_iincc (L' := [some (vR 12 (some x0)), some (vI x1), some (vI x2), some (vI x3), some (vI (x4 + 1)), none, none, none]) dX12_write_40 rfl (by decide) rfl c8 c8x rfl ?_
    refine aw_goto (tgt := 12) dX12_write_43 (by decide) ?_
    exact aw_fgt (L' := [some (vR 12 (some x0)), some (vI x1), some (vI x2), some (vI x3), some (vI (x4 + 1)), none, none, none]) ⟨rfl, ⟨rfl, ⟨rfl, ⟨rfl, ⟨rfl, trivial⟩⟩⟩⟩⟩ h
set_option maxRecDepth 4000 in
theorem bk_X12_write_80 {g : GP} {l : Launch} {d : Nat} {σ : St} {Q : Option AV → St → Prop} {x0 : Nat} {x1 : Int} {x2 : Int} {x3 : Int} {x4 : Int} {x5 : Int}
    (h : R32 (20 * x4) ∧ R32 ((20 * x4) + 19) ∧ ((((20 * x4) + 19) ≤ x5 → LC 12 σ x0 ∧ Bd x4 24 ∧ R32 ((gI σ 1205 x0 x4.toNat) - 1) ∧ AW g l (d + 1) MX12_write 200 [some (vR 12 (some x0)), some (vI x1), some (vI x2), some (vI x3), some (vI x4), none, none, none] [] (sI σ 1205 x0 x4.toNat ((gI σ 1205 x0 x4.toNat) - 1)) Q) ∧ (¬ ((20 * x4) + 19) ≤ x5 → LC 12 σ x0 ∧ R32 (x5 + 1) ∧ Bd (x5 + 1) 480 ∧ Bd x5 480 ∧ AW g l (d + 1) MX12_write 112 [some (vR 12 (some x0)), some (vI x1), some (vI x2), some (vI x3), some (vI x4), some (vI x5), some (vI 0), none] [] (sI σ 1206 x0 x5.toNat (gI σ 1206 x0 (x5 + 1).toNat)) Q))) :
    AW g l (d + 1) MX12_write 80 [some (vR 12 (some x0)), some (vI x1), some (vI x2), some (vI x3), some (vI x4), some (vI x5), none, none] [] σ Q := by
  refine aw_iload dX12_write_80 rfl ?_
  refine aw_bipush (x := 20) dX12_write_82 rfl ?_
  refine aw_iload dX12_write_84 rfl ?_
  obtain ⟨⟨c1, c1x⟩, h⟩ := h
  refine aw_imulc dX12_write_86 c1 c1x ?_
  refine aw_bipush (x := 19) dX12_write_87 rfl ?_
  obtain ⟨⟨c2, c2x⟩, h⟩ := h
  refine aw_iaddc dX12_write_89 c2 c2x ?_
  refine aw_icmp_ge (tgt := 189) dX12_write_90 (by decide) (fun k3 => ?_) (fun k3 => ?_)
  · replace h := h.1 k3
    refine aw_aload_n dX12_write_189 rfl rfl ?_
    obtain ⟨lc4, h⟩ := h
    refine aw_getA' rfl fk_1205 (by decide) lf_X12_27 dX12_write_190 (LC.ne lc4 rfl rfl) ?_
    refine aw_iload dX12_write_193 rfl ?_
    refine aw_dup2 dX12_write_195 rfl rfl ?_
    obtain ⟨⟨c5, c5x⟩, h⟩ := h
    refine aw_iaload (by decide) rfl dX12_write_196 c5 (LC.lt lc4 rfl rfl c5x) ?_
    refine aw_iconst (x := 1) dX12_write_197 rfl ?_
    obtain ⟨⟨c6, c6x⟩, h⟩ := h
    refine aw_isubc dX12_write_198 c6 c6x ?_
    refine aw_iastore (by decide) rfl dX12_write_199 c5 (LC.lt lc4 rfl rfl c5x) ?_
    exact aw_fgt (L' := [some (vR 12 (some x0)), some (vI x1), some (vI x2), some (vI x3), some (vI x4), none, none, none]) ⟨rfl, ⟨rfl, ⟨rfl, ⟨rfl, ⟨rfl, trivial⟩⟩⟩⟩⟩ h
  · replace h := h.2 k3
    refine aw_aload_n dX12_write_93 rfl rfl ?_
    obtain ⟨lc7, h⟩ := h
    refine aw_getA' rfl fk_1206 (by decide) lf_X12_30 dX12_write_94 (LC.ne lc7 rfl rfl) ?_
    refine aw_iload dX12_write_97 rfl ?_
    refine aw_aload_n dX12_write_99 rfl rfl ?_
    refine aw_getA' rfl fk_1206 (by decide) lf_X12_30 dX12_write_100 (LC.ne lc7 rfl rfl) ?_
    refine aw_iload dX12_write_103 rfl ?_
    refine aw_iconst (x := 1) dX12_write_105 rfl ?_
    obtain ⟨⟨c8, c8x⟩, h⟩ := h
    refine aw_iaddc dX12_write_106 c8 c8x ?_
    obtain ⟨⟨c9, c9x⟩, h⟩ := h
    refine aw_iaload (by decide) rfl dX12_write_107 c9 (LC.lt lc7 rfl rfl c9x) ?_
    obtain ⟨⟨c10, c10x⟩, h⟩ := h
    refine aw_iastore (by decide) rfl dX12_write_108 c10 (LC.lt lc7 rfl rfl c10x) ?_
    refine aw_iconst (x := 0) dX12_write_109 rfl ?_
    refine aw_istore (L' := [some (vR 12 (some x0)), some (vI x1), some (vI x2), some (vI x3), some (vI x4), some (vI x5), some (vI 0), none]) dX12_write_110 (by decide) rfl ?_
    exact aw_fgt (L' := [some (vR 12 (some x0)), some (vI x1), some (vI x2), some (vI x3), some (vI x4), some (vI x5), some (vI 0), none]) ⟨rfl, ⟨rfl, ⟨rfl, ⟨rfl, ⟨rfl, ⟨rfl, ⟨rfl, trivial⟩⟩⟩⟩⟩⟩⟩ h
set_option maxRecDepth 4000 in
theorem bk_X12_write_112 {g : GP} {l : Launch} {d : Nat} {σ : St} {Q : Option AV → St → Prop} {x0 : Nat} {x1 : Int} {x2 : Int} {x3 : Int} {x4 : Int} {x5 : Int} {x6 : Int}
    (h : ((8 ≤ x6 → R32 (x5 + 1) ∧ AW g l (d + 1) MX12_write 80 [some (vR 12 (some x0)), some (vI x1), some (vI x2), some (vI x3), some (vI x4), some (vI (x5 + 1)), none, none] [] σ Q) ∧ (¬ 8 ≤ x6 → LC 12 σ x0 ∧ R32 (8 * x5) ∧ R32 ((8 * x5) + x6) ∧ R32 ((8 * x5) + 8) ∧ R32 (((8 * x5) + 8) + x6) ∧ Bd (((8 * x5) + 8) + x6) 3840 ∧ Bd ((8 * x5) + x6) 3840 ∧ R32 (x6 + 1) ∧ AW g l (d + 1) MX12_write 112 [some (vR 12 (some x0)), some (vI x1), some (vI x2), some (vI x3), some (vI x4), some (vI x5), some (vI (x6 + 1)), none] [] (sI (sI σ 1207 x0 ((8 * x5) + x6).toNat (gI σ 1207 x0 (((8 * x5) + 8) + x6).toNat)) 1208 x0 ((8 * x5) + x6).toNat (gI σ 1208 x0 (((8 * x5) + 8) + x6).toNat)) Q))) :
    AW g l (d + 1) MX12_write 112 [some (vR 12 (some x0)), some (vI x1), some (vI x2), some (vI x3), some (vI x4), some (vI x5), some (vI x6), none] [] σ Q := by
  refine aw_iload dX12_write_112 rfl ?_
  refine aw_bipush (x := 8) dX12_write_114 rfl ?_
  refine aw_icmp_ge (tgt := 183) dX12_write_116 (by decide) (fun k1 => ?_) (fun k1 => ?_)
  · replace h := h.1 k1
    obtain ⟨⟨c2, c2x⟩, h⟩ := h
    refine aw_iincc (L' := [some (vR 12 (some x0)), some (vI x1), some (vI x2), some (vI x3), some (vI x4), some (vI (x5 + 1)), some (vI x6), none]) dX12_write_183 rfl (by decide) rfl c2 c2x rfl ?_
    refine aw_goto (tgt := 80) dX12_write_186 (by decide) ?_
    exact aw_fgt (L' := [some (vR 12 (some x0)), some (vI x1), some (vI x2), some (vI x3), some (vI x4), some (vI (x5 + 1)), none, none]) ⟨rfl, ⟨rfl, ⟨rfl, ⟨rfl, ⟨rfl, ⟨rfl, trivial⟩⟩⟩⟩⟩⟩ h
  · replace h := h.2 k1
    refine aw_aload_n dX12_write_119 rfl rfl ?_
    obtain ⟨lc3, h⟩ := h
    refine aw_getA' rfl fk_1207 (by decide) lf_X12_33 dX12_write_120 (LC.ne lc3 rfl rfl) ?_
    refine aw_bipush (x := 8) dX12_write_123 rfl ?_
    refine aw_iload dX12_write_125 rfl ?_
    obtain ⟨⟨c4, c4x⟩, h⟩ := h
    refine aw_imulc dX12_write_127 c4 c4x ?_
    refine aw_iload dX12_write_128 rfl ?_
    obtain ⟨⟨c5, c5x⟩, h⟩ := h
    refine aw_iaddc dX12_write_130 c5 c5x ?_
    refine aw_aload_n dX12_write_131 rfl rfl ?_
    refine aw_getA' rfl fk_1207 (by decide) lf_X12_33 dX12_write_132 (LC.ne lc3 rfl rfl) ?_
    refine aw_bipush (x := 8) dX12_write_135 rfl ?_
    refine aw_iload dX12_write_137 rfl ?_
    refine aw_imulc dX12_write_139 c4 c4x ?_
    refine aw_bipush (x := 8) dX12_write_140 rfl ?_
    obtain ⟨⟨c6, c6x⟩, h⟩ := h
    refine aw_iaddc dX12_write_142 c6 c6x ?_
    refine aw_iload dX12_write_143 rfl ?_
    obtain ⟨⟨c7, c7x⟩, h⟩ := h
    refine aw_iaddc dX12_write_145 c7 c7x ?_
    obtain ⟨⟨c8, c8x⟩, h⟩ := h
    refine aw_iaload (by decide) rfl dX12_write_146 c8 (LC.lt lc3 rfl rfl c8x) ?_
    obtain ⟨⟨c9, c9x⟩, h⟩ := h
    refine aw_iastore (by decide) rfl dX12_write_147 c9 (LC.lt lc3 rfl rfl c9x) ?_
    refine aw_aload_n dX12_write_148 rfl rfl ?_
    refine aw_getA' rfl fk_1208 (by decide) lf_X12_36 dX12_write_149 (LC.ne lc3 rfl rfl) ?_
    refine aw_bipush (x := 8) dX12_write_152 rfl ?_
    refine aw_iload dX12_write_154 rfl ?_
    refine aw_imulc dX12_write_156 c4 c4x ?_
    refine aw_iload dX12_write_157 rfl ?_
    refine aw_iaddc dX12_write_159 c5 c5x ?_
    refine aw_aload_n dX12_write_160 rfl rfl ?_
    refine aw_getA' rfl fk_1208 (by decide) lf_X12_36 dX12_write_161 (LC.ne lc3 rfl rfl) ?_
    refine aw_bipush (x := 8) dX12_write_164 rfl ?_
    refine aw_iload dX12_write_166 rfl ?_
    refine aw_imulc dX12_write_168 c4 c4x ?_
    refine aw_bipush (x := 8) dX12_write_169 rfl ?_
    refine aw_iaddc dX12_write_171 c6 c6x ?_
    refine aw_iload dX12_write_172 rfl ?_
    refine aw_iaddc dX12_write_174 c7 c7x ?_
    refine aw_ialoade (v := gI σ 1208 x0 (((8 * x5) + 8) + x6).toNat) (by decide) rfl dX12_write_175 c8 (LC.lt lc3 rfl rfl c8x) rfl ?_
    refine aw_iastore (by decide) rfl dX12_write_176 c9 (LC.lt lc3 rfl rfl c9x) ?_
    obtain ⟨⟨c10, c10x⟩, h⟩ := h
    refine aw_iincc (L' := [some (vR 12 (some x0)), some (vI x1), some (vI x2), some (vI x3), some (vI x4), some (vI x5), some (vI (x6 + 1)), none]) dX12_write_177 rfl (by decide) rfl c10 c10x rfl ?_
    refine aw_goto (tgt := 112) dX12_write_180 (by decide) ?_
    exact aw_fgt (L' := [some (vR 12 (some x0)), some (vI x1), some (vI x2), some (vI x3), some (vI x4), some (vI x5), some (vI (x6 + 1)), none]) ⟨rfl, ⟨rfl, ⟨rfl, ⟨rfl, ⟨rfl, ⟨rfl, ⟨rfl, trivial⟩⟩⟩⟩⟩⟩⟩ h
set_option maxRecDepth 4000 in
theorem bk_X12_write_200 {g : GP} {l : Launch} {d : Nat} {σ : St} {Q : Option AV → St → Prop} {x0 : Nat} {x1 : Int} {x2 : Int} {x3 : Int} {x4 : Int}
    (h : R32 (20 * x4) ∧ LC 12 σ x0 ∧ Bd x4 24 ∧ R32 ((20 * x4) + (gI σ 1205 x0 x4.toNat)) ∧ ∀ z5 : Int, z5 = (20 * x4) + (gI σ 1205 x0 x4.toNat) → R32 ((gI σ 1205 x0 x4.toNat) + 1) ∧ Bd z5 480 ∧ AW g l (d + 1) MX12_write 237 [some (vR 12 (some x0)), some (vI x1), some (vI x2), some (vI x3), none, some (vI z5), some (vI 0), none] [] (sI (sI σ 1205 x0 x4.toNat ((gI σ 1205 x0 x4.toNat) + 1)) 1206 x0 z5.toNat x3) Q) :
    AW g l (d + 1) MX12_write 200 [some (vR 12 (some x0)), some (vI x1), some (vI x2), some (vI x3), some (vI x4), none, none, none] [] σ Q := by
  refine aw_bipush (x := 20) dX12_write_200 rfl ?_
  refine aw_iload dX12_write_202 rfl ?_
  obtain ⟨⟨c1, c1x⟩, h⟩ := h
  refine aw_imulc dX12_write_204 c1 c1x ?_
  refine aw_aload_n dX12_write_205 rfl rfl ?_
  obtain ⟨lc2, h⟩ := h
  refine aw_getA' rfl fk_1205 (by decide) lf_X12_27 dX12_write_206 (LC.ne lc2 rfl rfl) ?_
  refine aw_iload dX12_write_209 rfl ?_
  obtain ⟨⟨c3, c3x⟩, h⟩ := h
  refine aw_iaload (by decide) rfl dX12_write_211 c3 (LC.lt lc2 rfl rfl c3x) ?_
  obtain ⟨⟨c4, c4x⟩, h⟩ := h
  refine aw_iaddc dX12_write_212 c4 c4x ?_
  refine aw_istore (L' := [some (vR 12 (some x0)), some (vI x1), some (vI x2), some (vI x3), some (vI x4), some (vI ((20 * x4) + (gI σ 1205 x0 x4.toNat))), none, none]) dX12_write_213 (by decide) rfl ?_
  obtain ⟨z5, hz5⟩ : ∃ z : Int, z = (20 * x4) + (gI σ 1205 x0 x4.toNat) := ⟨_, rfl⟩
  rw [← hz5]
  replace h := h z5 hz5
  refine aw_aload_n dX12_write_215 rfl rfl ?_
  refine aw_getA' rfl fk_1205 (by decide) lf_X12_27 dX12_write_216 (LC.ne lc2 rfl rfl) ?_
  refine aw_iload dX12_write_219 rfl ?_
  refine aw_dup2 dX12_write_221 rfl rfl ?_
  refine aw_iaload (by decide) rfl dX12_write_222 c3 (LC.lt lc2 rfl rfl c3x) ?_
  refine aw_iconst (x := 1) dX12_write_223 rfl ?_
  obtain ⟨⟨c6, c6x⟩, h⟩ := h
  refine aw_iaddc dX12_write_224 c6 c6x ?_
  refine aw_iastore (by decide) rfl dX12_write_225 c3 (LC.lt lc2 rfl rfl c3x) ?_
  refine aw_aload_n dX12_write_226 rfl rfl ?_
  refine aw_getA' rfl fk_1206 (by decide) lf_X12_30 dX12_write_227 (LC.ne lc2 rfl rfl) ?_
  refine aw_iload dX12_write_230 rfl ?_
  refine aw_iload_n dX12_write_232 rfl rfl ?_
  obtain ⟨⟨c7, c7x⟩, h⟩ := h
  refine aw_iastore (by decide) rfl dX12_write_233 c7 (LC.lt lc2 rfl rfl c7x) ?_
  refine aw_iconst (x := 0) dX12_write_234 rfl ?_
  refine aw_istore (L' := [some (vR 12 (some x0)), some (vI x1), some (vI x2), some (vI x3), some (vI x4), some (vI z5), some (vI 0), none]) dX12_write_235 (by decide) rfl ?_
  exact aw_fgt (L' := [some (vR 12 (some x0)), some (vI x1), some (vI x2), some (vI x3), none, some (vI z5), some (vI 0), none]) ⟨rfl, ⟨rfl, ⟨rfl, ⟨rfl, ⟨rfl, ⟨rfl, trivial⟩⟩⟩⟩⟩⟩ h
set_option maxRecDepth 4000 in
theorem bk_X12_write_237 {g : GP} {l : Launch} {d : Nat} {σ : St} {Q : Option AV → St → Prop} {x0 : Nat} {x1 : Int} {x2 : Int} {x3 : Int} {x5 : Int} {x6 : Int}
    (h : ((x3 ≤ x6 → Q none σ) ∧ (¬ x3 ≤ x6 → LC 12 σ x0 ∧ Bd x1 6 ∧ R32 ((gI σ 1202 x0 x1.toNat) - 1) ∧ R32 (x2 + x6) ∧ ACi g l d MX12_cell [vR 12 (some x0), vI x1, vI ((gI σ 1202 x0 x1.toNat) - 1), vI (x2 + x6)] σ (fun v7 σ6 => LC 12 σ6 x0 ∧ R32 (8 * x5) ∧ R32 ((8 * x5) + x6) ∧ Bd ((8 * x5) + x6) 3840 ∧ Bd v7 48000 ∧ Bd x6 8 ∧ R32 (x6 + 1) ∧ AW g l (d + 1) MX12_write 237 [some (vR 12 (some x0)), some (vI x1), some (vI x2), some (vI x3), none, some (vI x5), some (vI (x6 + 1)), none] [] (sI (sI (sI σ6 1207 x0 ((8 * x5) + x6).toNat (x2 + x6)) 1208 x0 ((8 * x5) + x6).toNat (gI σ6 1204 x0 v7.toNat)) 1204 x0 v7.toNat (gI σ6 1209 x0 x6.toNat)) Q)))) :
    AW g l (d + 1) MX12_write 237 [some (vR 12 (some x0)), some (vI x1), some (vI x2), some (vI x3), none, some (vI x5), some (vI x6), none] [] σ Q := by
  refine aw_iload dX12_write_237 rfl ?_
  refine aw_iload_n dX12_write_239 rfl rfl ?_
  refine aw_icmp_ge (tgt := 319) dX12_write_240 (by decide) (fun k1 => ?_) (fun k1 => ?_)
  · replace h := h.1 k1
    exact aw_ret h rfl dX12_write_319
  · replace h := h.2 k1
    refine aw_aload_n dX12_write_243 rfl rfl ?_
    refine aw_iload_n dX12_write_244 rfl rfl ?_
    refine aw_aload_n dX12_write_245 rfl rfl ?_
    obtain ⟨lc2, h⟩ := h
    refine aw_getA' rfl fk_1202 (by decide) lf_X12_17 dX12_write_246 (LC.ne lc2 rfl rfl) ?_
    refine aw_iload_n dX12_write_249 rfl rfl ?_
    obtain ⟨⟨c3, c3x⟩, h⟩ := h
    refine aw_iaload (by decide) rfl dX12_write_250 c3 (LC.lt lc2 rfl rfl c3x) ?_
    refine aw_iconst (x := 1) dX12_write_251 rfl ?_
    obtain ⟨⟨c4, c4x⟩, h⟩ := h
    refine aw_isubc dX12_write_252 c4 c4x ?_
    refine aw_iload_n dX12_write_253 rfl rfl ?_
    refine aw_iload dX12_write_254 rfl ?_
    obtain ⟨⟨c5, c5x⟩, h⟩ := h
    refine aw_iaddc dX12_write_256 c5 c5x ?_
    refine aw_invVi (M := MX12_write) (ci := 12) [vI x1, vI ((gI σ 1202 x0 x1.toNat) - 1), vI (x2 + x6)] rfl mo_X12_cell rfl lm_X12_289 li_X12_cell ls_X12_cell (by decide +kernel) dX12_write_257 rfl (Nat.le_of_ble_eq_true rfl) (ACi.mono (fun v7 σ6 h => ?_) h)
    refine aw_istore (L' := [some (vR 12 (some x0)), some (vI x1), some (vI x2), some (vI x3), none, some (vI x5), some (vI x6), some (vI v7)]) dX12_write_260 (by decide) rfl ?_
    refine aw_aload_n dX12_write_262 rfl rfl ?_
    obtain ⟨lc8, h⟩ := h
    refine aw_getA' rfl fk_1207 (by decide) lf_X12_33 dX12_write_263 (LC.ne lc8 rfl rfl) ?_
    refine aw_bipush (x := 8) dX12_write_266 rfl ?_
    refine aw_iload dX12_write_268 rfl ?_
    obtain ⟨⟨c9, c9x⟩, h⟩ := h
    refine aw_imulc dX12_write_270 c9 c9x ?_
    refine aw_iload dX12_write_271 rfl ?_
    obtain ⟨⟨c10, c10x⟩, h⟩ := h
    refine aw_iaddc dX12_write_273 c10 c10x ?_
    refine aw_iload_n dX12_write_274 rfl rfl ?_
    refine aw_iload dX12_write_275 rfl ?_
    refine aw_iaddc dX12_write_277 c5 c5x ?_
    obtain ⟨⟨c11, c11x⟩, h⟩ := h
    refine aw_iastore (by decide) rfl dX12_write_278 c11 (LC.lt lc8 rfl rfl c11x) ?_
    refine aw_aload_n dX12_write_279 rfl rfl ?_
    refine aw_getA' rfl fk_1208 (by decide) lf_X12_36 dX12_write_280 (LC.ne lc8 rfl rfl) ?_
    refine aw_bipush (x := 8) dX12_write_283 rfl ?_
    refine aw_iload dX12_write_285 rfl ?_
    refine aw_imulc dX12_write_287 c9 c9x ?_
    refine aw_iload dX12_write_288 rfl ?_
    refine aw_iaddc dX12_write_290 c10 c10x ?_
    refine aw_aload_n dX12_write_291 rfl rfl ?_
    refine aw_getA' rfl fk_1204 (by decide) lf_X12_24 dX12_write_292 (LC.ne lc8 rfl rfl) ?_
    refine aw_iload dX12_write_295 rfl ?_
    obtain ⟨⟨c12, c12x⟩, h⟩ := h
    refine aw_ialoade (v := gI σ6 1204 x0 v7.toNat) (by decide) rfl dX12_write_297 c12 (LC.lt lc8 rfl rfl c12x) rfl ?_
    refine aw_iastore (by decide) rfl dX12_write_298 c11 (LC.lt lc8 rfl rfl c11x) ?_
    refine aw_aload_n dX12_write_299 rfl rfl ?_
    refine aw_getA' rfl fk_1204 (by decide) lf_X12_24 dX12_write_300 (LC.ne lc8 rfl rfl) ?_
    refine aw_iload dX12_write_303 rfl ?_
    refine aw_aload_n dX12_write_305 rfl rfl ?_
    refine aw_getA' rfl fk_1209 (by decide) lf_X12_39 dX12_write_306 (LC.ne lc8 rfl rfl) ?_
    refine aw_iload dX12_write_309 rfl ?_
    obtain ⟨⟨c13, c13x⟩, h⟩ := h
    refine aw_ialoade (v := gI σ6 1209 x0 x6.toNat) (by decide) rfl dX12_write_311 c13 (LC.lt lc8 rfl rfl c13x) rfl ?_
    refine aw_iastore (by decide) rfl dX12_write_312 c12 (LC.lt lc8 rfl rfl c12x) ?_
    obtain ⟨⟨c14, c14x⟩, h⟩ := h
    refine aw_iincc (L' := [some (vR 12 (some x0)), some (vI x1), some (vI x2), some (vI x3), none, some (vI x5), some (vI (x6 + 1)), some (vI v7)]) dX12_write_313 rfl (by decide) rfl c14 c14x rfl ?_
    refine aw_goto (tgt := 237) dX12_write_316 (by decide) ?_
    exact aw_fgt (L' := [some (vR 12 (some x0)), some (vI x1), some (vI x2), some (vI x3), none, some (vI x5), some (vI (x6 + 1)), none]) ⟨rfl, ⟨rfl, ⟨rfl, ⟨rfl, ⟨rfl, ⟨rfl, trivial⟩⟩⟩⟩⟩⟩ h
set_option maxRecDepth 4000 in
theorem bk_X12_wrong_0 {g : GP} {l : Launch} {d : Nat} {σ : St} {Q : Option AV → St → Prop} {x0 : Nat}
    (h : Q (some (vI (gI σ 1212 x0 0))) σ) :
    AW g l d MX12_wrong 0 [some (vR 12 (some x0))] [] σ Q := by
  refine aw_aload_n dX12_wrong_0 rfl rfl ?_
  refine aw_getI' rfl fk_1212 lf_X12_48 dX12_wrong_1 ?_
  exact aw_ireturn dX12_wrong_4 rfl h
set_option maxRecDepth 4000 in
theorem bk_L_law_0 {g : GP} {l : Launch} {d : Nat} {σ : St} {Q : Option AV → St → Prop}  (hX : va_X g.2.2.2.1 g.2.2.2.2.1 g.2.2.2.2.2 (gS g) (gS g).heap) (hb : g.2.2.2.1 < gB g) (hn : g.2.2.2.2.1 < 2147483648)
    (h : (hs σ + 1 ≤ gB g + 600000 ∧ sl σ + 16 ≤ 7302250) ∧ ACv g l d MX11_init [vR 11 (some (hs σ))] (sNew σ 16) (fun σ1 => (hs σ1 + 1 ≤ gB g + 600000 ∧ sl σ1 + 91 ≤ 7302250) ∧ ACv g l d MX12_init [vR 12 (some (hs σ1))] (sNew σ1 91) (fun σ2 => AW g l (d + 1) ML_law 18 [some (vA 9999 0), some (vR 11 (some (hs σ))), some (vR 12 (some (hs σ1))), some (vI 0)] [] σ2 Q))) :
    AW g l (d + 1) ML_law 0 [some (vA 9999 0), none, none, none] [] σ Q := by
  obtain ⟨⟨h1, h2⟩, h⟩ := h
  refine aw_new (M := ML_law) (ci := 11) rfl lc_L_7 ln_X11 lz_X11 dL_law_0 h1 h2 ?_
  refine aw_dup dL_law_3 rfl ?_
  refine aw_invIv (M := ML_law) [] mo_X11_init rfl ⟨rfl, rfl⟩ lm_L_9 li_X11_init dL_law_4 rfl (Nat.le_of_ble_eq_true rfl) (ACv.mono (fun σ1 h => ?_) h)
  refine aw_astore_n (L' := [some (vA 9999 0), some (vR 11 (some (hs σ))), none, none]) dL_law_7 rfl (by decide) rfl ?_
  obtain ⟨⟨h1, h2⟩, h⟩ := h
  refine aw_new (M := ML_law) (ci := 12) rfl lc_L_10 ln_X12 lz_X12 dL_law_8 h1 h2 ?_
  refine aw_dup dL_law_11 rfl ?_
  refine aw_invIv (M := ML_law) [] mo_X12_init rfl ⟨rfl, rfl⟩ lm_L_12 li_X12_init dL_law_12 rfl (Nat.le_of_ble_eq_true rfl) (ACv.mono (fun σ2 h => ?_) h)
  refine aw_astore_n (L' := [some (vA 9999 0), some (vR 11 (some (hs σ))), some (vR 12 (some (hs σ1))), none]) dL_law_15 rfl (by decide) rfl ?_
  refine aw_iconst (x := 0) dL_law_16 rfl ?_
  refine aw_istore_n (L' := [some (vA 9999 0), some (vR 11 (some (hs σ))), some (vR 12 (some (hs σ1))), some (vI 0)]) dL_law_17 rfl (by decide) rfl ?_
  exact aw_fgt (L' := [some (vA 9999 0), some (vR 11 (some (hs σ))), some (vR 12 (some (hs σ1))), some (vI 0)]) ⟨rfl, ⟨rfl, ⟨rfl, ⟨rfl, trivial⟩⟩⟩⟩ h
set_option maxRecDepth 4000 in
theorem bk_L_law_18 {g : GP} {l : Launch} {d : Nat} {σ : St} {Q : Option AV → St → Prop} {x1 : Option Nat} {x2 : Option Nat} {x3 : Int} (hX : va_X g.2.2.2.1 g.2.2.2.2.1 g.2.2.2.2.2 (gS g) (gS g).heap) (hb : g.2.2.2.1 < gB g) (hn : g.2.2.2.2.1 < 2147483648)
    (h : R32 ((g.2.2.2.2.1 : Int) - 7) ∧ ((((g.2.2.2.2.1 : Int) - 7) < x3 → Q (some (vI 1)) σ) ∧ (¬ ((g.2.2.2.2.1 : Int) - 7) < x3 → ((0 : Int) ≤ x3 ∧ x3 < (g.2.2.2.2.1 : Int)) ∧ (((i_and ((g.2.2.2.2.2 x3.toNat).toInt) 63) = 0 → AW g l (d + 1) ML_law 204 [some (vA 9999 0), some (vR 11 x1), some (vR 12 x2), some (vI x3)] [] σ Q) ∧ ((i_and ((g.2.2.2.2.2 x3.toNat).toInt) 63) = 1 → AW g l (d + 1) ML_law 217 [some (vA 9999 0), some (vR 11 x1), some (vR 12 x2), some (vI x3)] [] σ Q) ∧ ((i_and ((g.2.2.2.2.2 x3.toNat).toInt) 63) = 2 → AW g l (d + 1) ML_law 290 [some (vA 9999 0), some (vR 11 x1), some (vR 12 x2), some (vI x3)] [] σ Q) ∧ ((i_and ((g.2.2.2.2.2 x3.toNat).toInt) 63) = 3 → AW g l (d + 1) ML_law 323 [some (vA 9999 0), some (vR 11 x1), some (vR 12 x2), some (vI x3)] [] σ Q) ∧ ((i_and ((g.2.2.2.2.2 x3.toNat).toInt) 63) = 4 → AW g l (d + 1) ML_law 346 [some (vA 9999 0), some (vR 11 x1), some (vR 12 x2), some (vI x3)] [] σ Q) ∧ ((i_and ((g.2.2.2.2.2 x3.toNat).toInt) 63) = 5 → AW g l (d + 1) ML_law 369 [some (vA 9999 0), some (vR 11 x1), some (vR 12 x2), some (vI x3)] [] σ Q) ∧ ((i_and ((g.2.2.2.2.2 x3.toNat).toInt) 63) = 6 → AW g l (d + 1) ML_law 392 [some (vA 9999 0), some (vR 11 x1), some (vR 12 x2), some (vI x3)] [] σ Q) ∧ ((i_and ((g.2.2.2.2.2 x3.toNat).toInt) 63) = 7 → AW g l (d + 1) ML_law 415 [some (vA 9999 0), some (vR 11 x1), some (vR 12 x2), some (vI x3)] [] σ Q) ∧ ((i_and ((g.2.2.2.2.2 x3.toNat).toInt) 63) = 8 → AW g l (d + 1) ML_law 458 [some (vA 9999 0), some (vR 11 x1), some (vR 12 x2), some (vI x3)] [] σ Q) ∧ ((i_and ((g.2.2.2.2.2 x3.toNat).toInt) 63) = 9 → AW g l (d + 1) ML_law 481 [some (vA 9999 0), some (vR 11 x1), some (vR 12 x2), some (vI x3)] [] σ Q) ∧ ((i_and ((g.2.2.2.2.2 x3.toNat).toInt) 63) = 10 → AW g l (d + 1) ML_law 514 [some (vA 9999 0), some (vR 11 x1), some (vR 12 x2), some (vI x3)] [] σ Q) ∧ ((i_and ((g.2.2.2.2.2 x3.toNat).toInt) 63) = 11 → AW g l (d + 1) ML_law 577 [some (vA 9999 0), some (vR 11 x1), some (vR 12 x2), some (vI x3)] [] σ Q) ∧ ((i_and ((g.2.2.2.2.2 x3.toNat).toInt) 63) = 12 → AW g l (d + 1) ML_law 600 [some (vA 9999 0), some (vR 11 x1), some (vR 12 x2), some (vI x3)] [] σ Q) ∧ ((i_and ((g.2.2.2.2.2 x3.toNat).toInt) 63) = 13 → AW g l (d + 1) ML_law 613 [some (vA 9999 0), some (vR 11 x1), some (vR 12 x2), some (vI x3)] [] σ Q) ∧ ((i_and ((g.2.2.2.2.2 x3.toNat).toInt) 63) = 14 → AW g l (d + 1) ML_law 626 [some (vA 9999 0), some (vR 11 x1), some (vR 12 x2), some (vI x3)] [] σ Q) ∧ ((i_and ((g.2.2.2.2.2 x3.toNat).toInt) 63) = 15 → AW g l (d + 1) ML_law 649 [some (vA 9999 0), some (vR 11 x1), some (vR 12 x2), some (vI x3)] [] σ Q) ∧ ((i_and ((g.2.2.2.2.2 x3.toNat).toInt) 63) = 16 → AW g l (d + 1) ML_law 682 [some (vA 9999 0), some (vR 11 x1), some (vR 12 x2), some (vI x3)] [] σ Q) ∧ ((i_and ((g.2.2.2.2.2 x3.toNat).toInt) 63) = 17 → AW g l (d + 1) ML_law 725 [some (vA 9999 0), some (vR 11 x1), some (vR 12 x2), some (vI x3)] [] σ Q) ∧ ((i_and ((g.2.2.2.2.2 x3.toNat).toInt) 63) = 18 → AW g l (d + 1) ML_law 748 [some (vA 9999 0), some (vR 11 x1), some (vR 12 x2), some (vI x3)] [] σ Q) ∧ ((i_and ((g.2.2.2.2.2 x3.toNat).toInt) 63) = 19 → AW g l (d + 1) ML_law 761 [some (vA 9999 0), some (vR 11 x1), some (vR 12 x2), some (vI x3)] [] σ Q) ∧ ((i_and ((g.2.2.2.2.2 x3.toNat).toInt) 63) = 20 → AW g l (d + 1) ML_law 804 [some (vA 9999 0), some (vR 11 x1), some (vR 12 x2), some (vI x3)] [] σ Q) ∧ ((i_and ((g.2.2.2.2.2 x3.toNat).toInt) 63) = 21 → AW g l (d + 1) ML_law 847 [some (vA 9999 0), some (vR 11 x1), some (vR 12 x2), some (vI x3)] [] σ Q) ∧ ((i_and ((g.2.2.2.2.2 x3.toNat).toInt) 63) = 22 → AW g l (d + 1) ML_law 881 [some (vA 9999 0), some (vR 11 x1), some (vR 12 x2), some (vI x3)] [] σ Q) ∧ ((i_and ((g.2.2.2.2.2 x3.toNat).toInt) 63) = 23 → AW g l (d + 1) ML_law 924 [some (vA 9999 0), some (vR 11 x1), some (vR 12 x2), some (vI x3)] [] σ Q) ∧ ((i_and ((g.2.2.2.2.2 x3.toNat).toInt) 63) = 24 → AW g l (d + 1) ML_law 977 [some (vA 9999 0), some (vR 11 x1), some (vR 12 x2), some (vI x3)] [] σ Q) ∧ ((i_and ((g.2.2.2.2.2 x3.toNat).toInt) 63) = 25 → AW g l (d + 1) ML_law 1010 [some (vA 9999 0), some (vR 11 x1), some (vR 12 x2), some (vI x3)] [] σ Q) ∧ ((i_and ((g.2.2.2.2.2 x3.toNat).toInt) 63) = 26 → AW g l (d + 1) ML_law 1033 [some (vA 9999 0), some (vR 11 x1), some (vR 12 x2), some (vI x3)] [] σ Q) ∧ ((i_and ((g.2.2.2.2.2 x3.toNat).toInt) 63) = 27 → AW g l (d + 1) ML_law 1066 [some (vA 9999 0), some (vR 11 x1), some (vR 12 x2), some (vI x3)] [] σ Q) ∧ ((i_and ((g.2.2.2.2.2 x3.toNat).toInt) 63) = 28 → AW g l (d + 1) ML_law 1080 [some (vA 9999 0), some (vR 11 x1), some (vR 12 x2), some (vI x3)] [] σ Q) ∧ ((i_and ((g.2.2.2.2.2 x3.toNat).toInt) 63) = 29 → AW g l (d + 1) ML_law 1153 [some (vA 9999 0), some (vR 11 x1), some (vR 12 x2), some (vI x3)] [] σ Q) ∧ ((i_and ((g.2.2.2.2.2 x3.toNat).toInt) 63) = 30 → AW g l (d + 1) ML_law 1206 [some (vA 9999 0), some (vR 11 x1), some (vR 12 x2), some (vI x3)] [] σ Q) ∧ ((i_and ((g.2.2.2.2.2 x3.toNat).toInt) 63) = 31 → AW g l (d + 1) ML_law 1239 [some (vA 9999 0), some (vR 11 x1), some (vR 12 x2), some (vI x3)] [] σ Q) ∧ ((i_and ((g.2.2.2.2.2 x3.toNat).toInt) 63) = 32 → AW g l (d + 1) ML_law 1350 [some (vA 9999 0), some (vR 11 x1), some (vR 12 x2), some (vI x3)] [] σ Q) ∧ ((i_and ((g.2.2.2.2.2 x3.toNat).toInt) 63) = 33 → AW g l (d + 1) ML_law 1383 [some (vA 9999 0), some (vR 11 x1), some (vR 12 x2), some (vI x3)] [] σ Q) ∧ ((i_and ((g.2.2.2.2.2 x3.toNat).toInt) 63) = 34 → AW g l (d + 1) ML_law 1426 [some (vA 9999 0), some (vR 11 x1), some (vR 12 x2), some (vI x3)] [] σ Q) ∧ ((i_and ((g.2.2.2.2.2 x3.toNat).toInt) 63) = 35 → AW g l (d + 1) ML_law 1459 [some (vA 9999 0), some (vR 11 x1), some (vR 12 x2), some (vI x3)] [] σ Q) ∧ ((i_and ((g.2.2.2.2.2 x3.toNat).toInt) 63) = 36 → AW g l (d + 1) ML_law 1502 [some (vA 9999 0), some (vR 11 x1), some (vR 12 x2), some (vI x3)] [] σ Q) ∧ ((i_and ((g.2.2.2.2.2 x3.toNat).toInt) 63) = 37 → AW g l (d + 1) ML_law 1555 [some (vA 9999 0), some (vR 11 x1), some (vR 12 x2), some (vI x3)] [] σ Q) ∧ ((i_and ((g.2.2.2.2.2 x3.toNat).toInt) 63) = 38 → AW g l (d + 1) ML_law 1598 [some (vA 9999 0), some (vR 11 x1), some (vR 12 x2), some (vI x3)] [] σ Q) ∧ ((i_and ((g.2.2.2.2.2 x3.toNat).toInt) 63) < 0 ∨ 38 < (i_and ((g.2.2.2.2.2 x3.toNat).toInt) 63) → AW g l (d + 1) ML_law 1621 [some (vA 9999 0), some (vR 11 x1), some (vR 12 x2), some (vI x3)] [] σ Q))))) :
    AW g l (d + 1) ML_law 18 [some (vA 9999 0), some (vR 11 x1), some (vR 12 x2), some (vI x3)] [] σ Q := by
  refine aw_iload_n dL_law_18 rfl rfl ?_
  refine aw_aload_n dL_law_19 rfl rfl ?_
  refine aw_slen hX hb hn dL_law_20 ?_
  refine aw_bipush (x := 7) dL_law_21 rfl ?_
  obtain ⟨⟨c1, c1x⟩, h⟩ := h
  refine aw_isubc dL_law_23 c1 c1x ?_
  refine aw_icmp_gt (tgt := 1627) dL_law_24 (by decide) (fun k2 => ?_) (fun k2 => ?_)
  · replace h := h.1 k2
    refine aw_iconst (x := 1) dL_law_1627 rfl ?_
    exact aw_zreturn dL_law_1628 rfl (Or.inr rfl) h
  · replace h := h.2 k2
    refine aw_aload_n dL_law_27 rfl rfl ?_
    refine aw_iload_n dL_law_28 rfl rfl ?_
    obtain ⟨⟨h0, h1⟩, h⟩ := h
    refine aw_sld hX hb dL_law_29 h0 h1 ?_
    refine aw_bipush (x := 63) dL_law_30 rfl ?_
    refine aw_iand dL_law_32 ?_
    obtain ⟨h0, h1, h2, h3, h4, h5, h6, h7, h8, h9, h10, h11, h12, h13, h14, h15, h16, h17, h18, h19, h20, h21, h22, h23, h24, h25, h26, h27, h28, h29, h30, h31, h32, h33, h34, h35, h36, h37, h38, hd⟩ := h
    refine aw_table (M := ML_law) (dt := 1621) [204, 217, 290, 323, 346, 369, 392, 415, 458, 481, 514, 577, 600, 613, 626, 649, 682, 725, 748, 761, 804, 847, 881, 924, 977, 1010, 1033, 1066, 1080, 1153, 1206, 1239, 1350, 1383, 1426, 1459, 1502, 1555, 1598] dL_law_33 (by decide) (by decide) (by decide) ⟨fun hc => ?_, fun hc => ?_, fun hc => ?_, fun hc => ?_, fun hc => ?_, fun hc => ?_, fun hc => ?_, fun hc => ?_, fun hc => ?_, fun hc => ?_, fun hc => ?_, fun hc => ?_, fun hc => ?_, fun hc => ?_, fun hc => ?_, fun hc => ?_, fun hc => ?_, fun hc => ?_, fun hc => ?_, fun hc => ?_, fun hc => ?_, fun hc => ?_, fun hc => ?_, fun hc => ?_, fun hc => ?_, fun hc => ?_, fun hc => ?_, fun hc => ?_, fun hc => ?_, fun hc => ?_, fun hc => ?_, fun hc => ?_, fun hc => ?_, fun hc => ?_, fun hc => ?_, fun hc => ?_, fun hc => ?_, fun hc => ?_, fun hc => ?_, trivial⟩ (fun hc => ?_)
    · have h := h0 hc; clear h0 h1 h2 h3 h4 h5 h6 h7 h8 h9 h10 h11 h12 h13 h14 h15 h16 h17 h18 h19 h20 h21 h22 h23 h24 h25 h26 h27 h28 h29 h30 h31 h32 h33 h34 h35 h36 h37 h38 hd
      exact aw_fgt (L' := [some (vA 9999 0), some (vR 11 x1), some (vR 12 x2), some (vI x3)]) ⟨rfl, ⟨rfl, ⟨rfl, ⟨rfl, trivial⟩⟩⟩⟩ h
    · have h := h1 hc; clear h0 h1 h2 h3 h4 h5 h6 h7 h8 h9 h10 h11 h12 h13 h14 h15 h16 h17 h18 h19 h20 h21 h22 h23 h24 h25 h26 h27 h28 h29 h30 h31 h32 h33 h34 h35 h36 h37 h38 hd
      exact aw_fgt (L' := [some (vA 9999 0), some (vR 11 x1), some (vR 12 x2), some (vI x3)]) ⟨rfl, ⟨rfl, ⟨rfl, ⟨rfl, trivial⟩⟩⟩⟩ h
    · have h := h2 hc; clear h0 h1 h2 h3 h4 h5 h6 h7 h8 h9 h10 h11 h12 h13 h14 h15 h16 h17 h18 h19 h20 h21 h22 h23 h24 h25 h26 h27 h28 h29 h30 h31 h32 h33 h34 h35 h36 h37 h38 hd
      exact aw_fgt (L' := [some (vA 9999 0), some (vR 11 x1), some (vR 12 x2), some (vI x3)]) ⟨rfl, ⟨rfl, ⟨rfl, ⟨rfl, trivial⟩⟩⟩⟩ h
    · have h := h3 hc; clear h0 h1 h2 h3 h4 h5 h6 h7 h8 h9 h10 h11 h12 h13 h14 h15 h16 h17 h18 h19 h20 h21 h22 h23 h24 h25 h26 h27 h28 h29 h30 h31 h32 h33 h34 h35 h36 h37 h38 hd
      exact aw_fgt (L' := [some (vA 9999 0), some (vR 11 x1), some (vR 12 x2), some (vI x3)]) ⟨rfl, ⟨rfl, ⟨rfl, ⟨rfl, trivial⟩⟩⟩⟩ h
    · have h := h4 hc; clear h0 h1 h2 h3 h4 h5 h6 h7 h8 h9 h10 h11 h12 h13 h14 h15 h16 h17 h18 h19 h20 h21 h22 h23 h24 h25 h26 h27 h28 h29 h30 h31 h32 h33 h34 h35 h36 h37 h38 hd
      exact aw_fgt (L' := [some (vA 9999 0), some (vR 11 x1), some (vR 12 x2), some (vI x3)]) ⟨rfl, ⟨rfl, ⟨rfl, ⟨rfl, trivial⟩⟩⟩⟩ h
    · have h := h5 hc; clear h0 h1 h2 h3 h4 h5 h6 h7 h8 h9 h10 h11 h12 h13 h14 h15 h16 h17 h18 h19 h20 h21 h22 h23 h24 h25 h26 h27 h28 h29 h30 h31 h32 h33 h34 h35 h36 h37 h38 hd
      exact aw_fgt (L' := [some (vA 9999 0), some (vR 11 x1), some (vR 12 x2), some (vI x3)]) ⟨rfl, ⟨rfl, ⟨rfl, ⟨rfl, trivial⟩⟩⟩⟩ h
    · have h := h6 hc; clear h0 h1 h2 h3 h4 h5 h6 h7 h8 h9 h10 h11 h12 h13 h14 h15 h16 h17 h18 h19 h20 h21 h22 h23 h24 h25 h26 h27 h28 h29 h30 h31 h32 h33 h34 h35 h36 h37 h38 hd
      exact aw_fgt (L' := [some (vA 9999 0), some (vR 11 x1), some (vR 12 x2), some (vI x3)]) ⟨rfl, ⟨rfl, ⟨rfl, ⟨rfl, trivial⟩⟩⟩⟩ h
    · have h := h7 hc; clear h0 h1 h2 h3 h4 h5 h6 h7 h8 h9 h10 h11 h12 h13 h14 h15 h16 h17 h18 h19 h20 h21 h22 h23 h24 h25 h26 h27 h28 h29 h30 h31 h32 h33 h34 h35 h36 h37 h38 hd
      exact aw_fgt (L' := [some (vA 9999 0), some (vR 11 x1), some (vR 12 x2), some (vI x3)]) ⟨rfl, ⟨rfl, ⟨rfl, ⟨rfl, trivial⟩⟩⟩⟩ h
    · have h := h8 hc; clear h0 h1 h2 h3 h4 h5 h6 h7 h8 h9 h10 h11 h12 h13 h14 h15 h16 h17 h18 h19 h20 h21 h22 h23 h24 h25 h26 h27 h28 h29 h30 h31 h32 h33 h34 h35 h36 h37 h38 hd
      exact aw_fgt (L' := [some (vA 9999 0), some (vR 11 x1), some (vR 12 x2), some (vI x3)]) ⟨rfl, ⟨rfl, ⟨rfl, ⟨rfl, trivial⟩⟩⟩⟩ h
    · have h := h9 hc; clear h0 h1 h2 h3 h4 h5 h6 h7 h8 h9 h10 h11 h12 h13 h14 h15 h16 h17 h18 h19 h20 h21 h22 h23 h24 h25 h26 h27 h28 h29 h30 h31 h32 h33 h34 h35 h36 h37 h38 hd
      exact aw_fgt (L' := [some (vA 9999 0), some (vR 11 x1), some (vR 12 x2), some (vI x3)]) ⟨rfl, ⟨rfl, ⟨rfl, ⟨rfl, trivial⟩⟩⟩⟩ h
    · have h := h10 hc; clear h0 h1 h2 h3 h4 h5 h6 h7 h8 h9 h10 h11 h12 h13 h14 h15 h16 h17 h18 h19 h20 h21 h22 h23 h24 h25 h26 h27 h28 h29 h30 h31 h32 h33 h34 h35 h36 h37 h38 hd
      exact aw_fgt (L' := [some (vA 9999 0), some (vR 11 x1), some (vR 12 x2), some (vI x3)]) ⟨rfl, ⟨rfl, ⟨rfl, ⟨rfl, trivial⟩⟩⟩⟩ h
    · have h := h11 hc; clear h0 h1 h2 h3 h4 h5 h6 h7 h8 h9 h10 h11 h12 h13 h14 h15 h16 h17 h18 h19 h20 h21 h22 h23 h24 h25 h26 h27 h28 h29 h30 h31 h32 h33 h34 h35 h36 h37 h38 hd
      exact aw_fgt (L' := [some (vA 9999 0), some (vR 11 x1), some (vR 12 x2), some (vI x3)]) ⟨rfl, ⟨rfl, ⟨rfl, ⟨rfl, trivial⟩⟩⟩⟩ h
    · have h := h12 hc; clear h0 h1 h2 h3 h4 h5 h6 h7 h8 h9 h10 h11 h12 h13 h14 h15 h16 h17 h18 h19 h20 h21 h22 h23 h24 h25 h26 h27 h28 h29 h30 h31 h32 h33 h34 h35 h36 h37 h38 hd
      exact aw_fgt (L' := [some (vA 9999 0), some (vR 11 x1), some (vR 12 x2), some (vI x3)]) ⟨rfl, ⟨rfl, ⟨rfl, ⟨rfl, trivial⟩⟩⟩⟩ h
    · have h := h13 hc; clear h0 h1 h2 h3 h4 h5 h6 h7 h8 h9 h10 h11 h12 h13 h14 h15 h16 h17 h18 h19 h20 h21 h22 h23 h24 h25 h26 h27 h28 h29 h30 h31 h32 h33 h34 h35 h36 h37 h38 hd
      exact aw_fgt (L' := [some (vA 9999 0), some (vR 11 x1), some (vR 12 x2), some (vI x3)]) ⟨rfl, ⟨rfl, ⟨rfl, ⟨rfl, trivial⟩⟩⟩⟩ h
    · have h := h14 hc; clear h0 h1 h2 h3 h4 h5 h6 h7 h8 h9 h10 h11 h12 h13 h14 h15 h16 h17 h18 h19 h20 h21 h22 h23 h24 h25 h26 h27 h28 h29 h30 h31 h32 h33 h34 h35 h36 h37 h38 hd
      exact aw_fgt (L' := [some (vA 9999 0), some (vR 11 x1), some (vR 12 x2), some (vI x3)]) ⟨rfl, ⟨rfl, ⟨rfl, ⟨rfl, trivial⟩⟩⟩⟩ h
    · have h := h15 hc; clear h0 h1 h2 h3 h4 h5 h6 h7 h8 h9 h10 h11 h12 h13 h14 h15 h16 h17 h18 h19 h20 h21 h22 h23 h24 h25 h26 h27 h28 h29 h30 h31 h32 h33 h34 h35 h36 h37 h38 hd
      exact aw_fgt (L' := [some (vA 9999 0), some (vR 11 x1), some (vR 12 x2), some (vI x3)]) ⟨rfl, ⟨rfl, ⟨rfl, ⟨rfl, trivial⟩⟩⟩⟩ h
    · have h := h16 hc; clear h0 h1 h2 h3 h4 h5 h6 h7 h8 h9 h10 h11 h12 h13 h14 h15 h16 h17 h18 h19 h20 h21 h22 h23 h24 h25 h26 h27 h28 h29 h30 h31 h32 h33 h34 h35 h36 h37 h38 hd
      exact aw_fgt (L' := [some (vA 9999 0), some (vR 11 x1), some (vR 12 x2), some (vI x3)]) ⟨rfl, ⟨rfl, ⟨rfl, ⟨rfl, trivial⟩⟩⟩⟩ h
    · have h := h17 hc; clear h0 h1 h2 h3 h4 h5 h6 h7 h8 h9 h10 h11 h12 h13 h14 h15 h16 h17 h18 h19 h20 h21 h22 h23 h24 h25 h26 h27 h28 h29 h30 h31 h32 h33 h34 h35 h36 h37 h38 hd
      exact aw_fgt (L' := [some (vA 9999 0), some (vR 11 x1), some (vR 12 x2), some (vI x3)]) ⟨rfl, ⟨rfl, ⟨rfl, ⟨rfl, trivial⟩⟩⟩⟩ h
    · have h := h18 hc; clear h0 h1 h2 h3 h4 h5 h6 h7 h8 h9 h10 h11 h12 h13 h14 h15 h16 h17 h18 h19 h20 h21 h22 h23 h24 h25 h26 h27 h28 h29 h30 h31 h32 h33 h34 h35 h36 h37 h38 hd
      exact aw_fgt (L' := [some (vA 9999 0), some (vR 11 x1), some (vR 12 x2), some (vI x3)]) ⟨rfl, ⟨rfl, ⟨rfl, ⟨rfl, trivial⟩⟩⟩⟩ h
    · have h := h19 hc; clear h0 h1 h2 h3 h4 h5 h6 h7 h8 h9 h10 h11 h12 h13 h14 h15 h16 h17 h18 h19 h20 h21 h22 h23 h24 h25 h26 h27 h28 h29 h30 h31 h32 h33 h34 h35 h36 h37 h38 hd
      exact aw_fgt (L' := [some (vA 9999 0), some (vR 11 x1), some (vR 12 x2), some (vI x3)]) ⟨rfl, ⟨rfl, ⟨rfl, ⟨rfl, trivial⟩⟩⟩⟩ h
    · have h := h20 hc; clear h0 h1 h2 h3 h4 h5 h6 h7 h8 h9 h10 h11 h12 h13 h14 h15 h16 h17 h18 h19 h20 h21 h22 h23 h24 h25 h26 h27 h28 h29 h30 h31 h32 h33 h34 h35 h36 h37 h38 hd
      exact aw_fgt (L' := [some (vA 9999 0), some (vR 11 x1), some (vR 12 x2), some (vI x3)]) ⟨rfl, ⟨rfl, ⟨rfl, ⟨rfl, trivial⟩⟩⟩⟩ h
    · have h := h21 hc; clear h0 h1 h2 h3 h4 h5 h6 h7 h8 h9 h10 h11 h12 h13 h14 h15 h16 h17 h18 h19 h20 h21 h22 h23 h24 h25 h26 h27 h28 h29 h30 h31 h32 h33 h34 h35 h36 h37 h38 hd
      exact aw_fgt (L' := [some (vA 9999 0), some (vR 11 x1), some (vR 12 x2), some (vI x3)]) ⟨rfl, ⟨rfl, ⟨rfl, ⟨rfl, trivial⟩⟩⟩⟩ h
    · have h := h22 hc; clear h0 h1 h2 h3 h4 h5 h6 h7 h8 h9 h10 h11 h12 h13 h14 h15 h16 h17 h18 h19 h20 h21 h22 h23 h24 h25 h26 h27 h28 h29 h30 h31 h32 h33 h34 h35 h36 h37 h38 hd
      exact aw_fgt (L' := [some (vA 9999 0), some (vR 11 x1), some (vR 12 x2), some (vI x3)]) ⟨rfl, ⟨rfl, ⟨rfl, ⟨rfl, trivial⟩⟩⟩⟩ h
    · have h := h23 hc; clear h0 h1 h2 h3 h4 h5 h6 h7 h8 h9 h10 h11 h12 h13 h14 h15 h16 h17 h18 h19 h20 h21 h22 h23 h24 h25 h26 h27 h28 h29 h30 h31 h32 h33 h34 h35 h36 h37 h38 hd
      exact aw_fgt (L' := [some (vA 9999 0), some (vR 11 x1), some (vR 12 x2), some (vI x3)]) ⟨rfl, ⟨rfl, ⟨rfl, ⟨rfl, trivial⟩⟩⟩⟩ h
    · have h := h24 hc; clear h0 h1 h2 h3 h4 h5 h6 h7 h8 h9 h10 h11 h12 h13 h14 h15 h16 h17 h18 h19 h20 h21 h22 h23 h24 h25 h26 h27 h28 h29 h30 h31 h32 h33 h34 h35 h36 h37 h38 hd
      exact aw_fgt (L' := [some (vA 9999 0), some (vR 11 x1), some (vR 12 x2), some (vI x3)]) ⟨rfl, ⟨rfl, ⟨rfl, ⟨rfl, trivial⟩⟩⟩⟩ h
    · have h := h25 hc; clear h0 h1 h2 h3 h4 h5 h6 h7 h8 h9 h10 h11 h12 h13 h14 h15 h16 h17 h18 h19 h20 h21 h22 h23 h24 h25 h26 h27 h28 h29 h30 h31 h32 h33 h34 h35 h36 h37 h38 hd
      exact aw_fgt (L' := [some (vA 9999 0), some (vR 11 x1), some (vR 12 x2), some (vI x3)]) ⟨rfl, ⟨rfl, ⟨rfl, ⟨rfl, trivial⟩⟩⟩⟩ h
    · have h := h26 hc; clear h0 h1 h2 h3 h4 h5 h6 h7 h8 h9 h10 h11 h12 h13 h14 h15 h16 h17 h18 h19 h20 h21 h22 h23 h24 h25 h26 h27 h28 h29 h30 h31 h32 h33 h34 h35 h36 h37 h38 hd
      exact aw_fgt (L' := [some (vA 9999 0), some (vR 11 x1), some (vR 12 x2), some (vI x3)]) ⟨rfl, ⟨rfl, ⟨rfl, ⟨rfl, trivial⟩⟩⟩⟩ h
    · have h := h27 hc; clear h0 h1 h2 h3 h4 h5 h6 h7 h8 h9 h10 h11 h12 h13 h14 h15 h16 h17 h18 h19 h20 h21 h22 h23 h24 h25 h26 h27 h28 h29 h30 h31 h32 h33 h34 h35 h36 h37 h38 hd
      exact aw_fgt (L' := [some (vA 9999 0), some (vR 11 x1), some (vR 12 x2), some (vI x3)]) ⟨rfl, ⟨rfl, ⟨rfl, ⟨rfl, trivial⟩⟩⟩⟩ h
    · have h := h28 hc; clear h0 h1 h2 h3 h4 h5 h6 h7 h8 h9 h10 h11 h12 h13 h14 h15 h16 h17 h18 h19 h20 h21 h22 h23 h24 h25 h26 h27 h28 h29 h30 h31 h32 h33 h34 h35 h36 h37 h38 hd
      exact aw_fgt (L' := [some (vA 9999 0), some (vR 11 x1), some (vR 12 x2), some (vI x3)]) ⟨rfl, ⟨rfl, ⟨rfl, ⟨rfl, trivial⟩⟩⟩⟩ h
    · have h := h29 hc; clear h0 h1 h2 h3 h4 h5 h6 h7 h8 h9 h10 h11 h12 h13 h14 h15 h16 h17 h18 h19 h20 h21 h22 h23 h24 h25 h26 h27 h28 h29 h30 h31 h32 h33 h34 h35 h36 h37 h38 hd
      exact aw_fgt (L' := [some (vA 9999 0), some (vR 11 x1), some (vR 12 x2), some (vI x3)]) ⟨rfl, ⟨rfl, ⟨rfl, ⟨rfl, trivial⟩⟩⟩⟩ h
    · have h := h30 hc; clear h0 h1 h2 h3 h4 h5 h6 h7 h8 h9 h10 h11 h12 h13 h14 h15 h16 h17 h18 h19 h20 h21 h22 h23 h24 h25 h26 h27 h28 h29 h30 h31 h32 h33 h34 h35 h36 h37 h38 hd
      exact aw_fgt (L' := [some (vA 9999 0), some (vR 11 x1), some (vR 12 x2), some (vI x3)]) ⟨rfl, ⟨rfl, ⟨rfl, ⟨rfl, trivial⟩⟩⟩⟩ h
    · have h := h31 hc; clear h0 h1 h2 h3 h4 h5 h6 h7 h8 h9 h10 h11 h12 h13 h14 h15 h16 h17 h18 h19 h20 h21 h22 h23 h24 h25 h26 h27 h28 h29 h30 h31 h32 h33 h34 h35 h36 h37 h38 hd
      exact aw_fgt (L' := [some (vA 9999 0), some (vR 11 x1), some (vR 12 x2), some (vI x3)]) ⟨rfl, ⟨rfl, ⟨rfl, ⟨rfl, trivial⟩⟩⟩⟩ h
    · have h := h32 hc; clear h0 h1 h2 h3 h4 h5 h6 h7 h8 h9 h10 h11 h12 h13 h14 h15 h16 h17 h18 h19 h20 h21 h22 h23 h24 h25 h26 h27 h28 h29 h30 h31 h32 h33 h34 h35 h36 h37 h38 hd
      exact aw_fgt (L' := [some (vA 9999 0), some (vR 11 x1), some (vR 12 x2), some (vI x3)]) ⟨rfl, ⟨rfl, ⟨rfl, ⟨rfl, trivial⟩⟩⟩⟩ h
    · have h := h33 hc; clear h0 h1 h2 h3 h4 h5 h6 h7 h8 h9 h10 h11 h12 h13 h14 h15 h16 h17 h18 h19 h20 h21 h22 h23 h24 h25 h26 h27 h28 h29 h30 h31 h32 h33 h34 h35 h36 h37 h38 hd
      exact aw_fgt (L' := [some (vA 9999 0), some (vR 11 x1), some (vR 12 x2), some (vI x3)]) ⟨rfl, ⟨rfl, ⟨rfl, ⟨rfl, trivial⟩⟩⟩⟩ h
    · have h := h34 hc; clear h0 h1 h2 h3 h4 h5 h6 h7 h8 h9 h10 h11 h12 h13 h14 h15 h16 h17 h18 h19 h20 h21 h22 h23 h24 h25 h26 h27 h28 h29 h30 h31 h32 h33 h34 h35 h36 h37 h38 hd
      exact aw_fgt (L' := [some (vA 9999 0), some (vR 11 x1), some (vR 12 x2), some (vI x3)]) ⟨rfl, ⟨rfl, ⟨rfl, ⟨rfl, trivial⟩⟩⟩⟩ h
    · have h := h35 hc; clear h0 h1 h2 h3 h4 h5 h6 h7 h8 h9 h10 h11 h12 h13 h14 h15 h16 h17 h18 h19 h20 h21 h22 h23 h24 h25 h26 h27 h28 h29 h30 h31 h32 h33 h34 h35 h36 h37 h38 hd
      exact aw_fgt (L' := [some (vA 9999 0), some (vR 11 x1), some (vR 12 x2), some (vI x3)]) ⟨rfl, ⟨rfl, ⟨rfl, ⟨rfl, trivial⟩⟩⟩⟩ h
    · have h := h36 hc; clear h0 h1 h2 h3 h4 h5 h6 h7 h8 h9 h10 h11 h12 h13 h14 h15 h16 h17 h18 h19 h20 h21 h22 h23 h24 h25 h26 h27 h28 h29 h30 h31 h32 h33 h34 h35 h36 h37 h38 hd
      exact aw_fgt (L' := [some (vA 9999 0), some (vR 11 x1), some (vR 12 x2), some (vI x3)]) ⟨rfl, ⟨rfl, ⟨rfl, ⟨rfl, trivial⟩⟩⟩⟩ h
    · have h := h37 hc; clear h0 h1 h2 h3 h4 h5 h6 h7 h8 h9 h10 h11 h12 h13 h14 h15 h16 h17 h18 h19 h20 h21 h22 h23 h24 h25 h26 h27 h28 h29 h30 h31 h32 h33 h34 h35 h36 h37 h38 hd
      exact aw_fgt (L' := [some (vA 9999 0), some (vR 11 x1), some (vR 12 x2), some (vI x3)]) ⟨rfl, ⟨rfl, ⟨rfl, ⟨rfl, trivial⟩⟩⟩⟩ h
    · have h := h38 hc; clear h0 h1 h2 h3 h4 h5 h6 h7 h8 h9 h10 h11 h12 h13 h14 h15 h16 h17 h18 h19 h20 h21 h22 h23 h24 h25 h26 h27 h28 h29 h30 h31 h32 h33 h34 h35 h36 h37 h38 hd
      exact aw_fgt (L' := [some (vA 9999 0), some (vR 11 x1), some (vR 12 x2), some (vI x3)]) ⟨rfl, ⟨rfl, ⟨rfl, ⟨rfl, trivial⟩⟩⟩⟩ h
    · have h := hd hc; clear h0 h1 h2 h3 h4 h5 h6 h7 h8 h9 h10 h11 h12 h13 h14 h15 h16 h17 h18 h19 h20 h21 h22 h23 h24 h25 h26 h27 h28 h29 h30 h31 h32 h33 h34 h35 h36 h37 h38 hd
      exact aw_fgt (L' := [some (vA 9999 0), some (vR 11 x1), some (vR 12 x2), some (vI x3)]) ⟨rfl, ⟨rfl, ⟨rfl, ⟨rfl, trivial⟩⟩⟩⟩ h
set_option maxRecDepth 4000 in
theorem bk_L_law_204 {g : GP} {l : Launch} {d : Nat} {σ : St} {Q : Option AV → St → Prop} {x1 : Option Nat} {x2 : Option Nat} {x3 : Int} (hX : va_X g.2.2.2.1 g.2.2.2.2.1 g.2.2.2.2.2 (gS g) (gS g).heap) (hb : g.2.2.2.1 < gB g) (hn : g.2.2.2.2.1 < 2147483648)
    (h : ∃ r1, x1 = some r1 ∧ ACi g l d MX11_image [vR 11 (some r1)] σ (fun v4 σ3 => ∃ r5, x2 = some r5 ∧ ACi g l d MX12_image [vR 12 (some r5)] σ3 (fun v8 σ7 => ((v4 = v8 → AW g l (d + 1) ML_law 1621 [some (vA 9999 0), some (vR 11 x1), some (vR 12 x2), some (vI x3)] [] σ7 Q) ∧ (¬ v4 = v8 → Q (some (vI 0)) σ7))))) :
    AW g l (d + 1) ML_law 204 [some (vA 9999 0), some (vR 11 x1), some (vR 12 x2), some (vI x3)] [] σ Q := by
  refine aw_aload_n dL_law_204 rfl rfl ?_
  obtain ⟨r1, e2, h⟩ := h
  refine aw_invVi (M := ML_law) (ci := 11) [] e2 mo_X11_image rfl lm_L_13 li_X11_image ls_X11_image (by decide +kernel) dL_law_205 rfl (Nat.le_of_ble_eq_true rfl) (ACi.mono (fun v4 σ3 h => ?_) h)
  refine aw_aload_n dL_law_208 rfl rfl ?_
  obtain ⟨r5, e6, h⟩ := h
  refine aw_invVi (M := ML_law) (ci := 12) [] e6 mo_X12_image rfl lm_L_17 li_X12_image ls_X12_image (by decide +kernel) dL_law_209 rfl (Nat.le_of_ble_eq_true rfl) (ACi.mono (fun v8 σ7 h => ?_) h)
  refine aw_icmp_eq (tgt := 1621) dL_law_212 (by decide) (fun k9 => ?_) (fun k9 => ?_)
  · replace h := h.1 k9
    exact aw_fgt (L' := [some (vA 9999 0), some (vR 11 x1), some (vR 12 x2), some (vI x3)]) ⟨rfl, ⟨rfl, ⟨rfl, ⟨rfl, trivial⟩⟩⟩⟩ h
  · replace h := h.2 k9
    refine aw_iconst (x := 0) dL_law_215 rfl ?_
    exact aw_zreturn dL_law_216 rfl (Or.inl rfl) h
set_option maxRecDepth 4000 in
theorem bk_L_law_217 {g : GP} {l : Launch} {d : Nat} {σ : St} {Q : Option AV → St → Prop} {x1 : Option Nat} {x2 : Option Nat} {x3 : Int} (hX : va_X g.2.2.2.1 g.2.2.2.2.1 g.2.2.2.2.2 (gS g) (gS g).heap) (hb : g.2.2.2.1 < gB g) (hn : g.2.2.2.2.1 < 2147483648)
    (h : R32 (x3 + 1) ∧ ((0 : Int) ≤ (x3 + 1) ∧ (x3 + 1) < (g.2.2.2.2.1 : Int)) ∧ R32 (x3 + 2) ∧ ((0 : Int) ≤ (x3 + 2) ∧ (x3 + 2) < (g.2.2.2.2.1 : Int)) ∧ R32 (x3 + 3) ∧ ((0 : Int) ≤ (x3 + 3) ∧ (x3 + 3) < (g.2.2.2.2.1 : Int)) ∧ R32 (x3 + 4) ∧ ((0 : Int) ≤ (x3 + 4) ∧ (x3 + 4) < (g.2.2.2.2.1 : Int)) ∧ ∃ r5, x1 = some r5 ∧ ACi g l d MX11_push [vR 11 (some r5), vI ((g.2.2.2.2.2 (x3 + 1).toNat).toInt), vJ ((j_shl (i2j ((g.2.2.2.2.2 (x3 + 2).toNat).toInt)) 32) ||| ((i2j ((g.2.2.2.2.2 (x3 + 3).toNat).toInt)) &&& (4294967295 : Int64))), vI ((g.2.2.2.2.2 (x3 + 4).toNat).toInt)] σ (fun v8 σ7 => ((0 : Int) ≤ (x3 + 1) ∧ (x3 + 1) < (g.2.2.2.2.1 : Int)) ∧ ((0 : Int) ≤ (x3 + 2) ∧ (x3 + 2) < (g.2.2.2.2.1 : Int)) ∧ ((0 : Int) ≤ (x3 + 3) ∧ (x3 + 3) < (g.2.2.2.2.1 : Int)) ∧ ((0 : Int) ≤ (x3 + 4) ∧ (x3 + 4) < (g.2.2.2.2.1 : Int)) ∧ ∃ r9, x2 = some r9 ∧ ACi g l d MX12_push [vR 12 (some r9), vI ((g.2.2.2.2.2 (x3 + 1).toNat).toInt), vJ ((j_shl (i2j ((g.2.2.2.2.2 (x3 + 2).toNat).toInt)) 32) ||| ((i2j ((g.2.2.2.2.2 (x3 + 3).toNat).toInt)) &&& (4294967295 : Int64))), vI ((g.2.2.2.2.2 (x3 + 4).toNat).toInt)] σ7 (fun v12 σ11 => ((v8 = v12 → AW g l (d + 1) ML_law 1621 [some (vA 9999 0), some (vR 11 x1), some (vR 12 x2), some (vI x3)] [] σ11 Q) ∧ (¬ v8 = v12 → Q (some (vI 0)) σ11))))) :
    AW g l (d + 1) ML_law 217 [some (vA 9999 0), some (vR 11 x1), some (vR 12 x2), some (vI x3)] [] σ Q := by
  refine aw_aload_n dL_law_217 rfl rfl ?_
  refine aw_aload_n dL_law_218 rfl rfl ?_
  refine aw_iload_n dL_law_219 rfl rfl ?_
  refine aw_iconst (x := 1) dL_law_220 rfl ?_
  obtain ⟨⟨c1, c1x⟩, h⟩ := h
  refine aw_iaddc dL_law_221 c1 c1x ?_
  obtain ⟨⟨h0, h1⟩, h⟩ := h
  refine aw_sld hX hb dL_law_222 h0 h1 ?_
  refine aw_aload_n dL_law_223 rfl rfl ?_
  refine aw_iload_n dL_law_224 rfl rfl ?_
  refine aw_iconst (x := 2) dL_law_225 rfl ?_
  obtain ⟨⟨c2, c2x⟩, h⟩ := h
  refine aw_iaddc dL_law_226 c2 c2x ?_
  obtain ⟨⟨h0, h1⟩, h⟩ := h
  refine aw_sld hX hb dL_law_227 h0 h1 ?_
  refine aw_i2l dL_law_228 ?_
  refine aw_bipush (x := 32) dL_law_229 rfl ?_
  refine aw_lshl dL_law_231 ?_
  refine aw_aload_n dL_law_232 rfl rfl ?_
  refine aw_iload_n dL_law_233 rfl rfl ?_
  refine aw_iconst (x := 3) dL_law_234 rfl ?_
  obtain ⟨⟨c3, c3x⟩, h⟩ := h
  refine aw_iaddc dL_law_235 c3 c3x ?_
  obtain ⟨⟨h0, h1⟩, h⟩ := h
  refine aw_sld hX hb dL_law_236 h0 h1 ?_
  refine aw_i2l dL_law_237 ?_
  refine aw_ldc2 lk_L_18 dL_law_238 ?_
  refine aw_land dL_law_241 ?_
  refine aw_lor dL_law_242 ?_
  refine aw_aload_n dL_law_243 rfl rfl ?_
  refine aw_iload_n dL_law_244 rfl rfl ?_
  refine aw_iconst (x := 4) dL_law_245 rfl ?_
  obtain ⟨⟨c4, c4x⟩, h⟩ := h
  refine aw_iaddc dL_law_246 c4 c4x ?_
  obtain ⟨⟨h0, h1⟩, h⟩ := h
  refine aw_sld hX hb dL_law_247 h0 h1 ?_
  obtain ⟨r5, e6, h⟩ := h
  refine aw_invVi (M := ML_law) (ci := 11) [vI ((g.2.2.2.2.2 (x3 + 1).toNat).toInt), vJ ((j_shl (i2j ((g.2.2.2.2.2 (x3 + 2).toNat).toInt)) 32) ||| ((i2j ((g.2.2.2.2.2 (x3 + 3).toNat).toInt)) &&& (4294967295 : Int64))), vI ((g.2.2.2.2.2 (x3 + 4).toNat).toInt)] e6 mo_X11_push rfl lm_L_20 li_X11_push ls_X11_push (by decide +kernel) dL_law_248 rfl (Nat.le_of_ble_eq_true rfl) (ACi.mono (fun v8 σ7 h => ?_) h)
  refine aw_aload_n dL_law_251 rfl rfl ?_
  refine aw_aload_n dL_law_252 rfl rfl ?_
  refine aw_iload_n dL_law_253 rfl rfl ?_
  refine aw_iconst (x := 1) dL_law_254 rfl ?_
  refine aw_iaddc dL_law_255 c1 c1x ?_
  obtain ⟨⟨h0, h1⟩, h⟩ := h
  refine aw_sld hX hb dL_law_256 h0 h1 ?_
  refine aw_aload_n dL_law_257 rfl rfl ?_
  refine aw_iload_n dL_law_258 rfl rfl ?_
  refine aw_iconst (x := 2) dL_law_259 rfl ?_
  refine aw_iaddc dL_law_260 c2 c2x ?_
  obtain ⟨⟨h0, h1⟩, h⟩ := h
  refine aw_sld hX hb dL_law_261 h0 h1 ?_
  refine aw_i2l dL_law_262 ?_
  refine aw_bipush (x := 32) dL_law_263 rfl ?_
  refine aw_lshl dL_law_265 ?_
  refine aw_aload_n dL_law_266 rfl rfl ?_
  refine aw_iload_n dL_law_267 rfl rfl ?_
  refine aw_iconst (x := 3) dL_law_268 rfl ?_
  refine aw_iaddc dL_law_269 c3 c3x ?_
  obtain ⟨⟨h0, h1⟩, h⟩ := h
  refine aw_sld hX hb dL_law_270 h0 h1 ?_
  refine aw_i2l dL_law_271 ?_
  refine aw_ldc2 lk_L_18 dL_law_272 ?_
  refine aw_land dL_law_275 ?_
  refine aw_lor dL_law_276 ?_
  refine aw_aload_n dL_law_277 rfl rfl ?_
  refine aw_iload_n dL_law_278 rfl rfl ?_
  refine aw_iconst (x := 4) dL_law_279 rfl ?_
  refine aw_iaddc dL_law_280 c4 c4x ?_
  obtain ⟨⟨h0, h1⟩, h⟩ := h
  refine aw_sld hX hb dL_law_281 h0 h1 ?_
  obtain ⟨r9, e10, h⟩ := h
  refine aw_invVi (M := ML_law) (ci := 12) [vI ((g.2.2.2.2.2 (x3 + 1).toNat).toInt), vJ ((j_shl (i2j ((g.2.2.2.2.2 (x3 + 2).toNat).toInt)) 32) ||| ((i2j ((g.2.2.2.2.2 (x3 + 3).toNat).toInt)) &&& (4294967295 : Int64))), vI ((g.2.2.2.2.2 (x3 + 4).toNat).toInt)] e10 mo_X12_push rfl lm_L_24 li_X12_push ls_X12_push (by decide +kernel) dL_law_282 rfl (Nat.le_of_ble_eq_true rfl) (ACi.mono (fun v12 σ11 h => ?_) h)
  refine aw_icmp_eq (tgt := 1621) dL_law_285 (by decide) (fun k13 => ?_) (fun k13 => ?_)
  · replace h := h.1 k13
    exact aw_fgt (L' := [some (vA 9999 0), some (vR 11 x1), some (vR 12 x2), some (vI x3)]) ⟨rfl, ⟨rfl, ⟨rfl, ⟨rfl, trivial⟩⟩⟩⟩ h
  · replace h := h.2 k13
    refine aw_iconst (x := 0) dL_law_288 rfl ?_
    exact aw_zreturn dL_law_289 rfl (Or.inl rfl) h
set_option maxRecDepth 4000 in
theorem bk_L_law_290 {g : GP} {l : Launch} {d : Nat} {σ : St} {Q : Option AV → St → Prop} {x1 : Option Nat} {x2 : Option Nat} {x3 : Int} (hX : va_X g.2.2.2.1 g.2.2.2.2.1 g.2.2.2.2.2 (gS g) (gS g).heap) (hb : g.2.2.2.1 < gB g) (hn : g.2.2.2.2.1 < 2147483648)
    (h : R32 (x3 + 1) ∧ ((0 : Int) ≤ (x3 + 1) ∧ (x3 + 1) < (g.2.2.2.2.1 : Int)) ∧ R32 (x3 + 2) ∧ ((0 : Int) ≤ (x3 + 2) ∧ (x3 + 2) < (g.2.2.2.2.1 : Int)) ∧ ∃ r3, x1 = some r3 ∧ ACi g l d MX11_at [vR 11 (some r3), vI ((g.2.2.2.2.2 (x3 + 1).toNat).toInt), vI ((g.2.2.2.2.2 (x3 + 2).toNat).toInt)] σ (fun v6 σ5 => ((0 : Int) ≤ (x3 + 1) ∧ (x3 + 1) < (g.2.2.2.2.1 : Int)) ∧ ((0 : Int) ≤ (x3 + 2) ∧ (x3 + 2) < (g.2.2.2.2.1 : Int)) ∧ ∃ r7, x2 = some r7 ∧ ACi g l d MX12_at [vR 12 (some r7), vI ((g.2.2.2.2.2 (x3 + 1).toNat).toInt), vI ((g.2.2.2.2.2 (x3 + 2).toNat).toInt)] σ5 (fun v10 σ9 => ((v6 = v10 → AW g l (d + 1) ML_law 1621 [some (vA 9999 0), some (vR 11 x1), some (vR 12 x2), some (vI x3)] [] σ9 Q) ∧ (¬ v6 = v10 → Q (some (vI 0)) σ9))))) :
    AW g l (d + 1) ML_law 290 [some (vA 9999 0), some (vR 11 x1), some (vR 12 x2), some (vI x3)] [] σ Q := by
  refine aw_aload_n dL_law_290 rfl rfl ?_
  refine aw_aload_n dL_law_291 rfl rfl ?_
  refine aw_iload_n dL_law_292 rfl rfl ?_
  refine aw_iconst (x := 1) dL_law_293 rfl ?_
  obtain ⟨⟨c1, c1x⟩, h⟩ := h
  refine aw_iaddc dL_law_294 c1 c1x ?_
  obtain ⟨⟨h0, h1⟩, h⟩ := h
  refine aw_sld hX hb dL_law_295 h0 h1 ?_
  refine aw_aload_n dL_law_296 rfl rfl ?_
  refine aw_iload_n dL_law_297 rfl rfl ?_
  refine aw_iconst (x := 2) dL_law_298 rfl ?_
  obtain ⟨⟨c2, c2x⟩, h⟩ := h
  refine aw_iaddc dL_law_299 c2 c2x ?_
  obtain ⟨⟨h0, h1⟩, h⟩ := h
  refine aw_sld hX hb dL_law_300 h0 h1 ?_
  obtain ⟨r3, e4, h⟩ := h
  refine aw_invVi (M := ML_law) (ci := 11) [vI ((g.2.2.2.2.2 (x3 + 1).toNat).toInt), vI ((g.2.2.2.2.2 (x3 + 2).toNat).toInt)] e4 mo_X11_at rfl lm_L_25 li_X11_at ls_X11_at (by decide +kernel) dL_law_301 rfl (Nat.le_of_ble_eq_true rfl) (ACi.mono (fun v6 σ5 h => ?_) h)
  refine aw_aload_n dL_law_304 rfl rfl ?_
  refine aw_aload_n dL_law_305 rfl rfl ?_
  refine aw_iload_n dL_law_306 rfl rfl ?_
  refine aw_iconst (x := 1) dL_law_307 rfl ?_
  refine aw_iaddc dL_law_308 c1 c1x ?_
  obtain ⟨⟨h0, h1⟩, h⟩ := h
  refine aw_sld hX hb dL_law_309 h0 h1 ?_
  refine aw_aload_n dL_law_310 rfl rfl ?_
  refine aw_iload_n dL_law_311 rfl rfl ?_
  refine aw_iconst (x := 2) dL_law_312 rfl ?_
  refine aw_iaddc dL_law_313 c2 c2x ?_
  obtain ⟨⟨h0, h1⟩, h⟩ := h
  refine aw_sld hX hb dL_law_314 h0 h1 ?_
  obtain ⟨r7, e8, h⟩ := h
  refine aw_invVi (M := ML_law) (ci := 12) [vI ((g.2.2.2.2.2 (x3 + 1).toNat).toInt), vI ((g.2.2.2.2.2 (x3 + 2).toNat).toInt)] e8 mo_X12_at rfl lm_L_29 li_X12_at ls_X12_at (by decide +kernel) dL_law_315 rfl (Nat.le_of_ble_eq_true rfl) (ACi.mono (fun v10 σ9 h => ?_) h)
  refine aw_icmp_eq (tgt := 1621) dL_law_318 (by decide) (fun k11 => ?_) (fun k11 => ?_)
  · replace h := h.1 k11
    exact aw_fgt (L' := [some (vA 9999 0), some (vR 11 x1), some (vR 12 x2), some (vI x3)]) ⟨rfl, ⟨rfl, ⟨rfl, ⟨rfl, trivial⟩⟩⟩⟩ h
  · replace h := h.2 k11
    refine aw_iconst (x := 0) dL_law_321 rfl ?_
    exact aw_zreturn dL_law_322 rfl (Or.inl rfl) h
set_option maxRecDepth 4000 in
theorem bk_L_law_323 {g : GP} {l : Launch} {d : Nat} {σ : St} {Q : Option AV → St → Prop} {x1 : Option Nat} {x2 : Option Nat} {x3 : Int} (hX : va_X g.2.2.2.1 g.2.2.2.2.1 g.2.2.2.2.2 (gS g) (gS g).heap) (hb : g.2.2.2.1 < gB g) (hn : g.2.2.2.2.1 < 2147483648)
    (h : R32 (x3 + 1) ∧ ((0 : Int) ≤ (x3 + 1) ∧ (x3 + 1) < (g.2.2.2.2.1 : Int)) ∧ ∃ r2, x1 = some r2 ∧ ACi g l d MX11_length [vR 11 (some r2), vI ((g.2.2.2.2.2 (x3 + 1).toNat).toInt)] σ (fun v5 σ4 => ((0 : Int) ≤ (x3 + 1) ∧ (x3 + 1) < (g.2.2.2.2.1 : Int)) ∧ ∃ r6, x2 = some r6 ∧ ACi g l d MX12_length [vR 12 (some r6), vI ((g.2.2.2.2.2 (x3 + 1).toNat).toInt)] σ4 (fun v9 σ8 => ((v5 = v9 → AW g l (d + 1) ML_law 1621 [some (vA 9999 0), some (vR 11 x1), some (vR 12 x2), some (vI x3)] [] σ8 Q) ∧ (¬ v5 = v9 → Q (some (vI 0)) σ8))))) :
    AW g l (d + 1) ML_law 323 [some (vA 9999 0), some (vR 11 x1), some (vR 12 x2), some (vI x3)] [] σ Q := by
  refine aw_aload_n dL_law_323 rfl rfl ?_
  refine aw_aload_n dL_law_324 rfl rfl ?_
  refine aw_iload_n dL_law_325 rfl rfl ?_
  refine aw_iconst (x := 1) dL_law_326 rfl ?_
  obtain ⟨⟨c1, c1x⟩, h⟩ := h
  refine aw_iaddc dL_law_327 c1 c1x ?_
  obtain ⟨⟨h0, h1⟩, h⟩ := h
  refine aw_sld hX hb dL_law_328 h0 h1 ?_
  obtain ⟨r2, e3, h⟩ := h
  refine aw_invVi (M := ML_law) (ci := 11) [vI ((g.2.2.2.2.2 (x3 + 1).toNat).toInt)] e3 mo_X11_length rfl lm_L_30 li_X11_length ls_X11_length (by decide +kernel) dL_law_329 rfl (Nat.le_of_ble_eq_true rfl) (ACi.mono (fun v5 σ4 h => ?_) h)
  refine aw_aload_n dL_law_332 rfl rfl ?_
  refine aw_aload_n dL_law_333 rfl rfl ?_
  refine aw_iload_n dL_law_334 rfl rfl ?_
  refine aw_iconst (x := 1) dL_law_335 rfl ?_
  refine aw_iaddc dL_law_336 c1 c1x ?_
  obtain ⟨⟨h0, h1⟩, h⟩ := h
  refine aw_sld hX hb dL_law_337 h0 h1 ?_
  obtain ⟨r6, e7, h⟩ := h
  refine aw_invVi (M := ML_law) (ci := 12) [vI ((g.2.2.2.2.2 (x3 + 1).toNat).toInt)] e7 mo_X12_length rfl lm_L_34 li_X12_length ls_X12_length (by decide +kernel) dL_law_338 rfl (Nat.le_of_ble_eq_true rfl) (ACi.mono (fun v9 σ8 h => ?_) h)
  refine aw_icmp_eq (tgt := 1621) dL_law_341 (by decide) (fun k10 => ?_) (fun k10 => ?_)
  · replace h := h.1 k10
    exact aw_fgt (L' := [some (vA 9999 0), some (vR 11 x1), some (vR 12 x2), some (vI x3)]) ⟨rfl, ⟨rfl, ⟨rfl, ⟨rfl, trivial⟩⟩⟩⟩ h
  · replace h := h.2 k10
    refine aw_iconst (x := 0) dL_law_344 rfl ?_
    exact aw_zreturn dL_law_345 rfl (Or.inl rfl) h
set_option maxRecDepth 4000 in
theorem bk_L_law_346 {g : GP} {l : Launch} {d : Nat} {σ : St} {Q : Option AV → St → Prop} {x1 : Option Nat} {x2 : Option Nat} {x3 : Int} (hX : va_X g.2.2.2.1 g.2.2.2.2.1 g.2.2.2.2.2 (gS g) (gS g).heap) (hb : g.2.2.2.1 < gB g) (hn : g.2.2.2.2.1 < 2147483648)
    (h : R32 (x3 + 1) ∧ ((0 : Int) ≤ (x3 + 1) ∧ (x3 + 1) < (g.2.2.2.2.1 : Int)) ∧ ∃ r2, x1 = some r2 ∧ ACi g l d MX11_layer [vR 11 (some r2), vI ((g.2.2.2.2.2 (x3 + 1).toNat).toInt)] σ (fun v5 σ4 => ((0 : Int) ≤ (x3 + 1) ∧ (x3 + 1) < (g.2.2.2.2.1 : Int)) ∧ ∃ r6, x2 = some r6 ∧ ACi g l d MX12_layer [vR 12 (some r6), vI ((g.2.2.2.2.2 (x3 + 1).toNat).toInt)] σ4 (fun v9 σ8 => ((v5 = v9 → AW g l (d + 1) ML_law 1621 [some (vA 9999 0), some (vR 11 x1), some (vR 12 x2), some (vI x3)] [] σ8 Q) ∧ (¬ v5 = v9 → Q (some (vI 0)) σ8))))) :
    AW g l (d + 1) ML_law 346 [some (vA 9999 0), some (vR 11 x1), some (vR 12 x2), some (vI x3)] [] σ Q := by
  refine aw_aload_n dL_law_346 rfl rfl ?_
  refine aw_aload_n dL_law_347 rfl rfl ?_
  refine aw_iload_n dL_law_348 rfl rfl ?_
  refine aw_iconst (x := 1) dL_law_349 rfl ?_
  obtain ⟨⟨c1, c1x⟩, h⟩ := h
  refine aw_iaddc dL_law_350 c1 c1x ?_
  obtain ⟨⟨h0, h1⟩, h⟩ := h
  refine aw_sld hX hb dL_law_351 h0 h1 ?_
  obtain ⟨r2, e3, h⟩ := h
  refine aw_invVi (M := ML_law) (ci := 11) [vI ((g.2.2.2.2.2 (x3 + 1).toNat).toInt)] e3 mo_X11_layer rfl lm_L_35 li_X11_layer ls_X11_layer (by decide +kernel) dL_law_352 rfl (Nat.le_of_ble_eq_true rfl) (ACi.mono (fun v5 σ4 h => ?_) h)
  refine aw_aload_n dL_law_355 rfl rfl ?_
  refine aw_aload_n dL_law_356 rfl rfl ?_
  refine aw_iload_n dL_law_357 rfl rfl ?_
  refine aw_iconst (x := 1) dL_law_358 rfl ?_
  refine aw_iaddc dL_law_359 c1 c1x ?_
  obtain ⟨⟨h0, h1⟩, h⟩ := h
  refine aw_sld hX hb dL_law_360 h0 h1 ?_
  obtain ⟨r6, e7, h⟩ := h
  refine aw_invVi (M := ML_law) (ci := 12) [vI ((g.2.2.2.2.2 (x3 + 1).toNat).toInt)] e7 mo_X12_layer rfl lm_L_38 li_X12_layer ls_X12_layer (by decide +kernel) dL_law_361 rfl (Nat.le_of_ble_eq_true rfl) (ACi.mono (fun v9 σ8 h => ?_) h)
  refine aw_icmp_eq (tgt := 1621) dL_law_364 (by decide) (fun k10 => ?_) (fun k10 => ?_)
  · replace h := h.1 k10
    exact aw_fgt (L' := [some (vA 9999 0), some (vR 11 x1), some (vR 12 x2), some (vI x3)]) ⟨rfl, ⟨rfl, ⟨rfl, ⟨rfl, trivial⟩⟩⟩⟩ h
  · replace h := h.2 k10
    refine aw_iconst (x := 0) dL_law_367 rfl ?_
    exact aw_zreturn dL_law_368 rfl (Or.inl rfl) h
set_option maxRecDepth 4000 in
theorem bk_L_law_369 {g : GP} {l : Launch} {d : Nat} {σ : St} {Q : Option AV → St → Prop} {x1 : Option Nat} {x2 : Option Nat} {x3 : Int} (hX : va_X g.2.2.2.1 g.2.2.2.2.1 g.2.2.2.2.2 (gS g) (gS g).heap) (hb : g.2.2.2.1 < gB g) (hn : g.2.2.2.2.1 < 2147483648)
    (h : R32 (x3 + 1) ∧ ((0 : Int) ≤ (x3 + 1) ∧ (x3 + 1) < (g.2.2.2.2.1 : Int)) ∧ ∃ r2, x1 = some r2 ∧ ACi g l d MX11_commit [vR 11 (some r2), vI ((g.2.2.2.2.2 (x3 + 1).toNat).toInt)] σ (fun v5 σ4 => ((0 : Int) ≤ (x3 + 1) ∧ (x3 + 1) < (g.2.2.2.2.1 : Int)) ∧ ∃ r6, x2 = some r6 ∧ ACi g l d MX12_commit [vR 12 (some r6), vI ((g.2.2.2.2.2 (x3 + 1).toNat).toInt)] σ4 (fun v9 σ8 => ((v5 = v9 → AW g l (d + 1) ML_law 1621 [some (vA 9999 0), some (vR 11 x1), some (vR 12 x2), some (vI x3)] [] σ8 Q) ∧ (¬ v5 = v9 → Q (some (vI 0)) σ8))))) :
    AW g l (d + 1) ML_law 369 [some (vA 9999 0), some (vR 11 x1), some (vR 12 x2), some (vI x3)] [] σ Q := by
  refine aw_aload_n dL_law_369 rfl rfl ?_
  refine aw_aload_n dL_law_370 rfl rfl ?_
  refine aw_iload_n dL_law_371 rfl rfl ?_
  refine aw_iconst (x := 1) dL_law_372 rfl ?_
  obtain ⟨⟨c1, c1x⟩, h⟩ := h
  refine aw_iaddc dL_law_373 c1 c1x ?_
  obtain ⟨⟨h0, h1⟩, h⟩ := h
  refine aw_sld hX hb dL_law_374 h0 h1 ?_
  obtain ⟨r2, e3, h⟩ := h
  refine aw_invVi (M := ML_law) (ci := 11) [vI ((g.2.2.2.2.2 (x3 + 1).toNat).toInt)] e3 mo_X11_commit rfl lm_L_39 li_X11_commit ls_X11_commit (by decide +kernel) dL_law_375 rfl (Nat.le_of_ble_eq_true rfl) (ACi.mono (fun v5 σ4 h => ?_) h)
  refine aw_aload_n dL_law_378 rfl rfl ?_
  refine aw_aload_n dL_law_379 rfl rfl ?_
  refine aw_iload_n dL_law_380 rfl rfl ?_
  refine aw_iconst (x := 1) dL_law_381 rfl ?_
  refine aw_iaddc dL_law_382 c1 c1x ?_
  obtain ⟨⟨h0, h1⟩, h⟩ := h
  refine aw_sld hX hb dL_law_383 h0 h1 ?_
  obtain ⟨r6, e7, h⟩ := h
  refine aw_invVi (M := ML_law) (ci := 12) [vI ((g.2.2.2.2.2 (x3 + 1).toNat).toInt)] e7 mo_X12_commit rfl lm_L_42 li_X12_commit ls_X12_commit (by decide +kernel) dL_law_384 rfl (Nat.le_of_ble_eq_true rfl) (ACi.mono (fun v9 σ8 h => ?_) h)
  refine aw_icmp_eq (tgt := 1621) dL_law_387 (by decide) (fun k10 => ?_) (fun k10 => ?_)
  · replace h := h.1 k10
    exact aw_fgt (L' := [some (vA 9999 0), some (vR 11 x1), some (vR 12 x2), some (vI x3)]) ⟨rfl, ⟨rfl, ⟨rfl, ⟨rfl, trivial⟩⟩⟩⟩ h
  · replace h := h.2 k10
    refine aw_iconst (x := 0) dL_law_390 rfl ?_
    exact aw_zreturn dL_law_391 rfl (Or.inl rfl) h
set_option maxRecDepth 4000 in
theorem bk_L_law_392 {g : GP} {l : Launch} {d : Nat} {σ : St} {Q : Option AV → St → Prop} {x1 : Option Nat} {x2 : Option Nat} {x3 : Int} (hX : va_X g.2.2.2.1 g.2.2.2.2.1 g.2.2.2.2.2 (gS g) (gS g).heap) (hb : g.2.2.2.1 < gB g) (hn : g.2.2.2.2.1 < 2147483648)
    (h : R32 (x3 + 1) ∧ ((0 : Int) ≤ (x3 + 1) ∧ (x3 + 1) < (g.2.2.2.2.1 : Int)) ∧ ∃ r2, x1 = some r2 ∧ ACi g l d MX11_drop [vR 11 (some r2), vI ((g.2.2.2.2.2 (x3 + 1).toNat).toInt)] σ (fun v5 σ4 => ((0 : Int) ≤ (x3 + 1) ∧ (x3 + 1) < (g.2.2.2.2.1 : Int)) ∧ ∃ r6, x2 = some r6 ∧ ACi g l d MX12_drop [vR 12 (some r6), vI ((g.2.2.2.2.2 (x3 + 1).toNat).toInt)] σ4 (fun v9 σ8 => ((v5 = v9 → AW g l (d + 1) ML_law 1621 [some (vA 9999 0), some (vR 11 x1), some (vR 12 x2), some (vI x3)] [] σ8 Q) ∧ (¬ v5 = v9 → Q (some (vI 0)) σ8))))) :
    AW g l (d + 1) ML_law 392 [some (vA 9999 0), some (vR 11 x1), some (vR 12 x2), some (vI x3)] [] σ Q := by
  refine aw_aload_n dL_law_392 rfl rfl ?_
  refine aw_aload_n dL_law_393 rfl rfl ?_
  refine aw_iload_n dL_law_394 rfl rfl ?_
  refine aw_iconst (x := 1) dL_law_395 rfl ?_
  obtain ⟨⟨c1, c1x⟩, h⟩ := h
  refine aw_iaddc dL_law_396 c1 c1x ?_
  obtain ⟨⟨h0, h1⟩, h⟩ := h
  refine aw_sld hX hb dL_law_397 h0 h1 ?_
  obtain ⟨r2, e3, h⟩ := h
  refine aw_invVi (M := ML_law) (ci := 11) [vI ((g.2.2.2.2.2 (x3 + 1).toNat).toInt)] e3 mo_X11_drop rfl lm_L_43 li_X11_drop ls_X11_drop (by decide +kernel) dL_law_398 rfl (Nat.le_of_ble_eq_true rfl) (ACi.mono (fun v5 σ4 h => ?_) h)
  refine aw_aload_n dL_law_401 rfl rfl ?_
  refine aw_aload_n dL_law_402 rfl rfl ?_
  refine aw_iload_n dL_law_403 rfl rfl ?_
  refine aw_iconst (x := 1) dL_law_404 rfl ?_
  refine aw_iaddc dL_law_405 c1 c1x ?_
  obtain ⟨⟨h0, h1⟩, h⟩ := h
  refine aw_sld hX hb dL_law_406 h0 h1 ?_
  obtain ⟨r6, e7, h⟩ := h
  refine aw_invVi (M := ML_law) (ci := 12) [vI ((g.2.2.2.2.2 (x3 + 1).toNat).toInt)] e7 mo_X12_drop rfl lm_L_46 li_X12_drop ls_X12_drop (by decide +kernel) dL_law_407 rfl (Nat.le_of_ble_eq_true rfl) (ACi.mono (fun v9 σ8 h => ?_) h)
  refine aw_icmp_eq (tgt := 1621) dL_law_410 (by decide) (fun k10 => ?_) (fun k10 => ?_)
  · replace h := h.1 k10
    exact aw_fgt (L' := [some (vA 9999 0), some (vR 11 x1), some (vR 12 x2), some (vI x3)]) ⟨rfl, ⟨rfl, ⟨rfl, ⟨rfl, trivial⟩⟩⟩⟩ h
  · replace h := h.2 k10
    refine aw_iconst (x := 0) dL_law_413 rfl ?_
    exact aw_zreturn dL_law_414 rfl (Or.inl rfl) h
set_option maxRecDepth 4000 in
theorem bk_L_law_415 {g : GP} {l : Launch} {d : Nat} {σ : St} {Q : Option AV → St → Prop} {x1 : Option Nat} {x2 : Option Nat} {x3 : Int} (hX : va_X g.2.2.2.1 g.2.2.2.2.1 g.2.2.2.2.2 (gS g) (gS g).heap) (hb : g.2.2.2.1 < gB g) (hn : g.2.2.2.2.1 < 2147483648)
    (h : R32 (x3 + 1) ∧ ((0 : Int) ≤ (x3 + 1) ∧ (x3 + 1) < (g.2.2.2.2.1 : Int)) ∧ R32 (x3 + 2) ∧ ((0 : Int) ≤ (x3 + 2) ∧ (x3 + 2) < (g.2.2.2.2.1 : Int)) ∧ R32 (x3 + 3) ∧ ((0 : Int) ≤ (x3 + 3) ∧ (x3 + 3) < (g.2.2.2.2.1 : Int)) ∧ ∃ r4, x1 = some r4 ∧ ACi g l d MX11_poke [vR 11 (some r4), vI ((g.2.2.2.2.2 (x3 + 1).toNat).toInt), vI ((g.2.2.2.2.2 (x3 + 2).toNat).toInt), vI ((g.2.2.2.2.2 (x3 + 3).toNat).toInt)] σ (fun v7 σ6 => ((0 : Int) ≤ (x3 + 1) ∧ (x3 + 1) < (g.2.2.2.2.1 : Int)) ∧ ((0 : Int) ≤ (x3 + 2) ∧ (x3 + 2) < (g.2.2.2.2.1 : Int)) ∧ ((0 : Int) ≤ (x3 + 3) ∧ (x3 + 3) < (g.2.2.2.2.1 : Int)) ∧ ∃ r8, x2 = some r8 ∧ ACi g l d MX12_poke [vR 12 (some r8), vI ((g.2.2.2.2.2 (x3 + 1).toNat).toInt), vI ((g.2.2.2.2.2 (x3 + 2).toNat).toInt), vI ((g.2.2.2.2.2 (x3 + 3).toNat).toInt)] σ6 (fun v11 σ10 => ((v7 = v11 → AW g l (d + 1) ML_law 1621 [some (vA 9999 0), some (vR 11 x1), some (vR 12 x2), some (vI x3)] [] σ10 Q) ∧ (¬ v7 = v11 → Q (some (vI 0)) σ10))))) :
    AW g l (d + 1) ML_law 415 [some (vA 9999 0), some (vR 11 x1), some (vR 12 x2), some (vI x3)] [] σ Q := by
  refine aw_aload_n dL_law_415 rfl rfl ?_
  refine aw_aload_n dL_law_416 rfl rfl ?_
  refine aw_iload_n dL_law_417 rfl rfl ?_
  refine aw_iconst (x := 1) dL_law_418 rfl ?_
  obtain ⟨⟨c1, c1x⟩, h⟩ := h
  refine aw_iaddc dL_law_419 c1 c1x ?_
  obtain ⟨⟨h0, h1⟩, h⟩ := h
  refine aw_sld hX hb dL_law_420 h0 h1 ?_
  refine aw_aload_n dL_law_421 rfl rfl ?_
  refine aw_iload_n dL_law_422 rfl rfl ?_
  refine aw_iconst (x := 2) dL_law_423 rfl ?_
  obtain ⟨⟨c2, c2x⟩, h⟩ := h
  refine aw_iaddc dL_law_424 c2 c2x ?_
  obtain ⟨⟨h0, h1⟩, h⟩ := h
  refine aw_sld hX hb dL_law_425 h0 h1 ?_
  refine aw_aload_n dL_law_426 rfl rfl ?_
  refine aw_iload_n dL_law_427 rfl rfl ?_
  refine aw_iconst (x := 3) dL_law_428 rfl ?_
  obtain ⟨⟨c3, c3x⟩, h⟩ := h
  refine aw_iaddc dL_law_429 c3 c3x ?_
  obtain ⟨⟨h0, h1⟩, h⟩ := h
  refine aw_sld hX hb dL_law_430 h0 h1 ?_
  obtain ⟨r4, e5, h⟩ := h
  refine aw_invVi (M := ML_law) (ci := 11) [vI ((g.2.2.2.2.2 (x3 + 1).toNat).toInt), vI ((g.2.2.2.2.2 (x3 + 2).toNat).toInt), vI ((g.2.2.2.2.2 (x3 + 3).toNat).toInt)] e5 mo_X11_poke rfl lm_L_47 li_X11_poke ls_X11_poke (by decide +kernel) dL_law_431 rfl (Nat.le_of_ble_eq_true rfl) (ACi.mono (fun v7 σ6 h => ?_) h)
  refine aw_aload_n dL_law_434 rfl rfl ?_
  refine aw_aload_n dL_law_435 rfl rfl ?_
  refine aw_iload_n dL_law_436 rfl rfl ?_
  refine aw_iconst (x := 1) dL_law_437 rfl ?_
  refine aw_iaddc dL_law_438 c1 c1x ?_
  obtain ⟨⟨h0, h1⟩, h⟩ := h
  refine aw_sld hX hb dL_law_439 h0 h1 ?_
  refine aw_aload_n dL_law_440 rfl rfl ?_
  refine aw_iload_n dL_law_441 rfl rfl ?_
  refine aw_iconst (x := 2) dL_law_442 rfl ?_
  refine aw_iaddc dL_law_443 c2 c2x ?_
  obtain ⟨⟨h0, h1⟩, h⟩ := h
  refine aw_sld hX hb dL_law_444 h0 h1 ?_
  refine aw_aload_n dL_law_445 rfl rfl ?_
  refine aw_iload_n dL_law_446 rfl rfl ?_
  refine aw_iconst (x := 3) dL_law_447 rfl ?_
  refine aw_iaddc dL_law_448 c3 c3x ?_
  obtain ⟨⟨h0, h1⟩, h⟩ := h
  refine aw_sld hX hb dL_law_449 h0 h1 ?_
  obtain ⟨r8, e9, h⟩ := h
  refine aw_invVi (M := ML_law) (ci := 12) [vI ((g.2.2.2.2.2 (x3 + 1).toNat).toInt), vI ((g.2.2.2.2.2 (x3 + 2).toNat).toInt), vI ((g.2.2.2.2.2 (x3 + 3).toNat).toInt)] e9 mo_X12_poke rfl lm_L_51 li_X12_poke ls_X12_poke (by decide +kernel) dL_law_450 rfl (Nat.le_of_ble_eq_true rfl) (ACi.mono (fun v11 σ10 h => ?_) h)
  refine aw_icmp_eq (tgt := 1621) dL_law_453 (by decide) (fun k12 => ?_) (fun k12 => ?_)
  · replace h := h.1 k12
    exact aw_fgt (L' := [some (vA 9999 0), some (vR 11 x1), some (vR 12 x2), some (vI x3)]) ⟨rfl, ⟨rfl, ⟨rfl, ⟨rfl, trivial⟩⟩⟩⟩ h
  · replace h := h.2 k12
    refine aw_iconst (x := 0) dL_law_456 rfl ?_
    exact aw_zreturn dL_law_457 rfl (Or.inl rfl) h
set_option maxRecDepth 4000 in
theorem bk_L_law_458 {g : GP} {l : Launch} {d : Nat} {σ : St} {Q : Option AV → St → Prop} {x1 : Option Nat} {x2 : Option Nat} {x3 : Int} (hX : va_X g.2.2.2.1 g.2.2.2.2.1 g.2.2.2.2.2 (gS g) (gS g).heap) (hb : g.2.2.2.1 < gB g) (hn : g.2.2.2.2.1 < 2147483648)
    (h : R32 (x3 + 1) ∧ ((0 : Int) ≤ (x3 + 1) ∧ (x3 + 1) < (g.2.2.2.2.1 : Int)) ∧ ∃ r2, x1 = some r2 ∧ ACi g l d MX11_undo [vR 11 (some r2), vI ((g.2.2.2.2.2 (x3 + 1).toNat).toInt)] σ (fun v5 σ4 => ((0 : Int) ≤ (x3 + 1) ∧ (x3 + 1) < (g.2.2.2.2.1 : Int)) ∧ ∃ r6, x2 = some r6 ∧ ACi g l d MX12_undo [vR 12 (some r6), vI ((g.2.2.2.2.2 (x3 + 1).toNat).toInt)] σ4 (fun v9 σ8 => ((v5 = v9 → AW g l (d + 1) ML_law 1621 [some (vA 9999 0), some (vR 11 x1), some (vR 12 x2), some (vI x3)] [] σ8 Q) ∧ (¬ v5 = v9 → Q (some (vI 0)) σ8))))) :
    AW g l (d + 1) ML_law 458 [some (vA 9999 0), some (vR 11 x1), some (vR 12 x2), some (vI x3)] [] σ Q := by
  refine aw_aload_n dL_law_458 rfl rfl ?_
  refine aw_aload_n dL_law_459 rfl rfl ?_
  refine aw_iload_n dL_law_460 rfl rfl ?_
  refine aw_iconst (x := 1) dL_law_461 rfl ?_
  obtain ⟨⟨c1, c1x⟩, h⟩ := h
  refine aw_iaddc dL_law_462 c1 c1x ?_
  obtain ⟨⟨h0, h1⟩, h⟩ := h
  refine aw_sld hX hb dL_law_463 h0 h1 ?_
  obtain ⟨r2, e3, h⟩ := h
  refine aw_invVi (M := ML_law) (ci := 11) [vI ((g.2.2.2.2.2 (x3 + 1).toNat).toInt)] e3 mo_X11_undo rfl lm_L_52 li_X11_undo ls_X11_undo (by decide +kernel) dL_law_464 rfl (Nat.le_of_ble_eq_true rfl) (ACi.mono (fun v5 σ4 h => ?_) h)
  refine aw_aload_n dL_law_467 rfl rfl ?_
  refine aw_aload_n dL_law_468 rfl rfl ?_
  refine aw_iload_n dL_law_469 rfl rfl ?_
  refine aw_iconst (x := 1) dL_law_470 rfl ?_
  refine aw_iaddc dL_law_471 c1 c1x ?_
  obtain ⟨⟨h0, h1⟩, h⟩ := h
  refine aw_sld hX hb dL_law_472 h0 h1 ?_
  obtain ⟨r6, e7, h⟩ := h
  refine aw_invVi (M := ML_law) (ci := 12) [vI ((g.2.2.2.2.2 (x3 + 1).toNat).toInt)] e7 mo_X12_undo rfl lm_L_55 li_X12_undo ls_X12_undo (by decide +kernel) dL_law_473 rfl (Nat.le_of_ble_eq_true rfl) (ACi.mono (fun v9 σ8 h => ?_) h)
  refine aw_icmp_eq (tgt := 1621) dL_law_476 (by decide) (fun k10 => ?_) (fun k10 => ?_)
  · replace h := h.1 k10
    exact aw_fgt (L' := [some (vA 9999 0), some (vR 11 x1), some (vR 12 x2), some (vI x3)]) ⟨rfl, ⟨rfl, ⟨rfl, ⟨rfl, trivial⟩⟩⟩⟩ h
  · replace h := h.2 k10
    refine aw_iconst (x := 0) dL_law_479 rfl ?_
    exact aw_zreturn dL_law_480 rfl (Or.inl rfl) h
set_option maxRecDepth 4000 in
theorem bk_L_law_481 {g : GP} {l : Launch} {d : Nat} {σ : St} {Q : Option AV → St → Prop} {x1 : Option Nat} {x2 : Option Nat} {x3 : Int} (hX : va_X g.2.2.2.1 g.2.2.2.2.1 g.2.2.2.2.2 (gS g) (gS g).heap) (hb : g.2.2.2.1 < gB g) (hn : g.2.2.2.2.1 < 2147483648)
    (h : R32 (x3 + 1) ∧ ((0 : Int) ≤ (x3 + 1) ∧ (x3 + 1) < (g.2.2.2.2.1 : Int)) ∧ R32 (x3 + 2) ∧ ((0 : Int) ≤ (x3 + 2) ∧ (x3 + 2) < (g.2.2.2.2.1 : Int)) ∧ ∃ r3, x1 = some r3 ∧ ACi g l d MX11_changed [vR 11 (some r3), vI ((g.2.2.2.2.2 (x3 + 1).toNat).toInt), vI ((g.2.2.2.2.2 (x3 + 2).toNat).toInt)] σ (fun v6 σ5 => ((0 : Int) ≤ (x3 + 1) ∧ (x3 + 1) < (g.2.2.2.2.1 : Int)) ∧ ((0 : Int) ≤ (x3 + 2) ∧ (x3 + 2) < (g.2.2.2.2.1 : Int)) ∧ ∃ r7, x2 = some r7 ∧ ACi g l d MX12_changed [vR 12 (some r7), vI ((g.2.2.2.2.2 (x3 + 1).toNat).toInt), vI ((g.2.2.2.2.2 (x3 + 2).toNat).toInt)] σ5 (fun v10 σ9 => ((v6 = v10 → AW g l (d + 1) ML_law 1621 [some (vA 9999 0), some (vR 11 x1), some (vR 12 x2), some (vI x3)] [] σ9 Q) ∧ (¬ v6 = v10 → Q (some (vI 0)) σ9))))) :
    AW g l (d + 1) ML_law 481 [some (vA 9999 0), some (vR 11 x1), some (vR 12 x2), some (vI x3)] [] σ Q := by
  refine aw_aload_n dL_law_481 rfl rfl ?_
  refine aw_aload_n dL_law_482 rfl rfl ?_
  refine aw_iload_n dL_law_483 rfl rfl ?_
  refine aw_iconst (x := 1) dL_law_484 rfl ?_
  obtain ⟨⟨c1, c1x⟩, h⟩ := h
  refine aw_iaddc dL_law_485 c1 c1x ?_
  obtain ⟨⟨h0, h1⟩, h⟩ := h
  refine aw_sld hX hb dL_law_486 h0 h1 ?_
  refine aw_aload_n dL_law_487 rfl rfl ?_
  refine aw_iload_n dL_law_488 rfl rfl ?_
  refine aw_iconst (x := 2) dL_law_489 rfl ?_
  obtain ⟨⟨c2, c2x⟩, h⟩ := h
  refine aw_iaddc dL_law_490 c2 c2x ?_
  obtain ⟨⟨h0, h1⟩, h⟩ := h
  refine aw_sld hX hb dL_law_491 h0 h1 ?_
  obtain ⟨r3, e4, h⟩ := h
  refine aw_invVi (M := ML_law) (ci := 11) [vI ((g.2.2.2.2.2 (x3 + 1).toNat).toInt), vI ((g.2.2.2.2.2 (x3 + 2).toNat).toInt)] e4 mo_X11_changed rfl lm_L_56 li_X11_changed ls_X11_changed (by decide +kernel) dL_law_492 rfl (Nat.le_of_ble_eq_true rfl) (ACi.mono (fun v6 σ5 h => ?_) h)
  refine aw_aload_n dL_law_495 rfl rfl ?_
  refine aw_aload_n dL_law_496 rfl rfl ?_
  refine aw_iload_n dL_law_497 rfl rfl ?_
  refine aw_iconst (x := 1) dL_law_498 rfl ?_
  refine aw_iaddc dL_law_499 c1 c1x ?_
  obtain ⟨⟨h0, h1⟩, h⟩ := h
  refine aw_sld hX hb dL_law_500 h0 h1 ?_
  refine aw_aload_n dL_law_501 rfl rfl ?_
  refine aw_iload_n dL_law_502 rfl rfl ?_
  refine aw_iconst (x := 2) dL_law_503 rfl ?_
  refine aw_iaddc dL_law_504 c2 c2x ?_
  obtain ⟨⟨h0, h1⟩, h⟩ := h
  refine aw_sld hX hb dL_law_505 h0 h1 ?_
  obtain ⟨r7, e8, h⟩ := h
  refine aw_invVi (M := ML_law) (ci := 12) [vI ((g.2.2.2.2.2 (x3 + 1).toNat).toInt), vI ((g.2.2.2.2.2 (x3 + 2).toNat).toInt)] e8 mo_X12_changed rfl lm_L_59 li_X12_changed ls_X12_changed (by decide +kernel) dL_law_506 rfl (Nat.le_of_ble_eq_true rfl) (ACi.mono (fun v10 σ9 h => ?_) h)
  refine aw_icmp_eq (tgt := 1621) dL_law_509 (by decide) (fun k11 => ?_) (fun k11 => ?_)
  · replace h := h.1 k11
    exact aw_fgt (L' := [some (vA 9999 0), some (vR 11 x1), some (vR 12 x2), some (vI x3)]) ⟨rfl, ⟨rfl, ⟨rfl, ⟨rfl, trivial⟩⟩⟩⟩ h
  · replace h := h.2 k11
    refine aw_iconst (x := 0) dL_law_512 rfl ?_
    exact aw_zreturn dL_law_513 rfl (Or.inl rfl) h
set_option maxRecDepth 4000 in
theorem bk_L_law_514 {g : GP} {l : Launch} {d : Nat} {σ : St} {Q : Option AV → St → Prop} {x1 : Option Nat} {x2 : Option Nat} {x3 : Int} (hX : va_X g.2.2.2.1 g.2.2.2.2.1 g.2.2.2.2.2 (gS g) (gS g).heap) (hb : g.2.2.2.1 < gB g) (hn : g.2.2.2.2.1 < 2147483648)
    (h : R32 (x3 + 1) ∧ ((0 : Int) ≤ (x3 + 1) ∧ (x3 + 1) < (g.2.2.2.2.1 : Int)) ∧ R32 (x3 + 2) ∧ ((0 : Int) ≤ (x3 + 2) ∧ (x3 + 2) < (g.2.2.2.2.1 : Int)) ∧ R32 (x3 + 3) ∧ ((0 : Int) ≤ (x3 + 3) ∧ (x3 + 3) < (g.2.2.2.2.1 : Int)) ∧ ∃ r4, x1 = some r4 ∧ ACi g l d MX11_feed [vR 11 (some r4), vJ ((j_shl (i2j ((g.2.2.2.2.2 (x3 + 1).toNat).toInt)) 32) ||| ((i2j ((g.2.2.2.2.2 (x3 + 2).toNat).toInt)) &&& (4294967295 : Int64))), vI ((g.2.2.2.2.2 (x3 + 3).toNat).toInt)] σ (fun v7 σ6 => ((0 : Int) ≤ (x3 + 1) ∧ (x3 + 1) < (g.2.2.2.2.1 : Int)) ∧ ((0 : Int) ≤ (x3 + 2) ∧ (x3 + 2) < (g.2.2.2.2.1 : Int)) ∧ ((0 : Int) ≤ (x3 + 3) ∧ (x3 + 3) < (g.2.2.2.2.1 : Int)) ∧ ∃ r8, x2 = some r8 ∧ ACi g l d MX12_feed [vR 12 (some r8), vJ ((j_shl (i2j ((g.2.2.2.2.2 (x3 + 1).toNat).toInt)) 32) ||| ((i2j ((g.2.2.2.2.2 (x3 + 2).toNat).toInt)) &&& (4294967295 : Int64))), vI ((g.2.2.2.2.2 (x3 + 3).toNat).toInt)] σ6 (fun v11 σ10 => ((v7 = v11 → AW g l (d + 1) ML_law 1621 [some (vA 9999 0), some (vR 11 x1), some (vR 12 x2), some (vI x3)] [] σ10 Q) ∧ (¬ v7 = v11 → Q (some (vI 0)) σ10))))) :
    AW g l (d + 1) ML_law 514 [some (vA 9999 0), some (vR 11 x1), some (vR 12 x2), some (vI x3)] [] σ Q := by
  refine aw_aload_n dL_law_514 rfl rfl ?_
  refine aw_aload_n dL_law_515 rfl rfl ?_
  refine aw_iload_n dL_law_516 rfl rfl ?_
  refine aw_iconst (x := 1) dL_law_517 rfl ?_
  obtain ⟨⟨c1, c1x⟩, h⟩ := h
  refine aw_iaddc dL_law_518 c1 c1x ?_
  obtain ⟨⟨h0, h1⟩, h⟩ := h
  refine aw_sld hX hb dL_law_519 h0 h1 ?_
  refine aw_i2l dL_law_520 ?_
  refine aw_bipush (x := 32) dL_law_521 rfl ?_
  refine aw_lshl dL_law_523 ?_
  refine aw_aload_n dL_law_524 rfl rfl ?_
  refine aw_iload_n dL_law_525 rfl rfl ?_
  refine aw_iconst (x := 2) dL_law_526 rfl ?_
  obtain ⟨⟨c2, c2x⟩, h⟩ := h
  refine aw_iaddc dL_law_527 c2 c2x ?_
  obtain ⟨⟨h0, h1⟩, h⟩ := h
  refine aw_sld hX hb dL_law_528 h0 h1 ?_
  refine aw_i2l dL_law_529 ?_
  refine aw_ldc2 lk_L_18 dL_law_530 ?_
  refine aw_land dL_law_533 ?_
  refine aw_lor dL_law_534 ?_
  refine aw_aload_n dL_law_535 rfl rfl ?_
  refine aw_iload_n dL_law_536 rfl rfl ?_
  refine aw_iconst (x := 3) dL_law_537 rfl ?_
  obtain ⟨⟨c3, c3x⟩, h⟩ := h
  refine aw_iaddc dL_law_538 c3 c3x ?_
  obtain ⟨⟨h0, h1⟩, h⟩ := h
  refine aw_sld hX hb dL_law_539 h0 h1 ?_
  obtain ⟨r4, e5, h⟩ := h
  refine aw_invVi (M := ML_law) (ci := 11) [vJ ((j_shl (i2j ((g.2.2.2.2.2 (x3 + 1).toNat).toInt)) 32) ||| ((i2j ((g.2.2.2.2.2 (x3 + 2).toNat).toInt)) &&& (4294967295 : Int64))), vI ((g.2.2.2.2.2 (x3 + 3).toNat).toInt)] e5 mo_X11_feed rfl lm_L_60 li_X11_feed ls_X11_feed (by decide +kernel) dL_law_540 rfl (Nat.le_of_ble_eq_true rfl) (ACi.mono (fun v7 σ6 h => ?_) h)
  refine aw_aload_n dL_law_543 rfl rfl ?_
  refine aw_aload_n dL_law_544 rfl rfl ?_
  refine aw_iload_n dL_law_545 rfl rfl ?_
  refine aw_iconst (x := 1) dL_law_546 rfl ?_
  refine aw_iaddc dL_law_547 c1 c1x ?_
  obtain ⟨⟨h0, h1⟩, h⟩ := h
  refine aw_sld hX hb dL_law_548 h0 h1 ?_
  refine aw_i2l dL_law_549 ?_
  refine aw_bipush (x := 32) dL_law_550 rfl ?_
  refine aw_lshl dL_law_552 ?_
  refine aw_aload_n dL_law_553 rfl rfl ?_
  refine aw_iload_n dL_law_554 rfl rfl ?_
  refine aw_iconst (x := 2) dL_law_555 rfl ?_
  refine aw_iaddc dL_law_556 c2 c2x ?_
  obtain ⟨⟨h0, h1⟩, h⟩ := h
  refine aw_sld hX hb dL_law_557 h0 h1 ?_
  refine aw_i2l dL_law_558 ?_
  refine aw_ldc2 lk_L_18 dL_law_559 ?_
  refine aw_land dL_law_562 ?_
  refine aw_lor dL_law_563 ?_
  refine aw_aload_n dL_law_564 rfl rfl ?_
  refine aw_iload_n dL_law_565 rfl rfl ?_
  refine aw_iconst (x := 3) dL_law_566 rfl ?_
  refine aw_iaddc dL_law_567 c3 c3x ?_
  obtain ⟨⟨h0, h1⟩, h⟩ := h
  refine aw_sld hX hb dL_law_568 h0 h1 ?_
  obtain ⟨r8, e9, h⟩ := h
  refine aw_invVi (M := ML_law) (ci := 12) [vJ ((j_shl (i2j ((g.2.2.2.2.2 (x3 + 1).toNat).toInt)) 32) ||| ((i2j ((g.2.2.2.2.2 (x3 + 2).toNat).toInt)) &&& (4294967295 : Int64))), vI ((g.2.2.2.2.2 (x3 + 3).toNat).toInt)] e9 mo_X12_feed rfl lm_L_64 li_X12_feed ls_X12_feed (by decide +kernel) dL_law_569 rfl (Nat.le_of_ble_eq_true rfl) (ACi.mono (fun v11 σ10 h => ?_) h)
  refine aw_icmp_eq (tgt := 1621) dL_law_572 (by decide) (fun k12 => ?_) (fun k12 => ?_)
  · replace h := h.1 k12
    exact aw_fgt (L' := [some (vA 9999 0), some (vR 11 x1), some (vR 12 x2), some (vI x3)]) ⟨rfl, ⟨rfl, ⟨rfl, ⟨rfl, trivial⟩⟩⟩⟩ h
  · replace h := h.2 k12
    refine aw_iconst (x := 0) dL_law_575 rfl ?_
    exact aw_zreturn dL_law_576 rfl (Or.inl rfl) h
set_option maxRecDepth 4000 in
theorem bk_L_law_577 {g : GP} {l : Launch} {d : Nat} {σ : St} {Q : Option AV → St → Prop} {x1 : Option Nat} {x2 : Option Nat} {x3 : Int} (hX : va_X g.2.2.2.1 g.2.2.2.2.1 g.2.2.2.2.2 (gS g) (gS g).heap) (hb : g.2.2.2.1 < gB g) (hn : g.2.2.2.2.1 < 2147483648)
    (h : R32 (x3 + 1) ∧ ((0 : Int) ≤ (x3 + 1) ∧ (x3 + 1) < (g.2.2.2.2.1 : Int)) ∧ ∃ r2, x1 = some r2 ∧ ACi g l d MX11_cut [vR 11 (some r2), vI ((g.2.2.2.2.2 (x3 + 1).toNat).toInt)] σ (fun v5 σ4 => ((0 : Int) ≤ (x3 + 1) ∧ (x3 + 1) < (g.2.2.2.2.1 : Int)) ∧ ∃ r6, x2 = some r6 ∧ ACi g l d MX12_cut [vR 12 (some r6), vI ((g.2.2.2.2.2 (x3 + 1).toNat).toInt)] σ4 (fun v9 σ8 => ((v5 = v9 → AW g l (d + 1) ML_law 1621 [some (vA 9999 0), some (vR 11 x1), some (vR 12 x2), some (vI x3)] [] σ8 Q) ∧ (¬ v5 = v9 → Q (some (vI 0)) σ8))))) :
    AW g l (d + 1) ML_law 577 [some (vA 9999 0), some (vR 11 x1), some (vR 12 x2), some (vI x3)] [] σ Q := by
  refine aw_aload_n dL_law_577 rfl rfl ?_
  refine aw_aload_n dL_law_578 rfl rfl ?_
  refine aw_iload_n dL_law_579 rfl rfl ?_
  refine aw_iconst (x := 1) dL_law_580 rfl ?_
  obtain ⟨⟨c1, c1x⟩, h⟩ := h
  refine aw_iaddc dL_law_581 c1 c1x ?_
  obtain ⟨⟨h0, h1⟩, h⟩ := h
  refine aw_sld hX hb dL_law_582 h0 h1 ?_
  obtain ⟨r2, e3, h⟩ := h
  refine aw_invVi (M := ML_law) (ci := 11) [vI ((g.2.2.2.2.2 (x3 + 1).toNat).toInt)] e3 mo_X11_cut rfl lm_L_65 li_X11_cut ls_X11_cut (by decide +kernel) dL_law_583 rfl (Nat.le_of_ble_eq_true rfl) (ACi.mono (fun v5 σ4 h => ?_) h)
  refine aw_aload_n dL_law_586 rfl rfl ?_
  refine aw_aload_n dL_law_587 rfl rfl ?_
  refine aw_iload_n dL_law_588 rfl rfl ?_
  refine aw_iconst (x := 1) dL_law_589 rfl ?_
  refine aw_iaddc dL_law_590 c1 c1x ?_
  obtain ⟨⟨h0, h1⟩, h⟩ := h
  refine aw_sld hX hb dL_law_591 h0 h1 ?_
  obtain ⟨r6, e7, h⟩ := h
  refine aw_invVi (M := ML_law) (ci := 12) [vI ((g.2.2.2.2.2 (x3 + 1).toNat).toInt)] e7 mo_X12_cut rfl lm_L_68 li_X12_cut ls_X12_cut (by decide +kernel) dL_law_592 rfl (Nat.le_of_ble_eq_true rfl) (ACi.mono (fun v9 σ8 h => ?_) h)
  refine aw_icmp_eq (tgt := 1621) dL_law_595 (by decide) (fun k10 => ?_) (fun k10 => ?_)
  · replace h := h.1 k10
    exact aw_fgt (L' := [some (vA 9999 0), some (vR 11 x1), some (vR 12 x2), some (vI x3)]) ⟨rfl, ⟨rfl, ⟨rfl, ⟨rfl, trivial⟩⟩⟩⟩ h
  · replace h := h.2 k10
    refine aw_iconst (x := 0) dL_law_598 rfl ?_
    exact aw_zreturn dL_law_599 rfl (Or.inl rfl) h
set_option maxRecDepth 4000 in
theorem bk_L_law_600 {g : GP} {l : Launch} {d : Nat} {σ : St} {Q : Option AV → St → Prop} {x1 : Option Nat} {x2 : Option Nat} {x3 : Int} (hX : va_X g.2.2.2.1 g.2.2.2.2.1 g.2.2.2.2.2 (gS g) (gS g).heap) (hb : g.2.2.2.1 < gB g) (hn : g.2.2.2.2.1 < 2147483648)
    (h : ∃ r1, x1 = some r1 ∧ ACi g l d MX11_describe [vR 11 (some r1)] σ (fun v4 σ3 => ∃ r5, x2 = some r5 ∧ ACi g l d MX12_describe [vR 12 (some r5)] σ3 (fun v8 σ7 => ((v4 = v8 → AW g l (d + 1) ML_law 1621 [some (vA 9999 0), some (vR 11 x1), some (vR 12 x2), some (vI x3)] [] σ7 Q) ∧ (¬ v4 = v8 → Q (some (vI 0)) σ7))))) :
    AW g l (d + 1) ML_law 600 [some (vA 9999 0), some (vR 11 x1), some (vR 12 x2), some (vI x3)] [] σ Q := by
  refine aw_aload_n dL_law_600 rfl rfl ?_
  obtain ⟨r1, e2, h⟩ := h
  refine aw_invVi (M := ML_law) (ci := 11) [] e2 mo_X11_describe rfl lm_L_69 li_X11_describe ls_X11_describe (by decide +kernel) dL_law_601 rfl (Nat.le_of_ble_eq_true rfl) (ACi.mono (fun v4 σ3 h => ?_) h)
  refine aw_aload_n dL_law_604 rfl rfl ?_
  obtain ⟨r5, e6, h⟩ := h
  refine aw_invVi (M := ML_law) (ci := 12) [] e6 mo_X12_describe rfl lm_L_72 li_X12_describe ls_X12_describe (by decide +kernel) dL_law_605 rfl (Nat.le_of_ble_eq_true rfl) (ACi.mono (fun v8 σ7 h => ?_) h)
  refine aw_icmp_eq (tgt := 1621) dL_law_608 (by decide) (fun k9 => ?_) (fun k9 => ?_)
  · replace h := h.1 k9
    exact aw_fgt (L' := [some (vA 9999 0), some (vR 11 x1), some (vR 12 x2), some (vI x3)]) ⟨rfl, ⟨rfl, ⟨rfl, ⟨rfl, trivial⟩⟩⟩⟩ h
  · replace h := h.2 k9
    refine aw_iconst (x := 0) dL_law_611 rfl ?_
    exact aw_zreturn dL_law_612 rfl (Or.inl rfl) h
set_option maxRecDepth 4000 in
theorem bk_L_law_613 {g : GP} {l : Launch} {d : Nat} {σ : St} {Q : Option AV → St → Prop} {x1 : Option Nat} {x2 : Option Nat} {x3 : Int} (hX : va_X g.2.2.2.1 g.2.2.2.2.1 g.2.2.2.2.2 (gS g) (gS g).heap) (hb : g.2.2.2.1 < gB g) (hn : g.2.2.2.2.1 < 2147483648)
    (h : ∃ r1, x1 = some r1 ∧ ACi g l d MX11_wrong [vR 11 (some r1)] σ (fun v4 σ3 => ∃ r5, x2 = some r5 ∧ ACi g l d MX12_wrong [vR 12 (some r5)] σ3 (fun v8 σ7 => ((v4 = v8 → AW g l (d + 1) ML_law 1621 [some (vA 9999 0), some (vR 11 x1), some (vR 12 x2), some (vI x3)] [] σ7 Q) ∧ (¬ v4 = v8 → Q (some (vI 0)) σ7))))) :
    AW g l (d + 1) ML_law 613 [some (vA 9999 0), some (vR 11 x1), some (vR 12 x2), some (vI x3)] [] σ Q := by
  refine aw_aload_n dL_law_613 rfl rfl ?_
  obtain ⟨r1, e2, h⟩ := h
  refine aw_invVi (M := ML_law) (ci := 11) [] e2 mo_X11_wrong rfl lm_L_73 li_X11_wrong ls_X11_wrong (by decide +kernel) dL_law_614 rfl (Nat.le_of_ble_eq_true rfl) (ACi.mono (fun v4 σ3 h => ?_) h)
  refine aw_aload_n dL_law_617 rfl rfl ?_
  obtain ⟨r5, e6, h⟩ := h
  refine aw_invVi (M := ML_law) (ci := 12) [] e6 mo_X12_wrong rfl lm_L_76 li_X12_wrong ls_X12_wrong (by decide +kernel) dL_law_618 rfl (Nat.le_of_ble_eq_true rfl) (ACi.mono (fun v8 σ7 h => ?_) h)
  refine aw_icmp_eq (tgt := 1621) dL_law_621 (by decide) (fun k9 => ?_) (fun k9 => ?_)
  · replace h := h.1 k9
    exact aw_fgt (L' := [some (vA 9999 0), some (vR 11 x1), some (vR 12 x2), some (vI x3)]) ⟨rfl, ⟨rfl, ⟨rfl, ⟨rfl, trivial⟩⟩⟩⟩ h
  · replace h := h.2 k9
    refine aw_iconst (x := 0) dL_law_624 rfl ?_
    exact aw_zreturn dL_law_625 rfl (Or.inl rfl) h
set_option maxRecDepth 4000 in
theorem bk_L_law_626 {g : GP} {l : Launch} {d : Nat} {σ : St} {Q : Option AV → St → Prop} {x1 : Option Nat} {x2 : Option Nat} {x3 : Int} (hX : va_X g.2.2.2.1 g.2.2.2.2.1 g.2.2.2.2.2 (gS g) (gS g).heap) (hb : g.2.2.2.1 < gB g) (hn : g.2.2.2.2.1 < 2147483648)
    (h : R32 (x3 + 1) ∧ ((0 : Int) ≤ (x3 + 1) ∧ (x3 + 1) < (g.2.2.2.2.1 : Int)) ∧ ∃ r2, x1 = some r2 ∧ ACi g l d MX11_size [vR 11 (some r2), vI ((g.2.2.2.2.2 (x3 + 1).toNat).toInt)] σ (fun v5 σ4 => ((0 : Int) ≤ (x3 + 1) ∧ (x3 + 1) < (g.2.2.2.2.1 : Int)) ∧ ∃ r6, x2 = some r6 ∧ ACi g l d MX12_size [vR 12 (some r6), vI ((g.2.2.2.2.2 (x3 + 1).toNat).toInt)] σ4 (fun v9 σ8 => ((v5 = v9 → AW g l (d + 1) ML_law 1621 [some (vA 9999 0), some (vR 11 x1), some (vR 12 x2), some (vI x3)] [] σ8 Q) ∧ (¬ v5 = v9 → Q (some (vI 0)) σ8))))) :
    AW g l (d + 1) ML_law 626 [some (vA 9999 0), some (vR 11 x1), some (vR 12 x2), some (vI x3)] [] σ Q := by
  refine aw_aload_n dL_law_626 rfl rfl ?_
  refine aw_aload_n dL_law_627 rfl rfl ?_
  refine aw_iload_n dL_law_628 rfl rfl ?_
  refine aw_iconst (x := 1) dL_law_629 rfl ?_
  obtain ⟨⟨c1, c1x⟩, h⟩ := h
  refine aw_iaddc dL_law_630 c1 c1x ?_
  obtain ⟨⟨h0, h1⟩, h⟩ := h
  refine aw_sld hX hb dL_law_631 h0 h1 ?_
  obtain ⟨r2, e3, h⟩ := h
  refine aw_invVi (M := ML_law) (ci := 11) [vI ((g.2.2.2.2.2 (x3 + 1).toNat).toInt)] e3 mo_X11_size rfl lm_L_77 li_X11_size ls_X11_size (by decide +kernel) dL_law_632 rfl (Nat.le_of_ble_eq_true rfl) (ACi.mono (fun v5 σ4 h => ?_) h)
  refine aw_aload_n dL_law_635 rfl rfl ?_
  refine aw_aload_n dL_law_636 rfl rfl ?_
  refine aw_iload_n dL_law_637 rfl rfl ?_
  refine aw_iconst (x := 1) dL_law_638 rfl ?_
  refine aw_iaddc dL_law_639 c1 c1x ?_
  obtain ⟨⟨h0, h1⟩, h⟩ := h
  refine aw_sld hX hb dL_law_640 h0 h1 ?_
  obtain ⟨r6, e7, h⟩ := h
  refine aw_invVi (M := ML_law) (ci := 12) [vI ((g.2.2.2.2.2 (x3 + 1).toNat).toInt)] e7 mo_X12_size rfl lm_L_80 li_X12_size ls_X12_size (by decide +kernel) dL_law_641 rfl (Nat.le_of_ble_eq_true rfl) (ACi.mono (fun v9 σ8 h => ?_) h)
  refine aw_icmp_eq (tgt := 1621) dL_law_644 (by decide) (fun k10 => ?_) (fun k10 => ?_)
  · replace h := h.1 k10
    exact aw_fgt (L' := [some (vA 9999 0), some (vR 11 x1), some (vR 12 x2), some (vI x3)]) ⟨rfl, ⟨rfl, ⟨rfl, ⟨rfl, trivial⟩⟩⟩⟩ h
  · replace h := h.2 k10
    refine aw_iconst (x := 0) dL_law_647 rfl ?_
    exact aw_zreturn dL_law_648 rfl (Or.inl rfl) h
set_option maxRecDepth 4000 in
theorem bk_L_law_649 {g : GP} {l : Launch} {d : Nat} {σ : St} {Q : Option AV → St → Prop} {x1 : Option Nat} {x2 : Option Nat} {x3 : Int} (hX : va_X g.2.2.2.1 g.2.2.2.2.1 g.2.2.2.2.2 (gS g) (gS g).heap) (hb : g.2.2.2.1 < gB g) (hn : g.2.2.2.2.1 < 2147483648)
    (h : R32 (x3 + 1) ∧ ((0 : Int) ≤ (x3 + 1) ∧ (x3 + 1) < (g.2.2.2.2.1 : Int)) ∧ R32 (x3 + 2) ∧ ((0 : Int) ≤ (x3 + 2) ∧ (x3 + 2) < (g.2.2.2.2.1 : Int)) ∧ ∃ r3, x1 = some r3 ∧ ACi g l d MX11_uses [vR 11 (some r3), vI ((g.2.2.2.2.2 (x3 + 1).toNat).toInt), vI ((g.2.2.2.2.2 (x3 + 2).toNat).toInt)] σ (fun v6 σ5 => ((0 : Int) ≤ (x3 + 1) ∧ (x3 + 1) < (g.2.2.2.2.1 : Int)) ∧ ((0 : Int) ≤ (x3 + 2) ∧ (x3 + 2) < (g.2.2.2.2.1 : Int)) ∧ ∃ r7, x2 = some r7 ∧ ACi g l d MX12_uses [vR 12 (some r7), vI ((g.2.2.2.2.2 (x3 + 1).toNat).toInt), vI ((g.2.2.2.2.2 (x3 + 2).toNat).toInt)] σ5 (fun v10 σ9 => ((v6 = v10 → AW g l (d + 1) ML_law 1621 [some (vA 9999 0), some (vR 11 x1), some (vR 12 x2), some (vI x3)] [] σ9 Q) ∧ (¬ v6 = v10 → Q (some (vI 0)) σ9))))) :
    AW g l (d + 1) ML_law 649 [some (vA 9999 0), some (vR 11 x1), some (vR 12 x2), some (vI x3)] [] σ Q := by
  refine aw_aload_n dL_law_649 rfl rfl ?_
  refine aw_aload_n dL_law_650 rfl rfl ?_
  refine aw_iload_n dL_law_651 rfl rfl ?_
  refine aw_iconst (x := 1) dL_law_652 rfl ?_
  obtain ⟨⟨c1, c1x⟩, h⟩ := h
  refine aw_iaddc dL_law_653 c1 c1x ?_
  obtain ⟨⟨h0, h1⟩, h⟩ := h
  refine aw_sld hX hb dL_law_654 h0 h1 ?_
  refine aw_aload_n dL_law_655 rfl rfl ?_
  refine aw_iload_n dL_law_656 rfl rfl ?_
  refine aw_iconst (x := 2) dL_law_657 rfl ?_
  obtain ⟨⟨c2, c2x⟩, h⟩ := h
  refine aw_iaddc dL_law_658 c2 c2x ?_
  obtain ⟨⟨h0, h1⟩, h⟩ := h
  refine aw_sld hX hb dL_law_659 h0 h1 ?_
  obtain ⟨r3, e4, h⟩ := h
  refine aw_invVi (M := ML_law) (ci := 11) [vI ((g.2.2.2.2.2 (x3 + 1).toNat).toInt), vI ((g.2.2.2.2.2 (x3 + 2).toNat).toInt)] e4 mo_X11_uses rfl lm_L_81 li_X11_uses ls_X11_uses (by decide +kernel) dL_law_660 rfl (Nat.le_of_ble_eq_true rfl) (ACi.mono (fun v6 σ5 h => ?_) h)
  refine aw_aload_n dL_law_663 rfl rfl ?_
  refine aw_aload_n dL_law_664 rfl rfl ?_
  refine aw_iload_n dL_law_665 rfl rfl ?_
  refine aw_iconst (x := 1) dL_law_666 rfl ?_
  refine aw_iaddc dL_law_667 c1 c1x ?_
  obtain ⟨⟨h0, h1⟩, h⟩ := h
  refine aw_sld hX hb dL_law_668 h0 h1 ?_
  refine aw_aload_n dL_law_669 rfl rfl ?_
  refine aw_iload_n dL_law_670 rfl rfl ?_
  refine aw_iconst (x := 2) dL_law_671 rfl ?_
  refine aw_iaddc dL_law_672 c2 c2x ?_
  obtain ⟨⟨h0, h1⟩, h⟩ := h
  refine aw_sld hX hb dL_law_673 h0 h1 ?_
  obtain ⟨r7, e8, h⟩ := h
  refine aw_invVi (M := ML_law) (ci := 12) [vI ((g.2.2.2.2.2 (x3 + 1).toNat).toInt), vI ((g.2.2.2.2.2 (x3 + 2).toNat).toInt)] e8 mo_X12_uses rfl lm_L_84 li_X12_uses ls_X12_uses (by decide +kernel) dL_law_674 rfl (Nat.le_of_ble_eq_true rfl) (ACi.mono (fun v10 σ9 h => ?_) h)
  refine aw_icmp_eq (tgt := 1621) dL_law_677 (by decide) (fun k11 => ?_) (fun k11 => ?_)
  · replace h := h.1 k11
    exact aw_fgt (L' := [some (vA 9999 0), some (vR 11 x1), some (vR 12 x2), some (vI x3)]) ⟨rfl, ⟨rfl, ⟨rfl, ⟨rfl, trivial⟩⟩⟩⟩ h
  · replace h := h.2 k11
    refine aw_iconst (x := 0) dL_law_680 rfl ?_
    exact aw_zreturn dL_law_681 rfl (Or.inl rfl) h
set_option maxRecDepth 4000 in
theorem bk_L_law_682 {g : GP} {l : Launch} {d : Nat} {σ : St} {Q : Option AV → St → Prop} {x1 : Option Nat} {x2 : Option Nat} {x3 : Int} (hX : va_X g.2.2.2.1 g.2.2.2.2.1 g.2.2.2.2.2 (gS g) (gS g).heap) (hb : g.2.2.2.1 < gB g) (hn : g.2.2.2.2.1 < 2147483648)
    (h : R32 (x3 + 1) ∧ ((0 : Int) ≤ (x3 + 1) ∧ (x3 + 1) < (g.2.2.2.2.1 : Int)) ∧ R32 (x3 + 2) ∧ ((0 : Int) ≤ (x3 + 2) ∧ (x3 + 2) < (g.2.2.2.2.1 : Int)) ∧ R32 (x3 + 3) ∧ ((0 : Int) ≤ (x3 + 3) ∧ (x3 + 3) < (g.2.2.2.2.1 : Int)) ∧ ∃ r4, x1 = some r4 ∧ ACi g l d MX11_lay [vR 11 (some r4), vI ((g.2.2.2.2.2 (x3 + 1).toNat).toInt), vI ((g.2.2.2.2.2 (x3 + 2).toNat).toInt), vI ((g.2.2.2.2.2 (x3 + 3).toNat).toInt)] σ (fun v7 σ6 => ((0 : Int) ≤ (x3 + 1) ∧ (x3 + 1) < (g.2.2.2.2.1 : Int)) ∧ ((0 : Int) ≤ (x3 + 2) ∧ (x3 + 2) < (g.2.2.2.2.1 : Int)) ∧ ((0 : Int) ≤ (x3 + 3) ∧ (x3 + 3) < (g.2.2.2.2.1 : Int)) ∧ ∃ r8, x2 = some r8 ∧ ACi g l d MX12_lay [vR 12 (some r8), vI ((g.2.2.2.2.2 (x3 + 1).toNat).toInt), vI ((g.2.2.2.2.2 (x3 + 2).toNat).toInt), vI ((g.2.2.2.2.2 (x3 + 3).toNat).toInt)] σ6 (fun v11 σ10 => ((v7 = v11 → AW g l (d + 1) ML_law 1621 [some (vA 9999 0), some (vR 11 x1), some (vR 12 x2), some (vI x3)] [] σ10 Q) ∧ (¬ v7 = v11 → Q (some (vI 0)) σ10))))) :
    AW g l (d + 1) ML_law 682 [some (vA 9999 0), some (vR 11 x1), some (vR 12 x2), some (vI x3)] [] σ Q := by
  refine aw_aload_n dL_law_682 rfl rfl ?_
  refine aw_aload_n dL_law_683 rfl rfl ?_
  refine aw_iload_n dL_law_684 rfl rfl ?_
  refine aw_iconst (x := 1) dL_law_685 rfl ?_
  obtain ⟨⟨c1, c1x⟩, h⟩ := h
  refine aw_iaddc dL_law_686 c1 c1x ?_
  obtain ⟨⟨h0, h1⟩, h⟩ := h
  refine aw_sld hX hb dL_law_687 h0 h1 ?_
  refine aw_aload_n dL_law_688 rfl rfl ?_
  refine aw_iload_n dL_law_689 rfl rfl ?_
  refine aw_iconst (x := 2) dL_law_690 rfl ?_
  obtain ⟨⟨c2, c2x⟩, h⟩ := h
  refine aw_iaddc dL_law_691 c2 c2x ?_
  obtain ⟨⟨h0, h1⟩, h⟩ := h
  refine aw_sld hX hb dL_law_692 h0 h1 ?_
  refine aw_aload_n dL_law_693 rfl rfl ?_
  refine aw_iload_n dL_law_694 rfl rfl ?_
  refine aw_iconst (x := 3) dL_law_695 rfl ?_
  obtain ⟨⟨c3, c3x⟩, h⟩ := h
  refine aw_iaddc dL_law_696 c3 c3x ?_
  obtain ⟨⟨h0, h1⟩, h⟩ := h
  refine aw_sld hX hb dL_law_697 h0 h1 ?_
  obtain ⟨r4, e5, h⟩ := h
  refine aw_invVi (M := ML_law) (ci := 11) [vI ((g.2.2.2.2.2 (x3 + 1).toNat).toInt), vI ((g.2.2.2.2.2 (x3 + 2).toNat).toInt), vI ((g.2.2.2.2.2 (x3 + 3).toNat).toInt)] e5 mo_X11_lay rfl lm_L_85 li_X11_lay ls_X11_lay (by decide +kernel) dL_law_698 rfl (Nat.le_of_ble_eq_true rfl) (ACi.mono (fun v7 σ6 h => ?_) h)
  refine aw_aload_n dL_law_701 rfl rfl ?_
  refine aw_aload_n dL_law_702 rfl rfl ?_
  refine aw_iload_n dL_law_703 rfl rfl ?_
  refine aw_iconst (x := 1) dL_law_704 rfl ?_
  refine aw_iaddc dL_law_705 c1 c1x ?_
  obtain ⟨⟨h0, h1⟩, h⟩ := h
  refine aw_sld hX hb dL_law_706 h0 h1 ?_
  refine aw_aload_n dL_law_707 rfl rfl ?_
  refine aw_iload_n dL_law_708 rfl rfl ?_
  refine aw_iconst (x := 2) dL_law_709 rfl ?_
  refine aw_iaddc dL_law_710 c2 c2x ?_
  obtain ⟨⟨h0, h1⟩, h⟩ := h
  refine aw_sld hX hb dL_law_711 h0 h1 ?_
  refine aw_aload_n dL_law_712 rfl rfl ?_
  refine aw_iload_n dL_law_713 rfl rfl ?_
  refine aw_iconst (x := 3) dL_law_714 rfl ?_
  refine aw_iaddc dL_law_715 c3 c3x ?_
  obtain ⟨⟨h0, h1⟩, h⟩ := h
  refine aw_sld hX hb dL_law_716 h0 h1 ?_
  obtain ⟨r8, e9, h⟩ := h
  refine aw_invVi (M := ML_law) (ci := 12) [vI ((g.2.2.2.2.2 (x3 + 1).toNat).toInt), vI ((g.2.2.2.2.2 (x3 + 2).toNat).toInt), vI ((g.2.2.2.2.2 (x3 + 3).toNat).toInt)] e9 mo_X12_lay rfl lm_L_88 li_X12_lay ls_X12_lay (by decide +kernel) dL_law_717 rfl (Nat.le_of_ble_eq_true rfl) (ACi.mono (fun v11 σ10 h => ?_) h)
  refine aw_icmp_eq (tgt := 1621) dL_law_720 (by decide) (fun k12 => ?_) (fun k12 => ?_)
  · replace h := h.1 k12
    exact aw_fgt (L' := [some (vA 9999 0), some (vR 11 x1), some (vR 12 x2), some (vI x3)]) ⟨rfl, ⟨rfl, ⟨rfl, ⟨rfl, trivial⟩⟩⟩⟩ h
  · replace h := h.2 k12
    refine aw_iconst (x := 0) dL_law_723 rfl ?_
    exact aw_zreturn dL_law_724 rfl (Or.inl rfl) h
set_option maxRecDepth 4000 in
theorem bk_L_law_725 {g : GP} {l : Launch} {d : Nat} {σ : St} {Q : Option AV → St → Prop} {x1 : Option Nat} {x2 : Option Nat} {x3 : Int} (hX : va_X g.2.2.2.1 g.2.2.2.2.1 g.2.2.2.2.2 (gS g) (gS g).heap) (hb : g.2.2.2.1 < gB g) (hn : g.2.2.2.2.1 < 2147483648)
    (h : R32 (x3 + 1) ∧ ((0 : Int) ≤ (x3 + 1) ∧ (x3 + 1) < (g.2.2.2.2.1 : Int)) ∧ ∃ r2, x1 = some r2 ∧ ACi g l d MX11_relay [vR 11 (some r2), vI ((g.2.2.2.2.2 (x3 + 1).toNat).toInt)] σ (fun v5 σ4 => ((0 : Int) ≤ (x3 + 1) ∧ (x3 + 1) < (g.2.2.2.2.1 : Int)) ∧ ∃ r6, x2 = some r6 ∧ ACi g l d MX12_relay [vR 12 (some r6), vI ((g.2.2.2.2.2 (x3 + 1).toNat).toInt)] σ4 (fun v9 σ8 => ((v5 = v9 → AW g l (d + 1) ML_law 1621 [some (vA 9999 0), some (vR 11 x1), some (vR 12 x2), some (vI x3)] [] σ8 Q) ∧ (¬ v5 = v9 → Q (some (vI 0)) σ8))))) :
    AW g l (d + 1) ML_law 725 [some (vA 9999 0), some (vR 11 x1), some (vR 12 x2), some (vI x3)] [] σ Q := by
  refine aw_aload_n dL_law_725 rfl rfl ?_
  refine aw_aload_n dL_law_726 rfl rfl ?_
  refine aw_iload_n dL_law_727 rfl rfl ?_
  refine aw_iconst (x := 1) dL_law_728 rfl ?_
  obtain ⟨⟨c1, c1x⟩, h⟩ := h
  refine aw_iaddc dL_law_729 c1 c1x ?_
  obtain ⟨⟨h0, h1⟩, h⟩ := h
  refine aw_sld hX hb dL_law_730 h0 h1 ?_
  obtain ⟨r2, e3, h⟩ := h
  refine aw_invVi (M := ML_law) (ci := 11) [vI ((g.2.2.2.2.2 (x3 + 1).toNat).toInt)] e3 mo_X11_relay rfl lm_L_89 li_X11_relay ls_X11_relay (by decide +kernel) dL_law_731 rfl (Nat.le_of_ble_eq_true rfl) (ACi.mono (fun v5 σ4 h => ?_) h)
  refine aw_aload_n dL_law_734 rfl rfl ?_
  refine aw_aload_n dL_law_735 rfl rfl ?_
  refine aw_iload_n dL_law_736 rfl rfl ?_
  refine aw_iconst (x := 1) dL_law_737 rfl ?_
  refine aw_iaddc dL_law_738 c1 c1x ?_
  obtain ⟨⟨h0, h1⟩, h⟩ := h
  refine aw_sld hX hb dL_law_739 h0 h1 ?_
  obtain ⟨r6, e7, h⟩ := h
  refine aw_invVi (M := ML_law) (ci := 12) [vI ((g.2.2.2.2.2 (x3 + 1).toNat).toInt)] e7 mo_X12_relay rfl lm_L_92 li_X12_relay ls_X12_relay (by decide +kernel) dL_law_740 rfl (Nat.le_of_ble_eq_true rfl) (ACi.mono (fun v9 σ8 h => ?_) h)
  refine aw_icmp_eq (tgt := 1621) dL_law_743 (by decide) (fun k10 => ?_) (fun k10 => ?_)
  · replace h := h.1 k10
    exact aw_fgt (L' := [some (vA 9999 0), some (vR 11 x1), some (vR 12 x2), some (vI x3)]) ⟨rfl, ⟨rfl, ⟨rfl, ⟨rfl, trivial⟩⟩⟩⟩ h
  · replace h := h.2 k10
    refine aw_iconst (x := 0) dL_law_746 rfl ?_
    exact aw_zreturn dL_law_747 rfl (Or.inl rfl) h
set_option maxRecDepth 4000 in
theorem bk_L_law_748 {g : GP} {l : Launch} {d : Nat} {σ : St} {Q : Option AV → St → Prop} {x1 : Option Nat} {x2 : Option Nat} {x3 : Int} (hX : va_X g.2.2.2.1 g.2.2.2.2.1 g.2.2.2.2.2 (gS g) (gS g).heap) (hb : g.2.2.2.1 < gB g) (hn : g.2.2.2.2.1 < 2147483648)
    (h : ∃ r1, x1 = some r1 ∧ ACi g l d MX11_clear [vR 11 (some r1)] σ (fun v4 σ3 => ∃ r5, x2 = some r5 ∧ ACi g l d MX12_clear [vR 12 (some r5)] σ3 (fun v8 σ7 => ((v4 = v8 → AW g l (d + 1) ML_law 1621 [some (vA 9999 0), some (vR 11 x1), some (vR 12 x2), some (vI x3)] [] σ7 Q) ∧ (¬ v4 = v8 → Q (some (vI 0)) σ7))))) :
    AW g l (d + 1) ML_law 748 [some (vA 9999 0), some (vR 11 x1), some (vR 12 x2), some (vI x3)] [] σ Q := by
  refine aw_aload_n dL_law_748 rfl rfl ?_
  obtain ⟨r1, e2, h⟩ := h
  refine aw_invVi (M := ML_law) (ci := 11) [] e2 mo_X11_clear rfl lm_L_93 li_X11_clear ls_X11_clear (by decide +kernel) dL_law_749 rfl (Nat.le_of_ble_eq_true rfl) (ACi.mono (fun v4 σ3 h => ?_) h)
  refine aw_aload_n dL_law_752 rfl rfl ?_
  obtain ⟨r5, e6, h⟩ := h
  refine aw_invVi (M := ML_law) (ci := 12) [] e6 mo_X12_clear rfl lm_L_96 li_X12_clear ls_X12_clear (by decide +kernel) dL_law_753 rfl (Nat.le_of_ble_eq_true rfl) (ACi.mono (fun v8 σ7 h => ?_) h)
  refine aw_icmp_eq (tgt := 1621) dL_law_756 (by decide) (fun k9 => ?_) (fun k9 => ?_)
  · replace h := h.1 k9
    exact aw_fgt (L' := [some (vA 9999 0), some (vR 11 x1), some (vR 12 x2), some (vI x3)]) ⟨rfl, ⟨rfl, ⟨rfl, ⟨rfl, trivial⟩⟩⟩⟩ h
  · replace h := h.2 k9
    refine aw_iconst (x := 0) dL_law_759 rfl ?_
    exact aw_zreturn dL_law_760 rfl (Or.inl rfl) h
set_option maxRecDepth 4000 in
theorem bk_L_law_761 {g : GP} {l : Launch} {d : Nat} {σ : St} {Q : Option AV → St → Prop} {x1 : Option Nat} {x2 : Option Nat} {x3 : Int} (hX : va_X g.2.2.2.1 g.2.2.2.2.1 g.2.2.2.2.2 (gS g) (gS g).heap) (hb : g.2.2.2.1 < gB g) (hn : g.2.2.2.2.1 < 2147483648)
    (h : R32 (x3 + 1) ∧ ((0 : Int) ≤ (x3 + 1) ∧ (x3 + 1) < (g.2.2.2.2.1 : Int)) ∧ R32 (x3 + 2) ∧ ((0 : Int) ≤ (x3 + 2) ∧ (x3 + 2) < (g.2.2.2.2.1 : Int)) ∧ R32 (x3 + 3) ∧ ((0 : Int) ≤ (x3 + 3) ∧ (x3 + 3) < (g.2.2.2.2.1 : Int)) ∧ ∃ r4, x1 = some r4 ∧ ACi g l d MX11_node [vR 11 (some r4), vI ((g.2.2.2.2.2 (x3 + 1).toNat).toInt), vI ((g.2.2.2.2.2 (x3 + 2).toNat).toInt), vI ((g.2.2.2.2.2 (x3 + 3).toNat).toInt)] σ (fun v7 σ6 => ((0 : Int) ≤ (x3 + 1) ∧ (x3 + 1) < (g.2.2.2.2.1 : Int)) ∧ ((0 : Int) ≤ (x3 + 2) ∧ (x3 + 2) < (g.2.2.2.2.1 : Int)) ∧ ((0 : Int) ≤ (x3 + 3) ∧ (x3 + 3) < (g.2.2.2.2.1 : Int)) ∧ ∃ r8, x2 = some r8 ∧ ACi g l d MX12_node_ [vR 12 (some r8), vI ((g.2.2.2.2.2 (x3 + 1).toNat).toInt), vI ((g.2.2.2.2.2 (x3 + 2).toNat).toInt), vI ((g.2.2.2.2.2 (x3 + 3).toNat).toInt)] σ6 (fun v11 σ10 => ((v7 = v11 → AW g l (d + 1) ML_law 1621 [some (vA 9999 0), some (vR 11 x1), some (vR 12 x2), some (vI x3)] [] σ10 Q) ∧ (¬ v7 = v11 → Q (some (vI 0)) σ10))))) :
    AW g l (d + 1) ML_law 761 [some (vA 9999 0), some (vR 11 x1), some (vR 12 x2), some (vI x3)] [] σ Q := by
  refine aw_aload_n dL_law_761 rfl rfl ?_
  refine aw_aload_n dL_law_762 rfl rfl ?_
  refine aw_iload_n dL_law_763 rfl rfl ?_
  refine aw_iconst (x := 1) dL_law_764 rfl ?_
  obtain ⟨⟨c1, c1x⟩, h⟩ := h
  refine aw_iaddc dL_law_765 c1 c1x ?_
  obtain ⟨⟨h0, h1⟩, h⟩ := h
  refine aw_sld hX hb dL_law_766 h0 h1 ?_
  refine aw_aload_n dL_law_767 rfl rfl ?_
  refine aw_iload_n dL_law_768 rfl rfl ?_
  refine aw_iconst (x := 2) dL_law_769 rfl ?_
  obtain ⟨⟨c2, c2x⟩, h⟩ := h
  refine aw_iaddc dL_law_770 c2 c2x ?_
  obtain ⟨⟨h0, h1⟩, h⟩ := h
  refine aw_sld hX hb dL_law_771 h0 h1 ?_
  refine aw_aload_n dL_law_772 rfl rfl ?_
  refine aw_iload_n dL_law_773 rfl rfl ?_
  refine aw_iconst (x := 3) dL_law_774 rfl ?_
  obtain ⟨⟨c3, c3x⟩, h⟩ := h
  refine aw_iaddc dL_law_775 c3 c3x ?_
  obtain ⟨⟨h0, h1⟩, h⟩ := h
  refine aw_sld hX hb dL_law_776 h0 h1 ?_
  obtain ⟨r4, e5, h⟩ := h
  refine aw_invVi (M := ML_law) (ci := 11) [vI ((g.2.2.2.2.2 (x3 + 1).toNat).toInt), vI ((g.2.2.2.2.2 (x3 + 2).toNat).toInt), vI ((g.2.2.2.2.2 (x3 + 3).toNat).toInt)] e5 mo_X11_node rfl lm_L_97 li_X11_node ls_X11_node (by decide +kernel) dL_law_777 rfl (Nat.le_of_ble_eq_true rfl) (ACi.mono (fun v7 σ6 h => ?_) h)
  refine aw_aload_n dL_law_780 rfl rfl ?_
  refine aw_aload_n dL_law_781 rfl rfl ?_
  refine aw_iload_n dL_law_782 rfl rfl ?_
  refine aw_iconst (x := 1) dL_law_783 rfl ?_
  refine aw_iaddc dL_law_784 c1 c1x ?_
  obtain ⟨⟨h0, h1⟩, h⟩ := h
  refine aw_sld hX hb dL_law_785 h0 h1 ?_
  refine aw_aload_n dL_law_786 rfl rfl ?_
  refine aw_iload_n dL_law_787 rfl rfl ?_
  refine aw_iconst (x := 2) dL_law_788 rfl ?_
  refine aw_iaddc dL_law_789 c2 c2x ?_
  obtain ⟨⟨h0, h1⟩, h⟩ := h
  refine aw_sld hX hb dL_law_790 h0 h1 ?_
  refine aw_aload_n dL_law_791 rfl rfl ?_
  refine aw_iload_n dL_law_792 rfl rfl ?_
  refine aw_iconst (x := 3) dL_law_793 rfl ?_
  refine aw_iaddc dL_law_794 c3 c3x ?_
  obtain ⟨⟨h0, h1⟩, h⟩ := h
  refine aw_sld hX hb dL_law_795 h0 h1 ?_
  obtain ⟨r8, e9, h⟩ := h
  refine aw_invVi (M := ML_law) (ci := 12) [vI ((g.2.2.2.2.2 (x3 + 1).toNat).toInt), vI ((g.2.2.2.2.2 (x3 + 2).toNat).toInt), vI ((g.2.2.2.2.2 (x3 + 3).toNat).toInt)] e9 mo_X12_node_ rfl lm_L_100 li_X12_node_ ls_X12_node_ (by decide +kernel) dL_law_796 rfl (Nat.le_of_ble_eq_true rfl) (ACi.mono (fun v11 σ10 h => ?_) h)
  refine aw_icmp_eq (tgt := 1621) dL_law_799 (by decide) (fun k12 => ?_) (fun k12 => ?_)
  · replace h := h.1 k12
    exact aw_fgt (L' := [some (vA 9999 0), some (vR 11 x1), some (vR 12 x2), some (vI x3)]) ⟨rfl, ⟨rfl, ⟨rfl, ⟨rfl, trivial⟩⟩⟩⟩ h
  · replace h := h.2 k12
    refine aw_iconst (x := 0) dL_law_802 rfl ?_
    exact aw_zreturn dL_law_803 rfl (Or.inl rfl) h
set_option maxRecDepth 4000 in
theorem bk_L_law_804 {g : GP} {l : Launch} {d : Nat} {σ : St} {Q : Option AV → St → Prop} {x1 : Option Nat} {x2 : Option Nat} {x3 : Int} (hX : va_X g.2.2.2.1 g.2.2.2.2.1 g.2.2.2.2.2 (gS g) (gS g).heap) (hb : g.2.2.2.1 < gB g) (hn : g.2.2.2.2.1 < 2147483648)
    (h : R32 (x3 + 1) ∧ ((0 : Int) ≤ (x3 + 1) ∧ (x3 + 1) < (g.2.2.2.2.1 : Int)) ∧ R32 (x3 + 2) ∧ ((0 : Int) ≤ (x3 + 2) ∧ (x3 + 2) < (g.2.2.2.2.1 : Int)) ∧ R32 (x3 + 3) ∧ ((0 : Int) ≤ (x3 + 3) ∧ (x3 + 3) < (g.2.2.2.2.1 : Int)) ∧ ∃ r4, x1 = some r4 ∧ ACi g l d MX11_kid [vR 11 (some r4), vI ((g.2.2.2.2.2 (x3 + 1).toNat).toInt), vI ((g.2.2.2.2.2 (x3 + 2).toNat).toInt), vI ((g.2.2.2.2.2 (x3 + 3).toNat).toInt)] σ (fun v7 σ6 => ((0 : Int) ≤ (x3 + 1) ∧ (x3 + 1) < (g.2.2.2.2.1 : Int)) ∧ ((0 : Int) ≤ (x3 + 2) ∧ (x3 + 2) < (g.2.2.2.2.1 : Int)) ∧ ((0 : Int) ≤ (x3 + 3) ∧ (x3 + 3) < (g.2.2.2.2.1 : Int)) ∧ ∃ r8, x2 = some r8 ∧ ACi g l d MX12_kid [vR 12 (some r8), vI ((g.2.2.2.2.2 (x3 + 1).toNat).toInt), vI ((g.2.2.2.2.2 (x3 + 2).toNat).toInt), vI ((g.2.2.2.2.2 (x3 + 3).toNat).toInt)] σ6 (fun v11 σ10 => ((v7 = v11 → AW g l (d + 1) ML_law 1621 [some (vA 9999 0), some (vR 11 x1), some (vR 12 x2), some (vI x3)] [] σ10 Q) ∧ (¬ v7 = v11 → Q (some (vI 0)) σ10))))) :
    AW g l (d + 1) ML_law 804 [some (vA 9999 0), some (vR 11 x1), some (vR 12 x2), some (vI x3)] [] σ Q := by
  refine aw_aload_n dL_law_804 rfl rfl ?_
  refine aw_aload_n dL_law_805 rfl rfl ?_
  refine aw_iload_n dL_law_806 rfl rfl ?_
  refine aw_iconst (x := 1) dL_law_807 rfl ?_
  obtain ⟨⟨c1, c1x⟩, h⟩ := h
  refine aw_iaddc dL_law_808 c1 c1x ?_
  obtain ⟨⟨h0, h1⟩, h⟩ := h
  refine aw_sld hX hb dL_law_809 h0 h1 ?_
  refine aw_aload_n dL_law_810 rfl rfl ?_
  refine aw_iload_n dL_law_811 rfl rfl ?_
  refine aw_iconst (x := 2) dL_law_812 rfl ?_
  obtain ⟨⟨c2, c2x⟩, h⟩ := h
  refine aw_iaddc dL_law_813 c2 c2x ?_
  obtain ⟨⟨h0, h1⟩, h⟩ := h
  refine aw_sld hX hb dL_law_814 h0 h1 ?_
  refine aw_aload_n dL_law_815 rfl rfl ?_
  refine aw_iload_n dL_law_816 rfl rfl ?_
  refine aw_iconst (x := 3) dL_law_817 rfl ?_
  obtain ⟨⟨c3, c3x⟩, h⟩ := h
  refine aw_iaddc dL_law_818 c3 c3x ?_
  obtain ⟨⟨h0, h1⟩, h⟩ := h
  refine aw_sld hX hb dL_law_819 h0 h1 ?_
  obtain ⟨r4, e5, h⟩ := h
  refine aw_invVi (M := ML_law) (ci := 11) [vI ((g.2.2.2.2.2 (x3 + 1).toNat).toInt), vI ((g.2.2.2.2.2 (x3 + 2).toNat).toInt), vI ((g.2.2.2.2.2 (x3 + 3).toNat).toInt)] e5 mo_X11_kid rfl lm_L_101 li_X11_kid ls_X11_kid (by decide +kernel) dL_law_820 rfl (Nat.le_of_ble_eq_true rfl) (ACi.mono (fun v7 σ6 h => ?_) h)
  refine aw_aload_n dL_law_823 rfl rfl ?_
  refine aw_aload_n dL_law_824 rfl rfl ?_
  refine aw_iload_n dL_law_825 rfl rfl ?_
  refine aw_iconst (x := 1) dL_law_826 rfl ?_
  refine aw_iaddc dL_law_827 c1 c1x ?_
  obtain ⟨⟨h0, h1⟩, h⟩ := h
  refine aw_sld hX hb dL_law_828 h0 h1 ?_
  refine aw_aload_n dL_law_829 rfl rfl ?_
  refine aw_iload_n dL_law_830 rfl rfl ?_
  refine aw_iconst (x := 2) dL_law_831 rfl ?_
  refine aw_iaddc dL_law_832 c2 c2x ?_
  obtain ⟨⟨h0, h1⟩, h⟩ := h
  refine aw_sld hX hb dL_law_833 h0 h1 ?_
  refine aw_aload_n dL_law_834 rfl rfl ?_
  refine aw_iload_n dL_law_835 rfl rfl ?_
  refine aw_iconst (x := 3) dL_law_836 rfl ?_
  refine aw_iaddc dL_law_837 c3 c3x ?_
  obtain ⟨⟨h0, h1⟩, h⟩ := h
  refine aw_sld hX hb dL_law_838 h0 h1 ?_
  obtain ⟨r8, e9, h⟩ := h
  refine aw_invVi (M := ML_law) (ci := 12) [vI ((g.2.2.2.2.2 (x3 + 1).toNat).toInt), vI ((g.2.2.2.2.2 (x3 + 2).toNat).toInt), vI ((g.2.2.2.2.2 (x3 + 3).toNat).toInt)] e9 mo_X12_kid rfl lm_L_104 li_X12_kid ls_X12_kid (by decide +kernel) dL_law_839 rfl (Nat.le_of_ble_eq_true rfl) (ACi.mono (fun v11 σ10 h => ?_) h)
  refine aw_icmp_eq (tgt := 1621) dL_law_842 (by decide) (fun k12 => ?_) (fun k12 => ?_)
  · replace h := h.1 k12
    exact aw_fgt (L' := [some (vA 9999 0), some (vR 11 x1), some (vR 12 x2), some (vI x3)]) ⟨rfl, ⟨rfl, ⟨rfl, ⟨rfl, trivial⟩⟩⟩⟩ h
  · replace h := h.2 k12
    refine aw_iconst (x := 0) dL_law_845 rfl ?_
    exact aw_zreturn dL_law_846 rfl (Or.inl rfl) h
set_option maxRecDepth 4000 in
theorem bk_L_law_847 {g : GP} {l : Launch} {d : Nat} {σ : St} {Q : Option AV → St → Prop} {x1 : Option Nat} {x2 : Option Nat} {x3 : Int} (hX : va_X g.2.2.2.1 g.2.2.2.2.1 g.2.2.2.2.2 (gS g) (gS g).heap) (hb : g.2.2.2.1 < gB g) (hn : g.2.2.2.2.1 < 2147483648)
    (h : R32 (x3 + 1) ∧ ((0 : Int) ≤ (x3 + 1) ∧ (x3 + 1) < (g.2.2.2.2.1 : Int)) ∧ R32 (x3 + 2) ∧ ((0 : Int) ≤ (x3 + 2) ∧ (x3 + 2) < (g.2.2.2.2.1 : Int)) ∧ ∃ r3, x1 = some r3 ∧ ACj g l d MX11_value [vR 11 (some r3), vI ((g.2.2.2.2.2 (x3 + 1).toNat).toInt), vI ((g.2.2.2.2.2 (x3 + 2).toNat).toInt)] σ (fun v6 σ5 => ((0 : Int) ≤ (x3 + 1) ∧ (x3 + 1) < (g.2.2.2.2.1 : Int)) ∧ ((0 : Int) ≤ (x3 + 2) ∧ (x3 + 2) < (g.2.2.2.2.1 : Int)) ∧ ∃ r7, x2 = some r7 ∧ ACj g l d MX12_value [vR 12 (some r7), vI ((g.2.2.2.2.2 (x3 + 1).toNat).toInt), vI ((g.2.2.2.2.2 (x3 + 2).toNat).toInt)] σ5 (fun v10 σ9 => ((v6 = v10 → AW g l (d + 1) ML_law 1621 [some (vA 9999 0), some (vR 11 x1), some (vR 12 x2), some (vI x3)] [] σ9 Q) ∧ (¬ v6 = v10 → Q (some (vI 0)) σ9))))) :
    AW g l (d + 1) ML_law 847 [some (vA 9999 0), some (vR 11 x1), some (vR 12 x2), some (vI x3)] [] σ Q := by
  refine aw_aload_n dL_law_847 rfl rfl ?_
  refine aw_aload_n dL_law_848 rfl rfl ?_
  refine aw_iload_n dL_law_849 rfl rfl ?_
  refine aw_iconst (x := 1) dL_law_850 rfl ?_
  obtain ⟨⟨c1, c1x⟩, h⟩ := h
  refine aw_iaddc dL_law_851 c1 c1x ?_
  obtain ⟨⟨h0, h1⟩, h⟩ := h
  refine aw_sld hX hb dL_law_852 h0 h1 ?_
  refine aw_aload_n dL_law_853 rfl rfl ?_
  refine aw_iload_n dL_law_854 rfl rfl ?_
  refine aw_iconst (x := 2) dL_law_855 rfl ?_
  obtain ⟨⟨c2, c2x⟩, h⟩ := h
  refine aw_iaddc dL_law_856 c2 c2x ?_
  obtain ⟨⟨h0, h1⟩, h⟩ := h
  refine aw_sld hX hb dL_law_857 h0 h1 ?_
  obtain ⟨r3, e4, h⟩ := h
  refine aw_invVj (M := ML_law) (ci := 11) [vI ((g.2.2.2.2.2 (x3 + 1).toNat).toInt), vI ((g.2.2.2.2.2 (x3 + 2).toNat).toInt)] e4 mo_X11_value rfl lm_L_105 li_X11_value ls_X11_value (by decide +kernel) dL_law_858 rfl (Nat.le_of_ble_eq_true rfl) (ACj.mono (fun v6 σ5 h => ?_) h)
  refine aw_aload_n dL_law_861 rfl rfl ?_
  refine aw_aload_n dL_law_862 rfl rfl ?_
  refine aw_iload_n dL_law_863 rfl rfl ?_
  refine aw_iconst (x := 1) dL_law_864 rfl ?_
  refine aw_iaddc dL_law_865 c1 c1x ?_
  obtain ⟨⟨h0, h1⟩, h⟩ := h
  refine aw_sld hX hb dL_law_866 h0 h1 ?_
  refine aw_aload_n dL_law_867 rfl rfl ?_
  refine aw_iload_n dL_law_868 rfl rfl ?_
  refine aw_iconst (x := 2) dL_law_869 rfl ?_
  refine aw_iaddc dL_law_870 c2 c2x ?_
  obtain ⟨⟨h0, h1⟩, h⟩ := h
  refine aw_sld hX hb dL_law_871 h0 h1 ?_
  obtain ⟨r7, e8, h⟩ := h
  refine aw_invVj (M := ML_law) (ci := 12) [vI ((g.2.2.2.2.2 (x3 + 1).toNat).toInt), vI ((g.2.2.2.2.2 (x3 + 2).toNat).toInt)] e8 mo_X12_value rfl lm_L_109 li_X12_value ls_X12_value (by decide +kernel) dL_law_872 rfl (Nat.le_of_ble_eq_true rfl) (ACj.mono (fun v10 σ9 h => ?_) h)
  refine aw_lcmp_eq (M := ML_law) (tgt := 1621) dL_law_875 dL_law_876 (by decide) (fun k11 => ?_) (fun k11 => ?_)
  · replace h := h.1 k11
    exact aw_fgt (L' := [some (vA 9999 0), some (vR 11 x1), some (vR 12 x2), some (vI x3)]) ⟨rfl, ⟨rfl, ⟨rfl, ⟨rfl, trivial⟩⟩⟩⟩ h
  · replace h := h.2 k11
    refine aw_iconst (x := 0) dL_law_879 rfl ?_
    exact aw_zreturn dL_law_880 rfl (Or.inl rfl) h
set_option maxRecDepth 4000 in
theorem bk_L_law_881 {g : GP} {l : Launch} {d : Nat} {σ : St} {Q : Option AV → St → Prop} {x1 : Option Nat} {x2 : Option Nat} {x3 : Int} (hX : va_X g.2.2.2.1 g.2.2.2.2.1 g.2.2.2.2.2 (gS g) (gS g).heap) (hb : g.2.2.2.1 < gB g) (hn : g.2.2.2.2.1 < 2147483648)
    (h : R32 (x3 + 1) ∧ ((0 : Int) ≤ (x3 + 1) ∧ (x3 + 1) < (g.2.2.2.2.1 : Int)) ∧ R32 (x3 + 2) ∧ ((0 : Int) ≤ (x3 + 2) ∧ (x3 + 2) < (g.2.2.2.2.1 : Int)) ∧ R32 (x3 + 3) ∧ ((0 : Int) ≤ (x3 + 3) ∧ (x3 + 3) < (g.2.2.2.2.1 : Int)) ∧ ∃ r4, x1 = some r4 ∧ ACi g l d MX11_sign [vR 11 (some r4), vI ((g.2.2.2.2.2 (x3 + 1).toNat).toInt), vI ((g.2.2.2.2.2 (x3 + 2).toNat).toInt), vI ((g.2.2.2.2.2 (x3 + 3).toNat).toInt)] σ (fun v7 σ6 => ((0 : Int) ≤ (x3 + 1) ∧ (x3 + 1) < (g.2.2.2.2.1 : Int)) ∧ ((0 : Int) ≤ (x3 + 2) ∧ (x3 + 2) < (g.2.2.2.2.1 : Int)) ∧ ((0 : Int) ≤ (x3 + 3) ∧ (x3 + 3) < (g.2.2.2.2.1 : Int)) ∧ ∃ r8, x2 = some r8 ∧ ACi g l d MX12_sign_ [vR 12 (some r8), vI ((g.2.2.2.2.2 (x3 + 1).toNat).toInt), vI ((g.2.2.2.2.2 (x3 + 2).toNat).toInt), vI ((g.2.2.2.2.2 (x3 + 3).toNat).toInt)] σ6 (fun v11 σ10 => ((v7 = v11 → AW g l (d + 1) ML_law 1621 [some (vA 9999 0), some (vR 11 x1), some (vR 12 x2), some (vI x3)] [] σ10 Q) ∧ (¬ v7 = v11 → Q (some (vI 0)) σ10))))) :
    AW g l (d + 1) ML_law 881 [some (vA 9999 0), some (vR 11 x1), some (vR 12 x2), some (vI x3)] [] σ Q := by
  refine aw_aload_n dL_law_881 rfl rfl ?_
  refine aw_aload_n dL_law_882 rfl rfl ?_
  refine aw_iload_n dL_law_883 rfl rfl ?_
  refine aw_iconst (x := 1) dL_law_884 rfl ?_
  obtain ⟨⟨c1, c1x⟩, h⟩ := h
  refine aw_iaddc dL_law_885 c1 c1x ?_
  obtain ⟨⟨h0, h1⟩, h⟩ := h
  refine aw_sld hX hb dL_law_886 h0 h1 ?_
  refine aw_aload_n dL_law_887 rfl rfl ?_
  refine aw_iload_n dL_law_888 rfl rfl ?_
  refine aw_iconst (x := 2) dL_law_889 rfl ?_
  obtain ⟨⟨c2, c2x⟩, h⟩ := h
  refine aw_iaddc dL_law_890 c2 c2x ?_
  obtain ⟨⟨h0, h1⟩, h⟩ := h
  refine aw_sld hX hb dL_law_891 h0 h1 ?_
  refine aw_aload_n dL_law_892 rfl rfl ?_
  refine aw_iload_n dL_law_893 rfl rfl ?_
  refine aw_iconst (x := 3) dL_law_894 rfl ?_
  obtain ⟨⟨c3, c3x⟩, h⟩ := h
  refine aw_iaddc dL_law_895 c3 c3x ?_
  obtain ⟨⟨h0, h1⟩, h⟩ := h
  refine aw_sld hX hb dL_law_896 h0 h1 ?_
  obtain ⟨r4, e5, h⟩ := h
  refine aw_invVi (M := ML_law) (ci := 11) [vI ((g.2.2.2.2.2 (x3 + 1).toNat).toInt), vI ((g.2.2.2.2.2 (x3 + 2).toNat).toInt), vI ((g.2.2.2.2.2 (x3 + 3).toNat).toInt)] e5 mo_X11_sign rfl lm_L_110 li_X11_sign ls_X11_sign (by decide +kernel) dL_law_897 rfl (Nat.le_of_ble_eq_true rfl) (ACi.mono (fun v7 σ6 h => ?_) h)
  refine aw_aload_n dL_law_900 rfl rfl ?_
  refine aw_aload_n dL_law_901 rfl rfl ?_
  refine aw_iload_n dL_law_902 rfl rfl ?_
  refine aw_iconst (x := 1) dL_law_903 rfl ?_
  refine aw_iaddc dL_law_904 c1 c1x ?_
  obtain ⟨⟨h0, h1⟩, h⟩ := h
  refine aw_sld hX hb dL_law_905 h0 h1 ?_
  refine aw_aload_n dL_law_906 rfl rfl ?_
  refine aw_iload_n dL_law_907 rfl rfl ?_
  refine aw_iconst (x := 2) dL_law_908 rfl ?_
  refine aw_iaddc dL_law_909 c2 c2x ?_
  obtain ⟨⟨h0, h1⟩, h⟩ := h
  refine aw_sld hX hb dL_law_910 h0 h1 ?_
  refine aw_aload_n dL_law_911 rfl rfl ?_
  refine aw_iload_n dL_law_912 rfl rfl ?_
  refine aw_iconst (x := 3) dL_law_913 rfl ?_
  refine aw_iaddc dL_law_914 c3 c3x ?_
  obtain ⟨⟨h0, h1⟩, h⟩ := h
  refine aw_sld hX hb dL_law_915 h0 h1 ?_
  obtain ⟨r8, e9, h⟩ := h
  refine aw_invVi (M := ML_law) (ci := 12) [vI ((g.2.2.2.2.2 (x3 + 1).toNat).toInt), vI ((g.2.2.2.2.2 (x3 + 2).toNat).toInt), vI ((g.2.2.2.2.2 (x3 + 3).toNat).toInt)] e9 mo_X12_sign_ rfl lm_L_113 li_X12_sign_ ls_X12_sign_ (by decide +kernel) dL_law_916 rfl (Nat.le_of_ble_eq_true rfl) (ACi.mono (fun v11 σ10 h => ?_) h)
  refine aw_icmp_eq (tgt := 1621) dL_law_919 (by decide) (fun k12 => ?_) (fun k12 => ?_)
  · replace h := h.1 k12
    exact aw_fgt (L' := [some (vA 9999 0), some (vR 11 x1), some (vR 12 x2), some (vI x3)]) ⟨rfl, ⟨rfl, ⟨rfl, ⟨rfl, trivial⟩⟩⟩⟩ h
  · replace h := h.2 k12
    refine aw_iconst (x := 0) dL_law_922 rfl ?_
    exact aw_zreturn dL_law_923 rfl (Or.inl rfl) h
set_option maxRecDepth 4000 in
theorem bk_L_law_924 {g : GP} {l : Launch} {d : Nat} {σ : St} {Q : Option AV → St → Prop} {x1 : Option Nat} {x2 : Option Nat} {x3 : Int} (hX : va_X g.2.2.2.1 g.2.2.2.2.1 g.2.2.2.2.2 (gS g) (gS g).heap) (hb : g.2.2.2.1 < gB g) (hn : g.2.2.2.2.1 < 2147483648)
    (h : R32 (x3 + 1) ∧ ((0 : Int) ≤ (x3 + 1) ∧ (x3 + 1) < (g.2.2.2.2.1 : Int)) ∧ R32 (x3 + 2) ∧ ((0 : Int) ≤ (x3 + 2) ∧ (x3 + 2) < (g.2.2.2.2.1 : Int)) ∧ R32 (x3 + 3) ∧ ((0 : Int) ≤ (x3 + 3) ∧ (x3 + 3) < (g.2.2.2.2.1 : Int)) ∧ R32 (x3 + 4) ∧ ((0 : Int) ≤ (x3 + 4) ∧ (x3 + 4) < (g.2.2.2.2.1 : Int)) ∧ ∃ r5, x1 = some r5 ∧ ACi g l d MX11_letter [vR 11 (some r5), vI ((g.2.2.2.2.2 (x3 + 1).toNat).toInt), vI ((g.2.2.2.2.2 (x3 + 2).toNat).toInt), vI ((g.2.2.2.2.2 (x3 + 3).toNat).toInt), vI ((g.2.2.2.2.2 (x3 + 4).toNat).toInt)] σ (fun v8 σ7 => ((0 : Int) ≤ (x3 + 1) ∧ (x3 + 1) < (g.2.2.2.2.1 : Int)) ∧ ((0 : Int) ≤ (x3 + 2) ∧ (x3 + 2) < (g.2.2.2.2.1 : Int)) ∧ ((0 : Int) ≤ (x3 + 3) ∧ (x3 + 3) < (g.2.2.2.2.1 : Int)) ∧ ((0 : Int) ≤ (x3 + 4) ∧ (x3 + 4) < (g.2.2.2.2.1 : Int)) ∧ ∃ r9, x2 = some r9 ∧ ACi g l d MX12_letter_ [vR 12 (some r9), vI ((g.2.2.2.2.2 (x3 + 1).toNat).toInt), vI ((g.2.2.2.2.2 (x3 + 2).toNat).toInt), vI ((g.2.2.2.2.2 (x3 + 3).toNat).toInt), vI ((g.2.2.2.2.2 (x3 + 4).toNat).toInt)] σ7 (fun v12 σ11 => ((v8 = v12 → AW g l (d + 1) ML_law 1621 [some (vA 9999 0), some (vR 11 x1), some (vR 12 x2), some (vI x3)] [] σ11 Q) ∧ (¬ v8 = v12 → Q (some (vI 0)) σ11))))) :
    AW g l (d + 1) ML_law 924 [some (vA 9999 0), some (vR 11 x1), some (vR 12 x2), some (vI x3)] [] σ Q := by
  refine aw_aload_n dL_law_924 rfl rfl ?_
  refine aw_aload_n dL_law_925 rfl rfl ?_
  refine aw_iload_n dL_law_926 rfl rfl ?_
  refine aw_iconst (x := 1) dL_law_927 rfl ?_
  obtain ⟨⟨c1, c1x⟩, h⟩ := h
  refine aw_iaddc dL_law_928 c1 c1x ?_
  obtain ⟨⟨h0, h1⟩, h⟩ := h
  refine aw_sld hX hb dL_law_929 h0 h1 ?_
  refine aw_aload_n dL_law_930 rfl rfl ?_
  refine aw_iload_n dL_law_931 rfl rfl ?_
  refine aw_iconst (x := 2) dL_law_932 rfl ?_
  obtain ⟨⟨c2, c2x⟩, h⟩ := h
  refine aw_iaddc dL_law_933 c2 c2x ?_
  obtain ⟨⟨h0, h1⟩, h⟩ := h
  refine aw_sld hX hb dL_law_934 h0 h1 ?_
  refine aw_aload_n dL_law_935 rfl rfl ?_
  refine aw_iload_n dL_law_936 rfl rfl ?_
  refine aw_iconst (x := 3) dL_law_937 rfl ?_
  obtain ⟨⟨c3, c3x⟩, h⟩ := h
  refine aw_iaddc dL_law_938 c3 c3x ?_
  obtain ⟨⟨h0, h1⟩, h⟩ := h
  refine aw_sld hX hb dL_law_939 h0 h1 ?_
  refine aw_aload_n dL_law_940 rfl rfl ?_
  refine aw_iload_n dL_law_941 rfl rfl ?_
  refine aw_iconst (x := 4) dL_law_942 rfl ?_
  obtain ⟨⟨c4, c4x⟩, h⟩ := h
  refine aw_iaddc dL_law_943 c4 c4x ?_
  obtain ⟨⟨h0, h1⟩, h⟩ := h
  refine aw_sld hX hb dL_law_944 h0 h1 ?_
  obtain ⟨r5, e6, h⟩ := h
  refine aw_invVi (M := ML_law) (ci := 11) [vI ((g.2.2.2.2.2 (x3 + 1).toNat).toInt), vI ((g.2.2.2.2.2 (x3 + 2).toNat).toInt), vI ((g.2.2.2.2.2 (x3 + 3).toNat).toInt), vI ((g.2.2.2.2.2 (x3 + 4).toNat).toInt)] e6 mo_X11_letter rfl lm_L_114 li_X11_letter ls_X11_letter (by decide +kernel) dL_law_945 rfl (Nat.le_of_ble_eq_true rfl) (ACi.mono (fun v8 σ7 h => ?_) h)
  refine aw_aload_n dL_law_948 rfl rfl ?_
  refine aw_aload_n dL_law_949 rfl rfl ?_
  refine aw_iload_n dL_law_950 rfl rfl ?_
  refine aw_iconst (x := 1) dL_law_951 rfl ?_
  refine aw_iaddc dL_law_952 c1 c1x ?_
  obtain ⟨⟨h0, h1⟩, h⟩ := h
  refine aw_sld hX hb dL_law_953 h0 h1 ?_
  refine aw_aload_n dL_law_954 rfl rfl ?_
  refine aw_iload_n dL_law_955 rfl rfl ?_
  refine aw_iconst (x := 2) dL_law_956 rfl ?_
  refine aw_iaddc dL_law_957 c2 c2x ?_
  obtain ⟨⟨h0, h1⟩, h⟩ := h
  refine aw_sld hX hb dL_law_958 h0 h1 ?_
  refine aw_aload_n dL_law_959 rfl rfl ?_
  refine aw_iload_n dL_law_960 rfl rfl ?_
  refine aw_iconst (x := 3) dL_law_961 rfl ?_
  refine aw_iaddc dL_law_962 c3 c3x ?_
  obtain ⟨⟨h0, h1⟩, h⟩ := h
  refine aw_sld hX hb dL_law_963 h0 h1 ?_
  refine aw_aload_n dL_law_964 rfl rfl ?_
  refine aw_iload_n dL_law_965 rfl rfl ?_
  refine aw_iconst (x := 4) dL_law_966 rfl ?_
  refine aw_iaddc dL_law_967 c4 c4x ?_
  obtain ⟨⟨h0, h1⟩, h⟩ := h
  refine aw_sld hX hb dL_law_968 h0 h1 ?_
  obtain ⟨r9, e10, h⟩ := h
  refine aw_invVi (M := ML_law) (ci := 12) [vI ((g.2.2.2.2.2 (x3 + 1).toNat).toInt), vI ((g.2.2.2.2.2 (x3 + 2).toNat).toInt), vI ((g.2.2.2.2.2 (x3 + 3).toNat).toInt), vI ((g.2.2.2.2.2 (x3 + 4).toNat).toInt)] e10 mo_X12_letter_ rfl lm_L_118 li_X12_letter_ ls_X12_letter_ (by decide +kernel) dL_law_969 rfl (Nat.le_of_ble_eq_true rfl) (ACi.mono (fun v12 σ11 h => ?_) h)
  refine aw_icmp_eq (tgt := 1621) dL_law_972 (by decide) (fun k13 => ?_) (fun k13 => ?_)
  · replace h := h.1 k13
    exact aw_fgt (L' := [some (vA 9999 0), some (vR 11 x1), some (vR 12 x2), some (vI x3)]) ⟨rfl, ⟨rfl, ⟨rfl, ⟨rfl, trivial⟩⟩⟩⟩ h
  · replace h := h.2 k13
    refine aw_iconst (x := 0) dL_law_975 rfl ?_
    exact aw_zreturn dL_law_976 rfl (Or.inl rfl) h
set_option maxRecDepth 4000 in
theorem bk_L_law_977 {g : GP} {l : Launch} {d : Nat} {σ : St} {Q : Option AV → St → Prop} {x1 : Option Nat} {x2 : Option Nat} {x3 : Int} (hX : va_X g.2.2.2.1 g.2.2.2.2.1 g.2.2.2.2.2 (gS g) (gS g).heap) (hb : g.2.2.2.1 < gB g) (hn : g.2.2.2.2.1 < 2147483648)
    (h : R32 (x3 + 1) ∧ ((0 : Int) ≤ (x3 + 1) ∧ (x3 + 1) < (g.2.2.2.2.1 : Int)) ∧ R32 (x3 + 2) ∧ ((0 : Int) ≤ (x3 + 2) ∧ (x3 + 2) < (g.2.2.2.2.1 : Int)) ∧ ∃ r3, x1 = some r3 ∧ ACi g l d MX11_faults [vR 11 (some r3), vI ((g.2.2.2.2.2 (x3 + 1).toNat).toInt), vI ((g.2.2.2.2.2 (x3 + 2).toNat).toInt)] σ (fun v6 σ5 => ((0 : Int) ≤ (x3 + 1) ∧ (x3 + 1) < (g.2.2.2.2.1 : Int)) ∧ ((0 : Int) ≤ (x3 + 2) ∧ (x3 + 2) < (g.2.2.2.2.1 : Int)) ∧ ∃ r7, x2 = some r7 ∧ ACi g l d MX12_faults [vR 12 (some r7), vI ((g.2.2.2.2.2 (x3 + 1).toNat).toInt), vI ((g.2.2.2.2.2 (x3 + 2).toNat).toInt)] σ5 (fun v10 σ9 => ((v6 = v10 → AW g l (d + 1) ML_law 1621 [some (vA 9999 0), some (vR 11 x1), some (vR 12 x2), some (vI x3)] [] σ9 Q) ∧ (¬ v6 = v10 → Q (some (vI 0)) σ9))))) :
    AW g l (d + 1) ML_law 977 [some (vA 9999 0), some (vR 11 x1), some (vR 12 x2), some (vI x3)] [] σ Q := by
  refine aw_aload_n dL_law_977 rfl rfl ?_
  refine aw_aload_n dL_law_978 rfl rfl ?_
  refine aw_iload_n dL_law_979 rfl rfl ?_
  refine aw_iconst (x := 1) dL_law_980 rfl ?_
  obtain ⟨⟨c1, c1x⟩, h⟩ := h
  refine aw_iaddc dL_law_981 c1 c1x ?_
  obtain ⟨⟨h0, h1⟩, h⟩ := h
  refine aw_sld hX hb dL_law_982 h0 h1 ?_
  refine aw_aload_n dL_law_983 rfl rfl ?_
  refine aw_iload_n dL_law_984 rfl rfl ?_
  refine aw_iconst (x := 2) dL_law_985 rfl ?_
  obtain ⟨⟨c2, c2x⟩, h⟩ := h
  refine aw_iaddc dL_law_986 c2 c2x ?_
  obtain ⟨⟨h0, h1⟩, h⟩ := h
  refine aw_sld hX hb dL_law_987 h0 h1 ?_
  obtain ⟨r3, e4, h⟩ := h
  refine aw_invVi (M := ML_law) (ci := 11) [vI ((g.2.2.2.2.2 (x3 + 1).toNat).toInt), vI ((g.2.2.2.2.2 (x3 + 2).toNat).toInt)] e4 mo_X11_faults rfl lm_L_119 li_X11_faults ls_X11_faults (by decide +kernel) dL_law_988 rfl (Nat.le_of_ble_eq_true rfl) (ACi.mono (fun v6 σ5 h => ?_) h)
  refine aw_aload_n dL_law_991 rfl rfl ?_
  refine aw_aload_n dL_law_992 rfl rfl ?_
  refine aw_iload_n dL_law_993 rfl rfl ?_
  refine aw_iconst (x := 1) dL_law_994 rfl ?_
  refine aw_iaddc dL_law_995 c1 c1x ?_
  obtain ⟨⟨h0, h1⟩, h⟩ := h
  refine aw_sld hX hb dL_law_996 h0 h1 ?_
  refine aw_aload_n dL_law_997 rfl rfl ?_
  refine aw_iload_n dL_law_998 rfl rfl ?_
  refine aw_iconst (x := 2) dL_law_999 rfl ?_
  refine aw_iaddc dL_law_1000 c2 c2x ?_
  obtain ⟨⟨h0, h1⟩, h⟩ := h
  refine aw_sld hX hb dL_law_1001 h0 h1 ?_
  obtain ⟨r7, e8, h⟩ := h
  refine aw_invVi (M := ML_law) (ci := 12) [vI ((g.2.2.2.2.2 (x3 + 1).toNat).toInt), vI ((g.2.2.2.2.2 (x3 + 2).toNat).toInt)] e8 mo_X12_faults rfl lm_L_122 li_X12_faults ls_X12_faults (by decide +kernel) dL_law_1002 rfl (Nat.le_of_ble_eq_true rfl) (ACi.mono (fun v10 σ9 h => ?_) h)
  refine aw_icmp_eq (tgt := 1621) dL_law_1005 (by decide) (fun k11 => ?_) (fun k11 => ?_)
  · replace h := h.1 k11
    exact aw_fgt (L' := [some (vA 9999 0), some (vR 11 x1), some (vR 12 x2), some (vI x3)]) ⟨rfl, ⟨rfl, ⟨rfl, ⟨rfl, trivial⟩⟩⟩⟩ h
  · replace h := h.2 k11
    refine aw_iconst (x := 0) dL_law_1008 rfl ?_
    exact aw_zreturn dL_law_1009 rfl (Or.inl rfl) h
set_option maxRecDepth 4000 in
theorem bk_L_law_1010 {g : GP} {l : Launch} {d : Nat} {σ : St} {Q : Option AV → St → Prop} {x1 : Option Nat} {x2 : Option Nat} {x3 : Int} (hX : va_X g.2.2.2.1 g.2.2.2.2.1 g.2.2.2.2.2 (gS g) (gS g).heap) (hb : g.2.2.2.1 < gB g) (hn : g.2.2.2.2.1 < 2147483648)
    (h : R32 (x3 + 1) ∧ ((0 : Int) ≤ (x3 + 1) ∧ (x3 + 1) < (g.2.2.2.2.1 : Int)) ∧ ∃ r2, x1 = some r2 ∧ ACi g l d MX11_find [vR 11 (some r2), vI ((g.2.2.2.2.2 (x3 + 1).toNat).toInt)] σ (fun v5 σ4 => ((0 : Int) ≤ (x3 + 1) ∧ (x3 + 1) < (g.2.2.2.2.1 : Int)) ∧ ∃ r6, x2 = some r6 ∧ ACi g l d MX12_find [vR 12 (some r6), vI ((g.2.2.2.2.2 (x3 + 1).toNat).toInt)] σ4 (fun v9 σ8 => ((v5 = v9 → AW g l (d + 1) ML_law 1621 [some (vA 9999 0), some (vR 11 x1), some (vR 12 x2), some (vI x3)] [] σ8 Q) ∧ (¬ v5 = v9 → Q (some (vI 0)) σ8))))) :
    AW g l (d + 1) ML_law 1010 [some (vA 9999 0), some (vR 11 x1), some (vR 12 x2), some (vI x3)] [] σ Q := by
  refine aw_aload_n dL_law_1010 rfl rfl ?_
  refine aw_aload_n dL_law_1011 rfl rfl ?_
  refine aw_iload_n dL_law_1012 rfl rfl ?_
  refine aw_iconst (x := 1) dL_law_1013 rfl ?_
  obtain ⟨⟨c1, c1x⟩, h⟩ := h
  refine aw_iaddc dL_law_1014 c1 c1x ?_
  obtain ⟨⟨h0, h1⟩, h⟩ := h
  refine aw_sld hX hb dL_law_1015 h0 h1 ?_
  obtain ⟨r2, e3, h⟩ := h
  refine aw_invVi (M := ML_law) (ci := 11) [vI ((g.2.2.2.2.2 (x3 + 1).toNat).toInt)] e3 mo_X11_find rfl lm_L_123 li_X11_find ls_X11_find (by decide +kernel) dL_law_1016 rfl (Nat.le_of_ble_eq_true rfl) (ACi.mono (fun v5 σ4 h => ?_) h)
  refine aw_aload_n dL_law_1019 rfl rfl ?_
  refine aw_aload_n dL_law_1020 rfl rfl ?_
  refine aw_iload_n dL_law_1021 rfl rfl ?_
  refine aw_iconst (x := 1) dL_law_1022 rfl ?_
  refine aw_iaddc dL_law_1023 c1 c1x ?_
  obtain ⟨⟨h0, h1⟩, h⟩ := h
  refine aw_sld hX hb dL_law_1024 h0 h1 ?_
  obtain ⟨r6, e7, h⟩ := h
  refine aw_invVi (M := ML_law) (ci := 12) [vI ((g.2.2.2.2.2 (x3 + 1).toNat).toInt)] e7 mo_X12_find rfl lm_L_126 li_X12_find ls_X12_find (by decide +kernel) dL_law_1025 rfl (Nat.le_of_ble_eq_true rfl) (ACi.mono (fun v9 σ8 h => ?_) h)
  refine aw_icmp_eq (tgt := 1621) dL_law_1028 (by decide) (fun k10 => ?_) (fun k10 => ?_)
  · replace h := h.1 k10
    exact aw_fgt (L' := [some (vA 9999 0), some (vR 11 x1), some (vR 12 x2), some (vI x3)]) ⟨rfl, ⟨rfl, ⟨rfl, ⟨rfl, trivial⟩⟩⟩⟩ h
  · replace h := h.2 k10
    refine aw_iconst (x := 0) dL_law_1031 rfl ?_
    exact aw_zreturn dL_law_1032 rfl (Or.inl rfl) h
set_option maxRecDepth 4000 in
theorem bk_L_law_1033 {g : GP} {l : Launch} {d : Nat} {σ : St} {Q : Option AV → St → Prop} {x1 : Option Nat} {x2 : Option Nat} {x3 : Int} (hX : va_X g.2.2.2.1 g.2.2.2.2.1 g.2.2.2.2.2 (gS g) (gS g).heap) (hb : g.2.2.2.1 < gB g) (hn : g.2.2.2.2.1 < 2147483648)
    (h : R32 (x3 + 1) ∧ ((0 : Int) ≤ (x3 + 1) ∧ (x3 + 1) < (g.2.2.2.2.1 : Int)) ∧ R32 (x3 + 2) ∧ ((0 : Int) ≤ (x3 + 2) ∧ (x3 + 2) < (g.2.2.2.2.1 : Int)) ∧ ∃ r3, x1 = some r3 ∧ ACi g l d MX11_evaluate [vR 11 (some r3), vI ((g.2.2.2.2.2 (x3 + 1).toNat).toInt), vI ((g.2.2.2.2.2 (x3 + 2).toNat).toInt)] σ (fun v6 σ5 => ((0 : Int) ≤ (x3 + 1) ∧ (x3 + 1) < (g.2.2.2.2.1 : Int)) ∧ ((0 : Int) ≤ (x3 + 2) ∧ (x3 + 2) < (g.2.2.2.2.1 : Int)) ∧ ∃ r7, x2 = some r7 ∧ ACi g l d MX12_evaluate [vR 12 (some r7), vI ((g.2.2.2.2.2 (x3 + 1).toNat).toInt), vI ((g.2.2.2.2.2 (x3 + 2).toNat).toInt)] σ5 (fun v10 σ9 => ((v6 = v10 → AW g l (d + 1) ML_law 1621 [some (vA 9999 0), some (vR 11 x1), some (vR 12 x2), some (vI x3)] [] σ9 Q) ∧ (¬ v6 = v10 → Q (some (vI 0)) σ9))))) :
    AW g l (d + 1) ML_law 1033 [some (vA 9999 0), some (vR 11 x1), some (vR 12 x2), some (vI x3)] [] σ Q := by
  refine aw_aload_n dL_law_1033 rfl rfl ?_
  refine aw_aload_n dL_law_1034 rfl rfl ?_
  refine aw_iload_n dL_law_1035 rfl rfl ?_
  refine aw_iconst (x := 1) dL_law_1036 rfl ?_
  obtain ⟨⟨c1, c1x⟩, h⟩ := h
  refine aw_iaddc dL_law_1037 c1 c1x ?_
  obtain ⟨⟨h0, h1⟩, h⟩ := h
  refine aw_sld hX hb dL_law_1038 h0 h1 ?_
  refine aw_aload_n dL_law_1039 rfl rfl ?_
  refine aw_iload_n dL_law_1040 rfl rfl ?_
  refine aw_iconst (x := 2) dL_law_1041 rfl ?_
  obtain ⟨⟨c2, c2x⟩, h⟩ := h
  refine aw_iaddc dL_law_1042 c2 c2x ?_
  obtain ⟨⟨h0, h1⟩, h⟩ := h
  refine aw_sld hX hb dL_law_1043 h0 h1 ?_
  obtain ⟨r3, e4, h⟩ := h
  refine aw_invVi (M := ML_law) (ci := 11) [vI ((g.2.2.2.2.2 (x3 + 1).toNat).toInt), vI ((g.2.2.2.2.2 (x3 + 2).toNat).toInt)] e4 mo_X11_evaluate rfl lm_L_127 li_X11_evaluate ls_X11_evaluate (by decide +kernel) dL_law_1044 rfl (Nat.le_of_ble_eq_true rfl) (ACi.mono (fun v6 σ5 h => ?_) h)
  refine aw_aload_n dL_law_1047 rfl rfl ?_
  refine aw_aload_n dL_law_1048 rfl rfl ?_
  refine aw_iload_n dL_law_1049 rfl rfl ?_
  refine aw_iconst (x := 1) dL_law_1050 rfl ?_
  refine aw_iaddc dL_law_1051 c1 c1x ?_
  obtain ⟨⟨h0, h1⟩, h⟩ := h
  refine aw_sld hX hb dL_law_1052 h0 h1 ?_
  refine aw_aload_n dL_law_1053 rfl rfl ?_
  refine aw_iload_n dL_law_1054 rfl rfl ?_
  refine aw_iconst (x := 2) dL_law_1055 rfl ?_
  refine aw_iaddc dL_law_1056 c2 c2x ?_
  obtain ⟨⟨h0, h1⟩, h⟩ := h
  refine aw_sld hX hb dL_law_1057 h0 h1 ?_
  obtain ⟨r7, e8, h⟩ := h
  refine aw_invVi (M := ML_law) (ci := 12) [vI ((g.2.2.2.2.2 (x3 + 1).toNat).toInt), vI ((g.2.2.2.2.2 (x3 + 2).toNat).toInt)] e8 mo_X12_evaluate rfl lm_L_130 li_X12_evaluate ls_X12_evaluate (by decide +kernel) dL_law_1058 rfl (Nat.le_of_ble_eq_true rfl) (ACi.mono (fun v10 σ9 h => ?_) h)
  refine aw_icmp_eq (tgt := 1621) dL_law_1061 (by decide) (fun k11 => ?_) (fun k11 => ?_)
  · replace h := h.1 k11
    exact aw_fgt (L' := [some (vA 9999 0), some (vR 11 x1), some (vR 12 x2), some (vI x3)]) ⟨rfl, ⟨rfl, ⟨rfl, ⟨rfl, trivial⟩⟩⟩⟩ h
  · replace h := h.2 k11
    refine aw_iconst (x := 0) dL_law_1064 rfl ?_
    exact aw_zreturn dL_law_1065 rfl (Or.inl rfl) h
set_option maxRecDepth 4000 in
theorem bk_L_law_1066 {g : GP} {l : Launch} {d : Nat} {σ : St} {Q : Option AV → St → Prop} {x1 : Option Nat} {x2 : Option Nat} {x3 : Int} (hX : va_X g.2.2.2.1 g.2.2.2.2.1 g.2.2.2.2.2 (gS g) (gS g).heap) (hb : g.2.2.2.1 < gB g) (hn : g.2.2.2.2.1 < 2147483648)
    (h : ∃ r1, x1 = some r1 ∧ ACj g l d MX11_out [vR 11 (some r1)] σ (fun v4 σ3 => ∃ r5, x2 = some r5 ∧ ACj g l d MX12_out [vR 12 (some r5)] σ3 (fun v8 σ7 => ((v4 = v8 → AW g l (d + 1) ML_law 1621 [some (vA 9999 0), some (vR 11 x1), some (vR 12 x2), some (vI x3)] [] σ7 Q) ∧ (¬ v4 = v8 → Q (some (vI 0)) σ7))))) :
    AW g l (d + 1) ML_law 1066 [some (vA 9999 0), some (vR 11 x1), some (vR 12 x2), some (vI x3)] [] σ Q := by
  refine aw_aload_n dL_law_1066 rfl rfl ?_
  obtain ⟨r1, e2, h⟩ := h
  refine aw_invVj (M := ML_law) (ci := 11) [] e2 mo_X11_out rfl lm_L_131 li_X11_out ls_X11_out (by decide +kernel) dL_law_1067 rfl (Nat.le_of_ble_eq_true rfl) (ACj.mono (fun v4 σ3 h => ?_) h)
  refine aw_aload_n dL_law_1070 rfl rfl ?_
  obtain ⟨r5, e6, h⟩ := h
  refine aw_invVj (M := ML_law) (ci := 12) [] e6 mo_X12_out rfl lm_L_135 li_X12_out ls_X12_out (by decide +kernel) dL_law_1071 rfl (Nat.le_of_ble_eq_true rfl) (ACj.mono (fun v8 σ7 h => ?_) h)
  refine aw_lcmp_eq (M := ML_law) (tgt := 1621) dL_law_1074 dL_law_1075 (by decide) (fun k9 => ?_) (fun k9 => ?_)
  · replace h := h.1 k9
    exact aw_fgt (L' := [some (vA 9999 0), some (vR 11 x1), some (vR 12 x2), some (vI x3)]) ⟨rfl, ⟨rfl, ⟨rfl, ⟨rfl, trivial⟩⟩⟩⟩ h
  · replace h := h.2 k9
    refine aw_iconst (x := 0) dL_law_1078 rfl ?_
    exact aw_zreturn dL_law_1079 rfl (Or.inl rfl) h
set_option maxRecDepth 4000 in
theorem bk_L_law_1080 {g : GP} {l : Launch} {d : Nat} {σ : St} {Q : Option AV → St → Prop} {x1 : Option Nat} {x2 : Option Nat} {x3 : Int} (hX : va_X g.2.2.2.1 g.2.2.2.2.1 g.2.2.2.2.2 (gS g) (gS g).heap) (hb : g.2.2.2.1 < gB g) (hn : g.2.2.2.2.1 < 2147483648)
    (h : R32 (x3 + 1) ∧ ((0 : Int) ≤ (x3 + 1) ∧ (x3 + 1) < (g.2.2.2.2.1 : Int)) ∧ R32 (x3 + 2) ∧ ((0 : Int) ≤ (x3 + 2) ∧ (x3 + 2) < (g.2.2.2.2.1 : Int)) ∧ R32 (x3 + 3) ∧ ((0 : Int) ≤ (x3 + 3) ∧ (x3 + 3) < (g.2.2.2.2.1 : Int)) ∧ R32 (x3 + 4) ∧ ((0 : Int) ≤ (x3 + 4) ∧ (x3 + 4) < (g.2.2.2.2.1 : Int)) ∧ ∃ r5, x1 = some r5 ∧ ACi g l d MX11_set [vR 11 (some r5), vI ((g.2.2.2.2.2 (x3 + 1).toNat).toInt), vI ((g.2.2.2.2.2 (x3 + 2).toNat).toInt), vJ ((j_shl (i2j ((g.2.2.2.2.2 (x3 + 3).toNat).toInt)) 32) ||| ((i2j ((g.2.2.2.2.2 (x3 + 4).toNat).toInt)) &&& (4294967295 : Int64)))] σ (fun v8 σ7 => ((0 : Int) ≤ (x3 + 1) ∧ (x3 + 1) < (g.2.2.2.2.1 : Int)) ∧ ((0 : Int) ≤ (x3 + 2) ∧ (x3 + 2) < (g.2.2.2.2.1 : Int)) ∧ ((0 : Int) ≤ (x3 + 3) ∧ (x3 + 3) < (g.2.2.2.2.1 : Int)) ∧ ((0 : Int) ≤ (x3 + 4) ∧ (x3 + 4) < (g.2.2.2.2.1 : Int)) ∧ ∃ r9, x2 = some r9 ∧ ACi g l d MX12_set [vR 12 (some r9), vI ((g.2.2.2.2.2 (x3 + 1).toNat).toInt), vI ((g.2.2.2.2.2 (x3 + 2).toNat).toInt), vJ ((j_shl (i2j ((g.2.2.2.2.2 (x3 + 3).toNat).toInt)) 32) ||| ((i2j ((g.2.2.2.2.2 (x3 + 4).toNat).toInt)) &&& (4294967295 : Int64)))] σ7 (fun v12 σ11 => ((v8 = v12 → AW g l (d + 1) ML_law 1621 [some (vA 9999 0), some (vR 11 x1), some (vR 12 x2), some (vI x3)] [] σ11 Q) ∧ (¬ v8 = v12 → Q (some (vI 0)) σ11))))) :
    AW g l (d + 1) ML_law 1080 [some (vA 9999 0), some (vR 11 x1), some (vR 12 x2), some (vI x3)] [] σ Q := by
  refine aw_aload_n dL_law_1080 rfl rfl ?_
  refine aw_aload_n dL_law_1081 rfl rfl ?_
  refine aw_iload_n dL_law_1082 rfl rfl ?_
  refine aw_iconst (x := 1) dL_law_1083 rfl ?_
  obtain ⟨⟨c1, c1x⟩, h⟩ := h
  refine aw_iaddc dL_law_1084 c1 c1x ?_
  obtain ⟨⟨h0, h1⟩, h⟩ := h
  refine aw_sld hX hb dL_law_1085 h0 h1 ?_
  refine aw_aload_n dL_law_1086 rfl rfl ?_
  refine aw_iload_n dL_law_1087 rfl rfl ?_
  refine aw_iconst (x := 2) dL_law_1088 rfl ?_
  obtain ⟨⟨c2, c2x⟩, h⟩ := h
  refine aw_iaddc dL_law_1089 c2 c2x ?_
  obtain ⟨⟨h0, h1⟩, h⟩ := h
  refine aw_sld hX hb dL_law_1090 h0 h1 ?_
  refine aw_aload_n dL_law_1091 rfl rfl ?_
  refine aw_iload_n dL_law_1092 rfl rfl ?_
  refine aw_iconst (x := 3) dL_law_1093 rfl ?_
  obtain ⟨⟨c3, c3x⟩, h⟩ := h
  refine aw_iaddc dL_law_1094 c3 c3x ?_
  obtain ⟨⟨h0, h1⟩, h⟩ := h
  refine aw_sld hX hb dL_law_1095 h0 h1 ?_
  refine aw_i2l dL_law_1096 ?_
  refine aw_bipush (x := 32) dL_law_1097 rfl ?_
  refine aw_lshl dL_law_1099 ?_
  refine aw_aload_n dL_law_1100 rfl rfl ?_
  refine aw_iload_n dL_law_1101 rfl rfl ?_
  refine aw_iconst (x := 4) dL_law_1102 rfl ?_
  obtain ⟨⟨c4, c4x⟩, h⟩ := h
  refine aw_iaddc dL_law_1103 c4 c4x ?_
  obtain ⟨⟨h0, h1⟩, h⟩ := h
  refine aw_sld hX hb dL_law_1104 h0 h1 ?_
  refine aw_i2l dL_law_1105 ?_
  refine aw_ldc2 lk_L_18 dL_law_1106 ?_
  refine aw_land dL_law_1109 ?_
  refine aw_lor dL_law_1110 ?_
  obtain ⟨r5, e6, h⟩ := h
  refine aw_invVi (M := ML_law) (ci := 11) [vI ((g.2.2.2.2.2 (x3 + 1).toNat).toInt), vI ((g.2.2.2.2.2 (x3 + 2).toNat).toInt), vJ ((j_shl (i2j ((g.2.2.2.2.2 (x3 + 3).toNat).toInt)) 32) ||| ((i2j ((g.2.2.2.2.2 (x3 + 4).toNat).toInt)) &&& (4294967295 : Int64)))] e6 mo_X11_set rfl lm_L_136 li_X11_set ls_X11_set (by decide +kernel) dL_law_1111 rfl (Nat.le_of_ble_eq_true rfl) (ACi.mono (fun v8 σ7 h => ?_) h)
  refine aw_aload_n dL_law_1114 rfl rfl ?_
  refine aw_aload_n dL_law_1115 rfl rfl ?_
  refine aw_iload_n dL_law_1116 rfl rfl ?_
  refine aw_iconst (x := 1) dL_law_1117 rfl ?_
  refine aw_iaddc dL_law_1118 c1 c1x ?_
  obtain ⟨⟨h0, h1⟩, h⟩ := h
  refine aw_sld hX hb dL_law_1119 h0 h1 ?_
  refine aw_aload_n dL_law_1120 rfl rfl ?_
  refine aw_iload_n dL_law_1121 rfl rfl ?_
  refine aw_iconst (x := 2) dL_law_1122 rfl ?_
  refine aw_iaddc dL_law_1123 c2 c2x ?_
  obtain ⟨⟨h0, h1⟩, h⟩ := h
  refine aw_sld hX hb dL_law_1124 h0 h1 ?_
  refine aw_aload_n dL_law_1125 rfl rfl ?_
  refine aw_iload_n dL_law_1126 rfl rfl ?_
  refine aw_iconst (x := 3) dL_law_1127 rfl ?_
  refine aw_iaddc dL_law_1128 c3 c3x ?_
  obtain ⟨⟨h0, h1⟩, h⟩ := h
  refine aw_sld hX hb dL_law_1129 h0 h1 ?_
  refine aw_i2l dL_law_1130 ?_
  refine aw_bipush (x := 32) dL_law_1131 rfl ?_
  refine aw_lshl dL_law_1133 ?_
  refine aw_aload_n dL_law_1134 rfl rfl ?_
  refine aw_iload_n dL_law_1135 rfl rfl ?_
  refine aw_iconst (x := 4) dL_law_1136 rfl ?_
  refine aw_iaddc dL_law_1137 c4 c4x ?_
  obtain ⟨⟨h0, h1⟩, h⟩ := h
  refine aw_sld hX hb dL_law_1138 h0 h1 ?_
  refine aw_i2l dL_law_1139 ?_
  refine aw_ldc2 lk_L_18 dL_law_1140 ?_
  refine aw_land dL_law_1143 ?_
  refine aw_lor dL_law_1144 ?_
  obtain ⟨r9, e10, h⟩ := h
  refine aw_invVi (M := ML_law) (ci := 12) [vI ((g.2.2.2.2.2 (x3 + 1).toNat).toInt), vI ((g.2.2.2.2.2 (x3 + 2).toNat).toInt), vJ ((j_shl (i2j ((g.2.2.2.2.2 (x3 + 3).toNat).toInt)) 32) ||| ((i2j ((g.2.2.2.2.2 (x3 + 4).toNat).toInt)) &&& (4294967295 : Int64)))] e10 mo_X12_set rfl lm_L_140 li_X12_set ls_X12_set (by decide +kernel) dL_law_1145 rfl (Nat.le_of_ble_eq_true rfl) (ACi.mono (fun v12 σ11 h => ?_) h)
  refine aw_icmp_eq (tgt := 1621) dL_law_1148 (by decide) (fun k13 => ?_) (fun k13 => ?_)
  · replace h := h.1 k13
    exact aw_fgt (L' := [some (vA 9999 0), some (vR 11 x1), some (vR 12 x2), some (vI x3)]) ⟨rfl, ⟨rfl, ⟨rfl, ⟨rfl, trivial⟩⟩⟩⟩ h
  · replace h := h.2 k13
    refine aw_iconst (x := 0) dL_law_1151 rfl ?_
    exact aw_zreturn dL_law_1152 rfl (Or.inl rfl) h
set_option maxRecDepth 4000 in
theorem bk_L_law_1153 {g : GP} {l : Launch} {d : Nat} {σ : St} {Q : Option AV → St → Prop} {x1 : Option Nat} {x2 : Option Nat} {x3 : Int} (hX : va_X g.2.2.2.1 g.2.2.2.2.1 g.2.2.2.2.2 (gS g) (gS g).heap) (hb : g.2.2.2.1 < gB g) (hn : g.2.2.2.2.1 < 2147483648)
    (h : R32 (x3 + 1) ∧ ((0 : Int) ≤ (x3 + 1) ∧ (x3 + 1) < (g.2.2.2.2.1 : Int)) ∧ R32 (x3 + 2) ∧ ((0 : Int) ≤ (x3 + 2) ∧ (x3 + 2) < (g.2.2.2.2.1 : Int)) ∧ R32 (x3 + 3) ∧ ((0 : Int) ≤ (x3 + 3) ∧ (x3 + 3) < (g.2.2.2.2.1 : Int)) ∧ R32 (x3 + 4) ∧ ((0 : Int) ≤ (x3 + 4) ∧ (x3 + 4) < (g.2.2.2.2.1 : Int)) ∧ ∃ r5, x1 = some r5 ∧ ACi g l d MX11_put [vR 11 (some r5), vI ((g.2.2.2.2.2 (x3 + 1).toNat).toInt), vI ((g.2.2.2.2.2 (x3 + 2).toNat).toInt), vI ((g.2.2.2.2.2 (x3 + 3).toNat).toInt), vI ((g.2.2.2.2.2 (x3 + 4).toNat).toInt)] σ (fun v8 σ7 => ((0 : Int) ≤ (x3 + 1) ∧ (x3 + 1) < (g.2.2.2.2.1 : Int)) ∧ ((0 : Int) ≤ (x3 + 2) ∧ (x3 + 2) < (g.2.2.2.2.1 : Int)) ∧ ((0 : Int) ≤ (x3 + 3) ∧ (x3 + 3) < (g.2.2.2.2.1 : Int)) ∧ ((0 : Int) ≤ (x3 + 4) ∧ (x3 + 4) < (g.2.2.2.2.1 : Int)) ∧ ∃ r9, x2 = some r9 ∧ ACi g l d MX12_put_ [vR 12 (some r9), vI ((g.2.2.2.2.2 (x3 + 1).toNat).toInt), vI ((g.2.2.2.2.2 (x3 + 2).toNat).toInt), vI ((g.2.2.2.2.2 (x3 + 3).toNat).toInt), vI ((g.2.2.2.2.2 (x3 + 4).toNat).toInt)] σ7 (fun v12 σ11 => ((v8 = v12 → AW g l (d + 1) ML_law 1621 [some (vA 9999 0), some (vR 11 x1), some (vR 12 x2), some (vI x3)] [] σ11 Q) ∧ (¬ v8 = v12 → Q (some (vI 0)) σ11))))) :
    AW g l (d + 1) ML_law 1153 [some (vA 9999 0), some (vR 11 x1), some (vR 12 x2), some (vI x3)] [] σ Q := by
  refine aw_aload_n dL_law_1153 rfl rfl ?_
  refine aw_aload_n dL_law_1154 rfl rfl ?_
  refine aw_iload_n dL_law_1155 rfl rfl ?_
  refine aw_iconst (x := 1) dL_law_1156 rfl ?_
  obtain ⟨⟨c1, c1x⟩, h⟩ := h
  refine aw_iaddc dL_law_1157 c1 c1x ?_
  obtain ⟨⟨h0, h1⟩, h⟩ := h
  refine aw_sld hX hb dL_law_1158 h0 h1 ?_
  refine aw_aload_n dL_law_1159 rfl rfl ?_
  refine aw_iload_n dL_law_1160 rfl rfl ?_
  refine aw_iconst (x := 2) dL_law_1161 rfl ?_
  obtain ⟨⟨c2, c2x⟩, h⟩ := h
  refine aw_iaddc dL_law_1162 c2 c2x ?_
  obtain ⟨⟨h0, h1⟩, h⟩ := h
  refine aw_sld hX hb dL_law_1163 h0 h1 ?_
  refine aw_aload_n dL_law_1164 rfl rfl ?_
  refine aw_iload_n dL_law_1165 rfl rfl ?_
  refine aw_iconst (x := 3) dL_law_1166 rfl ?_
  obtain ⟨⟨c3, c3x⟩, h⟩ := h
  refine aw_iaddc dL_law_1167 c3 c3x ?_
  obtain ⟨⟨h0, h1⟩, h⟩ := h
  refine aw_sld hX hb dL_law_1168 h0 h1 ?_
  refine aw_aload_n dL_law_1169 rfl rfl ?_
  refine aw_iload_n dL_law_1170 rfl rfl ?_
  refine aw_iconst (x := 4) dL_law_1171 rfl ?_
  obtain ⟨⟨c4, c4x⟩, h⟩ := h
  refine aw_iaddc dL_law_1172 c4 c4x ?_
  obtain ⟨⟨h0, h1⟩, h⟩ := h
  refine aw_sld hX hb dL_law_1173 h0 h1 ?_
  obtain ⟨r5, e6, h⟩ := h
  refine aw_invVi (M := ML_law) (ci := 11) [vI ((g.2.2.2.2.2 (x3 + 1).toNat).toInt), vI ((g.2.2.2.2.2 (x3 + 2).toNat).toInt), vI ((g.2.2.2.2.2 (x3 + 3).toNat).toInt), vI ((g.2.2.2.2.2 (x3 + 4).toNat).toInt)] e6 mo_X11_put rfl lm_L_141 li_X11_put ls_X11_put (by decide +kernel) dL_law_1174 rfl (Nat.le_of_ble_eq_true rfl) (ACi.mono (fun v8 σ7 h => ?_) h)
  refine aw_aload_n dL_law_1177 rfl rfl ?_
  refine aw_aload_n dL_law_1178 rfl rfl ?_
  refine aw_iload_n dL_law_1179 rfl rfl ?_
  refine aw_iconst (x := 1) dL_law_1180 rfl ?_
  refine aw_iaddc dL_law_1181 c1 c1x ?_
  obtain ⟨⟨h0, h1⟩, h⟩ := h
  refine aw_sld hX hb dL_law_1182 h0 h1 ?_
  refine aw_aload_n dL_law_1183 rfl rfl ?_
  refine aw_iload_n dL_law_1184 rfl rfl ?_
  refine aw_iconst (x := 2) dL_law_1185 rfl ?_
  refine aw_iaddc dL_law_1186 c2 c2x ?_
  obtain ⟨⟨h0, h1⟩, h⟩ := h
  refine aw_sld hX hb dL_law_1187 h0 h1 ?_
  refine aw_aload_n dL_law_1188 rfl rfl ?_
  refine aw_iload_n dL_law_1189 rfl rfl ?_
  refine aw_iconst (x := 3) dL_law_1190 rfl ?_
  refine aw_iaddc dL_law_1191 c3 c3x ?_
  obtain ⟨⟨h0, h1⟩, h⟩ := h
  refine aw_sld hX hb dL_law_1192 h0 h1 ?_
  refine aw_aload_n dL_law_1193 rfl rfl ?_
  refine aw_iload_n dL_law_1194 rfl rfl ?_
  refine aw_iconst (x := 4) dL_law_1195 rfl ?_
  refine aw_iaddc dL_law_1196 c4 c4x ?_
  obtain ⟨⟨h0, h1⟩, h⟩ := h
  refine aw_sld hX hb dL_law_1197 h0 h1 ?_
  obtain ⟨r9, e10, h⟩ := h
  refine aw_invVi (M := ML_law) (ci := 12) [vI ((g.2.2.2.2.2 (x3 + 1).toNat).toInt), vI ((g.2.2.2.2.2 (x3 + 2).toNat).toInt), vI ((g.2.2.2.2.2 (x3 + 3).toNat).toInt), vI ((g.2.2.2.2.2 (x3 + 4).toNat).toInt)] e10 mo_X12_put_ rfl lm_L_144 li_X12_put_ ls_X12_put_ (by decide +kernel) dL_law_1198 rfl (Nat.le_of_ble_eq_true rfl) (ACi.mono (fun v12 σ11 h => ?_) h)
  refine aw_icmp_eq (tgt := 1621) dL_law_1201 (by decide) (fun k13 => ?_) (fun k13 => ?_)
  · replace h := h.1 k13
    exact aw_fgt (L' := [some (vA 9999 0), some (vR 11 x1), some (vR 12 x2), some (vI x3)]) ⟨rfl, ⟨rfl, ⟨rfl, ⟨rfl, trivial⟩⟩⟩⟩ h
  · replace h := h.2 k13
    refine aw_iconst (x := 0) dL_law_1204 rfl ?_
    exact aw_zreturn dL_law_1205 rfl (Or.inl rfl) h
set_option maxRecDepth 4000 in
theorem bk_L_law_1206 {g : GP} {l : Launch} {d : Nat} {σ : St} {Q : Option AV → St → Prop} {x1 : Option Nat} {x2 : Option Nat} {x3 : Int} (hX : va_X g.2.2.2.1 g.2.2.2.2.1 g.2.2.2.2.2 (gS g) (gS g).heap) (hb : g.2.2.2.1 < gB g) (hn : g.2.2.2.2.1 < 2147483648)
    (h : R32 (x3 + 1) ∧ ((0 : Int) ≤ (x3 + 1) ∧ (x3 + 1) < (g.2.2.2.2.1 : Int)) ∧ R32 (x3 + 2) ∧ ((0 : Int) ≤ (x3 + 2) ∧ (x3 + 2) < (g.2.2.2.2.1 : Int)) ∧ ∃ r3, x1 = some r3 ∧ ACi g l d MX11_fix [vR 11 (some r3), vI ((g.2.2.2.2.2 (x3 + 1).toNat).toInt), vI ((g.2.2.2.2.2 (x3 + 2).toNat).toInt)] σ (fun v6 σ5 => ((0 : Int) ≤ (x3 + 1) ∧ (x3 + 1) < (g.2.2.2.2.1 : Int)) ∧ ((0 : Int) ≤ (x3 + 2) ∧ (x3 + 2) < (g.2.2.2.2.1 : Int)) ∧ ∃ r7, x2 = some r7 ∧ ACi g l d MX12_fix [vR 12 (some r7), vI ((g.2.2.2.2.2 (x3 + 1).toNat).toInt), vI ((g.2.2.2.2.2 (x3 + 2).toNat).toInt)] σ5 (fun v10 σ9 => ((v6 = v10 → AW g l (d + 1) ML_law 1621 [some (vA 9999 0), some (vR 11 x1), some (vR 12 x2), some (vI x3)] [] σ9 Q) ∧ (¬ v6 = v10 → Q (some (vI 0)) σ9))))) :
    AW g l (d + 1) ML_law 1206 [some (vA 9999 0), some (vR 11 x1), some (vR 12 x2), some (vI x3)] [] σ Q := by
  refine aw_aload_n dL_law_1206 rfl rfl ?_
  refine aw_aload_n dL_law_1207 rfl rfl ?_
  refine aw_iload_n dL_law_1208 rfl rfl ?_
  refine aw_iconst (x := 1) dL_law_1209 rfl ?_
  obtain ⟨⟨c1, c1x⟩, h⟩ := h
  refine aw_iaddc dL_law_1210 c1 c1x ?_
  obtain ⟨⟨h0, h1⟩, h⟩ := h
  refine aw_sld hX hb dL_law_1211 h0 h1 ?_
  refine aw_aload_n dL_law_1212 rfl rfl ?_
  refine aw_iload_n dL_law_1213 rfl rfl ?_
  refine aw_iconst (x := 2) dL_law_1214 rfl ?_
  obtain ⟨⟨c2, c2x⟩, h⟩ := h
  refine aw_iaddc dL_law_1215 c2 c2x ?_
  obtain ⟨⟨h0, h1⟩, h⟩ := h
  refine aw_sld hX hb dL_law_1216 h0 h1 ?_
  obtain ⟨r3, e4, h⟩ := h
  refine aw_invVi (M := ML_law) (ci := 11) [vI ((g.2.2.2.2.2 (x3 + 1).toNat).toInt), vI ((g.2.2.2.2.2 (x3 + 2).toNat).toInt)] e4 mo_X11_fix rfl lm_L_145 li_X11_fix ls_X11_fix (by decide +kernel) dL_law_1217 rfl (Nat.le_of_ble_eq_true rfl) (ACi.mono (fun v6 σ5 h => ?_) h)
  refine aw_aload_n dL_law_1220 rfl rfl ?_
  refine aw_aload_n dL_law_1221 rfl rfl ?_
  refine aw_iload_n dL_law_1222 rfl rfl ?_
  refine aw_iconst (x := 1) dL_law_1223 rfl ?_
  refine aw_iaddc dL_law_1224 c1 c1x ?_
  obtain ⟨⟨h0, h1⟩, h⟩ := h
  refine aw_sld hX hb dL_law_1225 h0 h1 ?_
  refine aw_aload_n dL_law_1226 rfl rfl ?_
  refine aw_iload_n dL_law_1227 rfl rfl ?_
  refine aw_iconst (x := 2) dL_law_1228 rfl ?_
  refine aw_iaddc dL_law_1229 c2 c2x ?_
  obtain ⟨⟨h0, h1⟩, h⟩ := h
  refine aw_sld hX hb dL_law_1230 h0 h1 ?_
  obtain ⟨r7, e8, h⟩ := h
  refine aw_invVi (M := ML_law) (ci := 12) [vI ((g.2.2.2.2.2 (x3 + 1).toNat).toInt), vI ((g.2.2.2.2.2 (x3 + 2).toNat).toInt)] e8 mo_X12_fix rfl lm_L_148 li_X12_fix ls_X12_fix (by decide +kernel) dL_law_1231 rfl (Nat.le_of_ble_eq_true rfl) (ACi.mono (fun v10 σ9 h => ?_) h)
  refine aw_icmp_eq (tgt := 1621) dL_law_1234 (by decide) (fun k11 => ?_) (fun k11 => ?_)
  · replace h := h.1 k11
    exact aw_fgt (L' := [some (vA 9999 0), some (vR 11 x1), some (vR 12 x2), some (vI x3)]) ⟨rfl, ⟨rfl, ⟨rfl, ⟨rfl, trivial⟩⟩⟩⟩ h
  · replace h := h.2 k11
    refine aw_iconst (x := 0) dL_law_1237 rfl ?_
    exact aw_zreturn dL_law_1238 rfl (Or.inl rfl) h
set_option maxRecDepth 4000 in
theorem bk_L_law_1239 {g : GP} {l : Launch} {d : Nat} {σ : St} {Q : Option AV → St → Prop} {x1 : Option Nat} {x2 : Option Nat} {x3 : Int} (hX : va_X g.2.2.2.1 g.2.2.2.2.1 g.2.2.2.2.2 (gS g) (gS g).heap) (hb : g.2.2.2.1 < gB g) (hn : g.2.2.2.2.1 < 2147483648)
    (h : R32 (x3 + 1) ∧ ((0 : Int) ≤ (x3 + 1) ∧ (x3 + 1) < (g.2.2.2.2.1 : Int)) ∧ R32 (x3 + 2) ∧ ((0 : Int) ≤ (x3 + 2) ∧ (x3 + 2) < (g.2.2.2.2.1 : Int)) ∧ R32 (x3 + 3) ∧ ((0 : Int) ≤ (x3 + 3) ∧ (x3 + 3) < (g.2.2.2.2.1 : Int)) ∧ R32 (x3 + 4) ∧ ((0 : Int) ≤ (x3 + 4) ∧ (x3 + 4) < (g.2.2.2.2.1 : Int)) ∧ R32 (x3 + 5) ∧ ((0 : Int) ≤ (x3 + 5) ∧ (x3 + 5) < (g.2.2.2.2.1 : Int)) ∧ ((((g.2.2.2.2.2 (x3 + 5).toNat).toInt) = 0 → AW g l (d + 1) ML_law 1283 [some (vA 9999 0), some (vR 11 x1), some (vR 12 x2), some (vI x3)] [vI 0, vI ((g.2.2.2.2.2 (x3 + 4).toNat).toInt), vJ ((j_shl (i2j ((g.2.2.2.2.2 (x3 + 2).toNat).toInt)) 32) ||| ((i2j ((g.2.2.2.2.2 (x3 + 3).toNat).toInt)) &&& (4294967295 : Int64))), vI ((g.2.2.2.2.2 (x3 + 1).toNat).toInt), vR 11 x1] σ Q) ∧ (¬ ((g.2.2.2.2.2 (x3 + 5).toNat).toInt) = 0 → AW g l (d + 1) ML_law 1283 [some (vA 9999 0), some (vR 11 x1), some (vR 12 x2), some (vI x3)] [vI 1, vI ((g.2.2.2.2.2 (x3 + 4).toNat).toInt), vJ ((j_shl (i2j ((g.2.2.2.2.2 (x3 + 2).toNat).toInt)) 32) ||| ((i2j ((g.2.2.2.2.2 (x3 + 3).toNat).toInt)) &&& (4294967295 : Int64))), vI ((g.2.2.2.2.2 (x3 + 1).toNat).toInt), vR 11 x1] σ Q))) :
    AW g l (d + 1) ML_law 1239 [some (vA 9999 0), some (vR 11 x1), some (vR 12 x2), some (vI x3)] [] σ Q := by
  refine aw_aload_n dL_law_1239 rfl rfl ?_
  refine aw_aload_n dL_law_1240 rfl rfl ?_
  refine aw_iload_n dL_law_1241 rfl rfl ?_
  refine aw_iconst (x := 1) dL_law_1242 rfl ?_
  obtain ⟨⟨c1, c1x⟩, h⟩ := h
  refine aw_iaddc dL_law_1243 c1 c1x ?_
  obtain ⟨⟨h0, h1⟩, h⟩ := h
  refine aw_sld hX hb dL_law_1244 h0 h1 ?_
  refine aw_aload_n dL_law_1245 rfl rfl ?_
  refine aw_iload_n dL_law_1246 rfl rfl ?_
  refine aw_iconst (x := 2) dL_law_1247 rfl ?_
  obtain ⟨⟨c2, c2x⟩, h⟩ := h
  refine aw_iaddc dL_law_1248 c2 c2x ?_
  obtain ⟨⟨h0, h1⟩, h⟩ := h
  refine aw_sld hX hb dL_law_1249 h0 h1 ?_
  refine aw_i2l dL_law_1250 ?_
  refine aw_bipush (x := 32) dL_law_1251 rfl ?_
  refine aw_lshl dL_law_1253 ?_
  refine aw_aload_n dL_law_1254 rfl rfl ?_
  refine aw_iload_n dL_law_1255 rfl rfl ?_
  refine aw_iconst (x := 3) dL_law_1256 rfl ?_
  obtain ⟨⟨c3, c3x⟩, h⟩ := h
  refine aw_iaddc dL_law_1257 c3 c3x ?_
  obtain ⟨⟨h0, h1⟩, h⟩ := h
  refine aw_sld hX hb dL_law_1258 h0 h1 ?_
  refine aw_i2l dL_law_1259 ?_
  refine aw_ldc2 lk_L_18 dL_law_1260 ?_
  refine aw_land dL_law_1263 ?_
  refine aw_lor dL_law_1264 ?_
  refine aw_aload_n dL_law_1265 rfl rfl ?_
  refine aw_iload_n dL_law_1266 rfl rfl ?_
  refine aw_iconst (x := 4) dL_law_1267 rfl ?_
  obtain ⟨⟨c4, c4x⟩, h⟩ := h
  refine aw_iaddc dL_law_1268 c4 c4x ?_
  obtain ⟨⟨h0, h1⟩, h⟩ := h
  refine aw_sld hX hb dL_law_1269 h0 h1 ?_
  refine aw_aload_n dL_law_1270 rfl rfl ?_
  refine aw_iload_n dL_law_1271 rfl rfl ?_
  refine aw_iconst (x := 5) dL_law_1272 rfl ?_
  obtain ⟨⟨c5, c5x⟩, h⟩ := h
  refine aw_iaddc dL_law_1273 c5 c5x ?_
  obtain ⟨⟨h0, h1⟩, h⟩ := h
  refine aw_sld hX hb dL_law_1274 h0 h1 ?_
  refine aw_if_eq (tgt := 1282) dL_law_1275 (by decide) (fun k6 => ?_) (fun k6 => ?_)
  · replace h := h.1 k6
    refine aw_iconst (x := 0) dL_law_1282 rfl ?_
    exact aw_fgt (L' := [some (vA 9999 0), some (vR 11 x1), some (vR 12 x2), some (vI x3)]) ⟨rfl, ⟨rfl, ⟨rfl, ⟨rfl, trivial⟩⟩⟩⟩ h
  · replace h := h.2 k6
    refine aw_iconst (x := 1) dL_law_1278 rfl ?_
    refine aw_goto (tgt := 1283) dL_law_1279 (by decide) ?_
    exact aw_fgt (L' := [some (vA 9999 0), some (vR 11 x1), some (vR 12 x2), some (vI x3)]) ⟨rfl, ⟨rfl, ⟨rfl, ⟨rfl, trivial⟩⟩⟩⟩ h
set_option maxRecDepth 4000 in
theorem bk_L_law_1283 {g : GP} {l : Launch} {d : Nat} {σ : St} {Q : Option AV → St → Prop} {x1 : Option Nat} {x2 : Option Nat} {x3 : Int} {y0 : Int} {y1 : Int} {y2 : Int64} {y3 : Int} {y4 : Option Nat} (hX : va_X g.2.2.2.1 g.2.2.2.2.1 g.2.2.2.2.2 (gS g) (gS g).heap) (hb : g.2.2.2.1 < gB g) (hn : g.2.2.2.2.1 < 2147483648)
    (h : R32 (x3 + 6) ∧ ((0 : Int) ≤ (x3 + 6) ∧ (x3 + 6) < (g.2.2.2.2.1 : Int)) ∧ ∃ r2, y4 = some r2 ∧ ACi g l d MX11_search [vR 11 (some r2), vI y3, vJ y2, vI y1, vI y0, vI ((g.2.2.2.2.2 (x3 + 6).toNat).toInt)] σ (fun v5 σ4 => R32 (x3 + 1) ∧ ((0 : Int) ≤ (x3 + 1) ∧ (x3 + 1) < (g.2.2.2.2.1 : Int)) ∧ R32 (x3 + 2) ∧ ((0 : Int) ≤ (x3 + 2) ∧ (x3 + 2) < (g.2.2.2.2.1 : Int)) ∧ R32 (x3 + 3) ∧ ((0 : Int) ≤ (x3 + 3) ∧ (x3 + 3) < (g.2.2.2.2.1 : Int)) ∧ R32 (x3 + 4) ∧ ((0 : Int) ≤ (x3 + 4) ∧ (x3 + 4) < (g.2.2.2.2.1 : Int)) ∧ R32 (x3 + 5) ∧ ((0 : Int) ≤ (x3 + 5) ∧ (x3 + 5) < (g.2.2.2.2.1 : Int)) ∧ ((((g.2.2.2.2.2 (x3 + 5).toNat).toInt) = 0 → AW g l (d + 1) ML_law 1336 [some (vA 9999 0), some (vR 11 x1), some (vR 12 x2), some (vI x3)] [vI 0, vI ((g.2.2.2.2.2 (x3 + 4).toNat).toInt), vJ ((j_shl (i2j ((g.2.2.2.2.2 (x3 + 2).toNat).toInt)) 32) ||| ((i2j ((g.2.2.2.2.2 (x3 + 3).toNat).toInt)) &&& (4294967295 : Int64))), vI ((g.2.2.2.2.2 (x3 + 1).toNat).toInt), vR 12 x2, vI v5] σ4 Q) ∧ (¬ ((g.2.2.2.2.2 (x3 + 5).toNat).toInt) = 0 → AW g l (d + 1) ML_law 1336 [some (vA 9999 0), some (vR 11 x1), some (vR 12 x2), some (vI x3)] [vI 1, vI ((g.2.2.2.2.2 (x3 + 4).toNat).toInt), vJ ((j_shl (i2j ((g.2.2.2.2.2 (x3 + 2).toNat).toInt)) 32) ||| ((i2j ((g.2.2.2.2.2 (x3 + 3).toNat).toInt)) &&& (4294967295 : Int64))), vI ((g.2.2.2.2.2 (x3 + 1).toNat).toInt), vR 12 x2, vI v5] σ4 Q)))) :
    AW g l (d + 1) ML_law 1283 [some (vA 9999 0), some (vR 11 x1), some (vR 12 x2), some (vI x3)] [vI y0, vI y1, vJ y2, vI y3, vR 11 y4] σ Q := by
  refine aw_aload_n dL_law_1283 rfl rfl ?_
  refine aw_iload_n dL_law_1284 rfl rfl ?_
  refine aw_bipush (x := 6) dL_law_1285 rfl ?_
  obtain ⟨⟨c1, c1x⟩, h⟩ := h
  refine aw_iaddc dL_law_1287 c1 c1x ?_
  obtain ⟨⟨h0, h1⟩, h⟩ := h
  refine aw_sld hX hb dL_law_1288 h0 h1 ?_
  obtain ⟨r2, e3, h⟩ := h
  refine aw_invVi (M := ML_law) (ci := 11) [vI y3, vJ y2, vI y1, vI y0, vI ((g.2.2.2.2.2 (x3 + 6).toNat).toInt)] e3 mo_X11_search rfl lm_L_149 li_X11_search ls_X11_search (by decide +kernel) dL_law_1289 rfl (Nat.le_of_ble_eq_true rfl) (ACi.mono (fun v5 σ4 h => ?_) h)
  refine aw_aload_n dL_law_1292 rfl rfl ?_
  refine aw_aload_n dL_law_1293 rfl rfl ?_
  refine aw_iload_n dL_law_1294 rfl rfl ?_
  refine aw_iconst (x := 1) dL_law_1295 rfl ?_
  obtain ⟨⟨c6, c6x⟩, h⟩ := h
  refine aw_iaddc dL_law_1296 c6 c6x ?_
  obtain ⟨⟨h0, h1⟩, h⟩ := h
  refine aw_sld hX hb dL_law_1297 h0 h1 ?_
  refine aw_aload_n dL_law_1298 rfl rfl ?_
  refine aw_iload_n dL_law_1299 rfl rfl ?_
  refine aw_iconst (x := 2) dL_law_1300 rfl ?_
  obtain ⟨⟨c7, c7x⟩, h⟩ := h
  refine aw_iaddc dL_law_1301 c7 c7x ?_
  obtain ⟨⟨h0, h1⟩, h⟩ := h
  refine aw_sld hX hb dL_law_1302 h0 h1 ?_
  refine aw_i2l dL_law_1303 ?_
  refine aw_bipush (x := 32) dL_law_1304 rfl ?_
  refine aw_lshl dL_law_1306 ?_
  refine aw_aload_n dL_law_1307 rfl rfl ?_
  refine aw_iload_n dL_law_1308 rfl rfl ?_
  refine aw_iconst (x := 3) dL_law_1309 rfl ?_
  obtain ⟨⟨c8, c8x⟩, h⟩ := h
  refine aw_iaddc dL_law_1310 c8 c8x ?_
  obtain ⟨⟨h0, h1⟩, h⟩ := h
  refine aw_sld hX hb dL_law_1311 h0 h1 ?_
  refine aw_i2l dL_law_1312 ?_
  refine aw_ldc2 lk_L_18 dL_law_1313 ?_
  refine aw_land dL_law_1316 ?_
  refine aw_lor dL_law_1317 ?_
  refine aw_aload_n dL_law_1318 rfl rfl ?_
  refine aw_iload_n dL_law_1319 rfl rfl ?_
  refine aw_iconst (x := 4) dL_law_1320 rfl ?_
  obtain ⟨⟨c9, c9x⟩, h⟩ := h
  refine aw_iaddc dL_law_1321 c9 c9x ?_
  obtain ⟨⟨h0, h1⟩, h⟩ := h
  refine aw_sld hX hb dL_law_1322 h0 h1 ?_
  refine aw_aload_n dL_law_1323 rfl rfl ?_
  refine aw_iload_n dL_law_1324 rfl rfl ?_
  refine aw_iconst (x := 5) dL_law_1325 rfl ?_
  obtain ⟨⟨c10, c10x⟩, h⟩ := h
  refine aw_iaddc dL_law_1326 c10 c10x ?_
  obtain ⟨⟨h0, h1⟩, h⟩ := h
  refine aw_sld hX hb dL_law_1327 h0 h1 ?_
  refine aw_if_eq (tgt := 1335) dL_law_1328 (by decide) (fun k11 => ?_) (fun k11 => ?_)
  · replace h := h.1 k11
    refine aw_iconst (x := 0) dL_law_1335 rfl ?_
    exact aw_fgt (L' := [some (vA 9999 0), some (vR 11 x1), some (vR 12 x2), some (vI x3)]) ⟨rfl, ⟨rfl, ⟨rfl, ⟨rfl, trivial⟩⟩⟩⟩ h
  · replace h := h.2 k11
    refine aw_iconst (x := 1) dL_law_1331 rfl ?_
    refine aw_goto (tgt := 1336) dL_law_1332 (by decide) ?_
    exact aw_fgt (L' := [some (vA 9999 0), some (vR 11 x1), some (vR 12 x2), some (vI x3)]) ⟨rfl, ⟨rfl, ⟨rfl, ⟨rfl, trivial⟩⟩⟩⟩ h
set_option maxRecDepth 4000 in
theorem bk_L_law_1336 {g : GP} {l : Launch} {d : Nat} {σ : St} {Q : Option AV → St → Prop} {x1 : Option Nat} {x2 : Option Nat} {x3 : Int} {y0 : Int} {y1 : Int} {y2 : Int64} {y3 : Int} {y4 : Option Nat} {y5 : Int} (hX : va_X g.2.2.2.1 g.2.2.2.2.1 g.2.2.2.2.2 (gS g) (gS g).heap) (hb : g.2.2.2.1 < gB g) (hn : g.2.2.2.2.1 < 2147483648)
    (h : R32 (x3 + 6) ∧ ((0 : Int) ≤ (x3 + 6) ∧ (x3 + 6) < (g.2.2.2.2.1 : Int)) ∧ ∃ r2, y4 = some r2 ∧ ACi g l d MX12_search [vR 12 (some r2), vI y3, vJ y2, vI y1, vI y0, vI ((g.2.2.2.2.2 (x3 + 6).toNat).toInt)] σ (fun v5 σ4 => ((y5 = v5 → AW g l (d + 1) ML_law 1621 [some (vA 9999 0), some (vR 11 x1), some (vR 12 x2), some (vI x3)] [] σ4 Q) ∧ (¬ y5 = v5 → Q (some (vI 0)) σ4)))) :
    AW g l (d + 1) ML_law 1336 [some (vA 9999 0), some (vR 11 x1), some (vR 12 x2), some (vI x3)] [vI y0, vI y1, vJ y2, vI y3, vR 12 y4, vI y5] σ Q := by
  refine aw_aload_n dL_law_1336 rfl rfl ?_
  refine aw_iload_n dL_law_1337 rfl rfl ?_
  refine aw_bipush (x := 6) dL_law_1338 rfl ?_
  obtain ⟨⟨c1, c1x⟩, h⟩ := h
  refine aw_iaddc dL_law_1340 c1 c1x ?_
  obtain ⟨⟨h0, h1⟩, h⟩ := h
  refine aw_sld hX hb dL_law_1341 h0 h1 ?_
  obtain ⟨r2, e3, h⟩ := h
  refine aw_invVi (M := ML_law) (ci := 12) [vI y3, vJ y2, vI y1, vI y0, vI ((g.2.2.2.2.2 (x3 + 6).toNat).toInt)] e3 mo_X12_search rfl lm_L_153 li_X12_search ls_X12_search (by decide +kernel) dL_law_1342 rfl (Nat.le_of_ble_eq_true rfl) (ACi.mono (fun v5 σ4 h => ?_) h)
  refine aw_icmp_eq (tgt := 1621) dL_law_1345 (by decide) (fun k6 => ?_) (fun k6 => ?_)
  · replace h := h.1 k6
    exact aw_fgt (L' := [some (vA 9999 0), some (vR 11 x1), some (vR 12 x2), some (vI x3)]) ⟨rfl, ⟨rfl, ⟨rfl, ⟨rfl, trivial⟩⟩⟩⟩ h
  · replace h := h.2 k6
    refine aw_iconst (x := 0) dL_law_1348 rfl ?_
    exact aw_zreturn dL_law_1349 rfl (Or.inl rfl) h
set_option maxRecDepth 4000 in
theorem bk_L_law_1350 {g : GP} {l : Launch} {d : Nat} {σ : St} {Q : Option AV → St → Prop} {x1 : Option Nat} {x2 : Option Nat} {x3 : Int} (hX : va_X g.2.2.2.1 g.2.2.2.2.1 g.2.2.2.2.2 (gS g) (gS g).heap) (hb : g.2.2.2.1 < gB g) (hn : g.2.2.2.2.1 < 2147483648)
    (h : R32 (x3 + 1) ∧ ((0 : Int) ≤ (x3 + 1) ∧ (x3 + 1) < (g.2.2.2.2.1 : Int)) ∧ R32 (x3 + 2) ∧ ((0 : Int) ≤ (x3 + 2) ∧ (x3 + 2) < (g.2.2.2.2.1 : Int)) ∧ ∃ r3, x1 = some r3 ∧ ACi g l d MX11_masked [vR 11 (some r3), vI ((g.2.2.2.2.2 (x3 + 1).toNat).toInt), vI ((g.2.2.2.2.2 (x3 + 2).toNat).toInt)] σ (fun v6 σ5 => ((0 : Int) ≤ (x3 + 1) ∧ (x3 + 1) < (g.2.2.2.2.1 : Int)) ∧ ((0 : Int) ≤ (x3 + 2) ∧ (x3 + 2) < (g.2.2.2.2.1 : Int)) ∧ ∃ r7, x2 = some r7 ∧ ACi g l d MX12_masked [vR 12 (some r7), vI ((g.2.2.2.2.2 (x3 + 1).toNat).toInt), vI ((g.2.2.2.2.2 (x3 + 2).toNat).toInt)] σ5 (fun v10 σ9 => ((v6 = v10 → AW g l (d + 1) ML_law 1621 [some (vA 9999 0), some (vR 11 x1), some (vR 12 x2), some (vI x3)] [] σ9 Q) ∧ (¬ v6 = v10 → Q (some (vI 0)) σ9))))) :
    AW g l (d + 1) ML_law 1350 [some (vA 9999 0), some (vR 11 x1), some (vR 12 x2), some (vI x3)] [] σ Q := by
  refine aw_aload_n dL_law_1350 rfl rfl ?_
  refine aw_aload_n dL_law_1351 rfl rfl ?_
  refine aw_iload_n dL_law_1352 rfl rfl ?_
  refine aw_iconst (x := 1) dL_law_1353 rfl ?_
  obtain ⟨⟨c1, c1x⟩, h⟩ := h
  refine aw_iaddc dL_law_1354 c1 c1x ?_
  obtain ⟨⟨h0, h1⟩, h⟩ := h
  refine aw_sld hX hb dL_law_1355 h0 h1 ?_
  refine aw_aload_n dL_law_1356 rfl rfl ?_
  refine aw_iload_n dL_law_1357 rfl rfl ?_
  refine aw_iconst (x := 2) dL_law_1358 rfl ?_
  obtain ⟨⟨c2, c2x⟩, h⟩ := h
  refine aw_iaddc dL_law_1359 c2 c2x ?_
  obtain ⟨⟨h0, h1⟩, h⟩ := h
  refine aw_sld hX hb dL_law_1360 h0 h1 ?_
  obtain ⟨r3, e4, h⟩ := h
  refine aw_invVi (M := ML_law) (ci := 11) [vI ((g.2.2.2.2.2 (x3 + 1).toNat).toInt), vI ((g.2.2.2.2.2 (x3 + 2).toNat).toInt)] e4 mo_X11_masked rfl lm_L_154 li_X11_masked ls_X11_masked (by decide +kernel) dL_law_1361 rfl (Nat.le_of_ble_eq_true rfl) (ACi.mono (fun v6 σ5 h => ?_) h)
  refine aw_aload_n dL_law_1364 rfl rfl ?_
  refine aw_aload_n dL_law_1365 rfl rfl ?_
  refine aw_iload_n dL_law_1366 rfl rfl ?_
  refine aw_iconst (x := 1) dL_law_1367 rfl ?_
  refine aw_iaddc dL_law_1368 c1 c1x ?_
  obtain ⟨⟨h0, h1⟩, h⟩ := h
  refine aw_sld hX hb dL_law_1369 h0 h1 ?_
  refine aw_aload_n dL_law_1370 rfl rfl ?_
  refine aw_iload_n dL_law_1371 rfl rfl ?_
  refine aw_iconst (x := 2) dL_law_1372 rfl ?_
  refine aw_iaddc dL_law_1373 c2 c2x ?_
  obtain ⟨⟨h0, h1⟩, h⟩ := h
  refine aw_sld hX hb dL_law_1374 h0 h1 ?_
  obtain ⟨r7, e8, h⟩ := h
  refine aw_invVi (M := ML_law) (ci := 12) [vI ((g.2.2.2.2.2 (x3 + 1).toNat).toInt), vI ((g.2.2.2.2.2 (x3 + 2).toNat).toInt)] e8 mo_X12_masked rfl lm_L_157 li_X12_masked ls_X12_masked (by decide +kernel) dL_law_1375 rfl (Nat.le_of_ble_eq_true rfl) (ACi.mono (fun v10 σ9 h => ?_) h)
  refine aw_icmp_eq (tgt := 1621) dL_law_1378 (by decide) (fun k11 => ?_) (fun k11 => ?_)
  · replace h := h.1 k11
    exact aw_fgt (L' := [some (vA 9999 0), some (vR 11 x1), some (vR 12 x2), some (vI x3)]) ⟨rfl, ⟨rfl, ⟨rfl, ⟨rfl, trivial⟩⟩⟩⟩ h
  · replace h := h.2 k11
    refine aw_iconst (x := 0) dL_law_1381 rfl ?_
    exact aw_zreturn dL_law_1382 rfl (Or.inl rfl) h
set_option maxRecDepth 4000 in
theorem bk_L_law_1383 {g : GP} {l : Launch} {d : Nat} {σ : St} {Q : Option AV → St → Prop} {x1 : Option Nat} {x2 : Option Nat} {x3 : Int} (hX : va_X g.2.2.2.1 g.2.2.2.2.1 g.2.2.2.2.2 (gS g) (gS g).heap) (hb : g.2.2.2.1 < gB g) (hn : g.2.2.2.2.1 < 2147483648)
    (h : R32 (x3 + 1) ∧ ((0 : Int) ≤ (x3 + 1) ∧ (x3 + 1) < (g.2.2.2.2.1 : Int)) ∧ R32 (x3 + 2) ∧ ((0 : Int) ≤ (x3 + 2) ∧ (x3 + 2) < (g.2.2.2.2.1 : Int)) ∧ R32 (x3 + 3) ∧ ((0 : Int) ≤ (x3 + 3) ∧ (x3 + 3) < (g.2.2.2.2.1 : Int)) ∧ ∃ r4, x1 = some r4 ∧ ACi g l d MX11_magic [vR 11 (some r4), vI ((g.2.2.2.2.2 (x3 + 1).toNat).toInt), vI ((g.2.2.2.2.2 (x3 + 2).toNat).toInt), vI ((g.2.2.2.2.2 (x3 + 3).toNat).toInt)] σ (fun v7 σ6 => ((0 : Int) ≤ (x3 + 1) ∧ (x3 + 1) < (g.2.2.2.2.1 : Int)) ∧ ((0 : Int) ≤ (x3 + 2) ∧ (x3 + 2) < (g.2.2.2.2.1 : Int)) ∧ ((0 : Int) ≤ (x3 + 3) ∧ (x3 + 3) < (g.2.2.2.2.1 : Int)) ∧ ∃ r8, x2 = some r8 ∧ ACi g l d MX12_magic [vR 12 (some r8), vI ((g.2.2.2.2.2 (x3 + 1).toNat).toInt), vI ((g.2.2.2.2.2 (x3 + 2).toNat).toInt), vI ((g.2.2.2.2.2 (x3 + 3).toNat).toInt)] σ6 (fun v11 σ10 => ((v7 = v11 → AW g l (d + 1) ML_law 1621 [some (vA 9999 0), some (vR 11 x1), some (vR 12 x2), some (vI x3)] [] σ10 Q) ∧ (¬ v7 = v11 → Q (some (vI 0)) σ10))))) :
    AW g l (d + 1) ML_law 1383 [some (vA 9999 0), some (vR 11 x1), some (vR 12 x2), some (vI x3)] [] σ Q := by
  refine aw_aload_n dL_law_1383 rfl rfl ?_
  refine aw_aload_n dL_law_1384 rfl rfl ?_
  refine aw_iload_n dL_law_1385 rfl rfl ?_
  refine aw_iconst (x := 1) dL_law_1386 rfl ?_
  obtain ⟨⟨c1, c1x⟩, h⟩ := h
  refine aw_iaddc dL_law_1387 c1 c1x ?_
  obtain ⟨⟨h0, h1⟩, h⟩ := h
  refine aw_sld hX hb dL_law_1388 h0 h1 ?_
  refine aw_aload_n dL_law_1389 rfl rfl ?_
  refine aw_iload_n dL_law_1390 rfl rfl ?_
  refine aw_iconst (x := 2) dL_law_1391 rfl ?_
  obtain ⟨⟨c2, c2x⟩, h⟩ := h
  refine aw_iaddc dL_law_1392 c2 c2x ?_
  obtain ⟨⟨h0, h1⟩, h⟩ := h
  refine aw_sld hX hb dL_law_1393 h0 h1 ?_
  refine aw_aload_n dL_law_1394 rfl rfl ?_
  refine aw_iload_n dL_law_1395 rfl rfl ?_
  refine aw_iconst (x := 3) dL_law_1396 rfl ?_
  obtain ⟨⟨c3, c3x⟩, h⟩ := h
  refine aw_iaddc dL_law_1397 c3 c3x ?_
  obtain ⟨⟨h0, h1⟩, h⟩ := h
  refine aw_sld hX hb dL_law_1398 h0 h1 ?_
  obtain ⟨r4, e5, h⟩ := h
  refine aw_invVi (M := ML_law) (ci := 11) [vI ((g.2.2.2.2.2 (x3 + 1).toNat).toInt), vI ((g.2.2.2.2.2 (x3 + 2).toNat).toInt), vI ((g.2.2.2.2.2 (x3 + 3).toNat).toInt)] e5 mo_X11_magic rfl lm_L_158 li_X11_magic ls_X11_magic (by decide +kernel) dL_law_1399 rfl (Nat.le_of_ble_eq_true rfl) (ACi.mono (fun v7 σ6 h => ?_) h)
  refine aw_aload_n dL_law_1402 rfl rfl ?_
  refine aw_aload_n dL_law_1403 rfl rfl ?_
  refine aw_iload_n dL_law_1404 rfl rfl ?_
  refine aw_iconst (x := 1) dL_law_1405 rfl ?_
  refine aw_iaddc dL_law_1406 c1 c1x ?_
  obtain ⟨⟨h0, h1⟩, h⟩ := h
  refine aw_sld hX hb dL_law_1407 h0 h1 ?_
  refine aw_aload_n dL_law_1408 rfl rfl ?_
  refine aw_iload_n dL_law_1409 rfl rfl ?_
  refine aw_iconst (x := 2) dL_law_1410 rfl ?_
  refine aw_iaddc dL_law_1411 c2 c2x ?_
  obtain ⟨⟨h0, h1⟩, h⟩ := h
  refine aw_sld hX hb dL_law_1412 h0 h1 ?_
  refine aw_aload_n dL_law_1413 rfl rfl ?_
  refine aw_iload_n dL_law_1414 rfl rfl ?_
  refine aw_iconst (x := 3) dL_law_1415 rfl ?_
  refine aw_iaddc dL_law_1416 c3 c3x ?_
  obtain ⟨⟨h0, h1⟩, h⟩ := h
  refine aw_sld hX hb dL_law_1417 h0 h1 ?_
  obtain ⟨r8, e9, h⟩ := h
  refine aw_invVi (M := ML_law) (ci := 12) [vI ((g.2.2.2.2.2 (x3 + 1).toNat).toInt), vI ((g.2.2.2.2.2 (x3 + 2).toNat).toInt), vI ((g.2.2.2.2.2 (x3 + 3).toNat).toInt)] e9 mo_X12_magic rfl lm_L_161 li_X12_magic ls_X12_magic (by decide +kernel) dL_law_1418 rfl (Nat.le_of_ble_eq_true rfl) (ACi.mono (fun v11 σ10 h => ?_) h)
  refine aw_icmp_eq (tgt := 1621) dL_law_1421 (by decide) (fun k12 => ?_) (fun k12 => ?_)
  · replace h := h.1 k12
    exact aw_fgt (L' := [some (vA 9999 0), some (vR 11 x1), some (vR 12 x2), some (vI x3)]) ⟨rfl, ⟨rfl, ⟨rfl, ⟨rfl, trivial⟩⟩⟩⟩ h
  · replace h := h.2 k12
    refine aw_iconst (x := 0) dL_law_1424 rfl ?_
    exact aw_zreturn dL_law_1425 rfl (Or.inl rfl) h
set_option maxRecDepth 4000 in
theorem bk_L_law_1426 {g : GP} {l : Launch} {d : Nat} {σ : St} {Q : Option AV → St → Prop} {x1 : Option Nat} {x2 : Option Nat} {x3 : Int} (hX : va_X g.2.2.2.1 g.2.2.2.2.1 g.2.2.2.2.2 (gS g) (gS g).heap) (hb : g.2.2.2.1 < gB g) (hn : g.2.2.2.2.1 < 2147483648)
    (h : R32 (x3 + 1) ∧ ((0 : Int) ≤ (x3 + 1) ∧ (x3 + 1) < (g.2.2.2.2.1 : Int)) ∧ R32 (x3 + 2) ∧ ((0 : Int) ≤ (x3 + 2) ∧ (x3 + 2) < (g.2.2.2.2.1 : Int)) ∧ ∃ r3, x1 = some r3 ∧ ACi g l d MX11_covered [vR 11 (some r3), vI ((g.2.2.2.2.2 (x3 + 1).toNat).toInt), vI ((g.2.2.2.2.2 (x3 + 2).toNat).toInt)] σ (fun v6 σ5 => ((0 : Int) ≤ (x3 + 1) ∧ (x3 + 1) < (g.2.2.2.2.1 : Int)) ∧ ((0 : Int) ≤ (x3 + 2) ∧ (x3 + 2) < (g.2.2.2.2.1 : Int)) ∧ ∃ r7, x2 = some r7 ∧ ACi g l d MX12_covered [vR 12 (some r7), vI ((g.2.2.2.2.2 (x3 + 1).toNat).toInt), vI ((g.2.2.2.2.2 (x3 + 2).toNat).toInt)] σ5 (fun v10 σ9 => ((v6 = v10 → AW g l (d + 1) ML_law 1621 [some (vA 9999 0), some (vR 11 x1), some (vR 12 x2), some (vI x3)] [] σ9 Q) ∧ (¬ v6 = v10 → Q (some (vI 0)) σ9))))) :
    AW g l (d + 1) ML_law 1426 [some (vA 9999 0), some (vR 11 x1), some (vR 12 x2), some (vI x3)] [] σ Q := by
  refine aw_aload_n dL_law_1426 rfl rfl ?_
  refine aw_aload_n dL_law_1427 rfl rfl ?_
  refine aw_iload_n dL_law_1428 rfl rfl ?_
  refine aw_iconst (x := 1) dL_law_1429 rfl ?_
  obtain ⟨⟨c1, c1x⟩, h⟩ := h
  refine aw_iaddc dL_law_1430 c1 c1x ?_
  obtain ⟨⟨h0, h1⟩, h⟩ := h
  refine aw_sld hX hb dL_law_1431 h0 h1 ?_
  refine aw_aload_n dL_law_1432 rfl rfl ?_
  refine aw_iload_n dL_law_1433 rfl rfl ?_
  refine aw_iconst (x := 2) dL_law_1434 rfl ?_
  obtain ⟨⟨c2, c2x⟩, h⟩ := h
  refine aw_iaddc dL_law_1435 c2 c2x ?_
  obtain ⟨⟨h0, h1⟩, h⟩ := h
  refine aw_sld hX hb dL_law_1436 h0 h1 ?_
  obtain ⟨r3, e4, h⟩ := h
  refine aw_invVi (M := ML_law) (ci := 11) [vI ((g.2.2.2.2.2 (x3 + 1).toNat).toInt), vI ((g.2.2.2.2.2 (x3 + 2).toNat).toInt)] e4 mo_X11_covered rfl lm_L_162 li_X11_covered ls_X11_covered (by decide +kernel) dL_law_1437 rfl (Nat.le_of_ble_eq_true rfl) (ACi.mono (fun v6 σ5 h => ?_) h)
  refine aw_aload_n dL_law_1440 rfl rfl ?_
  refine aw_aload_n dL_law_1441 rfl rfl ?_
  refine aw_iload_n dL_law_1442 rfl rfl ?_
  refine aw_iconst (x := 1) dL_law_1443 rfl ?_
  refine aw_iaddc dL_law_1444 c1 c1x ?_
  obtain ⟨⟨h0, h1⟩, h⟩ := h
  refine aw_sld hX hb dL_law_1445 h0 h1 ?_
  refine aw_aload_n dL_law_1446 rfl rfl ?_
  refine aw_iload_n dL_law_1447 rfl rfl ?_
  refine aw_iconst (x := 2) dL_law_1448 rfl ?_
  refine aw_iaddc dL_law_1449 c2 c2x ?_
  obtain ⟨⟨h0, h1⟩, h⟩ := h
  refine aw_sld hX hb dL_law_1450 h0 h1 ?_
  obtain ⟨r7, e8, h⟩ := h
  refine aw_invVi (M := ML_law) (ci := 12) [vI ((g.2.2.2.2.2 (x3 + 1).toNat).toInt), vI ((g.2.2.2.2.2 (x3 + 2).toNat).toInt)] e8 mo_X12_covered rfl lm_L_165 li_X12_covered ls_X12_covered (by decide +kernel) dL_law_1451 rfl (Nat.le_of_ble_eq_true rfl) (ACi.mono (fun v10 σ9 h => ?_) h)
  refine aw_icmp_eq (tgt := 1621) dL_law_1454 (by decide) (fun k11 => ?_) (fun k11 => ?_)
  · replace h := h.1 k11
    exact aw_fgt (L' := [some (vA 9999 0), some (vR 11 x1), some (vR 12 x2), some (vI x3)]) ⟨rfl, ⟨rfl, ⟨rfl, ⟨rfl, trivial⟩⟩⟩⟩ h
  · replace h := h.2 k11
    refine aw_iconst (x := 0) dL_law_1457 rfl ?_
    exact aw_zreturn dL_law_1458 rfl (Or.inl rfl) h
set_option maxRecDepth 4000 in
theorem bk_L_law_1459 {g : GP} {l : Launch} {d : Nat} {σ : St} {Q : Option AV → St → Prop} {x1 : Option Nat} {x2 : Option Nat} {x3 : Int} (hX : va_X g.2.2.2.1 g.2.2.2.2.1 g.2.2.2.2.2 (gS g) (gS g).heap) (hb : g.2.2.2.1 < gB g) (hn : g.2.2.2.2.1 < 2147483648)
    (h : R32 (x3 + 1) ∧ ((0 : Int) ≤ (x3 + 1) ∧ (x3 + 1) < (g.2.2.2.2.1 : Int)) ∧ R32 (x3 + 2) ∧ ((0 : Int) ≤ (x3 + 2) ∧ (x3 + 2) < (g.2.2.2.2.1 : Int)) ∧ R32 (x3 + 3) ∧ ((0 : Int) ≤ (x3 + 3) ∧ (x3 + 3) < (g.2.2.2.2.1 : Int)) ∧ ∃ r4, x1 = some r4 ∧ ACi g l d MX11_gap [vR 11 (some r4), vI ((g.2.2.2.2.2 (x3 + 1).toNat).toInt), vI ((g.2.2.2.2.2 (x3 + 2).toNat).toInt), vI ((g.2.2.2.2.2 (x3 + 3).toNat).toInt)] σ (fun v7 σ6 => ((0 : Int) ≤ (x3 + 1) ∧ (x3 + 1) < (g.2.2.2.2.1 : Int)) ∧ ((0 : Int) ≤ (x3 + 2) ∧ (x3 + 2) < (g.2.2.2.2.1 : Int)) ∧ ((0 : Int) ≤ (x3 + 3) ∧ (x3 + 3) < (g.2.2.2.2.1 : Int)) ∧ ∃ r8, x2 = some r8 ∧ ACi g l d MX12_gap [vR 12 (some r8), vI ((g.2.2.2.2.2 (x3 + 1).toNat).toInt), vI ((g.2.2.2.2.2 (x3 + 2).toNat).toInt), vI ((g.2.2.2.2.2 (x3 + 3).toNat).toInt)] σ6 (fun v11 σ10 => ((v7 = v11 → AW g l (d + 1) ML_law 1621 [some (vA 9999 0), some (vR 11 x1), some (vR 12 x2), some (vI x3)] [] σ10 Q) ∧ (¬ v7 = v11 → Q (some (vI 0)) σ10))))) :
    AW g l (d + 1) ML_law 1459 [some (vA 9999 0), some (vR 11 x1), some (vR 12 x2), some (vI x3)] [] σ Q := by
  refine aw_aload_n dL_law_1459 rfl rfl ?_
  refine aw_aload_n dL_law_1460 rfl rfl ?_
  refine aw_iload_n dL_law_1461 rfl rfl ?_
  refine aw_iconst (x := 1) dL_law_1462 rfl ?_
  obtain ⟨⟨c1, c1x⟩, h⟩ := h
  refine aw_iaddc dL_law_1463 c1 c1x ?_
  obtain ⟨⟨h0, h1⟩, h⟩ := h
  refine aw_sld hX hb dL_law_1464 h0 h1 ?_
  refine aw_aload_n dL_law_1465 rfl rfl ?_
  refine aw_iload_n dL_law_1466 rfl rfl ?_
  refine aw_iconst (x := 2) dL_law_1467 rfl ?_
  obtain ⟨⟨c2, c2x⟩, h⟩ := h
  refine aw_iaddc dL_law_1468 c2 c2x ?_
  obtain ⟨⟨h0, h1⟩, h⟩ := h
  refine aw_sld hX hb dL_law_1469 h0 h1 ?_
  refine aw_aload_n dL_law_1470 rfl rfl ?_
  refine aw_iload_n dL_law_1471 rfl rfl ?_
  refine aw_iconst (x := 3) dL_law_1472 rfl ?_
  obtain ⟨⟨c3, c3x⟩, h⟩ := h
  refine aw_iaddc dL_law_1473 c3 c3x ?_
  obtain ⟨⟨h0, h1⟩, h⟩ := h
  refine aw_sld hX hb dL_law_1474 h0 h1 ?_
  obtain ⟨r4, e5, h⟩ := h
  refine aw_invVi (M := ML_law) (ci := 11) [vI ((g.2.2.2.2.2 (x3 + 1).toNat).toInt), vI ((g.2.2.2.2.2 (x3 + 2).toNat).toInt), vI ((g.2.2.2.2.2 (x3 + 3).toNat).toInt)] e5 mo_X11_gap rfl lm_L_166 li_X11_gap ls_X11_gap (by decide +kernel) dL_law_1475 rfl (Nat.le_of_ble_eq_true rfl) (ACi.mono (fun v7 σ6 h => ?_) h)
  refine aw_aload_n dL_law_1478 rfl rfl ?_
  refine aw_aload_n dL_law_1479 rfl rfl ?_
  refine aw_iload_n dL_law_1480 rfl rfl ?_
  refine aw_iconst (x := 1) dL_law_1481 rfl ?_
  refine aw_iaddc dL_law_1482 c1 c1x ?_
  obtain ⟨⟨h0, h1⟩, h⟩ := h
  refine aw_sld hX hb dL_law_1483 h0 h1 ?_
  refine aw_aload_n dL_law_1484 rfl rfl ?_
  refine aw_iload_n dL_law_1485 rfl rfl ?_
  refine aw_iconst (x := 2) dL_law_1486 rfl ?_
  refine aw_iaddc dL_law_1487 c2 c2x ?_
  obtain ⟨⟨h0, h1⟩, h⟩ := h
  refine aw_sld hX hb dL_law_1488 h0 h1 ?_
  refine aw_aload_n dL_law_1489 rfl rfl ?_
  refine aw_iload_n dL_law_1490 rfl rfl ?_
  refine aw_iconst (x := 3) dL_law_1491 rfl ?_
  refine aw_iaddc dL_law_1492 c3 c3x ?_
  obtain ⟨⟨h0, h1⟩, h⟩ := h
  refine aw_sld hX hb dL_law_1493 h0 h1 ?_
  obtain ⟨r8, e9, h⟩ := h
  refine aw_invVi (M := ML_law) (ci := 12) [vI ((g.2.2.2.2.2 (x3 + 1).toNat).toInt), vI ((g.2.2.2.2.2 (x3 + 2).toNat).toInt), vI ((g.2.2.2.2.2 (x3 + 3).toNat).toInt)] e9 mo_X12_gap rfl lm_L_169 li_X12_gap ls_X12_gap (by decide +kernel) dL_law_1494 rfl (Nat.le_of_ble_eq_true rfl) (ACi.mono (fun v11 σ10 h => ?_) h)
  refine aw_icmp_eq (tgt := 1621) dL_law_1497 (by decide) (fun k12 => ?_) (fun k12 => ?_)
  · replace h := h.1 k12
    exact aw_fgt (L' := [some (vA 9999 0), some (vR 11 x1), some (vR 12 x2), some (vI x3)]) ⟨rfl, ⟨rfl, ⟨rfl, ⟨rfl, trivial⟩⟩⟩⟩ h
  · replace h := h.2 k12
    refine aw_iconst (x := 0) dL_law_1500 rfl ?_
    exact aw_zreturn dL_law_1501 rfl (Or.inl rfl) h
set_option maxRecDepth 4000 in
theorem bk_L_law_1502 {g : GP} {l : Launch} {d : Nat} {σ : St} {Q : Option AV → St → Prop} {x1 : Option Nat} {x2 : Option Nat} {x3 : Int} (hX : va_X g.2.2.2.1 g.2.2.2.2.1 g.2.2.2.2.2 (gS g) (gS g).heap) (hb : g.2.2.2.1 < gB g) (hn : g.2.2.2.2.1 < 2147483648)
    (h : R32 (x3 + 1) ∧ ((0 : Int) ≤ (x3 + 1) ∧ (x3 + 1) < (g.2.2.2.2.1 : Int)) ∧ R32 (x3 + 2) ∧ ((0 : Int) ≤ (x3 + 2) ∧ (x3 + 2) < (g.2.2.2.2.1 : Int)) ∧ R32 (x3 + 3) ∧ ((0 : Int) ≤ (x3 + 3) ∧ (x3 + 3) < (g.2.2.2.2.1 : Int)) ∧ R32 (x3 + 4) ∧ ((0 : Int) ≤ (x3 + 4) ∧ (x3 + 4) < (g.2.2.2.2.1 : Int)) ∧ ∃ r5, x1 = some r5 ∧ ACi g l d MX11_differ [vR 11 (some r5), vI ((g.2.2.2.2.2 (x3 + 1).toNat).toInt), vI ((g.2.2.2.2.2 (x3 + 2).toNat).toInt), vI ((g.2.2.2.2.2 (x3 + 3).toNat).toInt), vI ((g.2.2.2.2.2 (x3 + 4).toNat).toInt)] σ (fun v8 σ7 => ((0 : Int) ≤ (x3 + 1) ∧ (x3 + 1) < (g.2.2.2.2.1 : Int)) ∧ ((0 : Int) ≤ (x3 + 2) ∧ (x3 + 2) < (g.2.2.2.2.1 : Int)) ∧ ((0 : Int) ≤ (x3 + 3) ∧ (x3 + 3) < (g.2.2.2.2.1 : Int)) ∧ ((0 : Int) ≤ (x3 + 4) ∧ (x3 + 4) < (g.2.2.2.2.1 : Int)) ∧ ∃ r9, x2 = some r9 ∧ ACi g l d MX12_differ [vR 12 (some r9), vI ((g.2.2.2.2.2 (x3 + 1).toNat).toInt), vI ((g.2.2.2.2.2 (x3 + 2).toNat).toInt), vI ((g.2.2.2.2.2 (x3 + 3).toNat).toInt), vI ((g.2.2.2.2.2 (x3 + 4).toNat).toInt)] σ7 (fun v12 σ11 => ((v8 = v12 → AW g l (d + 1) ML_law 1621 [some (vA 9999 0), some (vR 11 x1), some (vR 12 x2), some (vI x3)] [] σ11 Q) ∧ (¬ v8 = v12 → Q (some (vI 0)) σ11))))) :
    AW g l (d + 1) ML_law 1502 [some (vA 9999 0), some (vR 11 x1), some (vR 12 x2), some (vI x3)] [] σ Q := by
  refine aw_aload_n dL_law_1502 rfl rfl ?_
  refine aw_aload_n dL_law_1503 rfl rfl ?_
  refine aw_iload_n dL_law_1504 rfl rfl ?_
  refine aw_iconst (x := 1) dL_law_1505 rfl ?_
  obtain ⟨⟨c1, c1x⟩, h⟩ := h
  refine aw_iaddc dL_law_1506 c1 c1x ?_
  obtain ⟨⟨h0, h1⟩, h⟩ := h
  refine aw_sld hX hb dL_law_1507 h0 h1 ?_
  refine aw_aload_n dL_law_1508 rfl rfl ?_
  refine aw_iload_n dL_law_1509 rfl rfl ?_
  refine aw_iconst (x := 2) dL_law_1510 rfl ?_
  obtain ⟨⟨c2, c2x⟩, h⟩ := h
  refine aw_iaddc dL_law_1511 c2 c2x ?_
  obtain ⟨⟨h0, h1⟩, h⟩ := h
  refine aw_sld hX hb dL_law_1512 h0 h1 ?_
  refine aw_aload_n dL_law_1513 rfl rfl ?_
  refine aw_iload_n dL_law_1514 rfl rfl ?_
  refine aw_iconst (x := 3) dL_law_1515 rfl ?_
  obtain ⟨⟨c3, c3x⟩, h⟩ := h
  refine aw_iaddc dL_law_1516 c3 c3x ?_
  obtain ⟨⟨h0, h1⟩, h⟩ := h
  refine aw_sld hX hb dL_law_1517 h0 h1 ?_
  refine aw_aload_n dL_law_1518 rfl rfl ?_
  refine aw_iload_n dL_law_1519 rfl rfl ?_
  refine aw_iconst (x := 4) dL_law_1520 rfl ?_
  obtain ⟨⟨c4, c4x⟩, h⟩ := h
  refine aw_iaddc dL_law_1521 c4 c4x ?_
  obtain ⟨⟨h0, h1⟩, h⟩ := h
  refine aw_sld hX hb dL_law_1522 h0 h1 ?_
  obtain ⟨r5, e6, h⟩ := h
  refine aw_invVi (M := ML_law) (ci := 11) [vI ((g.2.2.2.2.2 (x3 + 1).toNat).toInt), vI ((g.2.2.2.2.2 (x3 + 2).toNat).toInt), vI ((g.2.2.2.2.2 (x3 + 3).toNat).toInt), vI ((g.2.2.2.2.2 (x3 + 4).toNat).toInt)] e6 mo_X11_differ rfl lm_L_170 li_X11_differ ls_X11_differ (by decide +kernel) dL_law_1523 rfl (Nat.le_of_ble_eq_true rfl) (ACi.mono (fun v8 σ7 h => ?_) h)
  refine aw_aload_n dL_law_1526 rfl rfl ?_
  refine aw_aload_n dL_law_1527 rfl rfl ?_
  refine aw_iload_n dL_law_1528 rfl rfl ?_
  refine aw_iconst (x := 1) dL_law_1529 rfl ?_
  refine aw_iaddc dL_law_1530 c1 c1x ?_
  obtain ⟨⟨h0, h1⟩, h⟩ := h
  refine aw_sld hX hb dL_law_1531 h0 h1 ?_
  refine aw_aload_n dL_law_1532 rfl rfl ?_
  refine aw_iload_n dL_law_1533 rfl rfl ?_
  refine aw_iconst (x := 2) dL_law_1534 rfl ?_
  refine aw_iaddc dL_law_1535 c2 c2x ?_
  obtain ⟨⟨h0, h1⟩, h⟩ := h
  refine aw_sld hX hb dL_law_1536 h0 h1 ?_
  refine aw_aload_n dL_law_1537 rfl rfl ?_
  refine aw_iload_n dL_law_1538 rfl rfl ?_
  refine aw_iconst (x := 3) dL_law_1539 rfl ?_
  refine aw_iaddc dL_law_1540 c3 c3x ?_
  obtain ⟨⟨h0, h1⟩, h⟩ := h
  refine aw_sld hX hb dL_law_1541 h0 h1 ?_
  refine aw_aload_n dL_law_1542 rfl rfl ?_
  refine aw_iload_n dL_law_1543 rfl rfl ?_
  refine aw_iconst (x := 4) dL_law_1544 rfl ?_
  refine aw_iaddc dL_law_1545 c4 c4x ?_
  obtain ⟨⟨h0, h1⟩, h⟩ := h
  refine aw_sld hX hb dL_law_1546 h0 h1 ?_
  obtain ⟨r9, e10, h⟩ := h
  refine aw_invVi (M := ML_law) (ci := 12) [vI ((g.2.2.2.2.2 (x3 + 1).toNat).toInt), vI ((g.2.2.2.2.2 (x3 + 2).toNat).toInt), vI ((g.2.2.2.2.2 (x3 + 3).toNat).toInt), vI ((g.2.2.2.2.2 (x3 + 4).toNat).toInt)] e10 mo_X12_differ rfl lm_L_173 li_X12_differ ls_X12_differ (by decide +kernel) dL_law_1547 rfl (Nat.le_of_ble_eq_true rfl) (ACi.mono (fun v12 σ11 h => ?_) h)
  refine aw_icmp_eq (tgt := 1621) dL_law_1550 (by decide) (fun k13 => ?_) (fun k13 => ?_)
  · replace h := h.1 k13
    exact aw_fgt (L' := [some (vA 9999 0), some (vR 11 x1), some (vR 12 x2), some (vI x3)]) ⟨rfl, ⟨rfl, ⟨rfl, ⟨rfl, trivial⟩⟩⟩⟩ h
  · replace h := h.2 k13
    refine aw_iconst (x := 0) dL_law_1553 rfl ?_
    exact aw_zreturn dL_law_1554 rfl (Or.inl rfl) h
set_option maxRecDepth 4000 in
theorem bk_L_law_1555 {g : GP} {l : Launch} {d : Nat} {σ : St} {Q : Option AV → St → Prop} {x1 : Option Nat} {x2 : Option Nat} {x3 : Int} (hX : va_X g.2.2.2.1 g.2.2.2.2.1 g.2.2.2.2.2 (gS g) (gS g).heap) (hb : g.2.2.2.1 < gB g) (hn : g.2.2.2.2.1 < 2147483648)
    (h : R32 (x3 + 1) ∧ ((0 : Int) ≤ (x3 + 1) ∧ (x3 + 1) < (g.2.2.2.2.1 : Int)) ∧ R32 (x3 + 2) ∧ ((0 : Int) ≤ (x3 + 2) ∧ (x3 + 2) < (g.2.2.2.2.1 : Int)) ∧ R32 (x3 + 3) ∧ ((0 : Int) ≤ (x3 + 3) ∧ (x3 + 3) < (g.2.2.2.2.1 : Int)) ∧ ∃ r4, x1 = some r4 ∧ ACi g l d MX11_hex [vR 11 (some r4), vI ((g.2.2.2.2.2 (x3 + 1).toNat).toInt), vI ((g.2.2.2.2.2 (x3 + 2).toNat).toInt), vI ((g.2.2.2.2.2 (x3 + 3).toNat).toInt)] σ (fun v7 σ6 => ((0 : Int) ≤ (x3 + 1) ∧ (x3 + 1) < (g.2.2.2.2.1 : Int)) ∧ ((0 : Int) ≤ (x3 + 2) ∧ (x3 + 2) < (g.2.2.2.2.1 : Int)) ∧ ((0 : Int) ≤ (x3 + 3) ∧ (x3 + 3) < (g.2.2.2.2.1 : Int)) ∧ ∃ r8, x2 = some r8 ∧ ACi g l d MX12_hex [vR 12 (some r8), vI ((g.2.2.2.2.2 (x3 + 1).toNat).toInt), vI ((g.2.2.2.2.2 (x3 + 2).toNat).toInt), vI ((g.2.2.2.2.2 (x3 + 3).toNat).toInt)] σ6 (fun v11 σ10 => ((v7 = v11 → AW g l (d + 1) ML_law 1621 [some (vA 9999 0), some (vR 11 x1), some (vR 12 x2), some (vI x3)] [] σ10 Q) ∧ (¬ v7 = v11 → Q (some (vI 0)) σ10))))) :
    AW g l (d + 1) ML_law 1555 [some (vA 9999 0), some (vR 11 x1), some (vR 12 x2), some (vI x3)] [] σ Q := by
  refine aw_aload_n dL_law_1555 rfl rfl ?_
  refine aw_aload_n dL_law_1556 rfl rfl ?_
  refine aw_iload_n dL_law_1557 rfl rfl ?_
  refine aw_iconst (x := 1) dL_law_1558 rfl ?_
  obtain ⟨⟨c1, c1x⟩, h⟩ := h
  refine aw_iaddc dL_law_1559 c1 c1x ?_
  obtain ⟨⟨h0, h1⟩, h⟩ := h
  refine aw_sld hX hb dL_law_1560 h0 h1 ?_
  refine aw_aload_n dL_law_1561 rfl rfl ?_
  refine aw_iload_n dL_law_1562 rfl rfl ?_
  refine aw_iconst (x := 2) dL_law_1563 rfl ?_
  obtain ⟨⟨c2, c2x⟩, h⟩ := h
  refine aw_iaddc dL_law_1564 c2 c2x ?_
  obtain ⟨⟨h0, h1⟩, h⟩ := h
  refine aw_sld hX hb dL_law_1565 h0 h1 ?_
  refine aw_aload_n dL_law_1566 rfl rfl ?_
  refine aw_iload_n dL_law_1567 rfl rfl ?_
  refine aw_iconst (x := 3) dL_law_1568 rfl ?_
  obtain ⟨⟨c3, c3x⟩, h⟩ := h
  refine aw_iaddc dL_law_1569 c3 c3x ?_
  obtain ⟨⟨h0, h1⟩, h⟩ := h
  refine aw_sld hX hb dL_law_1570 h0 h1 ?_
  obtain ⟨r4, e5, h⟩ := h
  refine aw_invVi (M := ML_law) (ci := 11) [vI ((g.2.2.2.2.2 (x3 + 1).toNat).toInt), vI ((g.2.2.2.2.2 (x3 + 2).toNat).toInt), vI ((g.2.2.2.2.2 (x3 + 3).toNat).toInt)] e5 mo_X11_hex rfl lm_L_174 li_X11_hex ls_X11_hex (by decide +kernel) dL_law_1571 rfl (Nat.le_of_ble_eq_true rfl) (ACi.mono (fun v7 σ6 h => ?_) h)
  refine aw_aload_n dL_law_1574 rfl rfl ?_
  refine aw_aload_n dL_law_1575 rfl rfl ?_
  refine aw_iload_n dL_law_1576 rfl rfl ?_
  refine aw_iconst (x := 1) dL_law_1577 rfl ?_
  refine aw_iaddc dL_law_1578 c1 c1x ?_
  obtain ⟨⟨h0, h1⟩, h⟩ := h
  refine aw_sld hX hb dL_law_1579 h0 h1 ?_
  refine aw_aload_n dL_law_1580 rfl rfl ?_
  refine aw_iload_n dL_law_1581 rfl rfl ?_
  refine aw_iconst (x := 2) dL_law_1582 rfl ?_
  refine aw_iaddc dL_law_1583 c2 c2x ?_
  obtain ⟨⟨h0, h1⟩, h⟩ := h
  refine aw_sld hX hb dL_law_1584 h0 h1 ?_
  refine aw_aload_n dL_law_1585 rfl rfl ?_
  refine aw_iload_n dL_law_1586 rfl rfl ?_
  refine aw_iconst (x := 3) dL_law_1587 rfl ?_
  refine aw_iaddc dL_law_1588 c3 c3x ?_
  obtain ⟨⟨h0, h1⟩, h⟩ := h
  refine aw_sld hX hb dL_law_1589 h0 h1 ?_
  obtain ⟨r8, e9, h⟩ := h
  refine aw_invVi (M := ML_law) (ci := 12) [vI ((g.2.2.2.2.2 (x3 + 1).toNat).toInt), vI ((g.2.2.2.2.2 (x3 + 2).toNat).toInt), vI ((g.2.2.2.2.2 (x3 + 3).toNat).toInt)] e9 mo_X12_hex rfl lm_L_177 li_X12_hex ls_X12_hex (by decide +kernel) dL_law_1590 rfl (Nat.le_of_ble_eq_true rfl) (ACi.mono (fun v11 σ10 h => ?_) h)
  refine aw_icmp_eq (tgt := 1621) dL_law_1593 (by decide) (fun k12 => ?_) (fun k12 => ?_)
  · replace h := h.1 k12
    exact aw_fgt (L' := [some (vA 9999 0), some (vR 11 x1), some (vR 12 x2), some (vI x3)]) ⟨rfl, ⟨rfl, ⟨rfl, ⟨rfl, trivial⟩⟩⟩⟩ h
  · replace h := h.2 k12
    refine aw_iconst (x := 0) dL_law_1596 rfl ?_
    exact aw_zreturn dL_law_1597 rfl (Or.inl rfl) h
set_option maxRecDepth 4000 in
theorem bk_L_law_1598 {g : GP} {l : Launch} {d : Nat} {σ : St} {Q : Option AV → St → Prop} {x1 : Option Nat} {x2 : Option Nat} {x3 : Int} (hX : va_X g.2.2.2.1 g.2.2.2.2.1 g.2.2.2.2.2 (gS g) (gS g).heap) (hb : g.2.2.2.1 < gB g) (hn : g.2.2.2.2.1 < 2147483648)
    (h : R32 (x3 + 1) ∧ ((0 : Int) ≤ (x3 + 1) ∧ (x3 + 1) < (g.2.2.2.2.1 : Int)) ∧ ∃ r2, x1 = some r2 ∧ ACi g l d MX11_count [vR 11 (some r2), vI ((g.2.2.2.2.2 (x3 + 1).toNat).toInt)] σ (fun v5 σ4 => ((0 : Int) ≤ (x3 + 1) ∧ (x3 + 1) < (g.2.2.2.2.1 : Int)) ∧ ∃ r6, x2 = some r6 ∧ ACi g l d MX12_count [vR 12 (some r6), vI ((g.2.2.2.2.2 (x3 + 1).toNat).toInt)] σ4 (fun v9 σ8 => ((v5 = v9 → AW g l (d + 1) ML_law 1621 [some (vA 9999 0), some (vR 11 x1), some (vR 12 x2), some (vI x3)] [] σ8 Q) ∧ (¬ v5 = v9 → Q (some (vI 0)) σ8))))) :
    AW g l (d + 1) ML_law 1598 [some (vA 9999 0), some (vR 11 x1), some (vR 12 x2), some (vI x3)] [] σ Q := by
  refine aw_aload_n dL_law_1598 rfl rfl ?_
  refine aw_aload_n dL_law_1599 rfl rfl ?_
  refine aw_iload_n dL_law_1600 rfl rfl ?_
  refine aw_iconst (x := 1) dL_law_1601 rfl ?_
  obtain ⟨⟨c1, c1x⟩, h⟩ := h
  refine aw_iaddc dL_law_1602 c1 c1x ?_
  obtain ⟨⟨h0, h1⟩, h⟩ := h
  refine aw_sld hX hb dL_law_1603 h0 h1 ?_
  obtain ⟨r2, e3, h⟩ := h
  refine aw_invVi (M := ML_law) (ci := 11) [vI ((g.2.2.2.2.2 (x3 + 1).toNat).toInt)] e3 mo_X11_count rfl lm_L_178 li_X11_count ls_X11_count (by decide +kernel) dL_law_1604 rfl (Nat.le_of_ble_eq_true rfl) (ACi.mono (fun v5 σ4 h => ?_) h)
  refine aw_aload_n dL_law_1607 rfl rfl ?_
  refine aw_aload_n dL_law_1608 rfl rfl ?_
  refine aw_iload_n dL_law_1609 rfl rfl ?_
  refine aw_iconst (x := 1) dL_law_1610 rfl ?_
  refine aw_iaddc dL_law_1611 c1 c1x ?_
  obtain ⟨⟨h0, h1⟩, h⟩ := h
  refine aw_sld hX hb dL_law_1612 h0 h1 ?_
  obtain ⟨r6, e7, h⟩ := h
  refine aw_invVi (M := ML_law) (ci := 12) [vI ((g.2.2.2.2.2 (x3 + 1).toNat).toInt)] e7 mo_X12_count rfl lm_L_181 li_X12_count ls_X12_count (by decide +kernel) dL_law_1613 rfl (Nat.le_of_ble_eq_true rfl) (ACi.mono (fun v9 σ8 h => ?_) h)
  refine aw_icmp_eq (tgt := 1621) dL_law_1616 (by decide) (fun k10 => ?_) (fun k10 => ?_)
  · replace h := h.1 k10
    exact aw_fgt (L' := [some (vA 9999 0), some (vR 11 x1), some (vR 12 x2), some (vI x3)]) ⟨rfl, ⟨rfl, ⟨rfl, ⟨rfl, trivial⟩⟩⟩⟩ h
  · replace h := h.2 k10
    refine aw_iconst (x := 0) dL_law_1619 rfl ?_
    exact aw_zreturn dL_law_1620 rfl (Or.inl rfl) h
set_option maxRecDepth 4000 in
theorem bk_L_law_1621 {g : GP} {l : Launch} {d : Nat} {σ : St} {Q : Option AV → St → Prop} {x1 : Option Nat} {x2 : Option Nat} {x3 : Int} (hX : va_X g.2.2.2.1 g.2.2.2.2.1 g.2.2.2.2.2 (gS g) (gS g).heap) (hb : g.2.2.2.1 < gB g) (hn : g.2.2.2.2.1 < 2147483648)
    (h : R32 (x3 + 7) ∧ AW g l (d + 1) ML_law 18 [some (vA 9999 0), some (vR 11 x1), some (vR 12 x2), some (vI (x3 + 7))] [] σ Q) :
    AW g l (d + 1) ML_law 1621 [some (vA 9999 0), some (vR 11 x1), some (vR 12 x2), some (vI x3)] [] σ Q := by
  obtain ⟨⟨c1, c1x⟩, h⟩ := h
  refine aw_iincc (L' := [some (vA 9999 0), some (vR 11 x1), some (vR 12 x2), some (vI (x3 + 7))]) dL_law_1621 rfl (by decide) rfl c1 c1x rfl ?_
  refine aw_goto (tgt := 18) dL_law_1624 (by decide) ?_
  exact aw_fgt (L' := [some (vA 9999 0), some (vR 11 x1), some (vR 12 x2), some (vI (x3 + 7))]) ⟨rfl, ⟨rfl, ⟨rfl, ⟨rfl, trivial⟩⟩⟩⟩ h
