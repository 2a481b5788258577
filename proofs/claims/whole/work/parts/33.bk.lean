set_option maxRecDepth 4000 in
theorem bk_X11_uses_0 {g : GP} {l : Launch} {d : Nat} {σ : St} {Q : Option AV → St → Prop} {x0 : Nat} {x1 : Int} {x2 : Int}
    (h : ACi g l d MX11_isStructure [vR 11 (some x0), vI x1] σ (fun v2 σ1 => ((v2 = 0 → Q (some (vI (-1))) σ1) ∧ (¬ v2 = 0 → ACi g l d MX11_isStructure [vR 11 (some x0), vI x2] σ1 (fun v5 σ4 => ((¬ v5 = 0 → ∃ r7, gR σ4 1105 x0 0 = some r7 ∧ LC 1 σ4 r7 ∧ Bd x1 20 ∧ ∃ r11, gR σ4 100 r7 x1.toNat = some r11 ∧ Q (some (vI (i_and (i_shr (gI σ4 804 r11 0) x2) 1))) σ4) ∧ (v5 = 0 → Q (some (vI (-1))) σ4))))))) :
    AW g l (d + 1) MX11_uses 0 [some (vR 11 (some x0)), some (vI x1), some (vI x2)] [] σ Q := by
  refine aw_aload_n dX11_uses_0 rfl rfl ?_
  refine aw_iload_n dX11_uses_1 rfl rfl ?_
  refine aw_invVi (M := MX11_uses) (ci := 11) [vI x1] rfl mo_X11_isStructure rfl lm_X11_149 li_X11_isStructure ls_X11_isStructure (by decide +kernel) dX11_uses_2 rfl (Nat.le_of_ble_eq_true rfl) (ACi.mono (fun v2 σ1 h => ?_) h)
  refine aw_if_eq (tgt := 16) dX11_uses_5 (by decide) (fun k3 => ?_) (fun k3 => ?_)
  · replace h := h.1 k3
    refine aw_iconst (x := (-1)) dX11_uses_16 rfl ?_
    exact aw_ireturn dX11_uses_17 rfl h
  · replace h := h.2 k3
    refine aw_aload_n dX11_uses_8 rfl rfl ?_
    refine aw_iload_n dX11_uses_9 rfl rfl ?_
    refine aw_invVi (M := MX11_uses) (ci := 11) [vI x2] rfl mo_X11_isStructure rfl lm_X11_149 li_X11_isStructure ls_X11_isStructure (by decide +kernel) dX11_uses_10 rfl (Nat.le_of_ble_eq_true rfl) (ACi.mono (fun v5 σ4 h => ?_) h)
    refine aw_if_ne (tgt := 18) dX11_uses_13 (by decide) (fun k6 => ?_) (fun k6 => ?_)
    · replace h := h.1 k6
      refine aw_aload_n dX11_uses_18 rfl rfl ?_
      refine aw_getR' (ci := 1) rfl fk_1105 (by decide +kernel) lf_X11_39 dX11_uses_19 ?_
      obtain ⟨r7, e8, h⟩ := h
      obtain ⟨lc9, h⟩ := h
      refine aw_getA' e8 fk_100 (by decide) lf_X11_153 dX11_uses_22 (LC.ne lc9 rfl rfl) ?_
      refine aw_iload_n dX11_uses_25 rfl rfl ?_
      obtain ⟨⟨c10, c10x⟩, h⟩ := h
      refine aw_aaload (ci := 8) (by decide) rfl (by decide +kernel) dX11_uses_26 c10 (LC.lt lc9 rfl rfl c10x) ?_
      obtain ⟨r11, e12, h⟩ := h
      refine aw_getI' e12 fk_804 lf_X11_162 dX11_uses_27 ?_
      refine aw_iload_n dX11_uses_30 rfl rfl ?_
      refine aw_ishr dX11_uses_31 ?_
      refine aw_iconst (x := 1) dX11_uses_32 rfl ?_
      refine aw_iand dX11_uses_33 ?_
      exact aw_ireturn dX11_uses_34 rfl h
    · replace h := h.2 k6
      refine aw_iconst (x := (-1)) dX11_uses_16 rfl ?_
      exact aw_ireturn dX11_uses_17 rfl h
set_option maxRecDepth 4000 in
theorem bk_X11_value_0 {g : GP} {l : Launch} {d : Nat} {σ : St} {Q : Option AV → St → Prop} {x0 : Nat} {x1 : Int} {x2 : Int}
    (h : ACr g l d MX11_treeOf 10 [vR 11 (some x0), vI x1] σ (fun v2 σ1 => ACr g l d MX11_nodeOf 5 [vR 11 (some x0), vI x1, vI x2] σ1 (fun v4 σ3 => ((v2 = none → Q (some (vJ 0)) σ3) ∧ (∀ r5, v2 = some r5 → ((v4 = none → Q (some (vJ 0)) σ3) ∧ (∀ r7, v4 = some r7 → ACj g l d MX5_reading [vR 5 (some r7), vR 3 (gR σ3 1000 r5 0)] σ3 (fun v10 σ9 => Q (some (vJ v10)) σ9)))))))) :
    AW g l (d + 1) MX11_value 0 [some (vR 11 (some x0)), some (vI x1), some (vI x2), none, none] [] σ Q := by
  refine aw_aload_n dX11_value_0 rfl rfl ?_
  refine aw_iload_n dX11_value_1 rfl rfl ?_
  refine aw_invVr (M := MX11_value) (ci := 11) [vI x1] rfl mo_X11_treeOf rfl lm_X11_173 li_X11_treeOf ls_X11_treeOf (by decide +kernel) dX11_value_2 rfl (Nat.le_of_ble_eq_true rfl) (ACr.mono (fun v2 σ1 h => ?_) h)
  refine aw_astore_n (L' := [some (vR 11 (some x0)), some (vI x1), some (vI x2), some (vR 10 v2), none]) dX11_value_5 rfl (by decide) rfl ?_
  refine aw_aload_n dX11_value_6 rfl rfl ?_
  refine aw_iload_n dX11_value_7 rfl rfl ?_
  refine aw_iload_n dX11_value_8 rfl rfl ?_
  refine aw_invVr (M := MX11_value) (ci := 11) [vI x1, vI x2] rfl mo_X11_nodeOf rfl lm_X11_188 li_X11_nodeOf ls_X11_nodeOf (by decide +kernel) dX11_value_9 rfl (Nat.le_of_ble_eq_true rfl) (ACr.mono (fun v4 σ3 h => ?_) h)
  refine aw_astore (L' := [some (vR 11 (some x0)), some (vI x1), some (vI x2), some (vR 10 v2), some (vR 5 v4)]) dX11_value_12 (by decide) rfl ?_
  refine aw_aload_n dX11_value_14 rfl rfl ?_
  refine aw_ifnull (tgt := 23) dX11_value_15 (by decide) (fun hc => ?_) (fun r5 e6 => ?_)
  · replace h := h.1 hc
    refine aw_lconst (x := 0) dX11_value_23 rfl ?_
    refine aw_goto (tgt := 36) dX11_value_24 (by decide) ?_
    exact aw_lreturn dX11_value_36 rfl h
  · replace h := h.2 r5 e6
    refine aw_aload dX11_value_18 rfl ?_
    refine aw_ifnonnull (tgt := 27) dX11_value_20 (by decide) (fun r7 e8 => ?_) (fun hc => ?_)
    · replace h := h.2 r7 e8
      refine aw_aload dX11_value_27 rfl ?_
      refine aw_aload_n dX11_value_29 rfl rfl ?_
      refine aw_getR' (ci := 3) e6 fk_1000 (by decide +kernel) lf_X11_177 dX11_value_30 ?_
      refine aw_invVj (M := MX11_value) (ci := 5) [vR 3 (gR σ3 1000 r5 0)] e8 mo_X5_reading rfl lm_X11_222 li_X5_reading ls_X5_reading (by decide +kernel) dX11_value_33 rfl (Nat.le_of_ble_eq_true rfl) (ACj.mono (fun v10 σ9 h => ?_) h)
      exact aw_lreturn dX11_value_36 rfl h
    · replace h := h.1 hc
      refine aw_lconst (x := 0) dX11_value_23 rfl ?_
      refine aw_goto (tgt := 36) dX11_value_24 (by decide) ?_
      exact aw_lreturn dX11_value_36 rfl h
set_option maxRecDepth 4000 in
theorem bk_X11_writeTotal_0 {g : GP} {l : Launch} {d : Nat} {σ : St} {Q : Option AV → St → Prop} {x0 : Nat}
    (h : AW g l d MX11_writeTotal 4 [some (vR 11 (some x0)), some (vI 0), some (vI 0), none] [] σ Q) :
    AW g l d MX11_writeTotal 0 [some (vR 11 (some x0)), none, none, none] [] σ Q := by
  refine aw_iconst (x := 0) dX11_writeTotal_0 rfl ?_
  refine aw_istore_n (L' := [some (vR 11 (some x0)), some (vI 0), none, none]) dX11_writeTotal_1 rfl (by decide) rfl ?_
  refine aw_iconst (x := 0) dX11_writeTotal_2 rfl ?_
  refine aw_istore_n (L' := [some (vR 11 (some x0)), some (vI 0), some (vI 0), none]) dX11_writeTotal_3 rfl (by decide) rfl ?_
  exact aw_fgt (L' := [some (vR 11 (some x0)), some (vI 0), some (vI 0), none]) ⟨rfl, ⟨rfl, ⟨rfl, trivial⟩⟩⟩ h
set_option maxRecDepth 4000 in
theorem bk_X11_writeTotal_4 {g : GP} {l : Launch} {d : Nat} {σ : St} {Q : Option AV → St → Prop} {x0 : Nat} {x1 : Int} {x2 : Int}
    (h : (((gI σ 1101 x0 0) ≤ x2 → Q (some (vI x1)) σ) ∧ (¬ (gI σ 1101 x0 0) ≤ x2 → AW g l d MX11_writeTotal 14 [some (vR 11 (some x0)), some (vI x1), some (vI x2), some (vI 0)] [] σ Q))) :
    AW g l d MX11_writeTotal 4 [some (vR 11 (some x0)), some (vI x1), some (vI x2), none] [] σ Q := by
  refine aw_iload_n dX11_writeTotal_4 rfl rfl ?_
  refine aw_aload_n dX11_writeTotal_5 rfl rfl ?_
  refine aw_getI' rfl fk_1101 lf_X11_74 dX11_writeTotal_6 ?_
  refine aw_icmp_ge (tgt := 56) dX11_writeTotal_9 (by decide) (fun k1 => ?_) (fun k1 => ?_)
  · replace h := h.1 k1
    refine aw_iload_n dX11_writeTotal_56 rfl rfl ?_
    exact aw_ireturn dX11_writeTotal_57 rfl h
  · replace h := h.2 k1
    refine aw_iconst (x := 0) dX11_writeTotal_12 rfl ?_
    refine aw_istore_n (L' := [some (vR 11 (some x0)), some (vI x1), some (vI x2), some (vI 0)]) dX11_writeTotal_13 rfl (by decide) rfl ?_
    exact aw_fgt (L' := [some (vR 11 (some x0)), some (vI x1), some (vI x2), some (vI 0)]) ⟨rfl, ⟨rfl, ⟨rfl, ⟨rfl, trivial⟩⟩⟩⟩ h
set_option maxRecDepth 4000 in
theorem bk_X11_writeTotal_14 {g : GP} {l : Launch} {d : Nat} {σ : St} {Q : Option AV → St → Prop} {x0 : Nat} {x1 : Int} {x2 : Int} {x3 : Int}
    (h : LC 11 σ x0 ∧ Bd x2 6 ∧ ∃ r3, gR σ 1100 x0 x2.toNat = some r3 ∧ (((gI σ 303 r3 0) ≤ x3 → R32 (x2 + 1) ∧ AW g l d MX11_writeTotal 4 [some (vR 11 (some x0)), some (vI x1), some (vI (x2 + 1)), none] [] σ Q) ∧ (¬ (gI σ 303 r3 0) ≤ x3 → LC 3 σ r3 ∧ Bd x3 4 ∧ ∃ r9, gR σ 302 r3 x3.toNat = some r9 ∧ R32 (x1 + (gI σ 405 r9 0)) ∧ R32 (x3 + 1) ∧ AW g l d MX11_writeTotal 14 [some (vR 11 (some x0)), some (vI (x1 + (gI σ 405 r9 0))), some (vI x2), some (vI (x3 + 1))] [] σ Q))) :
    AW g l d MX11_writeTotal 14 [some (vR 11 (some x0)), some (vI x1), some (vI x2), some (vI x3)] [] σ Q := by
  refine aw_iload_n dX11_writeTotal_14 rfl rfl ?_
  refine aw_aload_n dX11_writeTotal_15 rfl rfl ?_
  obtain ⟨lc1, h⟩ := h
  refine aw_getA' rfl fk_1100 (by decide) lf_X11_11 dX11_writeTotal_16 (LC.ne lc1 rfl rfl) ?_
  refine aw_iload_n dX11_writeTotal_19 rfl rfl ?_
  obtain ⟨⟨c2, c2x⟩, h⟩ := h
  refine aw_aaload (ci := 3) (by decide) rfl (by decide +kernel) dX11_writeTotal_20 c2 (LC.lt lc1 rfl rfl c2x) ?_
  obtain ⟨r3, e4, h⟩ := h
  refine aw_getI' e4 fk_303 lf_X11_83 dX11_writeTotal_21 ?_
  refine aw_icmp_ge (tgt := 50) dX11_writeTotal_24 (by decide) (fun k5 => ?_) (fun k5 => ?_)
  · replace h := h.1 k5
    obtain ⟨⟨c6, c6x⟩, h⟩ := h
    refine aw_iincc (L' := [some (vR 11 (some x0)), some (vI x1), some (vI (x2 + 1)), some (vI x3)]) dX11_writeTotal_50 rfl (by decide) rfl c6 c6x rfl ?_
    refine aw_goto (tgt := 4) dX11_writeTotal_53 (by decide) ?_
    exact aw_fgt (L' := [some (vR 11 (some x0)), some (vI x1), some (vI (x2 + 1)), none]) ⟨rfl, ⟨rfl, ⟨rfl, trivial⟩⟩⟩ h
  · replace h := h.2 k5
    refine aw_iload_n dX11_writeTotal_27 rfl rfl ?_
    refine aw_aload_n dX11_writeTotal_28 rfl rfl ?_
    refine aw_getA' rfl fk_1100 (by decide) lf_X11_11 dX11_writeTotal_29 (LC.ne lc1 rfl rfl) ?_
    refine aw_iload_n dX11_writeTotal_32 rfl rfl ?_
    refine aw_aaload (ci := 3) (by decide) rfl (by decide +kernel) dX11_writeTotal_33 c2 (LC.lt lc1 rfl rfl c2x) ?_
    obtain ⟨lc7, h⟩ := h
    refine aw_getA' e4 fk_302 (by decide) lf_X11_402 dX11_writeTotal_34 (LC.ne lc7 rfl rfl) ?_
    refine aw_iload_n dX11_writeTotal_37 rfl rfl ?_
    obtain ⟨⟨c8, c8x⟩, h⟩ := h
    refine aw_aaload (ci := 4) (by decide) rfl (by decide +kernel) dX11_writeTotal_38 c8 (LC.lt lc7 rfl rfl c8x) ?_
    obtain ⟨r9, e10, h⟩ := h
    refine aw_getI' e10 fk_405 lf_X11_406 dX11_writeTotal_39 ?_
    obtain ⟨⟨c11, c11x⟩, h⟩ := h
    refine aw_iaddc dX11_writeTotal_42 c11 c11x ?_
    refine aw_istore_n (L' := [some (vR 11 (some x0)), some (vI (x1 + (gI σ 405 r9 0))), some (vI x2), some (vI x3)]) dX11_writeTotal_43 rfl (by decide) rfl ?_
    obtain ⟨⟨c12, c12x⟩, h⟩ := h
    refine aw_iincc (L' := [some (vR 11 (some x0)), some (vI (x1 + (gI σ 405 r9 0))), some (vI x2), some (vI (x3 + 1))]) dX11_writeTotal_44 rfl (by decide) rfl c12 c12x rfl ?_
    refine aw_goto (tgt := 14) dX11_writeTotal_47 (by decide) ?_
    exact aw_fgt (L' := [some (vR 11 (some x0)), some (vI (x1 + (gI σ 405 r9 0))), some (vI x2), some (vI (x3 + 1))]) ⟨rfl, ⟨rfl, ⟨rfl, ⟨rfl, trivial⟩⟩⟩⟩ h
set_option maxRecDepth 4000 in
theorem bk_X11_wrong_0 {g : GP} {l : Launch} {d : Nat} {σ : St} {Q : Option AV → St → Prop} {x0 : Nat}
    (h : Q (some (vI (gI σ 1111 x0 0))) σ) :
    AW g l d MX11_wrong 0 [some (vR 11 (some x0))] [] σ Q := by
  refine aw_aload_n dX11_wrong_0 rfl rfl ?_
  refine aw_getI' rfl fk_1111 lf_X11_137 dX11_wrong_1 ?_
  exact aw_ireturn dX11_wrong_4 rfl h
set_option maxRecDepth 4000 in
theorem bk_J9_floorMod_f86c9_0 {g : GP} {l : Launch} {d : Nat} {σ : St} {Q : Option AV → St → Prop} {x0 : Int64} {x2 : Int64}
    (h : ¬ x2 = 0 ∧ (((0 : Int64).toInt ≤ (x0 ^^^ x2).toInt → Q (some (vJ (j_rem x0 x2))) σ) ∧ (¬ (0 : Int64).toInt ≤ (x0 ^^^ x2).toInt → (((j_rem x0 x2) = (0 : Int64) → Q (some (vJ (j_rem x0 x2))) σ) ∧ (¬ (j_rem x0 x2) = (0 : Int64) → Q (some (vJ ((j_rem x0 x2) + x2))) σ))))) :
    AW g l d MJ9_floorMod_f86c9 0 [some (vJ x0), none, some (vJ x2), none, none, none] [] σ Q := by
  refine aw_lload_n dJ9_floorMod_f86c9_0 rfl rfl ?_
  refine aw_lload_n dJ9_floorMod_f86c9_1 rfl rfl ?_
  obtain ⟨h0, h⟩ := h
  refine aw_lrem dJ9_floorMod_f86c9_2 h0 ?_
  refine aw_lstore (L' := [some (vJ x0), none, some (vJ x2), none, some (vJ (j_rem x0 x2)), none]) dJ9_floorMod_f86c9_3 (by decide) rfl ?_
  refine aw_lload_n dJ9_floorMod_f86c9_5 rfl rfl ?_
  refine aw_lload_n dJ9_floorMod_f86c9_6 rfl rfl ?_
  refine aw_lxor dJ9_floorMod_f86c9_7 ?_
  refine aw_lconst (x := 0) dJ9_floorMod_f86c9_8 rfl ?_
  refine aw_lcmp_ge (M := MJ9_floorMod_f86c9) (tgt := 25) dJ9_floorMod_f86c9_9 dJ9_floorMod_f86c9_10 (by decide) (fun k1 => ?_) (fun k1 => ?_)
  · replace h := h.1 k1
    refine aw_lload dJ9_floorMod_f86c9_25 rfl ?_
    exact aw_lreturn dJ9_floorMod_f86c9_27 rfl h
  · replace h := h.2 k1
    refine aw_lload dJ9_floorMod_f86c9_13 rfl ?_
    refine aw_lconst (x := 0) dJ9_floorMod_f86c9_15 rfl ?_
    refine aw_lcmp_eq (M := MJ9_floorMod_f86c9) (tgt := 25) dJ9_floorMod_f86c9_16 dJ9_floorMod_f86c9_17 (by decide) (fun k2 => ?_) (fun k2 => ?_)
    · replace h := h.1 k2
      refine aw_lload dJ9_floorMod_f86c9_25 rfl ?_
      exact aw_lreturn dJ9_floorMod_f86c9_27 rfl h
    · replace h := h.2 k2
      refine aw_lload dJ9_floorMod_f86c9_20 rfl ?_
      refine aw_lload_n dJ9_floorMod_f86c9_22 rfl rfl ?_
      refine aw_ladd dJ9_floorMod_f86c9_23 ?_
      exact aw_lreturn dJ9_floorMod_f86c9_24 rfl h
set_option maxRecDepth 4000 in
theorem bk_J9_max_7cf53_0 {g : GP} {l : Launch} {d : Nat} {σ : St} {Q : Option AV → St → Prop} {x0 : Int} {x1 : Int}
    (h : ((x0 < x1 → Q (some (vI x1)) σ) ∧ (¬ x0 < x1 → Q (some (vI x0)) σ))) :
    AW g l d MJ9_max_7cf53 0 [some (vI x0), some (vI x1)] [] σ Q := by
  refine aw_iload_n dJ9_max_7cf53_0 rfl rfl ?_
  refine aw_iload_n dJ9_max_7cf53_1 rfl rfl ?_
  refine aw_icmp_lt (tgt := 9) dJ9_max_7cf53_2 (by decide) (fun k1 => ?_) (fun k1 => ?_)
  · replace h := h.1 k1
    refine aw_iload_n dJ9_max_7cf53_9 rfl rfl ?_
    exact aw_ireturn dJ9_max_7cf53_10 rfl h
  · replace h := h.2 k1
    refine aw_iload_n dJ9_max_7cf53_5 rfl rfl ?_
    refine aw_goto (tgt := 10) dJ9_max_7cf53_6 (by decide) ?_
    exact aw_ireturn dJ9_max_7cf53_10 rfl h
set_option maxRecDepth 4000 in
theorem bk_J9_min_7cf53_0 {g : GP} {l : Launch} {d : Nat} {σ : St} {Q : Option AV → St → Prop} {x0 : Int} {x1 : Int}
    (h : ((x1 < x0 → Q (some (vI x1)) σ) ∧ (¬ x1 < x0 → Q (some (vI x0)) σ))) :
    AW g l d MJ9_min_7cf53 0 [some (vI x0), some (vI x1)] [] σ Q := by
  refine aw_iload_n dJ9_min_7cf53_0 rfl rfl ?_
  refine aw_iload_n dJ9_min_7cf53_1 rfl rfl ?_
  refine aw_icmp_gt (tgt := 9) dJ9_min_7cf53_2 (by decide) (fun k1 => ?_) (fun k1 => ?_)
  · replace h := h.1 k1
    refine aw_iload_n dJ9_min_7cf53_9 rfl rfl ?_
    exact aw_ireturn dJ9_min_7cf53_10 rfl h
  · replace h := h.2 k1
    refine aw_iload_n dJ9_min_7cf53_5 rfl rfl ?_
    refine aw_goto (tgt := 10) dJ9_min_7cf53_6 (by decide) ?_
    exact aw_ireturn dJ9_min_7cf53_10 rfl h
set_option maxRecDepth 4000 in
theorem bk_J7_fill_53178_0 {g : GP} {l : Launch} {d : Nat} {σ : St} {Q : Option AV → St → Prop} {f : Nat} {x0 : Nat} {x1 : Int} (hf : f < 9000) (ht : TYF f = .array .int)
    (h : gL σ f x0 < 2147483648 ∧ AW g l d MJ7_fill_53178 5 [some (vA f x0), some (vI x1), some (vI 0), some (vI (gL σ f x0 : Int))] [] σ Q) :
    AW g l d MJ7_fill_53178 0 [some (vA f x0), some (vI x1), none, none] [] σ Q := by
  refine aw_iconst (x := 0) dJ7_fill_53178_0 rfl ?_
  refine aw_istore_n (L' := [some (vA f x0), some (vI x1), some (vI 0), none]) dJ7_fill_53178_1 rfl (by decide) rfl ?_
  refine aw_aload_n dJ7_fill_53178_2 rfl rfl ?_
  obtain ⟨h0, h⟩ := h
  refine aw_alen hf ht dJ7_fill_53178_3 rfl h0 ?_
  refine aw_istore_n (L' := [some (vA f x0), some (vI x1), some (vI 0), some (vI (gL σ f x0 : Int))]) dJ7_fill_53178_4 rfl (by decide) rfl ?_
  exact aw_fgt (L' := [some (vA f x0), some (vI x1), some (vI 0), some (vI (gL σ f x0 : Int))]) ⟨rfl, ⟨rfl, ⟨rfl, ⟨rfl, trivial⟩⟩⟩⟩ h
set_option maxRecDepth 4000 in
theorem bk_J7_fill_53178_5 {g : GP} {l : Launch} {d : Nat} {σ : St} {Q : Option AV → St → Prop} {f : Nat} {x0 : Nat} {x1 : Int} {x2 : Int} {x3 : Int} (hf : f < 9000) (ht : TYF f = .array .int)
    (h : ((x3 ≤ x2 → Q none σ) ∧ (¬ x3 ≤ x2 → ((0 : Int) ≤ x2 ∧ x2 < (gL σ f x0 : Int)) ∧ R32 (x2 + 1) ∧ AW g l d MJ7_fill_53178 5 [some (vA f x0), some (vI x1), some (vI (x2 + 1)), some (vI x3)] [] (sI σ f x0 x2.toNat x1) Q))) :
    AW g l d MJ7_fill_53178 5 [some (vA f x0), some (vI x1), some (vI x2), some (vI x3)] [] σ Q := by
  refine aw_iload_n dJ7_fill_53178_5 rfl rfl ?_
  refine aw_iload_n dJ7_fill_53178_6 rfl rfl ?_
  refine aw_icmp_ge (tgt := 20) dJ7_fill_53178_7 (by decide) (fun k1 => ?_) (fun k1 => ?_)
  · replace h := h.1 k1
    exact aw_ret h rfl dJ7_fill_53178_20
  · replace h := h.2 k1
    refine aw_aload_n dJ7_fill_53178_10 rfl rfl ?_
    refine aw_iload_n dJ7_fill_53178_11 rfl rfl ?_
    refine aw_iload_n dJ7_fill_53178_12 rfl rfl ?_
    obtain ⟨⟨h0, h1⟩, h⟩ := h
    refine aw_iastore hf ht dJ7_fill_53178_13 h0 h1 ?_
    obtain ⟨⟨c2, c2x⟩, h⟩ := h
    refine aw_iincc (L' := [some (vA f x0), some (vI x1), some (vI (x2 + 1)), some (vI x3)]) dJ7_fill_53178_14 rfl (by decide) rfl c2 c2x rfl ?_
    refine aw_goto (tgt := 5) dJ7_fill_53178_17 (by decide) ?_
    exact aw_fgt (L' := [some (vA f x0), some (vI x1), some (vI (x2 + 1)), some (vI x3)]) ⟨rfl, ⟨rfl, ⟨rfl, ⟨rfl, trivial⟩⟩⟩⟩ h
set_option maxRecDepth 4000 in
theorem bk_X12_init_0 {g : GP} {l : Launch} {d : Nat} {σ : St} {Q : Option AV → St → Prop} {x0 : Nat}
    (h : (gL (sI σ 1200 x0 0 0) 1201 x0 = 0 ∧ hs (sI σ 1200 x0 0 0) + 1 ≤ gB g + 600000 ∧ sl (sI σ 1200 x0 0 0) + 6 ≤ 7302250) ∧ (gL (sArr (sI σ 1200 x0 0 0) 1201 x0 6) 1202 x0 = 0 ∧ hs (sArr (sI σ 1200 x0 0 0) 1201 x0 6) + 1 ≤ gB g + 600000 ∧ sl (sArr (sI σ 1200 x0 0 0) 1201 x0 6) + 6 ≤ 7302250) ∧ (gL (sArr (sArr (sI σ 1200 x0 0 0) 1201 x0 6) 1202 x0 6) 1203 x0 = 0 ∧ hs (sArr (sArr (sI σ 1200 x0 0 0) 1201 x0 6) 1202 x0 6) + 1 ≤ gB g + 600000 ∧ sl (sArr (sArr (sI σ 1200 x0 0 0) 1201 x0 6) 1202 x0 6) + 12000 ≤ 7302250) ∧ (gL (sArr (sArr (sArr (sI σ 1200 x0 0 0) 1201 x0 6) 1202 x0 6) 1203 x0 12000) 1204 x0 = 0 ∧ hs (sArr (sArr (sArr (sI σ 1200 x0 0 0) 1201 x0 6) 1202 x0 6) 1203 x0 12000) + 1 ≤ gB g + 600000 ∧ sl (sArr (sArr (sArr (sI σ 1200 x0 0 0) 1201 x0 6) 1202 x0 6) 1203 x0 12000) + 48000 ≤ 7302250) ∧ (gL (sArr (sArr (sArr (sArr (sI σ 1200 x0 0 0) 1201 x0 6) 1202 x0 6) 1203 x0 12000) 1204 x0 48000) 1205 x0 = 0 ∧ hs (sArr (sArr (sArr (sArr (sI σ 1200 x0 0 0) 1201 x0 6) 1202 x0 6) 1203 x0 12000) 1204 x0 48000) + 1 ≤ gB g + 600000 ∧ sl (sArr (sArr (sArr (sArr (sI σ 1200 x0 0 0) 1201 x0 6) 1202 x0 6) 1203 x0 12000) 1204 x0 48000) + 24 ≤ 7302250) ∧ (gL (sArr (sArr (sArr (sArr (sArr (sI σ 1200 x0 0 0) 1201 x0 6) 1202 x0 6) 1203 x0 12000) 1204 x0 48000) 1205 x0 24) 1206 x0 = 0 ∧ hs (sArr (sArr (sArr (sArr (sArr (sI σ 1200 x0 0 0) 1201 x0 6) 1202 x0 6) 1203 x0 12000) 1204 x0 48000) 1205 x0 24) + 1 ≤ gB g + 600000 ∧ sl (sArr (sArr (sArr (sArr (sArr (sI σ 1200 x0 0 0) 1201 x0 6) 1202 x0 6) 1203 x0 12000) 1204 x0 48000) 1205 x0 24) + 480 ≤ 7302250) ∧ (gL (sArr (sArr (sArr (sArr (sArr (sArr (sI σ 1200 x0 0 0) 1201 x0 6) 1202 x0 6) 1203 x0 12000) 1204 x0 48000) 1205 x0 24) 1206 x0 480) 1207 x0 = 0 ∧ hs (sArr (sArr (sArr (sArr (sArr (sArr (sI σ 1200 x0 0 0) 1201 x0 6) 1202 x0 6) 1203 x0 12000) 1204 x0 48000) 1205 x0 24) 1206 x0 480) + 1 ≤ gB g + 600000 ∧ sl (sArr (sArr (sArr (sArr (sArr (sArr (sI σ 1200 x0 0 0) 1201 x0 6) 1202 x0 6) 1203 x0 12000) 1204 x0 48000) 1205 x0 24) 1206 x0 480) + 3840 ≤ 7302250) ∧ (gL (sArr (sArr (sArr (sArr (sArr (sArr (sArr (sI σ 1200 x0 0 0) 1201 x0 6) 1202 x0 6) 1203 x0 12000) 1204 x0 48000) 1205 x0 24) 1206 x0 480) 1207 x0 3840) 1208 x0 = 0 ∧ hs (sArr (sArr (sArr (sArr (sArr (sArr (sArr (sI σ 1200 x0 0 0) 1201 x0 6) 1202 x0 6) 1203 x0 12000) 1204 x0 48000) 1205 x0 24) 1206 x0 480) 1207 x0 3840) + 1 ≤ gB g + 600000 ∧ sl (sArr (sArr (sArr (sArr (sArr (sArr (sArr (sI σ 1200 x0 0 0) 1201 x0 6) 1202 x0 6) 1203 x0 12000) 1204 x0 48000) 1205 x0 24) 1206 x0 480) 1207 x0 3840) + 3840 ≤ 7302250) ∧ (gL (sArr (sArr (sArr (sArr (sArr (sArr (sArr (sArr (sI σ 1200 x0 0 0) 1201 x0 6) 1202 x0 6) 1203 x0 12000) 1204 x0 48000) 1205 x0 24) 1206 x0 480) 1207 x0 3840) 1208 x0 3840) 1209 x0 = 0 ∧ hs (sArr (sArr (sArr (sArr (sArr (sArr (sArr (sArr (sI σ 1200 x0 0 0) 1201 x0 6) 1202 x0 6) 1203 x0 12000) 1204 x0 48000) 1205 x0 24) 1206 x0 480) 1207 x0 3840) 1208 x0 3840) + 1 ≤ gB g + 600000 ∧ sl (sArr (sArr (sArr (sArr (sArr (sArr (sArr (sArr (sI σ 1200 x0 0 0) 1201 x0 6) 1202 x0 6) 1203 x0 12000) 1204 x0 48000) 1205 x0 24) 1206 x0 480) 1207 x0 3840) 1208 x0 3840) + 8 ≤ 7302250) ∧ (gL (sArr (sArr (sArr (sArr (sArr (sArr (sArr (sArr (sArr (sI σ 1200 x0 0 0) 1201 x0 6) 1202 x0 6) 1203 x0 12000) 1204 x0 48000) 1205 x0 24) 1206 x0 480) 1207 x0 3840) 1208 x0 3840) 1209 x0 8) 1210 x0 = 0 ∧ hs (sArr (sArr (sArr (sArr (sArr (sArr (sArr (sArr (sArr (sI σ 1200 x0 0 0) 1201 x0 6) 1202 x0 6) 1203 x0 12000) 1204 x0 48000) 1205 x0 24) 1206 x0 480) 1207 x0 3840) 1208 x0 3840) 1209 x0 8) + 1 ≤ gB g + 600000 ∧ sl (sArr (sArr (sArr (sArr (sArr (sArr (sArr (sArr (sArr (sI σ 1200 x0 0 0) 1201 x0 6) 1202 x0 6) 1203 x0 12000) 1204 x0 48000) 1205 x0 24) 1206 x0 480) 1207 x0 3840) 1208 x0 3840) 1209 x0 8) + 3000 ≤ 7302250) ∧ AW g l (d + 1) MX12_init 134 [some (vR 12 (some x0))] [] (sI (sJ (sJ (sI (sI (sI (sI (sI (sArr (sArr (sArr (sArr (sArr (sArr (sArr (sArr (sArr (sArr (sI σ 1200 x0 0 0) 1201 x0 6) 1202 x0 6) 1203 x0 12000) 1204 x0 48000) 1205 x0 24) 1206 x0 480) 1207 x0 3840) 1208 x0 3840) 1209 x0 8) 1210 x0 3000) 1211 x0 0 0) 1212 x0 0 0) 1213 x0 0 0) 1214 x0 0 0) 1215 x0 0 0) 1216 x0 0 0) 1217 x0 0 0) 1218 x0 0 0) Q) :
    AW g l (d + 1) MX12_init 0 [some (vR 12 (some x0))] [] σ Q := by
  refine aw_aload_n dX12_init_0 rfl rfl ?_
  refine aw_objInit (M := MX12_init) lm_X12_1 loi_i loi_c dX12_init_1 (Nat.le_of_ble_eq_true rfl) ?_
  refine aw_aload_n dX12_init_4 rfl rfl ?_
  refine aw_iconst (x := 0) dX12_init_5 rfl ?_
  refine aw_putI' rfl fk_1200 (Or.inl rfl) lf_X12_7 dX12_init_6 ?_
  refine aw_aload_n dX12_init_9 rfl rfl ?_
  refine aw_bipush (x := 6) dX12_init_10 rfl ?_
  obtain ⟨⟨h0, h1, h2⟩, h⟩ := h
  refine aw_mkArr (M := MX12_init) (n := 6) fk_1201 (by decide +kernel) rfl (fun _ _ h => h) la_int ⟨rfl, rfl⟩ lf_X12_13 dX12_init_12 dX12_init_14 rfl (by decide) (by decide) h0 h1 h2 ?_
  refine aw_aload_n dX12_init_17 rfl rfl ?_
  refine aw_bipush (x := 6) dX12_init_18 rfl ?_
  obtain ⟨⟨h0, h1, h2⟩, h⟩ := h
  refine aw_mkArr (M := MX12_init) (n := 6) fk_1202 (by decide +kernel) rfl (fun _ _ h => h) la_int ⟨rfl, rfl⟩ lf_X12_17 dX12_init_20 dX12_init_22 rfl (by decide) (by decide) h0 h1 h2 ?_
  refine aw_aload_n dX12_init_25 rfl rfl ?_
  refine aw_sipush (x := 12000) dX12_init_26 rfl ?_
  obtain ⟨⟨h0, h1, h2⟩, h⟩ := h
  refine aw_mkArr (M := MX12_init) (n := 12000) fk_1203 (by decide +kernel) rfl (fun _ _ h => h) la_int ⟨rfl, rfl⟩ lf_X12_20 dX12_init_29 dX12_init_31 rfl (by decide) (by decide) h0 h1 h2 ?_
  refine aw_aload_n dX12_init_34 rfl rfl ?_
  refine aw_ldc (x := 48000) lq_X12_23 dX12_init_35 rfl ?_
  obtain ⟨⟨h0, h1, h2⟩, h⟩ := h
  refine aw_mkArr (M := MX12_init) (n := 48000) fk_1204 (by decide +kernel) rfl (fun _ _ h => h) la_int ⟨rfl, rfl⟩ lf_X12_24 dX12_init_37 dX12_init_39 rfl (by decide) (by decide) h0 h1 h2 ?_
  refine aw_aload_n dX12_init_42 rfl rfl ?_
  refine aw_bipush (x := 24) dX12_init_43 rfl ?_
  obtain ⟨⟨h0, h1, h2⟩, h⟩ := h
  refine aw_mkArr (M := MX12_init) (n := 24) fk_1205 (by decide +kernel) rfl (fun _ _ h => h) la_int ⟨rfl, rfl⟩ lf_X12_27 dX12_init_45 dX12_init_47 rfl (by decide) (by decide) h0 h1 h2 ?_
  refine aw_aload_n dX12_init_50 rfl rfl ?_
  refine aw_sipush (x := 480) dX12_init_51 rfl ?_
  obtain ⟨⟨h0, h1, h2⟩, h⟩ := h
  refine aw_mkArr (M := MX12_init) (n := 480) fk_1206 (by decide +kernel) rfl (fun _ _ h => h) la_int ⟨rfl, rfl⟩ lf_X12_30 dX12_init_54 dX12_init_56 rfl (by decide) (by decide) h0 h1 h2 ?_
  refine aw_aload_n dX12_init_59 rfl rfl ?_
  refine aw_sipush (x := 3840) dX12_init_60 rfl ?_
  obtain ⟨⟨h0, h1, h2⟩, h⟩ := h
  refine aw_mkArr (M := MX12_init) (n := 3840) fk_1207 (by decide +kernel) rfl (fun _ _ h => h) la_int ⟨rfl, rfl⟩ lf_X12_33 dX12_init_63 dX12_init_65 rfl (by decide) (by decide) h0 h1 h2 ?_
  refine aw_aload_n dX12_init_68 rfl rfl ?_
  refine aw_sipush (x := 3840) dX12_init_69 rfl ?_
  obtain ⟨⟨h0, h1, h2⟩, h⟩ := h
  refine aw_mkArr (M := MX12_init) (n := 3840) fk_1208 (by decide +kernel) rfl (fun _ _ h => h) la_int ⟨rfl, rfl⟩ lf_X12_36 dX12_init_72 dX12_init_74 rfl (by decide) (by decide) h0 h1 h2 ?_
  refine aw_aload_n dX12_init_77 rfl rfl ?_
  refine aw_bipush (x := 8) dX12_init_78 rfl ?_
  obtain ⟨⟨h0, h1, h2⟩, h⟩ := h
  refine aw_mkArr (M := MX12_init) (n := 8) fk_1209 (by decide +kernel) rfl (fun _ _ h => h) la_int ⟨rfl, rfl⟩ lf_X12_39 dX12_init_80 dX12_init_82 rfl (by decide) (by decide) h0 h1 h2 ?_
  refine aw_aload_n dX12_init_85 rfl rfl ?_
  refine aw_sipush (x := 3000) dX12_init_86 rfl ?_
  obtain ⟨⟨h0, h1, h2⟩, h⟩ := h
  refine aw_mkArr (M := MX12_init) (n := 3000) fk_1210 (by decide +kernel) rfl (fun _ _ h => h) la_int ⟨rfl, rfl⟩ lf_X12_42 dX12_init_89 dX12_init_91 rfl (by decide) (by decide) h0 h1 h2 ?_
  refine aw_aload_n dX12_init_94 rfl rfl ?_
  refine aw_iconst (x := 0) dX12_init_95 rfl ?_
  refine aw_putI' rfl fk_1211 (Or.inl rfl) lf_X12_45 dX12_init_96 ?_
  refine aw_aload_n dX12_init_99 rfl rfl ?_
  refine aw_iconst (x := 0) dX12_init_100 rfl ?_
  refine aw_putI' rfl fk_1212 (Or.inl rfl) lf_X12_48 dX12_init_101 ?_
  refine aw_aload_n dX12_init_104 rfl rfl ?_
  refine aw_iconst (x := 0) dX12_init_105 rfl ?_
  refine aw_putI' rfl fk_1213 (Or.inl rfl) lf_X12_51 dX12_init_106 ?_
  refine aw_aload_n dX12_init_109 rfl rfl ?_
  refine aw_iconst (x := 0) dX12_init_110 rfl ?_
  refine aw_putI' rfl fk_1214 (Or.inl rfl) lf_X12_54 dX12_init_111 ?_
  refine aw_aload_n dX12_init_114 rfl rfl ?_
  refine aw_iconst (x := 0) dX12_init_115 rfl ?_
  refine aw_putI' rfl fk_1215 (Or.inl rfl) lf_X12_57 dX12_init_116 ?_
  refine aw_aload_n dX12_init_119 rfl rfl ?_
  refine aw_lconst (x := 0) dX12_init_120 rfl ?_
  refine aw_putJ' rfl fk_1216 (Or.inl rfl) lf_X12_60 dX12_init_121 ?_
  refine aw_aload_n dX12_init_124 rfl rfl ?_
  refine aw_lconst (x := 0) dX12_init_125 rfl ?_
  refine aw_putJ' rfl fk_1217 (Or.inl rfl) lf_X12_64 dX12_init_126 ?_
  refine aw_aload_n dX12_init_129 rfl rfl ?_
  refine aw_iconst (x := 0) dX12_init_130 rfl ?_
  refine aw_putI' rfl fk_1218 (Or.inl rfl) lf_X12_67 dX12_init_131 ?_
  exact aw_fgt (L' := [some (vR 12 (some x0))]) ⟨rfl, trivial⟩ h
set_option maxRecDepth 4000 in
theorem bk_X12_init_134 {g : GP} {l : Launch} {d : Nat} {σ : St} {Q : Option AV → St → Prop} {x0 : Nat}
    (h : (gL σ 1219 x0 = 0 ∧ hs σ + 1 ≤ gB g + 600000 ∧ sl σ + 2 ≤ 7302250) ∧ (gL (sArr σ 1219 x0 2) 1220 x0 = 0 ∧ hs (sArr σ 1219 x0 2) + 1 ≤ gB g + 600000 ∧ sl (sArr σ 1219 x0 2) + 2 ≤ 7302250) ∧ (gL (sArr (sArr σ 1219 x0 2) 1220 x0 2) 1221 x0 = 0 ∧ hs (sArr (sArr σ 1219 x0 2) 1220 x0 2) + 1 ≤ gB g + 600000 ∧ sl (sArr (sArr σ 1219 x0 2) 1220 x0 2) + 40 ≤ 7302250) ∧ (gL (sArr (sArr (sArr σ 1219 x0 2) 1220 x0 2) 1221 x0 40) 1222 x0 = 0 ∧ hs (sArr (sArr (sArr σ 1219 x0 2) 1220 x0 2) 1221 x0 40) + 1 ≤ gB g + 600000 ∧ sl (sArr (sArr (sArr σ 1219 x0 2) 1220 x0 2) 1221 x0 40) + 40 ≤ 7302250) ∧ (gL (sArr (sArr (sArr (sArr σ 1219 x0 2) 1220 x0 2) 1221 x0 40) 1222 x0 40) 1223 x0 = 0 ∧ hs (sArr (sArr (sArr (sArr σ 1219 x0 2) 1220 x0 2) 1221 x0 40) 1222 x0 40) + 1 ≤ gB g + 600000 ∧ sl (sArr (sArr (sArr (sArr σ 1219 x0 2) 1220 x0 2) 1221 x0 40) 1222 x0 40) + 40 ≤ 7302250) ∧ (gL (sArr (sArr (sArr (sArr (sArr σ 1219 x0 2) 1220 x0 2) 1221 x0 40) 1222 x0 40) 1223 x0 40) 1224 x0 = 0 ∧ hs (sArr (sArr (sArr (sArr (sArr σ 1219 x0 2) 1220 x0 2) 1221 x0 40) 1222 x0 40) 1223 x0 40) + 1 ≤ gB g + 600000 ∧ sl (sArr (sArr (sArr (sArr (sArr σ 1219 x0 2) 1220 x0 2) 1221 x0 40) 1222 x0 40) 1223 x0 40) + 16 ≤ 7302250) ∧ (gL (sArr (sArr (sArr (sArr (sArr (sArr σ 1219 x0 2) 1220 x0 2) 1221 x0 40) 1222 x0 40) 1223 x0 40) 1224 x0 16) 1225 x0 = 0 ∧ hs (sArr (sArr (sArr (sArr (sArr (sArr σ 1219 x0 2) 1220 x0 2) 1221 x0 40) 1222 x0 40) 1223 x0 40) 1224 x0 16) + 1 ≤ gB g + 600000 ∧ sl (sArr (sArr (sArr (sArr (sArr (sArr σ 1219 x0 2) 1220 x0 2) 1221 x0 40) 1222 x0 40) 1223 x0 40) 1224 x0 16) + 16 ≤ 7302250) ∧ (gL (sArr (sArr (sArr (sArr (sArr (sArr (sArr σ 1219 x0 2) 1220 x0 2) 1221 x0 40) 1222 x0 40) 1223 x0 40) 1224 x0 16) 1225 x0 16) 1226 x0 = 0 ∧ hs (sArr (sArr (sArr (sArr (sArr (sArr (sArr σ 1219 x0 2) 1220 x0 2) 1221 x0 40) 1222 x0 40) 1223 x0 40) 1224 x0 16) 1225 x0 16) + 1 ≤ gB g + 600000 ∧ sl (sArr (sArr (sArr (sArr (sArr (sArr (sArr σ 1219 x0 2) 1220 x0 2) 1221 x0 40) 1222 x0 40) 1223 x0 40) 1224 x0 16) 1225 x0 16) + 160 ≤ 7302250) ∧ (gL (sArr (sArr (sArr (sArr (sArr (sArr (sArr (sArr σ 1219 x0 2) 1220 x0 2) 1221 x0 40) 1222 x0 40) 1223 x0 40) 1224 x0 16) 1225 x0 16) 1226 x0 160) 1227 x0 = 0 ∧ hs (sArr (sArr (sArr (sArr (sArr (sArr (sArr (sArr σ 1219 x0 2) 1220 x0 2) 1221 x0 40) 1222 x0 40) 1223 x0 40) 1224 x0 16) 1225 x0 16) 1226 x0 160) + 1 ≤ gB g + 600000 ∧ sl (sArr (sArr (sArr (sArr (sArr (sArr (sArr (sArr σ 1219 x0 2) 1220 x0 2) 1221 x0 40) 1222 x0 40) 1223 x0 40) 1224 x0 16) 1225 x0 16) 1226 x0 160) + 160 ≤ 7302250) ∧ (gL (sArr (sArr (sArr (sArr (sArr (sArr (sArr (sArr (sArr σ 1219 x0 2) 1220 x0 2) 1221 x0 40) 1222 x0 40) 1223 x0 40) 1224 x0 16) 1225 x0 16) 1226 x0 160) 1227 x0 160) 1228 x0 = 0 ∧ hs (sArr (sArr (sArr (sArr (sArr (sArr (sArr (sArr (sArr σ 1219 x0 2) 1220 x0 2) 1221 x0 40) 1222 x0 40) 1223 x0 40) 1224 x0 16) 1225 x0 16) 1226 x0 160) 1227 x0 160) + 1 ≤ gB g + 600000 ∧ sl (sArr (sArr (sArr (sArr (sArr (sArr (sArr (sArr (sArr σ 1219 x0 2) 1220 x0 2) 1221 x0 40) 1222 x0 40) 1223 x0 40) 1224 x0 16) 1225 x0 16) 1226 x0 160) 1227 x0 160) + 560 ≤ 7302250) ∧ (gL (sArr (sArr (sArr (sArr (sArr (sArr (sArr (sArr (sArr (sArr σ 1219 x0 2) 1220 x0 2) 1221 x0 40) 1222 x0 40) 1223 x0 40) 1224 x0 16) 1225 x0 16) 1226 x0 160) 1227 x0 160) 1228 x0 560) 1229 x0 = 0 ∧ hs (sArr (sArr (sArr (sArr (sArr (sArr (sArr (sArr (sArr (sArr σ 1219 x0 2) 1220 x0 2) 1221 x0 40) 1222 x0 40) 1223 x0 40) 1224 x0 16) 1225 x0 16) 1226 x0 160) 1227 x0 160) 1228 x0 560) + 1 ≤ gB g + 600000 ∧ sl (sArr (sArr (sArr (sArr (sArr (sArr (sArr (sArr (sArr (sArr σ 1219 x0 2) 1220 x0 2) 1221 x0 40) 1222 x0 40) 1223 x0 40) 1224 x0 16) 1225 x0 16) 1226 x0 160) 1227 x0 160) 1228 x0 560) + 560 ≤ 7302250) ∧ (gL (sArr (sArr (sArr (sArr (sArr (sArr (sArr (sArr (sArr (sArr (sArr σ 1219 x0 2) 1220 x0 2) 1221 x0 40) 1222 x0 40) 1223 x0 40) 1224 x0 16) 1225 x0 16) 1226 x0 160) 1227 x0 160) 1228 x0 560) 1229 x0 560) 1230 x0 = 0 ∧ hs (sArr (sArr (sArr (sArr (sArr (sArr (sArr (sArr (sArr (sArr (sArr σ 1219 x0 2) 1220 x0 2) 1221 x0 40) 1222 x0 40) 1223 x0 40) 1224 x0 16) 1225 x0 16) 1226 x0 160) 1227 x0 160) 1228 x0 560) 1229 x0 560) + 1 ≤ gB g + 600000 ∧ sl (sArr (sArr (sArr (sArr (sArr (sArr (sArr (sArr (sArr (sArr (sArr σ 1219 x0 2) 1220 x0 2) 1221 x0 40) 1222 x0 40) 1223 x0 40) 1224 x0 16) 1225 x0 16) 1226 x0 160) 1227 x0 160) 1228 x0 560) 1229 x0 560) + 560 ≤ 7302250) ∧ (gL (sArr (sArr (sArr (sArr (sArr (sArr (sArr (sArr (sArr (sArr (sArr (sArr σ 1219 x0 2) 1220 x0 2) 1221 x0 40) 1222 x0 40) 1223 x0 40) 1224 x0 16) 1225 x0 16) 1226 x0 160) 1227 x0 160) 1228 x0 560) 1229 x0 560) 1230 x0 560) 1231 x0 = 0 ∧ hs (sArr (sArr (sArr (sArr (sArr (sArr (sArr (sArr (sArr (sArr (sArr (sArr σ 1219 x0 2) 1220 x0 2) 1221 x0 40) 1222 x0 40) 1223 x0 40) 1224 x0 16) 1225 x0 16) 1226 x0 160) 1227 x0 160) 1228 x0 560) 1229 x0 560) 1230 x0 560) + 1 ≤ gB g + 600000 ∧ sl (sArr (sArr (sArr (sArr (sArr (sArr (sArr (sArr (sArr (sArr (sArr (sArr σ 1219 x0 2) 1220 x0 2) 1221 x0 40) 1222 x0 40) 1223 x0 40) 1224 x0 16) 1225 x0 16) 1226 x0 160) 1227 x0 160) 1228 x0 560) 1229 x0 560) 1230 x0 560) + 560 ≤ 7302250) ∧ (gL (sArr (sArr (sArr (sArr (sArr (sArr (sArr (sArr (sArr (sArr (sArr (sArr (sArr σ 1219 x0 2) 1220 x0 2) 1221 x0 40) 1222 x0 40) 1223 x0 40) 1224 x0 16) 1225 x0 16) 1226 x0 160) 1227 x0 160) 1228 x0 560) 1229 x0 560) 1230 x0 560) 1231 x0 560) 1232 x0 = 0 ∧ hs (sArr (sArr (sArr (sArr (sArr (sArr (sArr (sArr (sArr (sArr (sArr (sArr (sArr σ 1219 x0 2) 1220 x0 2) 1221 x0 40) 1222 x0 40) 1223 x0 40) 1224 x0 16) 1225 x0 16) 1226 x0 160) 1227 x0 160) 1228 x0 560) 1229 x0 560) 1230 x0 560) 1231 x0 560) + 1 ≤ gB g + 600000 ∧ sl (sArr (sArr (sArr (sArr (sArr (sArr (sArr (sArr (sArr (sArr (sArr (sArr (sArr σ 1219 x0 2) 1220 x0 2) 1221 x0 40) 1222 x0 40) 1223 x0 40) 1224 x0 16) 1225 x0 16) 1226 x0 160) 1227 x0 160) 1228 x0 560) 1229 x0 560) 1230 x0 560) 1231 x0 560) + 560 ≤ 7302250) ∧ (gL (sArr (sArr (sArr (sArr (sArr (sArr (sArr (sArr (sArr (sArr (sArr (sArr (sArr (sArr σ 1219 x0 2) 1220 x0 2) 1221 x0 40) 1222 x0 40) 1223 x0 40) 1224 x0 16) 1225 x0 16) 1226 x0 160) 1227 x0 160) 1228 x0 560) 1229 x0 560) 1230 x0 560) 1231 x0 560) 1232 x0 560) 1233 x0 = 0 ∧ hs (sArr (sArr (sArr (sArr (sArr (sArr (sArr (sArr (sArr (sArr (sArr (sArr (sArr (sArr σ 1219 x0 2) 1220 x0 2) 1221 x0 40) 1222 x0 40) 1223 x0 40) 1224 x0 16) 1225 x0 16) 1226 x0 160) 1227 x0 160) 1228 x0 560) 1229 x0 560) 1230 x0 560) 1231 x0 560) 1232 x0 560) + 1 ≤ gB g + 600000 ∧ sl (sArr (sArr (sArr (sArr (sArr (sArr (sArr (sArr (sArr (sArr (sArr (sArr (sArr (sArr σ 1219 x0 2) 1220 x0 2) 1221 x0 40) 1222 x0 40) 1223 x0 40) 1224 x0 16) 1225 x0 16) 1226 x0 160) 1227 x0 160) 1228 x0 560) 1229 x0 560) 1230 x0 560) 1231 x0 560) 1232 x0 560) + 560 ≤ 7302250) ∧ (gL (sArr (sArr (sArr (sArr (sArr (sArr (sArr (sArr (sArr (sArr (sArr (sArr (sArr (sArr (sArr σ 1219 x0 2) 1220 x0 2) 1221 x0 40) 1222 x0 40) 1223 x0 40) 1224 x0 16) 1225 x0 16) 1226 x0 160) 1227 x0 160) 1228 x0 560) 1229 x0 560) 1230 x0 560) 1231 x0 560) 1232 x0 560) 1233 x0 560) 1234 x0 = 0 ∧ hs (sArr (sArr (sArr (sArr (sArr (sArr (sArr (sArr (sArr (sArr (sArr (sArr (sArr (sArr (sArr σ 1219 x0 2) 1220 x0 2) 1221 x0 40) 1222 x0 40) 1223 x0 40) 1224 x0 16) 1225 x0 16) 1226 x0 160) 1227 x0 160) 1228 x0 560) 1229 x0 560) 1230 x0 560) 1231 x0 560) 1232 x0 560) 1233 x0 560) + 1 ≤ gB g + 600000 ∧ sl (sArr (sArr (sArr (sArr (sArr (sArr (sArr (sArr (sArr (sArr (sArr (sArr (sArr (sArr (sArr σ 1219 x0 2) 1220 x0 2) 1221 x0 40) 1222 x0 40) 1223 x0 40) 1224 x0 16) 1225 x0 16) 1226 x0 160) 1227 x0 160) 1228 x0 560) 1229 x0 560) 1230 x0 560) 1231 x0 560) 1232 x0 560) 1233 x0 560) + 560 ≤ 7302250) ∧ (gL (sArr (sArr (sArr (sArr (sArr (sArr (sArr (sArr (sArr (sArr (sArr (sArr (sArr (sArr (sArr (sArr σ 1219 x0 2) 1220 x0 2) 1221 x0 40) 1222 x0 40) 1223 x0 40) 1224 x0 16) 1225 x0 16) 1226 x0 160) 1227 x0 160) 1228 x0 560) 1229 x0 560) 1230 x0 560) 1231 x0 560) 1232 x0 560) 1233 x0 560) 1234 x0 560) 1235 x0 = 0 ∧ hs (sArr (sArr (sArr (sArr (sArr (sArr (sArr (sArr (sArr (sArr (sArr (sArr (sArr (sArr (sArr (sArr σ 1219 x0 2) 1220 x0 2) 1221 x0 40) 1222 x0 40) 1223 x0 40) 1224 x0 16) 1225 x0 16) 1226 x0 160) 1227 x0 160) 1228 x0 560) 1229 x0 560) 1230 x0 560) 1231 x0 560) 1232 x0 560) 1233 x0 560) 1234 x0 560) + 1 ≤ gB g + 600000 ∧ sl (sArr (sArr (sArr (sArr (sArr (sArr (sArr (sArr (sArr (sArr (sArr (sArr (sArr (sArr (sArr (sArr σ 1219 x0 2) 1220 x0 2) 1221 x0 40) 1222 x0 40) 1223 x0 40) 1224 x0 16) 1225 x0 16) 1226 x0 160) 1227 x0 160) 1228 x0 560) 1229 x0 560) 1230 x0 560) 1231 x0 560) 1232 x0 560) 1233 x0 560) 1234 x0 560) + 560 ≤ 7302250) ∧ (gL (sArr (sArr (sArr (sArr (sArr (sArr (sArr (sArr (sArr (sArr (sArr (sArr (sArr (sArr (sArr (sArr (sArr σ 1219 x0 2) 1220 x0 2) 1221 x0 40) 1222 x0 40) 1223 x0 40) 1224 x0 16) 1225 x0 16) 1226 x0 160) 1227 x0 160) 1228 x0 560) 1229 x0 560) 1230 x0 560) 1231 x0 560) 1232 x0 560) 1233 x0 560) 1234 x0 560) 1235 x0 560) 1236 x0 = 0 ∧ hs (sArr (sArr (sArr (sArr (sArr (sArr (sArr (sArr (sArr (sArr (sArr (sArr (sArr (sArr (sArr (sArr (sArr σ 1219 x0 2) 1220 x0 2) 1221 x0 40) 1222 x0 40) 1223 x0 40) 1224 x0 16) 1225 x0 16) 1226 x0 160) 1227 x0 160) 1228 x0 560) 1229 x0 560) 1230 x0 560) 1231 x0 560) 1232 x0 560) 1233 x0 560) 1234 x0 560) 1235 x0 560) + 1 ≤ gB g + 600000 ∧ sl (sArr (sArr (sArr (sArr (sArr (sArr (sArr (sArr (sArr (sArr (sArr (sArr (sArr (sArr (sArr (sArr (sArr σ 1219 x0 2) 1220 x0 2) 1221 x0 40) 1222 x0 40) 1223 x0 40) 1224 x0 16) 1225 x0 16) 1226 x0 160) 1227 x0 160) 1228 x0 560) 1229 x0 560) 1230 x0 560) 1231 x0 560) 1232 x0 560) 1233 x0 560) 1234 x0 560) 1235 x0 560) + 560 ≤ 7302250) ∧ AW g l (d + 1) MX12_init 287 [some (vR 12 (some x0))] [] (sArr (sArr (sArr (sArr (sArr (sArr (sArr (sArr (sArr (sArr (sArr (sArr (sArr (sArr (sArr (sArr (sArr (sArr σ 1219 x0 2) 1220 x0 2) 1221 x0 40) 1222 x0 40) 1223 x0 40) 1224 x0 16) 1225 x0 16) 1226 x0 160) 1227 x0 160) 1228 x0 560) 1229 x0 560) 1230 x0 560) 1231 x0 560) 1232 x0 560) 1233 x0 560) 1234 x0 560) 1235 x0 560) 1236 x0 560) Q) :
    AW g l (d + 1) MX12_init 134 [some (vR 12 (some x0))] [] σ Q := by
  refine aw_aload_n dX12_init_134 rfl rfl ?_
  refine aw_iconst (x := 2) dX12_init_135 rfl ?_
  obtain ⟨⟨h0, h1, h2⟩, h⟩ := h
  refine aw_mkArr (M := MX12_init) (n := 2) fk_1219 (by decide +kernel) rfl (fun _ _ h => h) la_int ⟨rfl, rfl⟩ lf_X12_70 dX12_init_136 dX12_init_138 rfl (by decide) (by decide) h0 h1 h2 ?_
  refine aw_aload_n dX12_init_141 rfl rfl ?_
  refine aw_iconst (x := 2) dX12_init_142 rfl ?_
  obtain ⟨⟨h0, h1, h2⟩, h⟩ := h
  refine aw_mkArr (M := MX12_init) (n := 2) fk_1220 (by decide +kernel) rfl (fun _ _ h => h) la_int ⟨rfl, rfl⟩ lf_X12_73 dX12_init_143 dX12_init_145 rfl (by decide) (by decide) h0 h1 h2 ?_
  refine aw_aload_n dX12_init_148 rfl rfl ?_
  refine aw_bipush (x := 40) dX12_init_149 rfl ?_
  obtain ⟨⟨h0, h1, h2⟩, h⟩ := h
  refine aw_mkArr (M := MX12_init) (n := 40) fk_1221 (by decide +kernel) rfl (fun _ _ h => h) la_long ⟨rfl, rfl⟩ lf_X12_76 dX12_init_151 dX12_init_153 rfl (by decide) (by decide) h0 h1 h2 ?_
  refine aw_aload_n dX12_init_156 rfl rfl ?_
  refine aw_bipush (x := 40) dX12_init_157 rfl ?_
  obtain ⟨⟨h0, h1, h2⟩, h⟩ := h
  refine aw_mkArr (M := MX12_init) (n := 40) fk_1222 (by decide +kernel) rfl (fun _ _ h => h) la_int ⟨rfl, rfl⟩ lf_X12_80 dX12_init_159 dX12_init_161 rfl (by decide) (by decide) h0 h1 h2 ?_
  refine aw_aload_n dX12_init_164 rfl rfl ?_
  refine aw_bipush (x := 40) dX12_init_165 rfl ?_
  obtain ⟨⟨h0, h1, h2⟩, h⟩ := h
  refine aw_mkArr (M := MX12_init) (n := 40) fk_1223 (by decide +kernel) rfl (fun _ _ h => h) la_int ⟨rfl, rfl⟩ lf_X12_83 dX12_init_167 dX12_init_169 rfl (by decide) (by decide) h0 h1 h2 ?_
  refine aw_aload_n dX12_init_172 rfl rfl ?_
  refine aw_bipush (x := 16) dX12_init_173 rfl ?_
  obtain ⟨⟨h0, h1, h2⟩, h⟩ := h
  refine aw_mkArr (M := MX12_init) (n := 16) fk_1224 (by decide +kernel) rfl (fun _ _ h => h) la_long ⟨rfl, rfl⟩ lf_X12_86 dX12_init_175 dX12_init_177 rfl (by decide) (by decide) h0 h1 h2 ?_
  refine aw_aload_n dX12_init_180 rfl rfl ?_
  refine aw_bipush (x := 16) dX12_init_181 rfl ?_
  obtain ⟨⟨h0, h1, h2⟩, h⟩ := h
  refine aw_mkArr (M := MX12_init) (n := 16) fk_1225 (by decide +kernel) rfl (fun _ _ h => h) la_int ⟨rfl, rfl⟩ lf_X12_89 dX12_init_183 dX12_init_185 rfl (by decide) (by decide) h0 h1 h2 ?_
  refine aw_aload_n dX12_init_188 rfl rfl ?_
  refine aw_sipush (x := 160) dX12_init_189 rfl ?_
  obtain ⟨⟨h0, h1, h2⟩, h⟩ := h
  refine aw_mkArr (M := MX12_init) (n := 160) fk_1226 (by decide +kernel) rfl (fun _ _ h => h) la_long ⟨rfl, rfl⟩ lf_X12_92 dX12_init_192 dX12_init_194 rfl (by decide) (by decide) h0 h1 h2 ?_
  refine aw_aload_n dX12_init_197 rfl rfl ?_
  refine aw_sipush (x := 160) dX12_init_198 rfl ?_
  obtain ⟨⟨h0, h1, h2⟩, h⟩ := h
  refine aw_mkArr (M := MX12_init) (n := 160) fk_1227 (by decide +kernel) rfl (fun _ _ h => h) la_long ⟨rfl, rfl⟩ lf_X12_95 dX12_init_201 dX12_init_203 rfl (by decide) (by decide) h0 h1 h2 ?_
  refine aw_aload_n dX12_init_206 rfl rfl ?_
  refine aw_sipush (x := 560) dX12_init_207 rfl ?_
  obtain ⟨⟨h0, h1, h2⟩, h⟩ := h
  refine aw_mkArr (M := MX12_init) (n := 560) fk_1228 (by decide +kernel) rfl (fun _ _ h => h) la_int ⟨rfl, rfl⟩ lf_X12_98 dX12_init_210 dX12_init_212 rfl (by decide) (by decide) h0 h1 h2 ?_
  refine aw_aload_n dX12_init_215 rfl rfl ?_
  refine aw_sipush (x := 560) dX12_init_216 rfl ?_
  obtain ⟨⟨h0, h1, h2⟩, h⟩ := h
  refine aw_mkArr (M := MX12_init) (n := 560) fk_1229 (by decide +kernel) rfl (fun _ _ h => h) la_int ⟨rfl, rfl⟩ lf_X12_101 dX12_init_219 dX12_init_221 rfl (by decide) (by decide) h0 h1 h2 ?_
  refine aw_aload_n dX12_init_224 rfl rfl ?_
  refine aw_sipush (x := 560) dX12_init_225 rfl ?_
  obtain ⟨⟨h0, h1, h2⟩, h⟩ := h
  refine aw_mkArr (M := MX12_init) (n := 560) fk_1230 (by decide +kernel) rfl (fun _ _ h => h) la_int ⟨rfl, rfl⟩ lf_X12_104 dX12_init_228 dX12_init_230 rfl (by decide) (by decide) h0 h1 h2 ?_
  refine aw_aload_n dX12_init_233 rfl rfl ?_
  refine aw_sipush (x := 560) dX12_init_234 rfl ?_
  obtain ⟨⟨h0, h1, h2⟩, h⟩ := h
  refine aw_mkArr (M := MX12_init) (n := 560) fk_1231 (by decide +kernel) rfl (fun _ _ h => h) la_int ⟨rfl, rfl⟩ lf_X12_107 dX12_init_237 dX12_init_239 rfl (by decide) (by decide) h0 h1 h2 ?_
  refine aw_aload_n dX12_init_242 rfl rfl ?_
  refine aw_sipush (x := 560) dX12_init_243 rfl ?_
  obtain ⟨⟨h0, h1, h2⟩, h⟩ := h
  refine aw_mkArr (M := MX12_init) (n := 560) fk_1232 (by decide +kernel) rfl (fun _ _ h => h) la_int ⟨rfl, rfl⟩ lf_X12_110 dX12_init_246 dX12_init_248 rfl (by decide) (by decide) h0 h1 h2 ?_
  refine aw_aload_n dX12_init_251 rfl rfl ?_
  refine aw_sipush (x := 560) dX12_init_252 rfl ?_
  obtain ⟨⟨h0, h1, h2⟩, h⟩ := h
  refine aw_mkArr (M := MX12_init) (n := 560) fk_1233 (by decide +kernel) rfl (fun _ _ h => h) la_int ⟨rfl, rfl⟩ lf_X12_113 dX12_init_255 dX12_init_257 rfl (by decide) (by decide) h0 h1 h2 ?_
  refine aw_aload_n dX12_init_260 rfl rfl ?_
  refine aw_sipush (x := 560) dX12_init_261 rfl ?_
  obtain ⟨⟨h0, h1, h2⟩, h⟩ := h
  refine aw_mkArr (M := MX12_init) (n := 560) fk_1234 (by decide +kernel) rfl (fun _ _ h => h) la_int ⟨rfl, rfl⟩ lf_X12_116 dX12_init_264 dX12_init_266 rfl (by decide) (by decide) h0 h1 h2 ?_
  refine aw_aload_n dX12_init_269 rfl rfl ?_
  refine aw_sipush (x := 560) dX12_init_270 rfl ?_
  obtain ⟨⟨h0, h1, h2⟩, h⟩ := h
  refine aw_mkArr (M := MX12_init) (n := 560) fk_1235 (by decide +kernel) rfl (fun _ _ h => h) la_int ⟨rfl, rfl⟩ lf_X12_119 dX12_init_273 dX12_init_275 rfl (by decide) (by decide) h0 h1 h2 ?_
  refine aw_aload_n dX12_init_278 rfl rfl ?_
  refine aw_sipush (x := 560) dX12_init_279 rfl ?_
  obtain ⟨⟨h0, h1, h2⟩, h⟩ := h
  refine aw_mkArr (M := MX12_init) (n := 560) fk_1236 (by decide +kernel) rfl (fun _ _ h => h) la_int ⟨rfl, rfl⟩ lf_X12_122 dX12_init_282 dX12_init_284 rfl (by decide) (by decide) h0 h1 h2 ?_
  exact aw_fgt (L' := [some (vR 12 (some x0))]) ⟨rfl, trivial⟩ h
set_option maxRecDepth 4000 in
theorem bk_X12_init_287 {g : GP} {l : Launch} {d : Nat} {σ : St} {Q : Option AV → St → Prop} {x0 : Nat}
    (h : (gL σ 1237 x0 = 0 ∧ hs σ + 1 ≤ gB g + 600000 ∧ sl σ + 560 ≤ 7302250) ∧ (gL (sArr σ 1237 x0 560) 1238 x0 = 0 ∧ hs (sArr σ 1237 x0 560) + 1 ≤ gB g + 600000 ∧ sl (sArr σ 1237 x0 560) + 560 ≤ 7302250) ∧ (gL (sArr (sArr σ 1237 x0 560) 1238 x0 560) 1239 x0 = 0 ∧ hs (sArr (sArr σ 1237 x0 560) 1238 x0 560) + 1 ≤ gB g + 600000 ∧ sl (sArr (sArr σ 1237 x0 560) 1238 x0 560) + 8960 ≤ 7302250) ∧ (gL (sArr (sArr (sArr σ 1237 x0 560) 1238 x0 560) 1239 x0 8960) 1240 x0 = 0 ∧ hs (sArr (sArr (sArr σ 1237 x0 560) 1238 x0 560) 1239 x0 8960) + 1 ≤ gB g + 600000 ∧ sl (sArr (sArr (sArr σ 1237 x0 560) 1238 x0 560) 1239 x0 8960) + 8960 ≤ 7302250) ∧ (gL (sArr (sArr (sArr (sArr σ 1237 x0 560) 1238 x0 560) 1239 x0 8960) 1240 x0 8960) 1241 x0 = 0 ∧ hs (sArr (sArr (sArr (sArr σ 1237 x0 560) 1238 x0 560) 1239 x0 8960) 1240 x0 8960) + 1 ≤ gB g + 600000 ∧ sl (sArr (sArr (sArr (sArr σ 1237 x0 560) 1238 x0 560) 1239 x0 8960) 1240 x0 8960) + 8960 ≤ 7302250) ∧ (gL (sArr (sArr (sArr (sArr (sArr σ 1237 x0 560) 1238 x0 560) 1239 x0 8960) 1240 x0 8960) 1241 x0 8960) 1242 x0 = 0 ∧ hs (sArr (sArr (sArr (sArr (sArr σ 1237 x0 560) 1238 x0 560) 1239 x0 8960) 1240 x0 8960) 1241 x0 8960) + 1 ≤ gB g + 600000 ∧ sl (sArr (sArr (sArr (sArr (sArr σ 1237 x0 560) 1238 x0 560) 1239 x0 8960) 1240 x0 8960) 1241 x0 8960) + 9000 ≤ 7302250) ∧ (gL (sArr (sArr (sArr (sArr (sArr (sArr σ 1237 x0 560) 1238 x0 560) 1239 x0 8960) 1240 x0 8960) 1241 x0 8960) 1242 x0 9000) 1243 x0 = 0 ∧ hs (sArr (sArr (sArr (sArr (sArr (sArr σ 1237 x0 560) 1238 x0 560) 1239 x0 8960) 1240 x0 8960) 1241 x0 8960) 1242 x0 9000) + 1 ≤ gB g + 600000 ∧ sl (sArr (sArr (sArr (sArr (sArr (sArr σ 1237 x0 560) 1238 x0 560) 1239 x0 8960) 1240 x0 8960) 1241 x0 8960) 1242 x0 9000) + 9000 ≤ 7302250) ∧ (gL (sArr (sArr (sArr (sArr (sArr (sArr (sArr σ 1237 x0 560) 1238 x0 560) 1239 x0 8960) 1240 x0 8960) 1241 x0 8960) 1242 x0 9000) 1243 x0 9000) 1244 x0 = 0 ∧ hs (sArr (sArr (sArr (sArr (sArr (sArr (sArr σ 1237 x0 560) 1238 x0 560) 1239 x0 8960) 1240 x0 8960) 1241 x0 8960) 1242 x0 9000) 1243 x0 9000) + 1 ≤ gB g + 600000 ∧ sl (sArr (sArr (sArr (sArr (sArr (sArr (sArr σ 1237 x0 560) 1238 x0 560) 1239 x0 8960) 1240 x0 8960) 1241 x0 8960) 1242 x0 9000) 1243 x0 9000) + 9000 ≤ 7302250) ∧ (gL (sArr (sArr (sArr (sArr (sArr (sArr (sArr (sArr σ 1237 x0 560) 1238 x0 560) 1239 x0 8960) 1240 x0 8960) 1241 x0 8960) 1242 x0 9000) 1243 x0 9000) 1244 x0 9000) 1245 x0 = 0 ∧ hs (sArr (sArr (sArr (sArr (sArr (sArr (sArr (sArr σ 1237 x0 560) 1238 x0 560) 1239 x0 8960) 1240 x0 8960) 1241 x0 8960) 1242 x0 9000) 1243 x0 9000) 1244 x0 9000) + 1 ≤ gB g + 600000 ∧ sl (sArr (sArr (sArr (sArr (sArr (sArr (sArr (sArr σ 1237 x0 560) 1238 x0 560) 1239 x0 8960) 1240 x0 8960) 1241 x0 8960) 1242 x0 9000) 1243 x0 9000) 1244 x0 9000) + 9000 ≤ 7302250) ∧ (gL (sI (sArr (sArr (sArr (sArr (sArr (sArr (sArr (sArr (sArr σ 1237 x0 560) 1238 x0 560) 1239 x0 8960) 1240 x0 8960) 1241 x0 8960) 1242 x0 9000) 1243 x0 9000) 1244 x0 9000) 1245 x0 9000) 1246 x0 0 0) 1247 x0 = 0 ∧ hs (sI (sArr (sArr (sArr (sArr (sArr (sArr (sArr (sArr (sArr σ 1237 x0 560) 1238 x0 560) 1239 x0 8960) 1240 x0 8960) 1241 x0 8960) 1242 x0 9000) 1243 x0 9000) 1244 x0 9000) 1245 x0 9000) 1246 x0 0 0) + 1 ≤ gB g + 600000 ∧ sl (sI (sArr (sArr (sArr (sArr (sArr (sArr (sArr (sArr (sArr σ 1237 x0 560) 1238 x0 560) 1239 x0 8960) 1240 x0 8960) 1241 x0 8960) 1242 x0 9000) 1243 x0 9000) 1244 x0 9000) 1245 x0 9000) 1246 x0 0 0) + 280 ≤ 7302250) ∧ (gL (sArr (sI (sArr (sArr (sArr (sArr (sArr (sArr (sArr (sArr (sArr σ 1237 x0 560) 1238 x0 560) 1239 x0 8960) 1240 x0 8960) 1241 x0 8960) 1242 x0 9000) 1243 x0 9000) 1244 x0 9000) 1245 x0 9000) 1246 x0 0 0) 1247 x0 280) 1248 x0 = 0 ∧ hs (sArr (sI (sArr (sArr (sArr (sArr (sArr (sArr (sArr (sArr (sArr σ 1237 x0 560) 1238 x0 560) 1239 x0 8960) 1240 x0 8960) 1241 x0 8960) 1242 x0 9000) 1243 x0 9000) 1244 x0 9000) 1245 x0 9000) 1246 x0 0 0) 1247 x0 280) + 1 ≤ gB g + 600000 ∧ sl (sArr (sI (sArr (sArr (sArr (sArr (sArr (sArr (sArr (sArr (sArr σ 1237 x0 560) 1238 x0 560) 1239 x0 8960) 1240 x0 8960) 1241 x0 8960) 1242 x0 9000) 1243 x0 9000) 1244 x0 9000) 1245 x0 9000) 1246 x0 0 0) 1247 x0 280) + 280 ≤ 7302250) ∧ (gL (sArr (sArr (sI (sArr (sArr (sArr (sArr (sArr (sArr (sArr (sArr (sArr σ 1237 x0 560) 1238 x0 560) 1239 x0 8960) 1240 x0 8960) 1241 x0 8960) 1242 x0 9000) 1243 x0 9000) 1244 x0 9000) 1245 x0 9000) 1246 x0 0 0) 1247 x0 280) 1248 x0 280) 1249 x0 = 0 ∧ hs (sArr (sArr (sI (sArr (sArr (sArr (sArr (sArr (sArr (sArr (sArr (sArr σ 1237 x0 560) 1238 x0 560) 1239 x0 8960) 1240 x0 8960) 1241 x0 8960) 1242 x0 9000) 1243 x0 9000) 1244 x0 9000) 1245 x0 9000) 1246 x0 0 0) 1247 x0 280) 1248 x0 280) + 1 ≤ gB g + 600000 ∧ sl (sArr (sArr (sI (sArr (sArr (sArr (sArr (sArr (sArr (sArr (sArr (sArr σ 1237 x0 560) 1238 x0 560) 1239 x0 8960) 1240 x0 8960) 1241 x0 8960) 1242 x0 9000) 1243 x0 9000) 1244 x0 9000) 1245 x0 9000) 1246 x0 0 0) 1247 x0 280) 1248 x0 280) + 280 ≤ 7302250) ∧ AW g l (d + 1) MX12_init 425 [some (vR 12 (some x0))] [] (sI (sI (sI (sI (sI (sArr (sArr (sArr (sI (sArr (sArr (sArr (sArr (sArr (sArr (sArr (sArr (sArr σ 1237 x0 560) 1238 x0 560) 1239 x0 8960) 1240 x0 8960) 1241 x0 8960) 1242 x0 9000) 1243 x0 9000) 1244 x0 9000) 1245 x0 9000) 1246 x0 0 0) 1247 x0 280) 1248 x0 280) 1249 x0 280) 1250 x0 0 0) 1251 x0 0 0) 1252 x0 0 0) 1253 x0 0 0) 1254 x0 0 0) Q) :
    AW g l (d + 1) MX12_init 287 [some (vR 12 (some x0))] [] σ Q := by
  refine aw_aload_n dX12_init_287 rfl rfl ?_
  refine aw_sipush (x := 560) dX12_init_288 rfl ?_
  obtain ⟨⟨h0, h1, h2⟩, h⟩ := h
  refine aw_mkArr (M := MX12_init) (n := 560) fk_1237 (by decide +kernel) rfl (fun _ _ h => h) la_int ⟨rfl, rfl⟩ lf_X12_125 dX12_init_291 dX12_init_293 rfl (by decide) (by decide) h0 h1 h2 ?_
  refine aw_aload_n dX12_init_296 rfl rfl ?_
  refine aw_sipush (x := 560) dX12_init_297 rfl ?_
  obtain ⟨⟨h0, h1, h2⟩, h⟩ := h
  refine aw_mkArr (M := MX12_init) (n := 560) fk_1238 (by decide +kernel) rfl (fun _ _ h => h) la_long ⟨rfl, rfl⟩ lf_X12_128 dX12_init_300 dX12_init_302 rfl (by decide) (by decide) h0 h1 h2 ?_
  refine aw_aload_n dX12_init_305 rfl rfl ?_
  refine aw_sipush (x := 8960) dX12_init_306 rfl ?_
  obtain ⟨⟨h0, h1, h2⟩, h⟩ := h
  refine aw_mkArr (M := MX12_init) (n := 8960) fk_1239 (by decide +kernel) rfl (fun _ _ h => h) la_long ⟨rfl, rfl⟩ lf_X12_131 dX12_init_309 dX12_init_311 rfl (by decide) (by decide) h0 h1 h2 ?_
  refine aw_aload_n dX12_init_314 rfl rfl ?_
  refine aw_sipush (x := 8960) dX12_init_315 rfl ?_
  obtain ⟨⟨h0, h1, h2⟩, h⟩ := h
  refine aw_mkArr (M := MX12_init) (n := 8960) fk_1240 (by decide +kernel) rfl (fun _ _ h => h) la_long ⟨rfl, rfl⟩ lf_X12_134 dX12_init_318 dX12_init_320 rfl (by decide) (by decide) h0 h1 h2 ?_
  refine aw_aload_n dX12_init_323 rfl rfl ?_
  refine aw_sipush (x := 8960) dX12_init_324 rfl ?_
  obtain ⟨⟨h0, h1, h2⟩, h⟩ := h
  refine aw_mkArr (M := MX12_init) (n := 8960) fk_1241 (by decide +kernel) rfl (fun _ _ h => h) la_int ⟨rfl, rfl⟩ lf_X12_137 dX12_init_327 dX12_init_329 rfl (by decide) (by decide) h0 h1 h2 ?_
  refine aw_aload_n dX12_init_332 rfl rfl ?_
  refine aw_sipush (x := 9000) dX12_init_333 rfl ?_
  obtain ⟨⟨h0, h1, h2⟩, h⟩ := h
  refine aw_mkArr (M := MX12_init) (n := 9000) fk_1242 (by decide +kernel) rfl (fun _ _ h => h) la_int ⟨rfl, rfl⟩ lf_X12_140 dX12_init_336 dX12_init_338 rfl (by decide) (by decide) h0 h1 h2 ?_
  refine aw_aload_n dX12_init_341 rfl rfl ?_
  refine aw_sipush (x := 9000) dX12_init_342 rfl ?_
  obtain ⟨⟨h0, h1, h2⟩, h⟩ := h
  refine aw_mkArr (M := MX12_init) (n := 9000) fk_1243 (by decide +kernel) rfl (fun _ _ h => h) la_int ⟨rfl, rfl⟩ lf_X12_143 dX12_init_345 dX12_init_347 rfl (by decide) (by decide) h0 h1 h2 ?_
  refine aw_aload_n dX12_init_350 rfl rfl ?_
  refine aw_sipush (x := 9000) dX12_init_351 rfl ?_
  obtain ⟨⟨h0, h1, h2⟩, h⟩ := h
  refine aw_mkArr (M := MX12_init) (n := 9000) fk_1244 (by decide +kernel) rfl (fun _ _ h => h) la_int ⟨rfl, rfl⟩ lf_X12_146 dX12_init_354 dX12_init_356 rfl (by decide) (by decide) h0 h1 h2 ?_
  refine aw_aload_n dX12_init_359 rfl rfl ?_
  refine aw_sipush (x := 9000) dX12_init_360 rfl ?_
  obtain ⟨⟨h0, h1, h2⟩, h⟩ := h
  refine aw_mkArr (M := MX12_init) (n := 9000) fk_1245 (by decide +kernel) rfl (fun _ _ h => h) la_long ⟨rfl, rfl⟩ lf_X12_149 dX12_init_363 dX12_init_365 rfl (by decide) (by decide) h0 h1 h2 ?_
  refine aw_aload_n dX12_init_368 rfl rfl ?_
  refine aw_iconst (x := 0) dX12_init_369 rfl ?_
  refine aw_putI' rfl fk_1246 (Or.inl rfl) lf_X12_152 dX12_init_370 ?_
  refine aw_aload_n dX12_init_373 rfl rfl ?_
  refine aw_sipush (x := 280) dX12_init_374 rfl ?_
  obtain ⟨⟨h0, h1, h2⟩, h⟩ := h
  refine aw_mkArr (M := MX12_init) (n := 280) fk_1247 (by decide +kernel) rfl (fun _ _ h => h) la_int ⟨rfl, rfl⟩ lf_X12_155 dX12_init_377 dX12_init_379 rfl (by decide) (by decide) h0 h1 h2 ?_
  refine aw_aload_n dX12_init_382 rfl rfl ?_
  refine aw_sipush (x := 280) dX12_init_383 rfl ?_
  obtain ⟨⟨h0, h1, h2⟩, h⟩ := h
  refine aw_mkArr (M := MX12_init) (n := 280) fk_1248 (by decide +kernel) rfl (fun _ _ h => h) la_int ⟨rfl, rfl⟩ lf_X12_158 dX12_init_386 dX12_init_388 rfl (by decide) (by decide) h0 h1 h2 ?_
  refine aw_aload_n dX12_init_391 rfl rfl ?_
  refine aw_sipush (x := 280) dX12_init_392 rfl ?_
  obtain ⟨⟨h0, h1, h2⟩, h⟩ := h
  refine aw_mkArr (M := MX12_init) (n := 280) fk_1249 (by decide +kernel) rfl (fun _ _ h => h) la_long ⟨rfl, rfl⟩ lf_X12_161 dX12_init_395 dX12_init_397 rfl (by decide) (by decide) h0 h1 h2 ?_
  refine aw_aload_n dX12_init_400 rfl rfl ?_
  refine aw_iconst (x := 0) dX12_init_401 rfl ?_
  refine aw_putI' rfl fk_1250 (Or.inl rfl) lf_X12_164 dX12_init_402 ?_
  refine aw_aload_n dX12_init_405 rfl rfl ?_
  refine aw_iconst (x := 0) dX12_init_406 rfl ?_
  refine aw_putI' rfl fk_1251 (Or.inl rfl) lf_X12_167 dX12_init_407 ?_
  refine aw_aload_n dX12_init_410 rfl rfl ?_
  refine aw_iconst (x := 0) dX12_init_411 rfl ?_
  refine aw_putI' rfl fk_1252 (Or.inl rfl) lf_X12_170 dX12_init_412 ?_
  refine aw_aload_n dX12_init_415 rfl rfl ?_
  refine aw_iconst (x := 0) dX12_init_416 rfl ?_
  refine aw_putI' rfl fk_1253 (Or.inl rfl) lf_X12_173 dX12_init_417 ?_
  refine aw_aload_n dX12_init_420 rfl rfl ?_
  refine aw_iconst (x := 0) dX12_init_421 rfl ?_
  refine aw_putI' rfl fk_1254 (Or.inl rfl) lf_X12_176 dX12_init_422 ?_
  exact aw_fgt (L' := [some (vR 12 (some x0))]) ⟨rfl, trivial⟩ h
set_option maxRecDepth 4000 in
theorem bk_X12_init_425 {g : GP} {l : Launch} {d : Nat} {σ : St} {Q : Option AV → St → Prop} {x0 : Nat}
    (h : (gL (sI (sI (sI σ 1255 x0 0 0) 1256 x0 0 0) 1257 x0 0 0) 1258 x0 = 0 ∧ hs (sI (sI (sI σ 1255 x0 0 0) 1256 x0 0 0) 1257 x0 0 0) + 1 ≤ gB g + 600000 ∧ sl (sI (sI (sI σ 1255 x0 0 0) 1256 x0 0 0) 1257 x0 0 0) + 128 ≤ 7302250) ∧ (gL (sArr (sI (sI (sI σ 1255 x0 0 0) 1256 x0 0 0) 1257 x0 0 0) 1258 x0 128) 1259 x0 = 0 ∧ hs (sArr (sI (sI (sI σ 1255 x0 0 0) 1256 x0 0 0) 1257 x0 0 0) 1258 x0 128) + 1 ≤ gB g + 600000 ∧ sl (sArr (sI (sI (sI σ 1255 x0 0 0) 1256 x0 0 0) 1257 x0 0 0) 1258 x0 128) + 128 ≤ 7302250) ∧ (gL (sI (sI (sArr (sArr (sI (sI (sI σ 1255 x0 0 0) 1256 x0 0 0) 1257 x0 0 0) 1258 x0 128) 1259 x0 128) 1260 x0 0 0) 1261 x0 0 0) 1262 x0 = 0 ∧ hs (sI (sI (sArr (sArr (sI (sI (sI σ 1255 x0 0 0) 1256 x0 0 0) 1257 x0 0 0) 1258 x0 128) 1259 x0 128) 1260 x0 0 0) 1261 x0 0 0) + 1 ≤ gB g + 600000 ∧ sl (sI (sI (sArr (sArr (sI (sI (sI σ 1255 x0 0 0) 1256 x0 0 0) 1257 x0 0 0) 1258 x0 128) 1259 x0 128) 1260 x0 0 0) 1261 x0 0 0) + 9000 ≤ 7302250) ∧ (gL (sArr (sI (sI (sArr (sArr (sI (sI (sI σ 1255 x0 0 0) 1256 x0 0 0) 1257 x0 0 0) 1258 x0 128) 1259 x0 128) 1260 x0 0 0) 1261 x0 0 0) 1262 x0 9000) 1263 x0 = 0 ∧ hs (sArr (sI (sI (sArr (sArr (sI (sI (sI σ 1255 x0 0 0) 1256 x0 0 0) 1257 x0 0 0) 1258 x0 128) 1259 x0 128) 1260 x0 0 0) 1261 x0 0 0) 1262 x0 9000) + 1 ≤ gB g + 600000 ∧ sl (sArr (sI (sI (sArr (sArr (sI (sI (sI σ 1255 x0 0 0) 1256 x0 0 0) 1257 x0 0 0) 1258 x0 128) 1259 x0 128) 1260 x0 0 0) 1261 x0 0 0) 1262 x0 9000) + 20 ≤ 7302250) ∧ (gL (sI (sArr (sArr (sI (sI (sArr (sArr (sI (sI (sI σ 1255 x0 0 0) 1256 x0 0 0) 1257 x0 0 0) 1258 x0 128) 1259 x0 128) 1260 x0 0 0) 1261 x0 0 0) 1262 x0 9000) 1263 x0 20) 1264 x0 0 0) 1265 x0 = 0 ∧ hs (sI (sArr (sArr (sI (sI (sArr (sArr (sI (sI (sI σ 1255 x0 0 0) 1256 x0 0 0) 1257 x0 0 0) 1258 x0 128) 1259 x0 128) 1260 x0 0 0) 1261 x0 0 0) 1262 x0 9000) 1263 x0 20) 1264 x0 0 0) + 1 ≤ gB g + 600000 ∧ sl (sI (sArr (sArr (sI (sI (sArr (sArr (sI (sI (sI σ 1255 x0 0 0) 1256 x0 0 0) 1257 x0 0 0) 1258 x0 128) 1259 x0 128) 1260 x0 0 0) 1261 x0 0 0) 1262 x0 9000) 1263 x0 20) 1264 x0 0 0) + 7 ≤ 7302250) ∧ (gL (sArr (sI (sArr (sArr (sI (sI (sArr (sArr (sI (sI (sI σ 1255 x0 0 0) 1256 x0 0 0) 1257 x0 0 0) 1258 x0 128) 1259 x0 128) 1260 x0 0 0) 1261 x0 0 0) 1262 x0 9000) 1263 x0 20) 1264 x0 0 0) 1265 x0 7) 1266 x0 = 0 ∧ hs (sArr (sI (sArr (sArr (sI (sI (sArr (sArr (sI (sI (sI σ 1255 x0 0 0) 1256 x0 0 0) 1257 x0 0 0) 1258 x0 128) 1259 x0 128) 1260 x0 0 0) 1261 x0 0 0) 1262 x0 9000) 1263 x0 20) 1264 x0 0 0) 1265 x0 7) + 1 ≤ gB g + 600000 ∧ sl (sArr (sI (sArr (sArr (sI (sI (sArr (sArr (sI (sI (sI σ 1255 x0 0 0) 1256 x0 0 0) 1257 x0 0 0) 1258 x0 128) 1259 x0 128) 1260 x0 0 0) 1261 x0 0 0) 1262 x0 9000) 1263 x0 20) 1264 x0 0 0) 1265 x0 7) + 7 ≤ 7302250) ∧ (gL (sArr (sArr (sI (sArr (sArr (sI (sI (sArr (sArr (sI (sI (sI σ 1255 x0 0 0) 1256 x0 0 0) 1257 x0 0 0) 1258 x0 128) 1259 x0 128) 1260 x0 0 0) 1261 x0 0 0) 1262 x0 9000) 1263 x0 20) 1264 x0 0 0) 1265 x0 7) 1266 x0 7) 1267 x0 = 0 ∧ hs (sArr (sArr (sI (sArr (sArr (sI (sI (sArr (sArr (sI (sI (sI σ 1255 x0 0 0) 1256 x0 0 0) 1257 x0 0 0) 1258 x0 128) 1259 x0 128) 1260 x0 0 0) 1261 x0 0 0) 1262 x0 9000) 1263 x0 20) 1264 x0 0 0) 1265 x0 7) 1266 x0 7) + 1 ≤ gB g + 600000 ∧ sl (sArr (sArr (sI (sArr (sArr (sI (sI (sArr (sArr (sI (sI (sI σ 1255 x0 0 0) 1256 x0 0 0) 1257 x0 0 0) 1258 x0 128) 1259 x0 128) 1260 x0 0 0) 1261 x0 0 0) 1262 x0 9000) 1263 x0 20) 1264 x0 0 0) 1265 x0 7) 1266 x0 7) + 2800 ≤ 7302250) ∧ (gL (sArr (sArr (sArr (sI (sArr (sArr (sI (sI (sArr (sArr (sI (sI (sI σ 1255 x0 0 0) 1256 x0 0 0) 1257 x0 0 0) 1258 x0 128) 1259 x0 128) 1260 x0 0 0) 1261 x0 0 0) 1262 x0 9000) 1263 x0 20) 1264 x0 0 0) 1265 x0 7) 1266 x0 7) 1267 x0 2800) 1268 x0 = 0 ∧ hs (sArr (sArr (sArr (sI (sArr (sArr (sI (sI (sArr (sArr (sI (sI (sI σ 1255 x0 0 0) 1256 x0 0 0) 1257 x0 0 0) 1258 x0 128) 1259 x0 128) 1260 x0 0 0) 1261 x0 0 0) 1262 x0 9000) 1263 x0 20) 1264 x0 0 0) 1265 x0 7) 1266 x0 7) 1267 x0 2800) + 1 ≤ gB g + 600000 ∧ sl (sArr (sArr (sArr (sI (sArr (sArr (sI (sI (sArr (sArr (sI (sI (sI σ 1255 x0 0 0) 1256 x0 0 0) 1257 x0 0 0) 1258 x0 128) 1259 x0 128) 1260 x0 0 0) 1261 x0 0 0) 1262 x0 9000) 1263 x0 20) 1264 x0 0 0) 1265 x0 7) 1266 x0 7) 1267 x0 2800) + 2800 ≤ 7302250) ∧ (gL (sArr (sArr (sArr (sArr (sI (sArr (sArr (sI (sI (sArr (sArr (sI (sI (sI σ 1255 x0 0 0) 1256 x0 0 0) 1257 x0 0 0) 1258 x0 128) 1259 x0 128) 1260 x0 0 0) 1261 x0 0 0) 1262 x0 9000) 1263 x0 20) 1264 x0 0 0) 1265 x0 7) 1266 x0 7) 1267 x0 2800) 1268 x0 2800) 1269 x0 = 0 ∧ hs (sArr (sArr (sArr (sArr (sI (sArr (sArr (sI (sI (sArr (sArr (sI (sI (sI σ 1255 x0 0 0) 1256 x0 0 0) 1257 x0 0 0) 1258 x0 128) 1259 x0 128) 1260 x0 0 0) 1261 x0 0 0) 1262 x0 9000) 1263 x0 20) 1264 x0 0 0) 1265 x0 7) 1266 x0 7) 1267 x0 2800) 1268 x0 2800) + 1 ≤ gB g + 600000 ∧ sl (sArr (sArr (sArr (sArr (sI (sArr (sArr (sI (sI (sArr (sArr (sI (sI (sI σ 1255 x0 0 0) 1256 x0 0 0) 1257 x0 0 0) 1258 x0 128) 1259 x0 128) 1260 x0 0 0) 1261 x0 0 0) 1262 x0 9000) 1263 x0 20) 1264 x0 0 0) 1265 x0 7) 1266 x0 7) 1267 x0 2800) 1268 x0 2800) + 2800 ≤ 7302250) ∧ (gL (sArr (sArr (sArr (sArr (sArr (sI (sArr (sArr (sI (sI (sArr (sArr (sI (sI (sI σ 1255 x0 0 0) 1256 x0 0 0) 1257 x0 0 0) 1258 x0 128) 1259 x0 128) 1260 x0 0 0) 1261 x0 0 0) 1262 x0 9000) 1263 x0 20) 1264 x0 0 0) 1265 x0 7) 1266 x0 7) 1267 x0 2800) 1268 x0 2800) 1269 x0 2800) 1270 x0 = 0 ∧ hs (sArr (sArr (sArr (sArr (sArr (sI (sArr (sArr (sI (sI (sArr (sArr (sI (sI (sI σ 1255 x0 0 0) 1256 x0 0 0) 1257 x0 0 0) 1258 x0 128) 1259 x0 128) 1260 x0 0 0) 1261 x0 0 0) 1262 x0 9000) 1263 x0 20) 1264 x0 0 0) 1265 x0 7) 1266 x0 7) 1267 x0 2800) 1268 x0 2800) 1269 x0 2800) + 1 ≤ gB g + 600000 ∧ sl (sArr (sArr (sArr (sArr (sArr (sI (sArr (sArr (sI (sI (sArr (sArr (sI (sI (sI σ 1255 x0 0 0) 1256 x0 0 0) 1257 x0 0 0) 1258 x0 128) 1259 x0 128) 1260 x0 0 0) 1261 x0 0 0) 1262 x0 9000) 1263 x0 20) 1264 x0 0 0) 1265 x0 7) 1266 x0 7) 1267 x0 2800) 1268 x0 2800) 1269 x0 2800) + 2800 ≤ 7302250) ∧ (gL (sArr (sArr (sArr (sArr (sArr (sArr (sI (sArr (sArr (sI (sI (sArr (sArr (sI (sI (sI σ 1255 x0 0 0) 1256 x0 0 0) 1257 x0 0 0) 1258 x0 128) 1259 x0 128) 1260 x0 0 0) 1261 x0 0 0) 1262 x0 9000) 1263 x0 20) 1264 x0 0 0) 1265 x0 7) 1266 x0 7) 1267 x0 2800) 1268 x0 2800) 1269 x0 2800) 1270 x0 2800) 1271 x0 = 0 ∧ hs (sArr (sArr (sArr (sArr (sArr (sArr (sI (sArr (sArr (sI (sI (sArr (sArr (sI (sI (sI σ 1255 x0 0 0) 1256 x0 0 0) 1257 x0 0 0) 1258 x0 128) 1259 x0 128) 1260 x0 0 0) 1261 x0 0 0) 1262 x0 9000) 1263 x0 20) 1264 x0 0 0) 1265 x0 7) 1266 x0 7) 1267 x0 2800) 1268 x0 2800) 1269 x0 2800) 1270 x0 2800) + 1 ≤ gB g + 600000 ∧ sl (sArr (sArr (sArr (sArr (sArr (sArr (sI (sArr (sArr (sI (sI (sArr (sArr (sI (sI (sI σ 1255 x0 0 0) 1256 x0 0 0) 1257 x0 0 0) 1258 x0 128) 1259 x0 128) 1260 x0 0 0) 1261 x0 0 0) 1262 x0 9000) 1263 x0 20) 1264 x0 0 0) 1265 x0 7) 1266 x0 7) 1267 x0 2800) 1268 x0 2800) 1269 x0 2800) 1270 x0 2800) + 2800 ≤ 7302250) ∧ (gL (sArr (sArr (sArr (sArr (sArr (sArr (sArr (sI (sArr (sArr (sI (sI (sArr (sArr (sI (sI (sI σ 1255 x0 0 0) 1256 x0 0 0) 1257 x0 0 0) 1258 x0 128) 1259 x0 128) 1260 x0 0 0) 1261 x0 0 0) 1262 x0 9000) 1263 x0 20) 1264 x0 0 0) 1265 x0 7) 1266 x0 7) 1267 x0 2800) 1268 x0 2800) 1269 x0 2800) 1270 x0 2800) 1271 x0 2800) 1272 x0 = 0 ∧ hs (sArr (sArr (sArr (sArr (sArr (sArr (sArr (sI (sArr (sArr (sI (sI (sArr (sArr (sI (sI (sI σ 1255 x0 0 0) 1256 x0 0 0) 1257 x0 0 0) 1258 x0 128) 1259 x0 128) 1260 x0 0 0) 1261 x0 0 0) 1262 x0 9000) 1263 x0 20) 1264 x0 0 0) 1265 x0 7) 1266 x0 7) 1267 x0 2800) 1268 x0 2800) 1269 x0 2800) 1270 x0 2800) 1271 x0 2800) + 1 ≤ gB g + 600000 ∧ sl (sArr (sArr (sArr (sArr (sArr (sArr (sArr (sI (sArr (sArr (sI (sI (sArr (sArr (sI (sI (sI σ 1255 x0 0 0) 1256 x0 0 0) 1257 x0 0 0) 1258 x0 128) 1259 x0 128) 1260 x0 0 0) 1261 x0 0 0) 1262 x0 9000) 1263 x0 20) 1264 x0 0 0) 1265 x0 7) 1266 x0 7) 1267 x0 2800) 1268 x0 2800) 1269 x0 2800) 1270 x0 2800) 1271 x0 2800) + 2800 ≤ 7302250) ∧ AW g l (d + 1) MX12_init 560 [some (vR 12 (some x0))] [] (sArr (sArr (sArr (sArr (sArr (sArr (sArr (sArr (sI (sArr (sArr (sI (sI (sArr (sArr (sI (sI (sI σ 1255 x0 0 0) 1256 x0 0 0) 1257 x0 0 0) 1258 x0 128) 1259 x0 128) 1260 x0 0 0) 1261 x0 0 0) 1262 x0 9000) 1263 x0 20) 1264 x0 0 0) 1265 x0 7) 1266 x0 7) 1267 x0 2800) 1268 x0 2800) 1269 x0 2800) 1270 x0 2800) 1271 x0 2800) 1272 x0 2800) Q) :
    AW g l (d + 1) MX12_init 425 [some (vR 12 (some x0))] [] σ Q := by
  refine aw_aload_n dX12_init_425 rfl rfl ?_
  refine aw_iconst (x := 0) dX12_init_426 rfl ?_
  refine aw_putI' rfl fk_1255 (Or.inl rfl) lf_X12_179 dX12_init_427 ?_
  refine aw_aload_n dX12_init_430 rfl rfl ?_
  refine aw_iconst (x := 0) dX12_init_431 rfl ?_
  refine aw_putZ' rfl fk_1256 (Or.inl rfl) lf_X12_182 dX12_init_432 (Or.inl rfl) ?_
  refine aw_aload_n dX12_init_435 rfl rfl ?_
  refine aw_iconst (x := 0) dX12_init_436 rfl ?_
  refine aw_putI' rfl fk_1257 (Or.inl rfl) lf_X12_186 dX12_init_437 ?_
  refine aw_aload_n dX12_init_440 rfl rfl ?_
  refine aw_sipush (x := 128) dX12_init_441 rfl ?_
  obtain ⟨⟨h0, h1, h2⟩, h⟩ := h
  refine aw_mkArr (M := MX12_init) (n := 128) fk_1258 (by decide +kernel) rfl (fun _ _ h => h) la_int ⟨rfl, rfl⟩ lf_X12_189 dX12_init_444 dX12_init_446 rfl (by decide) (by decide) h0 h1 h2 ?_
  refine aw_aload_n dX12_init_449 rfl rfl ?_
  refine aw_sipush (x := 128) dX12_init_450 rfl ?_
  obtain ⟨⟨h0, h1, h2⟩, h⟩ := h
  refine aw_mkArr (M := MX12_init) (n := 128) fk_1259 (by decide +kernel) rfl (fun _ _ h => h) la_int ⟨rfl, rfl⟩ lf_X12_192 dX12_init_453 dX12_init_455 rfl (by decide) (by decide) h0 h1 h2 ?_
  refine aw_aload_n dX12_init_458 rfl rfl ?_
  refine aw_iconst (x := 0) dX12_init_459 rfl ?_
  refine aw_putI' rfl fk_1260 (Or.inl rfl) lf_X12_195 dX12_init_460 ?_
  refine aw_aload_n dX12_init_463 rfl rfl ?_
  refine aw_iconst (x := 0) dX12_init_464 rfl ?_
  refine aw_putI' rfl fk_1261 (Or.inl rfl) lf_X12_198 dX12_init_465 ?_
  refine aw_aload_n dX12_init_468 rfl rfl ?_
  refine aw_sipush (x := 9000) dX12_init_469 rfl ?_
  obtain ⟨⟨h0, h1, h2⟩, h⟩ := h
  refine aw_mkArr (M := MX12_init) (n := 9000) fk_1262 (by decide +kernel) rfl (fun _ _ h => h) la_int ⟨rfl, rfl⟩ lf_X12_201 dX12_init_472 dX12_init_474 rfl (by decide) (by decide) h0 h1 h2 ?_
  refine aw_aload_n dX12_init_477 rfl rfl ?_
  refine aw_bipush (x := 20) dX12_init_478 rfl ?_
  obtain ⟨⟨h0, h1, h2⟩, h⟩ := h
  refine aw_mkArr (M := MX12_init) (n := 20) fk_1263 (by decide +kernel) rfl (fun _ _ h => h) la_boolean ⟨rfl, rfl⟩ lf_X12_204 dX12_init_480 dX12_init_482 rfl (by decide) (by decide) h0 h1 h2 ?_
  refine aw_aload_n dX12_init_485 rfl rfl ?_
  refine aw_iconst (x := 0) dX12_init_486 rfl ?_
  refine aw_putI' rfl fk_1264 (Or.inl rfl) lf_X12_208 dX12_init_487 ?_
  refine aw_aload_n dX12_init_490 rfl rfl ?_
  refine aw_bipush (x := 7) dX12_init_491 rfl ?_
  obtain ⟨⟨h0, h1, h2⟩, h⟩ := h
  refine aw_mkArr (M := MX12_init) (n := 7) fk_1265 (by decide +kernel) rfl (fun _ _ h => h) la_int ⟨rfl, rfl⟩ lf_X12_211 dX12_init_493 dX12_init_495 rfl (by decide) (by decide) h0 h1 h2 ?_
  refine aw_aload_n dX12_init_498 rfl rfl ?_
  refine aw_bipush (x := 7) dX12_init_499 rfl ?_
  obtain ⟨⟨h0, h1, h2⟩, h⟩ := h
  refine aw_mkArr (M := MX12_init) (n := 7) fk_1266 (by decide +kernel) rfl (fun _ _ h => h) la_int ⟨rfl, rfl⟩ lf_X12_214 dX12_init_501 dX12_init_503 rfl (by decide) (by decide) h0 h1 h2 ?_
  refine aw_aload_n dX12_init_506 rfl rfl ?_
  refine aw_sipush (x := 2800) dX12_init_507 rfl ?_
  obtain ⟨⟨h0, h1, h2⟩, h⟩ := h
  refine aw_mkArr (M := MX12_init) (n := 2800) fk_1267 (by decide +kernel) rfl (fun _ _ h => h) la_int ⟨rfl, rfl⟩ lf_X12_217 dX12_init_510 dX12_init_512 rfl (by decide) (by decide) h0 h1 h2 ?_
  refine aw_aload_n dX12_init_515 rfl rfl ?_
  refine aw_sipush (x := 2800) dX12_init_516 rfl ?_
  obtain ⟨⟨h0, h1, h2⟩, h⟩ := h
  refine aw_mkArr (M := MX12_init) (n := 2800) fk_1268 (by decide +kernel) rfl (fun _ _ h => h) la_int ⟨rfl, rfl⟩ lf_X12_220 dX12_init_519 dX12_init_521 rfl (by decide) (by decide) h0 h1 h2 ?_
  refine aw_aload_n dX12_init_524 rfl rfl ?_
  refine aw_sipush (x := 2800) dX12_init_525 rfl ?_
  obtain ⟨⟨h0, h1, h2⟩, h⟩ := h
  refine aw_mkArr (M := MX12_init) (n := 2800) fk_1269 (by decide +kernel) rfl (fun _ _ h => h) la_int ⟨rfl, rfl⟩ lf_X12_223 dX12_init_528 dX12_init_530 rfl (by decide) (by decide) h0 h1 h2 ?_
  refine aw_aload_n dX12_init_533 rfl rfl ?_
  refine aw_sipush (x := 2800) dX12_init_534 rfl ?_
  obtain ⟨⟨h0, h1, h2⟩, h⟩ := h
  refine aw_mkArr (M := MX12_init) (n := 2800) fk_1270 (by decide +kernel) rfl (fun _ _ h => h) la_int ⟨rfl, rfl⟩ lf_X12_226 dX12_init_537 dX12_init_539 rfl (by decide) (by decide) h0 h1 h2 ?_
  refine aw_aload_n dX12_init_542 rfl rfl ?_
  refine aw_sipush (x := 2800) dX12_init_543 rfl ?_
  obtain ⟨⟨h0, h1, h2⟩, h⟩ := h
  refine aw_mkArr (M := MX12_init) (n := 2800) fk_1271 (by decide +kernel) rfl (fun _ _ h => h) la_int ⟨rfl, rfl⟩ lf_X12_229 dX12_init_546 dX12_init_548 rfl (by decide) (by decide) h0 h1 h2 ?_
  refine aw_aload_n dX12_init_551 rfl rfl ?_
  refine aw_sipush (x := 2800) dX12_init_552 rfl ?_
  obtain ⟨⟨h0, h1, h2⟩, h⟩ := h
  refine aw_mkArr (M := MX12_init) (n := 2800) fk_1272 (by decide +kernel) rfl (fun _ _ h => h) la_int ⟨rfl, rfl⟩ lf_X12_232 dX12_init_555 dX12_init_557 rfl (by decide) (by decide) h0 h1 h2 ?_
  exact aw_fgt (L' := [some (vR 12 (some x0))]) ⟨rfl, trivial⟩ h
set_option maxRecDepth 4000 in
theorem bk_X12_init_560 {g : GP} {l : Launch} {d : Nat} {σ : St} {Q : Option AV → St → Prop} {x0 : Nat}
    (h : (gL σ 1273 x0 = 0 ∧ hs σ + 1 ≤ gB g + 600000 ∧ sl σ + 2800 ≤ 7302250) ∧ (gL (sArr σ 1273 x0 2800) 1274 x0 = 0 ∧ hs (sArr σ 1273 x0 2800) + 1 ≤ gB g + 600000 ∧ sl (sArr σ 1273 x0 2800) + 2800 ≤ 7302250) ∧ (gL (sArr (sArr σ 1273 x0 2800) 1274 x0 2800) 1275 x0 = 0 ∧ hs (sArr (sArr σ 1273 x0 2800) 1274 x0 2800) + 1 ≤ gB g + 600000 ∧ sl (sArr (sArr σ 1273 x0 2800) 1274 x0 2800) + 2800 ≤ 7302250) ∧ (gL (sArr (sArr (sArr σ 1273 x0 2800) 1274 x0 2800) 1275 x0 2800) 1276 x0 = 0 ∧ hs (sArr (sArr (sArr σ 1273 x0 2800) 1274 x0 2800) 1275 x0 2800) + 1 ≤ gB g + 600000 ∧ sl (sArr (sArr (sArr σ 1273 x0 2800) 1274 x0 2800) 1275 x0 2800) + 2800 ≤ 7302250) ∧ (gL (sArr (sArr (sArr (sArr σ 1273 x0 2800) 1274 x0 2800) 1275 x0 2800) 1276 x0 2800) 1277 x0 = 0 ∧ hs (sArr (sArr (sArr (sArr σ 1273 x0 2800) 1274 x0 2800) 1275 x0 2800) 1276 x0 2800) + 1 ≤ gB g + 600000 ∧ sl (sArr (sArr (sArr (sArr σ 1273 x0 2800) 1274 x0 2800) 1275 x0 2800) 1276 x0 2800) + 2800 ≤ 7302250) ∧ (gL (sArr (sArr (sArr (sArr (sArr σ 1273 x0 2800) 1274 x0 2800) 1275 x0 2800) 1276 x0 2800) 1277 x0 2800) 1278 x0 = 0 ∧ hs (sArr (sArr (sArr (sArr (sArr σ 1273 x0 2800) 1274 x0 2800) 1275 x0 2800) 1276 x0 2800) 1277 x0 2800) + 1 ≤ gB g + 600000 ∧ sl (sArr (sArr (sArr (sArr (sArr σ 1273 x0 2800) 1274 x0 2800) 1275 x0 2800) 1276 x0 2800) 1277 x0 2800) + 2800 ≤ 7302250) ∧ (gL (sArr (sArr (sArr (sArr (sArr (sArr σ 1273 x0 2800) 1274 x0 2800) 1275 x0 2800) 1276 x0 2800) 1277 x0 2800) 1278 x0 2800) 1279 x0 = 0 ∧ hs (sArr (sArr (sArr (sArr (sArr (sArr σ 1273 x0 2800) 1274 x0 2800) 1275 x0 2800) 1276 x0 2800) 1277 x0 2800) 1278 x0 2800) + 1 ≤ gB g + 600000 ∧ sl (sArr (sArr (sArr (sArr (sArr (sArr σ 1273 x0 2800) 1274 x0 2800) 1275 x0 2800) 1276 x0 2800) 1277 x0 2800) 1278 x0 2800) + 2800 ≤ 7302250) ∧ (gL (sI (sI (sI (sArr (sArr (sArr (sArr (sArr (sArr (sArr σ 1273 x0 2800) 1274 x0 2800) 1275 x0 2800) 1276 x0 2800) 1277 x0 2800) 1278 x0 2800) 1279 x0 2800) 1280 x0 0 0) 1281 x0 0 0) 1282 x0 0 0) 1283 x0 = 0 ∧ hs (sI (sI (sI (sArr (sArr (sArr (sArr (sArr (sArr (sArr σ 1273 x0 2800) 1274 x0 2800) 1275 x0 2800) 1276 x0 2800) 1277 x0 2800) 1278 x0 2800) 1279 x0 2800) 1280 x0 0 0) 1281 x0 0 0) 1282 x0 0 0) + 1 ≤ gB g + 600000 ∧ sl (sI (sI (sI (sArr (sArr (sArr (sArr (sArr (sArr (sArr σ 1273 x0 2800) 1274 x0 2800) 1275 x0 2800) 1276 x0 2800) 1277 x0 2800) 1278 x0 2800) 1279 x0 2800) 1280 x0 0 0) 1281 x0 0 0) 1282 x0 0 0) + 128 ≤ 7302250) ∧ (gL (sArr (sI (sI (sI (sArr (sArr (sArr (sArr (sArr (sArr (sArr σ 1273 x0 2800) 1274 x0 2800) 1275 x0 2800) 1276 x0 2800) 1277 x0 2800) 1278 x0 2800) 1279 x0 2800) 1280 x0 0 0) 1281 x0 0 0) 1282 x0 0 0) 1283 x0 128) 1284 x0 = 0 ∧ hs (sArr (sI (sI (sI (sArr (sArr (sArr (sArr (sArr (sArr (sArr σ 1273 x0 2800) 1274 x0 2800) 1275 x0 2800) 1276 x0 2800) 1277 x0 2800) 1278 x0 2800) 1279 x0 2800) 1280 x0 0 0) 1281 x0 0 0) 1282 x0 0 0) 1283 x0 128) + 1 ≤ gB g + 600000 ∧ sl (sArr (sI (sI (sI (sArr (sArr (sArr (sArr (sArr (sArr (sArr σ 1273 x0 2800) 1274 x0 2800) 1275 x0 2800) 1276 x0 2800) 1277 x0 2800) 1278 x0 2800) 1279 x0 2800) 1280 x0 0 0) 1281 x0 0 0) 1282 x0 0 0) 1283 x0 128) + 128 ≤ 7302250) ∧ (gL (sI (sI (sArr (sArr (sI (sI (sI (sArr (sArr (sArr (sArr (sArr (sArr (sArr σ 1273 x0 2800) 1274 x0 2800) 1275 x0 2800) 1276 x0 2800) 1277 x0 2800) 1278 x0 2800) 1279 x0 2800) 1280 x0 0 0) 1281 x0 0 0) 1282 x0 0 0) 1283 x0 128) 1284 x0 128) 1285 x0 0 0) 1286 x0 0 0) 1287 x0 = 0 ∧ hs (sI (sI (sArr (sArr (sI (sI (sI (sArr (sArr (sArr (sArr (sArr (sArr (sArr σ 1273 x0 2800) 1274 x0 2800) 1275 x0 2800) 1276 x0 2800) 1277 x0 2800) 1278 x0 2800) 1279 x0 2800) 1280 x0 0 0) 1281 x0 0 0) 1282 x0 0 0) 1283 x0 128) 1284 x0 128) 1285 x0 0 0) 1286 x0 0 0) + 1 ≤ gB g + 600000 ∧ sl (sI (sI (sArr (sArr (sI (sI (sI (sArr (sArr (sArr (sArr (sArr (sArr (sArr σ 1273 x0 2800) 1274 x0 2800) 1275 x0 2800) 1276 x0 2800) 1277 x0 2800) 1278 x0 2800) 1279 x0 2800) 1280 x0 0 0) 1281 x0 0 0) 1282 x0 0 0) 1283 x0 128) 1284 x0 128) 1285 x0 0 0) 1286 x0 0 0) + 9000 ≤ 7302250) ∧ Q none (sJ (sJ (sJ (sArr (sI (sI (sArr (sArr (sI (sI (sI (sArr (sArr (sArr (sArr (sArr (sArr (sArr σ 1273 x0 2800) 1274 x0 2800) 1275 x0 2800) 1276 x0 2800) 1277 x0 2800) 1278 x0 2800) 1279 x0 2800) 1280 x0 0 0) 1281 x0 0 0) 1282 x0 0 0) 1283 x0 128) 1284 x0 128) 1285 x0 0 0) 1286 x0 0 0) 1287 x0 9000) 1288 x0 0 0) 1289 x0 0 0) 1290 x0 0 0)) :
    AW g l (d + 1) MX12_init 560 [some (vR 12 (some x0))] [] σ Q := by
  refine aw_aload_n dX12_init_560 rfl rfl ?_
  refine aw_sipush (x := 2800) dX12_init_561 rfl ?_
  obtain ⟨⟨h0, h1, h2⟩, h⟩ := h
  refine aw_mkArr (M := MX12_init) (n := 2800) fk_1273 (by decide +kernel) rfl (fun _ _ h => h) la_int ⟨rfl, rfl⟩ lf_X12_235 dX12_init_564 dX12_init_566 rfl (by decide) (by decide) h0 h1 h2 ?_
  refine aw_aload_n dX12_init_569 rfl rfl ?_
  refine aw_sipush (x := 2800) dX12_init_570 rfl ?_
  obtain ⟨⟨h0, h1, h2⟩, h⟩ := h
  refine aw_mkArr (M := MX12_init) (n := 2800) fk_1274 (by decide +kernel) rfl (fun _ _ h => h) la_int ⟨rfl, rfl⟩ lf_X12_238 dX12_init_573 dX12_init_575 rfl (by decide) (by decide) h0 h1 h2 ?_
  refine aw_aload_n dX12_init_578 rfl rfl ?_
  refine aw_sipush (x := 2800) dX12_init_579 rfl ?_
  obtain ⟨⟨h0, h1, h2⟩, h⟩ := h
  refine aw_mkArr (M := MX12_init) (n := 2800) fk_1275 (by decide +kernel) rfl (fun _ _ h => h) la_int ⟨rfl, rfl⟩ lf_X12_241 dX12_init_582 dX12_init_584 rfl (by decide) (by decide) h0 h1 h2 ?_
  refine aw_aload_n dX12_init_587 rfl rfl ?_
  refine aw_sipush (x := 2800) dX12_init_588 rfl ?_
  obtain ⟨⟨h0, h1, h2⟩, h⟩ := h
  refine aw_mkArr (M := MX12_init) (n := 2800) fk_1276 (by decide +kernel) rfl (fun _ _ h => h) la_int ⟨rfl, rfl⟩ lf_X12_244 dX12_init_591 dX12_init_593 rfl (by decide) (by decide) h0 h1 h2 ?_
  refine aw_aload_n dX12_init_596 rfl rfl ?_
  refine aw_sipush (x := 2800) dX12_init_597 rfl ?_
  obtain ⟨⟨h0, h1, h2⟩, h⟩ := h
  refine aw_mkArr (M := MX12_init) (n := 2800) fk_1277 (by decide +kernel) rfl (fun _ _ h => h) la_int ⟨rfl, rfl⟩ lf_X12_247 dX12_init_600 dX12_init_602 rfl (by decide) (by decide) h0 h1 h2 ?_
  refine aw_aload_n dX12_init_605 rfl rfl ?_
  refine aw_sipush (x := 2800) dX12_init_606 rfl ?_
  obtain ⟨⟨h0, h1, h2⟩, h⟩ := h
  refine aw_mkArr (M := MX12_init) (n := 2800) fk_1278 (by decide +kernel) rfl (fun _ _ h => h) la_int ⟨rfl, rfl⟩ lf_X12_250 dX12_init_609 dX12_init_611 rfl (by decide) (by decide) h0 h1 h2 ?_
  refine aw_aload_n dX12_init_614 rfl rfl ?_
  refine aw_sipush (x := 2800) dX12_init_615 rfl ?_
  obtain ⟨⟨h0, h1, h2⟩, h⟩ := h
  refine aw_mkArr (M := MX12_init) (n := 2800) fk_1279 (by decide +kernel) rfl (fun _ _ h => h) la_boolean ⟨rfl, rfl⟩ lf_X12_253 dX12_init_618 dX12_init_620 rfl (by decide) (by decide) h0 h1 h2 ?_
  refine aw_aload_n dX12_init_623 rfl rfl ?_
  refine aw_iconst (x := 0) dX12_init_624 rfl ?_
  refine aw_putI' rfl fk_1280 (Or.inl rfl) lf_X12_256 dX12_init_625 ?_
  refine aw_aload_n dX12_init_628 rfl rfl ?_
  refine aw_iconst (x := 0) dX12_init_629 rfl ?_
  refine aw_putI' rfl fk_1281 (Or.inl rfl) lf_X12_259 dX12_init_630 ?_
  refine aw_aload_n dX12_init_633 rfl rfl ?_
  refine aw_iconst (x := 0) dX12_init_634 rfl ?_
  refine aw_putZ' rfl fk_1282 (Or.inl rfl) lf_X12_262 dX12_init_635 (Or.inl rfl) ?_
  refine aw_aload_n dX12_init_638 rfl rfl ?_
  refine aw_sipush (x := 128) dX12_init_639 rfl ?_
  obtain ⟨⟨h0, h1, h2⟩, h⟩ := h
  refine aw_mkArr (M := MX12_init) (n := 128) fk_1283 (by decide +kernel) rfl (fun _ _ h => h) la_int ⟨rfl, rfl⟩ lf_X12_265 dX12_init_642 dX12_init_644 rfl (by decide) (by decide) h0 h1 h2 ?_
  refine aw_aload_n dX12_init_647 rfl rfl ?_
  refine aw_sipush (x := 128) dX12_init_648 rfl ?_
  obtain ⟨⟨h0, h1, h2⟩, h⟩ := h
  refine aw_mkArr (M := MX12_init) (n := 128) fk_1284 (by decide +kernel) rfl (fun _ _ h => h) la_int ⟨rfl, rfl⟩ lf_X12_268 dX12_init_651 dX12_init_653 rfl (by decide) (by decide) h0 h1 h2 ?_
  refine aw_aload_n dX12_init_656 rfl rfl ?_
  refine aw_iconst (x := 0) dX12_init_657 rfl ?_
  refine aw_putI' rfl fk_1285 (Or.inl rfl) lf_X12_271 dX12_init_658 ?_
  refine aw_aload_n dX12_init_661 rfl rfl ?_
  refine aw_iconst (x := 0) dX12_init_662 rfl ?_
  refine aw_putZ' rfl fk_1286 (Or.inl rfl) lf_X12_274 dX12_init_663 (Or.inl rfl) ?_
  refine aw_aload_n dX12_init_666 rfl rfl ?_
  refine aw_sipush (x := 9000) dX12_init_667 rfl ?_
  obtain ⟨⟨h0, h1, h2⟩, h⟩ := h
  refine aw_mkArr (M := MX12_init) (n := 9000) fk_1287 (by decide +kernel) rfl (fun _ _ h => h) la_long ⟨rfl, rfl⟩ lf_X12_277 dX12_init_670 dX12_init_672 rfl (by decide) (by decide) h0 h1 h2 ?_
  refine aw_aload_n dX12_init_675 rfl rfl ?_
  refine aw_lconst (x := 0) dX12_init_676 rfl ?_
  refine aw_putJ' rfl fk_1288 (Or.inl rfl) lf_X12_280 dX12_init_677 ?_
  refine aw_aload_n dX12_init_680 rfl rfl ?_
  refine aw_lconst (x := 0) dX12_init_681 rfl ?_
  refine aw_putJ' rfl fk_1289 (Or.inl rfl) lf_X12_283 dX12_init_682 ?_
  refine aw_aload_n dX12_init_685 rfl rfl ?_
  refine aw_lconst (x := 0) dX12_init_686 rfl ?_
  refine aw_putJ' rfl fk_1290 (Or.inl rfl) lf_X12_286 dX12_init_687 ?_
  exact aw_ret h rfl dX12_init_690
set_option maxRecDepth 4000 in
theorem bk_X12_above_0 {g : GP} {l : Launch} {d : Nat} {σ : St} {Q : Option AV → St → Prop} {x0 : Nat} {x1 : Int}
    (h : LC 12 σ x0 ∧ Bd x1 2800 ∧ AW g l d MX12_above 9 [some (vR 12 (some x0)), none, some (vI 0), some (vI (gI σ 1270 x0 x1.toNat))] [] σ Q) :
    AW g l d MX12_above 0 [some (vR 12 (some x0)), some (vI x1), none, none] [] σ Q := by
  refine aw_iconst (x := 0) dX12_above_0 rfl ?_
  refine aw_istore_n (L' := [some (vR 12 (some x0)), some (vI x1), some (vI 0), none]) dX12_above_1 rfl (by decide) rfl ?_
  refine aw_aload_n dX12_above_2 rfl rfl ?_
  obtain ⟨lc1, h⟩ := h
  refine aw_getA' rfl fk_1270 (by decide) lf_X12_226 dX12_above_3 (LC.ne lc1 rfl rfl) ?_
  refine aw_iload_n dX12_above_6 rfl rfl ?_
  obtain ⟨⟨c2, c2x⟩, h⟩ := h
  refine aw_iaload (by decide) rfl dX12_above_7 c2 (LC.lt lc1 rfl rfl c2x) ?_
  refine aw_istore_n (L' := [some (vR 12 (some x0)), some (vI x1), some (vI 0), some (vI (gI σ 1270 x0 x1.toNat))]) dX12_above_8 rfl (by decide) rfl ?_
  exact aw_fgt (L' := [some (vR 12 (some x0)), none, some (vI 0), some (vI (gI σ 1270 x0 x1.toNat))]) ⟨rfl, ⟨rfl, ⟨rfl, trivial⟩⟩⟩ h
set_option maxRecDepth 4000 in
theorem bk_X12_above_9 {g : GP} {l : Launch} {d : Nat} {σ : St} {Q : Option AV → St → Prop} {x0 : Nat} {x2 : Int} {x3 : Int}
    (h : ((x3 < 0 → Q (some (vI x2)) σ) ∧ (¬ x3 < 0 → LC 12 σ x0 ∧ Bd x3 2800 ∧ ((¬ (gI σ 1267 x0 x3.toNat) = 0 → R32 (x2 + 0) ∧ AW g l d MX12_above 9 [some (vR 12 (some x0)), none, some (vI (x2 + 0)), some (vI (gI σ 1270 x0 x3.toNat))] [] σ Q) ∧ ((gI σ 1267 x0 x3.toNat) = 0 → R32 (x2 + 1) ∧ AW g l d MX12_above 9 [some (vR 12 (some x0)), none, some (vI (x2 + 1)), some (vI (gI σ 1270 x0 x3.toNat))] [] σ Q))))) :
    AW g l d MX12_above 9 [some (vR 12 (some x0)), none, some (vI x2), some (vI x3)] [] σ Q := by
  refine aw_iload_n dX12_above_9 rfl rfl ?_
  refine aw_if_lt (tgt := 40) dX12_above_10 (by decide) (fun k1 => ?_) (fun k1 => ?_)
  · replace h := h.1 k1
    refine aw_iload_n dX12_above_40 rfl rfl ?_
    exact aw_ireturn dX12_above_41 rfl h
  · replace h := h.2 k1
    refine aw_iload_n dX12_above_13 rfl rfl ?_
    refine aw_aload_n dX12_above_14 rfl rfl ?_
    obtain ⟨lc2, h⟩ := h
    refine aw_getA' rfl fk_1267 (by decide) lf_X12_217 dX12_above_15 (LC.ne lc2 rfl rfl) ?_
    refine aw_iload_n dX12_above_18 rfl rfl ?_
    obtain ⟨⟨c3, c3x⟩, h⟩ := h
    refine aw_iaload (by decide) rfl dX12_above_19 c3 (LC.lt lc2 rfl rfl c3x) ?_
    refine aw_if_ne (tgt := 27) dX12_above_20 (by decide) (fun k4 => ?_) (fun k4 => ?_)
    · replace h := h.1 k4
      refine aw_iconst (x := 0) dX12_above_27 rfl ?_
      obtain ⟨⟨c5, c5x⟩, h⟩ := h
      refine aw_iaddc dX12_above_28 c5 c5x ?_
      refine aw_istore_n (L' := [some (vR 12 (some x0)), none, some (vI (x2 + 0)), some (vI x3)]) dX12_above_29 rfl (by decide) rfl ?_
      refine aw_aload_n dX12_above_30 rfl rfl ?_
      refine aw_getA' rfl fk_1270 (by decide) lf_X12_226 dX12_above_31 (LC.ne lc2 rfl rfl) ?_
      refine aw_iload_n dX12_above_34 rfl rfl ?_
      refine aw_iaload (by decide) rfl dX12_above_35 c3 (LC.lt lc2 rfl rfl c3x) ?_
      refine aw_istore_n (L' := [some (vR 12 (some x0)), none, some (vI (x2 + 0)), some (vI (gI σ 1270 x0 x3.toNat))]) dX12_above_36 rfl (by decide) rfl ?_
      refine aw_goto (tgt := 9) dX12_above_37 (by decide) ?_
      exact aw_fgt (L' := [some (vR 12 (some x0)), none, some (vI (x2 + 0)), some (vI (gI σ 1270 x0 x3.toNat))]) ⟨rfl, ⟨rfl, ⟨rfl, trivial⟩⟩⟩ h
    · replace h := h.2 k4
      refine aw_iconst (x := 1) dX12_above_23 rfl ?_
      refine aw_goto (tgt := 28) dX12_above_24 (by decide) ?_
      obtain ⟨⟨c6, c6x⟩, h⟩ := h
      refine aw_iaddc dX12_above_28 c6 c6x ?_
      refine aw_istore_n (L' := [some (vR 12 (some x0)), none, some (vI (x2 + 1)), some (vI x3)]) dX12_above_29 rfl (by decide) rfl ?_
      refine aw_aload_n dX12_above_30 rfl rfl ?_
      refine aw_getA' rfl fk_1270 (by decide) lf_X12_226 dX12_above_31 (LC.ne lc2 rfl rfl) ?_
      refine aw_iload_n dX12_above_34 rfl rfl ?_
      refine aw_iaload (by decide) rfl dX12_above_35 c3 (LC.lt lc2 rfl rfl c3x) ?_
      refine aw_istore_n (L' := [some (vR 12 (some x0)), none, some (vI (x2 + 1)), some (vI (gI σ 1270 x0 x3.toNat))]) dX12_above_36 rfl (by decide) rfl ?_
      refine aw_goto (tgt := 9) dX12_above_37 (by decide) ?_
      exact aw_fgt (L' := [some (vR 12 (some x0)), none, some (vI (x2 + 1)), some (vI (gI σ 1270 x0 x3.toNat))]) ⟨rfl, ⟨rfl, ⟨rfl, trivial⟩⟩⟩ h
set_option maxRecDepth 4000 in
theorem bk_X12_array_0 {g : GP} {l : Launch} {d : Nat} {σ : St} {Q : Option AV → St → Prop} {x0 : Nat} {x1 : Int}
    (h : ACv g l d MX12_next [vR 12 (some x0)] σ (fun σ1 => ACi g l d MX12_isSign [vR 12 (some x0), vI 93] σ1 (fun v3 σ2 => ((¬ v3 = 0 → LC 12 σ2 x0 ∧ Bd x1 560 ∧ ((¬ (gI σ2 1228 x0 x1.toNat) = 3 → ACv g l d MX12_take [vR 12 (some x0), vI 93] σ2 (fun σ8 => Q none σ8)) ∧ ((gI σ2 1228 x0 x1.toNat) = 3 → R32 (20 * (gI σ2 1253 x0 0)) ∧ R32 ((20 * (gI σ2 1253 x0 0)) + (gI σ2 1231 x0 x1.toNat)) ∧ Bd ((20 * (gI σ2 1253 x0 0)) + (gI σ2 1231 x0 x1.toNat)) 40 ∧ (((gI σ2 1223 x0 ((20 * (gI σ2 1253 x0 0)) + (gI σ2 1231 x0 x1.toNat)).toNat) ≤ 0 → AW g l (d + 1) MX12_array 64 [some (vR 12 (some x0)), none] [vI 0, vR 12 (some x0)] σ2 Q) ∧ (¬ (gI σ2 1223 x0 ((20 * (gI σ2 1253 x0 0)) + (gI σ2 1231 x0 x1.toNat)).toNat) ≤ 0 → AW g l (d + 1) MX12_array 64 [some (vR 12 (some x0)), none] [vI 1, vR 12 (some x0)] σ2 Q))))) ∧ (v3 = 0 → LC 12 σ2 x0 ∧ ACi g l d MX12_expr [vR 12 (some x0)] σ2 (fun v15 σ14 => LC 12 σ14 x0 ∧ Bd x1 560 ∧ ACv g l d MX12_take [vR 12 (some x0), vI 93] (sI σ14 1233 x0 x1.toNat v15) (fun σ18 => Q none σ18))))))) :
    AW g l (d + 1) MX12_array 0 [some (vR 12 (some x0)), some (vI x1)] [] σ Q := by
  refine aw_aload_n dX12_array_0 rfl rfl ?_
  refine aw_invVv (M := MX12_array) (ci := 12) [] rfl mo_X12_next rfl lm_X12_408 li_X12_next ls_X12_next (by decide +kernel) dX12_array_1 rfl (Nat.le_of_ble_eq_true rfl) (ACv.mono (fun σ1 h => ?_) h)
  refine aw_aload_n dX12_array_4 rfl rfl ?_
  refine aw_bipush (x := 93) dX12_array_5 rfl ?_
  refine aw_invVi (M := MX12_array) (ci := 12) [vI 93] rfl mo_X12_isSign rfl lm_X12_401 li_X12_isSign ls_X12_isSign (by decide +kernel) dX12_array_7 rfl (Nat.le_of_ble_eq_true rfl) (ACi.mono (fun v3 σ2 h => ?_) h)
  refine aw_if_ne (tgt := 26) dX12_array_10 (by decide) (fun k4 => ?_) (fun k4 => ?_)
  · replace h := h.1 k4
    refine aw_aload_n dX12_array_26 rfl rfl ?_
    obtain ⟨lc5, h⟩ := h
    refine aw_getA' rfl fk_1228 (by decide) lf_X12_98 dX12_array_27 (LC.ne lc5 rfl rfl) ?_
    refine aw_iload_n dX12_array_30 rfl rfl ?_
    obtain ⟨⟨c6, c6x⟩, h⟩ := h
    refine aw_iaload (by decide) rfl dX12_array_31 c6 (LC.lt lc5 rfl rfl c6x) ?_
    refine aw_iconst (x := 3) dX12_array_32 rfl ?_
    refine aw_icmp_ne (tgt := 73) dX12_array_33 (by decide) (fun k7 => ?_) (fun k7 => ?_)
    · replace h := h.1 k7
      refine aw_aload_n dX12_array_73 rfl rfl ?_
      refine aw_bipush (x := 93) dX12_array_74 rfl ?_
      refine aw_invVv (M := MX12_array) (ci := 12) [vI 93] rfl mo_X12_take rfl lm_X12_431 li_X12_take ls_X12_take (by decide +kernel) dX12_array_76 rfl (Nat.le_of_ble_eq_true rfl) (ACv.mono (fun σ8 h => ?_) h)
      exact aw_ret h rfl dX12_array_79
    · replace h := h.2 k7
      refine aw_aload_n dX12_array_36 rfl rfl ?_
      refine aw_aload_n dX12_array_37 rfl rfl ?_
      refine aw_getA' rfl fk_1223 (by decide) lf_X12_83 dX12_array_38 (LC.ne lc5 rfl rfl) ?_
      refine aw_bipush (x := 20) dX12_array_41 rfl ?_
      refine aw_aload_n dX12_array_43 rfl rfl ?_
      refine aw_getI' rfl fk_1253 lf_X12_173 dX12_array_44 ?_
      obtain ⟨⟨c9, c9x⟩, h⟩ := h
      refine aw_imulc dX12_array_47 c9 c9x ?_
      refine aw_aload_n dX12_array_48 rfl rfl ?_
      refine aw_getA' rfl fk_1231 (by decide) lf_X12_107 dX12_array_49 (LC.ne lc5 rfl rfl) ?_
      refine aw_iload_n dX12_array_52 rfl rfl ?_
      refine aw_iaload (by decide) rfl dX12_array_53 c6 (LC.lt lc5 rfl rfl c6x) ?_
      obtain ⟨⟨c10, c10x⟩, h⟩ := h
      refine aw_iaddc dX12_array_54 c10 c10x ?_
      obtain ⟨⟨c11, c11x⟩, h⟩ := h
      refine aw_iaload (by decide) rfl dX12_array_55 c11 (LC.lt lc5 rfl rfl c11x) ?_
      refine aw_if_le (tgt := 63) dX12_array_56 (by decide) (fun k12 => ?_) (fun k12 => ?_)
      · replace h := h.1 k12
        refine aw_iconst (x := 0) dX12_array_63 rfl ?_
        exact aw_fgt (L' := [some (vR 12 (some x0)), none]) ⟨rfl, trivial⟩ h
      · replace h := h.2 k12
        refine aw_iconst (x := 1) dX12_array_59 rfl ?_
        refine aw_goto (tgt := 64) dX12_array_60 (by decide) ?_
        exact aw_fgt (L' := [some (vR 12 (some x0)), none]) ⟨rfl, trivial⟩ h
  · replace h := h.2 k4
    refine aw_aload_n dX12_array_13 rfl rfl ?_
    obtain ⟨lc13, h⟩ := h
    refine aw_getA' rfl fk_1233 (by decide) lf_X12_113 dX12_array_14 (LC.ne lc13 rfl rfl) ?_
    refine aw_iload_n dX12_array_17 rfl rfl ?_
    refine aw_aload_n dX12_array_18 rfl rfl ?_
    refine aw_invVi (M := MX12_array) (ci := 12) [] rfl mo_X12_expr rfl lm_X12_460 li_X12_expr ls_X12_expr (by decide +kernel) dX12_array_19 rfl (Nat.le_of_ble_eq_true rfl) (ACi.mono (fun v15 σ14 h => ?_) h)
    obtain ⟨lc16, h⟩ := h
    obtain ⟨⟨c17, c17x⟩, h⟩ := h
    refine aw_iastore (by decide) rfl dX12_array_22 c17 (LC.lt lc16 rfl rfl c17x) ?_
    refine aw_goto (tgt := 73) dX12_array_23 (by decide) ?_
    refine aw_aload_n dX12_array_73 rfl rfl ?_
    refine aw_bipush (x := 93) dX12_array_74 rfl ?_
    refine aw_invVv (M := MX12_array) (ci := 12) [vI 93] rfl mo_X12_take rfl lm_X12_431 li_X12_take ls_X12_take (by decide +kernel) dX12_array_76 rfl (Nat.le_of_ble_eq_true rfl) (ACv.mono (fun σ18 h => ?_) h)
    exact aw_ret h rfl dX12_array_79
set_option maxRecDepth 4000 in
theorem bk_X12_array_64 {g : GP} {l : Launch} {d : Nat} {σ : St} {Q : Option AV → St → Prop} {x0 : Nat} {y0 : Int} {y1 : Option Nat}
    (h : ∃ r1, y1 = some r1 ∧ ACi g l d MX12_must [vR 12 (some r1), vI y0, vI 6] σ (fun v4 σ3 => ((¬ v4 = 0 → ACv g l d MX12_take [vR 12 (some x0), vI 93] σ3 (fun σ6 => Q none σ6)) ∧ (v4 = 0 → Q none σ3)))) :
    AW g l (d + 1) MX12_array 64 [some (vR 12 (some x0)), none] [vI y0, vR 12 y1] σ Q := by
  refine aw_bipush (x := 6) dX12_array_64 rfl ?_
  obtain ⟨r1, e2, h⟩ := h
  refine aw_invVi (M := MX12_array) (ci := 12) [vI y0, vI 6] e2 mo_X12_must rfl lm_X12_404 li_X12_must ls_X12_must (by decide +kernel) dX12_array_66 rfl (Nat.le_of_ble_eq_true rfl) (ACi.mono (fun v4 σ3 h => ?_) h)
  refine aw_if_ne (tgt := 73) dX12_array_69 (by decide) (fun k5 => ?_) (fun k5 => ?_)
  · replace h := h.1 k5
    refine aw_aload_n dX12_array_73 rfl rfl ?_
    refine aw_bipush (x := 93) dX12_array_74 rfl ?_
    refine aw_invVv (M := MX12_array) (ci := 12) [vI 93] rfl mo_X12_take rfl lm_X12_431 li_X12_take ls_X12_take (by decide +kernel) dX12_array_76 rfl (Nat.le_of_ble_eq_true rfl) (ACv.mono (fun σ6 h => ?_) h)
    exact aw_ret h rfl dX12_array_79
  · replace h := h.2 k5
    exact aw_ret h rfl dX12_array_72
set_option maxRecDepth 4000 in
theorem bk_X12_arrayLaid_0 {g : GP} {l : Launch} {d : Nat} {σ : St} {Q : Option AV → St → Prop} {x0 : Nat} {x1 : Int} {x2 : Int} {x3 : Int}
    (h : LC 12 σ x0 ∧ Bd x2 560 ∧ ((¬ (gI σ 1228 x0 x2.toNat) = 1 → R32 (20 * (gI σ 1218 x0 0)) ∧ R32 ((20 * (gI σ 1218 x0 0)) + (gI σ 1231 x0 x2.toNat)) ∧ Bd ((20 * (gI σ 1218 x0 0)) + (gI σ 1231 x0 x2.toNat)) 40 ∧ AW g l (d + 1) MX12_arrayLaid 41 [some (vR 12 (some x0)), some (vI x1), some (vI x2), some (vI x3), none, none, none] [vI (gI σ 1223 x0 ((20 * (gI σ 1218 x0 0)) + (gI σ 1231 x0 x2.toNat)).toNat)] σ Q) ∧ ((gI σ 1228 x0 x2.toNat) = 1 → AW g l (d + 1) MX12_arrayLaid 41 [some (vR 12 (some x0)), some (vI x1), some (vI x2), some (vI x3), none, none, none] [vI (i_and (gI σ 1229 x0 x2.toNat) 15)] σ Q))) :
    AW g l (d + 1) MX12_arrayLaid 0 [some (vR 12 (some x0)), some (vI x1), some (vI x2), some (vI x3), none, none, none] [] σ Q := by
  refine aw_aload_n dX12_arrayLaid_0 rfl rfl ?_
  obtain ⟨lc1, h⟩ := h
  refine aw_getA' rfl fk_1228 (by decide) lf_X12_98 dX12_arrayLaid_1 (LC.ne lc1 rfl rfl) ?_
  refine aw_iload_n dX12_arrayLaid_4 rfl rfl ?_
  obtain ⟨⟨c2, c2x⟩, h⟩ := h
  refine aw_iaload (by decide) rfl dX12_arrayLaid_5 c2 (LC.lt lc1 rfl rfl c2x) ?_
  refine aw_iconst (x := 1) dX12_arrayLaid_6 rfl ?_
  refine aw_icmp_ne (tgt := 22) dX12_arrayLaid_7 (by decide) (fun k3 => ?_) (fun k3 => ?_)
  · replace h := h.1 k3
    refine aw_aload_n dX12_arrayLaid_22 rfl rfl ?_
    refine aw_getA' rfl fk_1223 (by decide) lf_X12_83 dX12_arrayLaid_23 (LC.ne lc1 rfl rfl) ?_
    refine aw_bipush (x := 20) dX12_arrayLaid_26 rfl ?_
    refine aw_aload_n dX12_arrayLaid_28 rfl rfl ?_
    refine aw_getI' rfl fk_1218 lf_X12_67 dX12_arrayLaid_29 ?_
    obtain ⟨⟨c4, c4x⟩, h⟩ := h
    refine aw_imulc dX12_arrayLaid_32 c4 c4x ?_
    refine aw_aload_n dX12_arrayLaid_33 rfl rfl ?_
    refine aw_getA' rfl fk_1231 (by decide) lf_X12_107 dX12_arrayLaid_34 (LC.ne lc1 rfl rfl) ?_
    refine aw_iload_n dX12_arrayLaid_37 rfl rfl ?_
    refine aw_iaload (by decide) rfl dX12_arrayLaid_38 c2 (LC.lt lc1 rfl rfl c2x) ?_
    obtain ⟨⟨c5, c5x⟩, h⟩ := h
    refine aw_iaddc dX12_arrayLaid_39 c5 c5x ?_
    obtain ⟨⟨c6, c6x⟩, h⟩ := h
    refine aw_iaload (by decide) rfl dX12_arrayLaid_40 c6 (LC.lt lc1 rfl rfl c6x) ?_
    exact aw_fgt (L' := [some (vR 12 (some x0)), some (vI x1), some (vI x2), some (vI x3), none, none, none]) ⟨rfl, ⟨rfl, ⟨rfl, ⟨rfl, trivial⟩⟩⟩⟩ h
  · replace h := h.2 k3
    refine aw_aload_n dX12_arrayLaid_10 rfl rfl ?_
    refine aw_getA' rfl fk_1229 (by decide) lf_X12_101 dX12_arrayLaid_11 (LC.ne lc1 rfl rfl) ?_
    refine aw_iload_n dX12_arrayLaid_14 rfl rfl ?_
    refine aw_iaload (by decide) rfl dX12_arrayLaid_15 c2 (LC.lt lc1 rfl rfl c2x) ?_
    refine aw_bipush (x := 15) dX12_arrayLaid_16 rfl ?_
    refine aw_iand dX12_arrayLaid_18 ?_
    refine aw_goto (tgt := 41) dX12_arrayLaid_19 (by decide) ?_
    exact aw_fgt (L' := [some (vR 12 (some x0)), some (vI x1), some (vI x2), some (vI x3), none, none, none]) ⟨rfl, ⟨rfl, ⟨rfl, ⟨rfl, trivial⟩⟩⟩⟩ h
set_option maxRecDepth 4000 in
theorem bk_X12_arrayLaid_41 {g : GP} {l : Launch} {d : Nat} {σ : St} {Q : Option AV → St → Prop} {x0 : Nat} {x1 : Int} {x2 : Int} {x3 : Int} {y0 : Int}
    (h : LC 12 σ x0 ∧ Bd x2 560 ∧ ((0 ≤ (gI σ 1233 x0 x2.toNat) → Bd x1 2800 ∧ ACj g l d MX12_worked [vR 12 (some x0), vI (gI σ 1233 x0 x2.toNat), vI x3, vI (gI σ 1268 x0 x1.toNat)] σ (fun v6 σ5 => AW g l (d + 1) MX12_arrayLaid 92 [some (vR 12 (some x0)), some (vI x1), some (vI x2), none, none, none, none] [vJ v6] σ5 Q)) ∧ (¬ 0 ≤ (gI σ 1233 x0 x2.toNat) → Bd (gI σ 1281 x0 0) 6 ∧ Bd x1 2800 ∧ R32 ((gI σ 1201 x0 (gI σ 1281 x0 0).toNat) - (gI σ 1268 x0 x1.toNat)) ∧ ¬ y0 = 0 ∧ AW g l (d + 1) MX12_arrayLaid 92 [some (vR 12 (some x0)), some (vI x1), some (vI x2), none, none, none, none] [vJ (i2j (i_div ((gI σ 1201 x0 (gI σ 1281 x0 0).toNat) - (gI σ 1268 x0 x1.toNat)) y0))] σ Q))) :
    AW g l (d + 1) MX12_arrayLaid 41 [some (vR 12 (some x0)), some (vI x1), some (vI x2), some (vI x3), none, none, none] [vI y0] σ Q := by
  refine aw_istore (L' := [some (vR 12 (some x0)), some (vI x1), some (vI x2), some (vI x3), some (vI y0), none, none]) dX12_arrayLaid_41 (by decide) rfl ?_
  refine aw_aload_n dX12_arrayLaid_43 rfl rfl ?_
  obtain ⟨lc1, h⟩ := h
  refine aw_getA' rfl fk_1233 (by decide) lf_X12_113 dX12_arrayLaid_44 (LC.ne lc1 rfl rfl) ?_
  refine aw_iload_n dX12_arrayLaid_47 rfl rfl ?_
  obtain ⟨⟨c2, c2x⟩, h⟩ := h
  refine aw_iaload (by decide) rfl dX12_arrayLaid_48 c2 (LC.lt lc1 rfl rfl c2x) ?_
  refine aw_if_ge (tgt := 75) dX12_arrayLaid_49 (by decide) (fun k3 => ?_) (fun k3 => ?_)
  · replace h := h.1 k3
    refine aw_aload_n dX12_arrayLaid_75 rfl rfl ?_
    refine aw_aload_n dX12_arrayLaid_76 rfl rfl ?_
    refine aw_getA' rfl fk_1233 (by decide) lf_X12_113 dX12_arrayLaid_77 (LC.ne lc1 rfl rfl) ?_
    refine aw_iload_n dX12_arrayLaid_80 rfl rfl ?_
    refine aw_iaload (by decide) rfl dX12_arrayLaid_81 c2 (LC.lt lc1 rfl rfl c2x) ?_
    refine aw_iload_n dX12_arrayLaid_82 rfl rfl ?_
    refine aw_aload_n dX12_arrayLaid_83 rfl rfl ?_
    refine aw_getA' rfl fk_1268 (by decide) lf_X12_220 dX12_arrayLaid_84 (LC.ne lc1 rfl rfl) ?_
    refine aw_iload_n dX12_arrayLaid_87 rfl rfl ?_
    obtain ⟨⟨c4, c4x⟩, h⟩ := h
    refine aw_iaload (by decide) rfl dX12_arrayLaid_88 c4 (LC.lt lc1 rfl rfl c4x) ?_
    refine aw_invVj (M := MX12_arrayLaid) (ci := 12) [vI (gI σ 1233 x0 x2.toNat), vI x3, vI (gI σ 1268 x0 x1.toNat)] rfl mo_X12_worked rfl lm_X12_608 li_X12_worked ls_X12_worked (by decide +kernel) dX12_arrayLaid_89 rfl (Nat.le_of_ble_eq_true rfl) (ACj.mono (fun v6 σ5 h => ?_) h)
    exact aw_fgt (L' := [some (vR 12 (some x0)), some (vI x1), some (vI x2), none, none, none, none]) ⟨rfl, ⟨rfl, ⟨rfl, trivial⟩⟩⟩ h
  · replace h := h.2 k3
    refine aw_aload_n dX12_arrayLaid_52 rfl rfl ?_
    refine aw_getA' rfl fk_1201 (by decide) lf_X12_13 dX12_arrayLaid_53 (LC.ne lc1 rfl rfl) ?_
    refine aw_aload_n dX12_arrayLaid_56 rfl rfl ?_
    refine aw_getI' rfl fk_1281 lf_X12_259 dX12_arrayLaid_57 ?_
    obtain ⟨⟨c7, c7x⟩, h⟩ := h
    refine aw_iaload (by decide) rfl dX12_arrayLaid_60 c7 (LC.lt lc1 rfl rfl c7x) ?_
    refine aw_aload_n dX12_arrayLaid_61 rfl rfl ?_
    refine aw_getA' rfl fk_1268 (by decide) lf_X12_220 dX12_arrayLaid_62 (LC.ne lc1 rfl rfl) ?_
    refine aw_iload_n dX12_arrayLaid_65 rfl rfl ?_
    obtain ⟨⟨c8, c8x⟩, h⟩ := h
    refine aw_iaload (by decide) rfl dX12_arrayLaid_66 c8 (LC.lt lc1 rfl rfl c8x) ?_
    obtain ⟨⟨c9, c9x⟩, h⟩ := h
    refine aw_isubc dX12_arrayLaid_67 c9 c9x ?_
    refine aw_iload dX12_arrayLaid_68 rfl ?_
    obtain ⟨h0, h⟩ := h
    refine aw_idiv dX12_arrayLaid_70 h0 ?_
    refine aw_i2l dX12_arrayLaid_71 ?_
    refine aw_goto (tgt := 92) dX12_arrayLaid_72 (by decide) ?_
    exact aw_fgt (L' := [some (vR 12 (some x0)), some (vI x1), some (vI x2), none, none, none, none]) ⟨rfl, ⟨rfl, ⟨rfl, trivial⟩⟩⟩ h
set_option maxRecDepth 4000 in
theorem bk_X12_arrayLaid_92 {g : GP} {l : Launch} {d : Nat} {σ : St} {Q : Option AV → St → Prop} {x0 : Nat} {x1 : Int} {x2 : Int} {y0 : Int64}
    (h : LC 12 σ x0 ∧ Bd x2 560 ∧ (((gI σ 1233 x0 x2.toNat) < 0 → AW g l (d + 1) MX12_arrayLaid 147 [some (vR 12 (some x0)), some (vI x1), none, none, none, some (vJ y0), none] [] σ Q) ∧ (¬ (gI σ 1233 x0 x2.toNat) < 0 → ((¬ (gI σ 1286 x0 0) = 0 → AW g l (d + 1) MX12_arrayLaid 126 [some (vR 12 (some x0)), some (vI x1), none, none, none, none, none] [] σ Q) ∧ ((gI σ 1286 x0 0) = 0 → ((y0.toInt < (0 : Int64).toInt → AW g l (d + 1) MX12_arrayLaid 126 [some (vR 12 (some x0)), some (vI x1), none, none, none, none, none] [] σ Q) ∧ (¬ y0.toInt < (0 : Int64).toInt → ((y0.toInt ≤ (200 : Int64).toInt → AW g l (d + 1) MX12_arrayLaid 147 [some (vR 12 (some x0)), some (vI x1), none, none, none, some (vJ y0), none] [] σ Q) ∧ (¬ y0.toInt ≤ (200 : Int64).toInt → AW g l (d + 1) MX12_arrayLaid 126 [some (vR 12 (some x0)), some (vI x1), none, none, none, none, none] [] σ Q))))))))) :
    AW g l (d + 1) MX12_arrayLaid 92 [some (vR 12 (some x0)), some (vI x1), some (vI x2), none, none, none, none] [vJ y0] σ Q := by
  refine aw_lstore (L' := [some (vR 12 (some x0)), some (vI x1), some (vI x2), none, none, some (vJ y0), none]) dX12_arrayLaid_92 (by decide) rfl ?_
  refine aw_aload_n dX12_arrayLaid_94 rfl rfl ?_
  obtain ⟨lc1, h⟩ := h
  refine aw_getA' rfl fk_1233 (by decide) lf_X12_113 dX12_arrayLaid_95 (LC.ne lc1 rfl rfl) ?_
  refine aw_iload_n dX12_arrayLaid_98 rfl rfl ?_
  obtain ⟨⟨c2, c2x⟩, h⟩ := h
  refine aw_iaload (by decide) rfl dX12_arrayLaid_99 c2 (LC.lt lc1 rfl rfl c2x) ?_
  refine aw_if_lt (tgt := 147) dX12_arrayLaid_100 (by decide) (fun k3 => ?_) (fun k3 => ?_)
  · replace h := h.1 k3
    exact aw_fgt (L' := [some (vR 12 (some x0)), some (vI x1), none, none, none, some (vJ y0), none]) ⟨rfl, ⟨rfl, ⟨rfl, trivial⟩⟩⟩ h
  · replace h := h.2 k3
    refine aw_aload_n dX12_arrayLaid_103 rfl rfl ?_
    refine aw_getZ' rfl fk_1286 lf_X12_274 dX12_arrayLaid_104 ?_
    refine aw_if_ne (tgt := 126) dX12_arrayLaid_107 (by decide) (fun k4 => ?_) (fun k4 => ?_)
    · replace h := h.1 k4
      exact aw_fgt (L' := [some (vR 12 (some x0)), some (vI x1), none, none, none, none, none]) ⟨rfl, ⟨rfl, trivial⟩⟩ h
    · replace h := h.2 k4
      refine aw_lload dX12_arrayLaid_110 rfl ?_
      refine aw_lconst (x := 0) dX12_arrayLaid_112 rfl ?_
      refine aw_lcmp_lt (M := MX12_arrayLaid) (tgt := 126) dX12_arrayLaid_113 dX12_arrayLaid_114 (by decide) (fun k5 => ?_) (fun k5 => ?_)
      · replace h := h.1 k5
        exact aw_fgt (L' := [some (vR 12 (some x0)), some (vI x1), none, none, none, none, none]) ⟨rfl, ⟨rfl, trivial⟩⟩ h
      · replace h := h.2 k5
        refine aw_lload dX12_arrayLaid_117 rfl ?_
        refine aw_ldc2 lk_X12_563 dX12_arrayLaid_119 ?_
        refine aw_lcmp_le (M := MX12_arrayLaid) (tgt := 147) dX12_arrayLaid_122 dX12_arrayLaid_123 (by decide) (fun k6 => ?_) (fun k6 => ?_)
        · replace h := h.1 k6
          exact aw_fgt (L' := [some (vR 12 (some x0)), some (vI x1), none, none, none, some (vJ y0), none]) ⟨rfl, ⟨rfl, ⟨rfl, trivial⟩⟩⟩ h
        · replace h := h.2 k6
          exact aw_fgt (L' := [some (vR 12 (some x0)), some (vI x1), none, none, none, none, none]) ⟨rfl, ⟨rfl, trivial⟩⟩ h
set_option maxRecDepth 4000 in
theorem bk_X12_arrayLaid_126 {g : GP} {l : Launch} {d : Nat} {σ : St} {Q : Option AV → St → Prop} {x0 : Nat} {x1 : Int}
    (h : (((gI σ 1286 x0 0) = 0 → ACv g l d MX12_faulty [vR 12 (some x0), vI x1, vI 5] σ (fun σ2 => Q none σ2)) ∧ (¬ (gI σ 1286 x0 0) = 0 → ACv g l d MX12_faulty [vR 12 (some x0), vI x1, vI 6] σ (fun σ3 => Q none σ3)))) :
    AW g l (d + 1) MX12_arrayLaid 126 [some (vR 12 (some x0)), some (vI x1), none, none, none, none, none] [] σ Q := by
  refine aw_aload_n dX12_arrayLaid_126 rfl rfl ?_
  refine aw_iload_n dX12_arrayLaid_127 rfl rfl ?_
  refine aw_aload_n dX12_arrayLaid_128 rfl rfl ?_
  refine aw_getZ' rfl fk_1286 lf_X12_274 dX12_arrayLaid_129 ?_
  refine aw_if_eq (tgt := 140) dX12_arrayLaid_132 (by decide) (fun k1 => ?_) (fun k1 => ?_)
  · replace h := h.1 k1
    refine aw_iconst (x := 5) dX12_arrayLaid_140 rfl ?_
    refine aw_invVv (M := MX12_arrayLaid) (ci := 12) [vI x1, vI 5] rfl mo_X12_faulty rfl lm_X12_577 li_X12_faulty ls_X12_faulty (by decide +kernel) dX12_arrayLaid_141 rfl (Nat.le_of_ble_eq_true rfl) (ACv.mono (fun σ2 h => ?_) h)
    refine aw_goto (tgt := 170) dX12_arrayLaid_144 (by decide) ?_
    exact aw_ret h rfl dX12_arrayLaid_170
  · replace h := h.2 k1
    refine aw_bipush (x := 6) dX12_arrayLaid_135 rfl ?_
    refine aw_goto (tgt := 141) dX12_arrayLaid_137 (by decide) ?_
    refine aw_invVv (M := MX12_arrayLaid) (ci := 12) [vI x1, vI 6] rfl mo_X12_faulty rfl lm_X12_577 li_X12_faulty ls_X12_faulty (by decide +kernel) dX12_arrayLaid_141 rfl (Nat.le_of_ble_eq_true rfl) (ACv.mono (fun σ3 h => ?_) h)
    refine aw_goto (tgt := 170) dX12_arrayLaid_144 (by decide) ?_
    exact aw_ret h rfl dX12_arrayLaid_170
set_option maxRecDepth 4000 in
theorem bk_X12_arrayLaid_147 {g : GP} {l : Launch} {d : Nat} {σ : St} {Q : Option AV → St → Prop} {x0 : Nat} {x1 : Int} {x5 : Int64}
    (h : ((x5.toInt ≤ (200 : Int64).toInt → ACv g l d MX12_opens [vR 12 (some x0), vI x1, vI (j2i x5)] σ (fun σ2 => Q none σ2)) ∧ (¬ x5.toInt ≤ (200 : Int64).toInt → ACv g l d MX12_opens [vR 12 (some x0), vI x1, vI 200] σ (fun σ3 => Q none σ3)))) :
    AW g l (d + 1) MX12_arrayLaid 147 [some (vR 12 (some x0)), some (vI x1), none, none, none, some (vJ x5), none] [] σ Q := by
  refine aw_aload_n dX12_arrayLaid_147 rfl rfl ?_
  refine aw_iload_n dX12_arrayLaid_148 rfl rfl ?_
  refine aw_lload dX12_arrayLaid_149 rfl ?_
  refine aw_ldc2 lk_X12_563 dX12_arrayLaid_151 ?_
  refine aw_lcmp_le (M := MX12_arrayLaid) (tgt := 164) dX12_arrayLaid_154 dX12_arrayLaid_155 (by decide) (fun k1 => ?_) (fun k1 => ?_)
  · replace h := h.1 k1
    refine aw_lload dX12_arrayLaid_164 rfl ?_
    refine aw_l2i dX12_arrayLaid_166 ?_
    refine aw_invVv (M := MX12_arrayLaid) (ci := 12) [vI x1, vI (j2i x5)] rfl mo_X12_opens rfl lm_X12_587 li_X12_opens ls_X12_opens (by decide +kernel) dX12_arrayLaid_167 rfl (Nat.le_of_ble_eq_true rfl) (ACv.mono (fun σ2 h => ?_) h)
    exact aw_ret h rfl dX12_arrayLaid_170
  · replace h := h.2 k1
    refine aw_sipush (x := 200) dX12_arrayLaid_158 rfl ?_
    refine aw_goto (tgt := 167) dX12_arrayLaid_161 (by decide) ?_
    refine aw_invVv (M := MX12_arrayLaid) (ci := 12) [vI x1, vI 200] rfl mo_X12_opens rfl lm_X12_587 li_X12_opens ls_X12_opens (by decide +kernel) dX12_arrayLaid_167 rfl (Nat.le_of_ble_eq_true rfl) (ACv.mono (fun σ3 h => ?_) h)
    exact aw_ret h rfl dX12_arrayLaid_170
set_option maxRecDepth 4000 in
theorem bk_X12_at_0 {g : GP} {l : Launch} {d : Nat} {σ : St} {Q : Option AV → St → Prop} {x0 : Nat} {x1 : Int} {x2 : Int}
    (h : ACi g l d MX12_isImage [vR 12 (some x0), vI x1] σ (fun v2 σ1 => ((v2 = 0 → Q (some (vI (-1))) σ1) ∧ (¬ v2 = 0 → ((x2 < 0 → Q (some (vI (-1))) σ1) ∧ (¬ x2 < 0 → LC 12 σ1 x0 ∧ Bd x1 6 ∧ ((x2 < (gI σ1 1201 x0 x1.toNat) → ACi g l d MX12_has [vR 12 (some x0), vI x1, vI x2] σ1 (fun v9 σ8 => Q (some (vI v9)) σ8)) ∧ (¬ x2 < (gI σ1 1201 x0 x1.toNat) → Q (some (vI (-1))) σ1)))))))) :
    AW g l (d + 1) MX12_at 0 [some (vR 12 (some x0)), some (vI x1), some (vI x2)] [] σ Q := by
  refine aw_aload_n dX12_at_0 rfl rfl ?_
  refine aw_iload_n dX12_at_1 rfl rfl ?_
  refine aw_invVi (M := MX12_at) (ci := 12) [vI x1] rfl mo_X12_isImage rfl lm_X12_293 li_X12_isImage ls_X12_isImage (by decide +kernel) dX12_at_2 rfl (Nat.le_of_ble_eq_true rfl) (ACi.mono (fun v2 σ1 h => ?_) h)
  refine aw_if_eq (tgt := 22) dX12_at_5 (by decide) (fun k3 => ?_) (fun k3 => ?_)
  · replace h := h.1 k3
    refine aw_iconst (x := (-1)) dX12_at_22 rfl ?_
    exact aw_ireturn dX12_at_23 rfl h
  · replace h := h.2 k3
    refine aw_iload_n dX12_at_8 rfl rfl ?_
    refine aw_if_lt (tgt := 22) dX12_at_9 (by decide) (fun k4 => ?_) (fun k4 => ?_)
    · replace h := h.1 k4
      refine aw_iconst (x := (-1)) dX12_at_22 rfl ?_
      exact aw_ireturn dX12_at_23 rfl h
    · replace h := h.2 k4
      refine aw_iload_n dX12_at_12 rfl rfl ?_
      refine aw_aload_n dX12_at_13 rfl rfl ?_
      obtain ⟨lc5, h⟩ := h
      refine aw_getA' rfl fk_1201 (by decide) lf_X12_13 dX12_at_14 (LC.ne lc5 rfl rfl) ?_
      refine aw_iload_n dX12_at_17 rfl rfl ?_
      obtain ⟨⟨c6, c6x⟩, h⟩ := h
      refine aw_iaload (by decide) rfl dX12_at_18 c6 (LC.lt lc5 rfl rfl c6x) ?_
      refine aw_icmp_lt (tgt := 24) dX12_at_19 (by decide) (fun k7 => ?_) (fun k7 => ?_)
      · replace h := h.1 k7
        refine aw_aload_n dX12_at_24 rfl rfl ?_
        refine aw_iload_n dX12_at_25 rfl rfl ?_
        refine aw_iload_n dX12_at_26 rfl rfl ?_
        refine aw_invVi (M := MX12_at) (ci := 12) [vI x1, vI x2] rfl mo_X12_has rfl lm_X12_299 li_X12_has ls_X12_has (by decide +kernel) dX12_at_27 rfl (Nat.le_of_ble_eq_true rfl) (ACi.mono (fun v9 σ8 h => ?_) h)
        exact aw_ireturn dX12_at_30 rfl h
      · replace h := h.2 k7
        refine aw_iconst (x := (-1)) dX12_at_22 rfl ?_
        exact aw_ireturn dX12_at_23 rfl h
set_option maxRecDepth 4000 in
theorem bk_X12_beginsCore_0 {g : GP} {l : Launch} {d : Nat} {σ : St} {Q : Option AV → St → Prop} {x0 : Nat}
    (h : ACi g l d MX12_whole [vR 12 (some x0)] σ (fun v2 σ1 => ((0 < v2 → Q (some (vI 1)) σ1) ∧ (¬ 0 < v2 → ACi g l d MX12_isName [vR 12 (some x0)] σ1 (fun v5 σ4 => ((¬ v5 = 0 → Q (some (vI 1)) σ4) ∧ (v5 = 0 → ACi g l d MX12_isWord [vR 12 (some x0), vJ 1651078259] σ4 (fun v8 σ7 => ((¬ v8 = 0 → Q (some (vI 1)) σ7) ∧ (v8 = 0 → ACi g l d MX12_isWord [vR 12 (some x0), vJ 1952807028] σ7 (fun v11 σ10 => ((¬ v11 = 0 → Q (some (vI 1)) σ10) ∧ (v11 = 0 → ACi g l d MX12_isWord [vR 12 (some x0), vJ 504363577198] σ10 (fun v14 σ13 => ((¬ v14 = 0 → Q (some (vI 1)) σ13) ∧ (v14 = 0 → ACi g l d MX12_isWord [vR 12 (some x0), vJ 29807] σ13 (fun v17 σ16 => ((¬ v17 = 0 → Q (some (vI 1)) σ16) ∧ (v17 = 0 → ACi g l d MX12_isWord [vR 12 (some x0), vJ 7364964] σ16 (fun v20 σ19 => ((¬ v20 = 0 → Q (some (vI 1)) σ19) ∧ (v20 = 0 → ACi g l d MX12_isWord [vR 12 (some x0), vJ 469785602403] σ19 (fun v23 σ22 => ((¬ v23 = 0 → Q (some (vI 1)) σ22) ∧ (v23 = 0 → ACi g l d MX12_isWord [vR 12 (some x0), vJ 7566701] σ22 (fun v26 σ25 => ((v26 = 0 → Q (some (vI 0)) σ25) ∧ (¬ v26 = 0 → Q (some (vI 1)) σ25)))))))))))))))))))))))))))) :
    AW g l (d + 1) MX12_beginsCore 0 [some (vR 12 (some x0))] [] σ Q := by
  refine aw_aload_n dX12_beginsCore_0 rfl rfl ?_
  refine aw_invVi (M := MX12_beginsCore) (ci := 12) [] rfl mo_X12_whole rfl lm_X12_390 li_X12_whole ls_X12_whole (by decide +kernel) dX12_beginsCore_1 rfl (Nat.le_of_ble_eq_true rfl) (ACi.mono (fun v2 σ1 h => ?_) h)
  refine aw_if_gt (tgt := 84) dX12_beginsCore_4 (by decide) (fun k3 => ?_) (fun k3 => ?_)
  · replace h := h.1 k3
    refine aw_iconst (x := 1) dX12_beginsCore_84 rfl ?_
    refine aw_goto (tgt := 89) dX12_beginsCore_85 (by decide) ?_
    exact aw_zreturn dX12_beginsCore_89 rfl (Or.inr rfl) h
  · replace h := h.2 k3
    refine aw_aload_n dX12_beginsCore_7 rfl rfl ?_
    refine aw_invVi (M := MX12_beginsCore) (ci := 12) [] rfl mo_X12_isName rfl lm_X12_418 li_X12_isName ls_X12_isName (by decide +kernel) dX12_beginsCore_8 rfl (Nat.le_of_ble_eq_true rfl) (ACi.mono (fun v5 σ4 h => ?_) h)
    refine aw_if_ne (tgt := 84) dX12_beginsCore_11 (by decide) (fun k6 => ?_) (fun k6 => ?_)
    · replace h := h.1 k6
      refine aw_iconst (x := 1) dX12_beginsCore_84 rfl ?_
      refine aw_goto (tgt := 89) dX12_beginsCore_85 (by decide) ?_
      exact aw_zreturn dX12_beginsCore_89 rfl (Or.inr rfl) h
    · replace h := h.2 k6
      refine aw_aload_n dX12_beginsCore_14 rfl rfl ?_
      refine aw_ldc2 lk_X12_344 dX12_beginsCore_15 ?_
      refine aw_invVi (M := MX12_beginsCore) (ci := 12) [vJ 1651078259] rfl mo_X12_isWord rfl lm_X12_334 li_X12_isWord ls_X12_isWord (by decide +kernel) dX12_beginsCore_18 rfl (Nat.le_of_ble_eq_true rfl) (ACi.mono (fun v8 σ7 h => ?_) h)
      refine aw_if_ne (tgt := 84) dX12_beginsCore_21 (by decide) (fun k9 => ?_) (fun k9 => ?_)
      · replace h := h.1 k9
        refine aw_iconst (x := 1) dX12_beginsCore_84 rfl ?_
        refine aw_goto (tgt := 89) dX12_beginsCore_85 (by decide) ?_
        exact aw_zreturn dX12_beginsCore_89 rfl (Or.inr rfl) h
      · replace h := h.2 k9
        refine aw_aload_n dX12_beginsCore_24 rfl rfl ?_
        refine aw_ldc2 lk_X12_346 dX12_beginsCore_25 ?_
        refine aw_invVi (M := MX12_beginsCore) (ci := 12) [vJ 1952807028] rfl mo_X12_isWord rfl lm_X12_334 li_X12_isWord ls_X12_isWord (by decide +kernel) dX12_beginsCore_28 rfl (Nat.le_of_ble_eq_true rfl) (ACi.mono (fun v11 σ10 h => ?_) h)
        refine aw_if_ne (tgt := 84) dX12_beginsCore_31 (by decide) (fun k12 => ?_) (fun k12 => ?_)
        · replace h := h.1 k12
          refine aw_iconst (x := 1) dX12_beginsCore_84 rfl ?_
          refine aw_goto (tgt := 89) dX12_beginsCore_85 (by decide) ?_
          exact aw_zreturn dX12_beginsCore_89 rfl (Or.inr rfl) h
        · replace h := h.2 k12
          refine aw_aload_n dX12_beginsCore_34 rfl rfl ?_
          refine aw_ldc2 lk_X12_350 dX12_beginsCore_35 ?_
          refine aw_invVi (M := MX12_beginsCore) (ci := 12) [vJ 504363577198] rfl mo_X12_isWord rfl lm_X12_334 li_X12_isWord ls_X12_isWord (by decide +kernel) dX12_beginsCore_38 rfl (Nat.le_of_ble_eq_true rfl) (ACi.mono (fun v14 σ13 h => ?_) h)
          refine aw_if_ne (tgt := 84) dX12_beginsCore_41 (by decide) (fun k15 => ?_) (fun k15 => ?_)
          · replace h := h.1 k15
            refine aw_iconst (x := 1) dX12_beginsCore_84 rfl ?_
            refine aw_goto (tgt := 89) dX12_beginsCore_85 (by decide) ?_
            exact aw_zreturn dX12_beginsCore_89 rfl (Or.inr rfl) h
          · replace h := h.2 k15
            refine aw_aload_n dX12_beginsCore_44 rfl rfl ?_
            refine aw_ldc2 lk_X12_356 dX12_beginsCore_45 ?_
            refine aw_invVi (M := MX12_beginsCore) (ci := 12) [vJ 29807] rfl mo_X12_isWord rfl lm_X12_334 li_X12_isWord ls_X12_isWord (by decide +kernel) dX12_beginsCore_48 rfl (Nat.le_of_ble_eq_true rfl) (ACi.mono (fun v17 σ16 h => ?_) h)
            refine aw_if_ne (tgt := 84) dX12_beginsCore_51 (by decide) (fun k18 => ?_) (fun k18 => ?_)
            · replace h := h.1 k18
              refine aw_iconst (x := 1) dX12_beginsCore_84 rfl ?_
              refine aw_goto (tgt := 89) dX12_beginsCore_85 (by decide) ?_
              exact aw_zreturn dX12_beginsCore_89 rfl (Or.inr rfl) h
            · replace h := h.2 k18
              refine aw_aload_n dX12_beginsCore_54 rfl rfl ?_
              refine aw_ldc2 lk_X12_364 dX12_beginsCore_55 ?_
              refine aw_invVi (M := MX12_beginsCore) (ci := 12) [vJ 7364964] rfl mo_X12_isWord rfl lm_X12_334 li_X12_isWord ls_X12_isWord (by decide +kernel) dX12_beginsCore_58 rfl (Nat.le_of_ble_eq_true rfl) (ACi.mono (fun v20 σ19 h => ?_) h)
              refine aw_if_ne (tgt := 84) dX12_beginsCore_61 (by decide) (fun k21 => ?_) (fun k21 => ?_)
              · replace h := h.1 k21
                refine aw_iconst (x := 1) dX12_beginsCore_84 rfl ?_
                refine aw_goto (tgt := 89) dX12_beginsCore_85 (by decide) ?_
                exact aw_zreturn dX12_beginsCore_89 rfl (Or.inr rfl) h
              · replace h := h.2 k21
                refine aw_aload_n dX12_beginsCore_64 rfl rfl ?_
                refine aw_ldc2 lk_X12_366 dX12_beginsCore_65 ?_
                refine aw_invVi (M := MX12_beginsCore) (ci := 12) [vJ 469785602403] rfl mo_X12_isWord rfl lm_X12_334 li_X12_isWord ls_X12_isWord (by decide +kernel) dX12_beginsCore_68 rfl (Nat.le_of_ble_eq_true rfl) (ACi.mono (fun v23 σ22 h => ?_) h)
                refine aw_if_ne (tgt := 84) dX12_beginsCore_71 (by decide) (fun k24 => ?_) (fun k24 => ?_)
                · replace h := h.1 k24
                  refine aw_iconst (x := 1) dX12_beginsCore_84 rfl ?_
                  refine aw_goto (tgt := 89) dX12_beginsCore_85 (by decide) ?_
                  exact aw_zreturn dX12_beginsCore_89 rfl (Or.inr rfl) h
                · replace h := h.2 k24
                  refine aw_aload_n dX12_beginsCore_74 rfl rfl ?_
                  refine aw_ldc2 lk_X12_368 dX12_beginsCore_75 ?_
                  refine aw_invVi (M := MX12_beginsCore) (ci := 12) [vJ 7566701] rfl mo_X12_isWord rfl lm_X12_334 li_X12_isWord ls_X12_isWord (by decide +kernel) dX12_beginsCore_78 rfl (Nat.le_of_ble_eq_true rfl) (ACi.mono (fun v26 σ25 h => ?_) h)
                  refine aw_if_eq (tgt := 88) dX12_beginsCore_81 (by decide) (fun k27 => ?_) (fun k27 => ?_)
                  · replace h := h.1 k27
                    refine aw_iconst (x := 0) dX12_beginsCore_88 rfl ?_
                    exact aw_zreturn dX12_beginsCore_89 rfl (Or.inl rfl) h
                  · replace h := h.2 k27
                    refine aw_iconst (x := 1) dX12_beginsCore_84 rfl ?_
                    refine aw_goto (tgt := 89) dX12_beginsCore_85 (by decide) ?_
                    exact aw_zreturn dX12_beginsCore_89 rfl (Or.inr rfl) h
set_option maxRecDepth 4000 in
theorem bk_X12_begun_0 {g : GP} {l : Launch} {d : Nat} {σ : St} {Q : Option AV → St → Prop} {x0 : Nat} {x1 : Int} {x2 : Int} {x3 : Int} {x4 : Int}
    (h : ACi g l d MX12_make [vR 12 (some x0), vI 0, vI x2, vI x3, vI x4] σ (fun v2 σ1 => (((gI σ1 1282 x0 0) = 0 → LC 12 σ1 x0 ∧ Bd v2 2800 ∧ ACi g l d MX12_above [vR 12 (some x0), vI v2] (sI σ1 1273 x0 v2.toNat x1) (fun v7 σ6 => ((v7 < 20 → AW g l (d + 1) MX12_begun 43 [some (vR 12 (some x0)), none, none, none, none, some (vI v2), none] [vI 0] σ6 Q) ∧ (¬ v7 < 20 → AW g l (d + 1) MX12_begun 43 [some (vR 12 (some x0)), none, none, none, none, some (vI v2), none] [vI 1] σ6 Q)))) ∧ (¬ (gI σ1 1282 x0 0) = 0 → Q none σ1)))) :
    AW g l (d + 1) MX12_begun 0 [some (vR 12 (some x0)), some (vI x1), some (vI x2), some (vI x3), some (vI x4), none, none] [] σ Q := by
  refine aw_aload_n dX12_begun_0 rfl rfl ?_
  refine aw_iconst (x := 0) dX12_begun_1 rfl ?_
  refine aw_iload_n dX12_begun_2 rfl rfl ?_
  refine aw_iload_n dX12_begun_3 rfl rfl ?_
  refine aw_iload dX12_begun_4 rfl ?_
  refine aw_invVi (M := MX12_begun) (ci := 12) [vI 0, vI x2, vI x3, vI x4] rfl mo_X12_make rfl lm_X12_580 li_X12_make ls_X12_make (by decide +kernel) dX12_begun_6 rfl (Nat.le_of_ble_eq_true rfl) (ACi.mono (fun v2 σ1 h => ?_) h)
  refine aw_istore (L' := [some (vR 12 (some x0)), some (vI x1), some (vI x2), some (vI x3), some (vI x4), some (vI v2), none]) dX12_begun_9 (by decide) rfl ?_
  refine aw_aload_n dX12_begun_11 rfl rfl ?_
  refine aw_getZ' rfl fk_1282 lf_X12_262 dX12_begun_12 ?_
  refine aw_if_eq (tgt := 19) dX12_begun_15 (by decide) (fun k3 => ?_) (fun k3 => ?_)
  · replace h := h.1 k3
    refine aw_aload_n dX12_begun_19 rfl rfl ?_
    obtain ⟨lc4, h⟩ := h
    refine aw_getA' rfl fk_1273 (by decide) lf_X12_235 dX12_begun_20 (LC.ne lc4 rfl rfl) ?_
    refine aw_iload dX12_begun_23 rfl ?_
    refine aw_iload_n dX12_begun_25 rfl rfl ?_
    obtain ⟨⟨c5, c5x⟩, h⟩ := h
    refine aw_iastore (by decide) rfl dX12_begun_26 c5 (LC.lt lc4 rfl rfl c5x) ?_
    refine aw_aload_n dX12_begun_27 rfl rfl ?_
    refine aw_iload dX12_begun_28 rfl ?_
    refine aw_invVi (M := MX12_begun) (ci := 12) [vI v2] rfl mo_X12_above rfl lm_X12_584 li_X12_above ls_X12_above (by decide +kernel) dX12_begun_30 rfl (Nat.le_of_ble_eq_true rfl) (ACi.mono (fun v7 σ6 h => ?_) h)
    refine aw_bipush (x := 20) dX12_begun_33 rfl ?_
    refine aw_icmp_lt (tgt := 42) dX12_begun_35 (by decide) (fun k8 => ?_) (fun k8 => ?_)
    · replace h := h.1 k8
      refine aw_iconst (x := 0) dX12_begun_42 rfl ?_
      exact aw_fgt (L' := [some (vR 12 (some x0)), none, none, none, none, some (vI v2), none]) ⟨rfl, ⟨rfl, trivial⟩⟩ h
    · replace h := h.2 k8
      refine aw_iconst (x := 1) dX12_begun_38 rfl ?_
      refine aw_goto (tgt := 43) dX12_begun_39 (by decide) ?_
      exact aw_fgt (L' := [some (vR 12 (some x0)), none, none, none, none, some (vI v2), none]) ⟨rfl, ⟨rfl, trivial⟩⟩ h
  · replace h := h.2 k3
    exact aw_ret h rfl dX12_begun_18
set_option maxRecDepth 4000 in
theorem bk_X12_begun_43 {g : GP} {l : Launch} {d : Nat} {σ : St} {Q : Option AV → St → Prop} {x0 : Nat} {x5 : Int} {y0 : Int}
    (h : ((y0 = 0 → AW g l (d + 1) MX12_begun 58 [some (vR 12 (some x0)), none, none, none, none, some (vI x5), some (vI y0)] [] σ Q) ∧ (¬ y0 = 0 → ACv g l d MX12_faulty [vR 12 (some x0), vI x5, vI 9] σ (fun σ2 => AW g l (d + 1) MX12_begun 58 [some (vR 12 (some x0)), none, none, none, none, some (vI x5), some (vI y0)] [] σ2 Q)))) :
    AW g l (d + 1) MX12_begun 43 [some (vR 12 (some x0)), none, none, none, none, some (vI x5), none] [vI y0] σ Q := by
  refine aw_istore (L' := [some (vR 12 (some x0)), none, none, none, none, some (vI x5), some (vI y0)]) dX12_begun_43 (by decide) rfl ?_
  refine aw_iload dX12_begun_45 rfl ?_
  refine aw_if_eq (tgt := 58) dX12_begun_47 (by decide) (fun k1 => ?_) (fun k1 => ?_)
  · replace h := h.1 k1
    exact aw_fgt (L' := [some (vR 12 (some x0)), none, none, none, none, some (vI x5), some (vI y0)]) ⟨rfl, ⟨rfl, ⟨rfl, trivial⟩⟩⟩ h
  · replace h := h.2 k1
    refine aw_aload_n dX12_begun_50 rfl rfl ?_
    refine aw_iload dX12_begun_51 rfl ?_
    refine aw_bipush (x := 9) dX12_begun_53 rfl ?_
    refine aw_invVv (M := MX12_begun) (ci := 12) [vI x5, vI 9] rfl mo_X12_faulty rfl lm_X12_577 li_X12_faulty ls_X12_faulty (by decide +kernel) dX12_begun_55 rfl (Nat.le_of_ble_eq_true rfl) (ACv.mono (fun σ2 h => ?_) h)
    exact aw_fgt (L' := [some (vR 12 (some x0)), none, none, none, none, some (vI x5), some (vI y0)]) ⟨rfl, ⟨rfl, ⟨rfl, trivial⟩⟩⟩ h
set_option maxRecDepth 4000 in
theorem bk_X12_begun_58 {g : GP} {l : Launch} {d : Nat} {σ : St} {Q : Option AV → St → Prop} {x0 : Nat} {x5 : Int} {x6 : Int}
    (h : ((x6 = 0 → ACv g l d MX12_opens [vR 12 (some x0), vI x5, vI 0] σ (fun σ2 => Q none σ2)) ∧ (¬ x6 = 0 → ACv g l d MX12_opens [vR 12 (some x0), vI x5, vI 14] σ (fun σ3 => Q none σ3)))) :
    AW g l (d + 1) MX12_begun 58 [some (vR 12 (some x0)), none, none, none, none, some (vI x5), some (vI x6)] [] σ Q := by
  refine aw_aload_n dX12_begun_58 rfl rfl ?_
  refine aw_iload dX12_begun_59 rfl ?_
  refine aw_iload dX12_begun_61 rfl ?_
  refine aw_if_eq (tgt := 71) dX12_begun_63 (by decide) (fun k1 => ?_) (fun k1 => ?_)
  · replace h := h.1 k1
    refine aw_iconst (x := 0) dX12_begun_71 rfl ?_
    refine aw_invVv (M := MX12_begun) (ci := 12) [vI x5, vI 0] rfl mo_X12_opens rfl lm_X12_587 li_X12_opens ls_X12_opens (by decide +kernel) dX12_begun_72 rfl (Nat.le_of_ble_eq_true rfl) (ACv.mono (fun σ2 h => ?_) h)
    exact aw_ret h rfl dX12_begun_75
  · replace h := h.2 k1
    refine aw_bipush (x := 14) dX12_begun_66 rfl ?_
    refine aw_goto (tgt := 72) dX12_begun_68 (by decide) ?_
    refine aw_invVv (M := MX12_begun) (ci := 12) [vI x5, vI 14] rfl mo_X12_opens rfl lm_X12_587 li_X12_opens ls_X12_opens (by decide +kernel) dX12_begun_72 rfl (Nat.le_of_ble_eq_true rfl) (ACv.mono (fun σ3 h => ?_) h)
    exact aw_ret h rfl dX12_begun_75
set_option maxRecDepth 4000 in
theorem bk_X12_bound_0 {g : GP} {l : Launch} {d : Nat} {σ : St} {Q : Option AV → St → Prop} {x0 : Nat} {x1 : Int} {x2 : Int64} {x4 : Int64}
    (h : ((0 < (gI σ 1251 x0 0) → Q none σ) ∧ (¬ 0 < (gI σ 1251 x0 0) → ((¬ (gI σ 1213 x0 0) = 2 → AW g l (d + 1) MX12_bound 21 [some (vR 12 (some x0)), some (vI x1), some (vJ x2), none, some (vJ x4), none] [vI 0, vR 12 (some x0)] σ Q) ∧ ((gI σ 1213 x0 0) = 2 → AW g l (d + 1) MX12_bound 21 [some (vR 12 (some x0)), some (vI x1), some (vJ x2), none, some (vJ x4), none] [vI 1, vR 12 (some x0)] σ Q))))) :
    AW g l (d + 1) MX12_bound 0 [some (vR 12 (some x0)), some (vI x1), some (vJ x2), none, some (vJ x4), none] [] σ Q := by
  refine aw_aload_n dX12_bound_0 rfl rfl ?_
  refine aw_getI' rfl fk_1251 lf_X12_167 dX12_bound_1 ?_
  refine aw_if_gt (tgt := 60) dX12_bound_4 (by decide) (fun k1 => ?_) (fun k1 => ?_)
  · replace h := h.1 k1
    exact aw_ret h rfl dX12_bound_60
  · replace h := h.2 k1
    refine aw_aload_n dX12_bound_7 rfl rfl ?_
    refine aw_aload_n dX12_bound_8 rfl rfl ?_
    refine aw_getI' rfl fk_1213 lf_X12_51 dX12_bound_9 ?_
    refine aw_iconst (x := 2) dX12_bound_12 rfl ?_
    refine aw_icmp_ne (tgt := 20) dX12_bound_13 (by decide) (fun k2 => ?_) (fun k2 => ?_)
    · replace h := h.1 k2
      refine aw_iconst (x := 0) dX12_bound_20 rfl ?_
      exact aw_fgt (L' := [some (vR 12 (some x0)), some (vI x1), some (vJ x2), none, some (vJ x4), none]) ⟨rfl, ⟨rfl, ⟨rfl, ⟨rfl, trivial⟩⟩⟩⟩ h
    · replace h := h.2 k2
      refine aw_iconst (x := 1) dX12_bound_16 rfl ?_
      refine aw_goto (tgt := 21) dX12_bound_17 (by decide) ?_
      exact aw_fgt (L' := [some (vR 12 (some x0)), some (vI x1), some (vJ x2), none, some (vJ x4), none]) ⟨rfl, ⟨rfl, ⟨rfl, ⟨rfl, trivial⟩⟩⟩⟩ h
set_option maxRecDepth 4000 in
theorem bk_X12_bound_21 {g : GP} {l : Launch} {d : Nat} {σ : St} {Q : Option AV → St → Prop} {x0 : Nat} {x1 : Int} {x2 : Int64} {x4 : Int64} {y0 : Int} {y1 : Option Nat}
    (h : ∃ r1, y1 = some r1 ∧ ACi g l d MX12_must [vR 12 (some r1), vI y0, vI 2] σ (fun v4 σ3 => ((v4 = 0 → Q none σ3) ∧ (¬ v4 = 0 → (((gJ σ3 1217 x0 0).toInt < x2.toInt → AW g l (d + 1) MX12_bound 53 [some (vR 12 (some x0)), some (vI x1), none, none, none, none] [vI 0, vR 12 (some x0)] σ3 Q) ∧ (¬ (gJ σ3 1217 x0 0).toInt < x2.toInt → ((x4.toInt < (gJ σ3 1217 x0 0).toInt → AW g l (d + 1) MX12_bound 53 [some (vR 12 (some x0)), some (vI x1), none, none, none, none] [vI 0, vR 12 (some x0)] σ3 Q) ∧ (¬ x4.toInt < (gJ σ3 1217 x0 0).toInt → AW g l (d + 1) MX12_bound 53 [some (vR 12 (some x0)), some (vI x1), none, none, none, none] [vI 1, vR 12 (some x0)] σ3 Q)))))))) :
    AW g l (d + 1) MX12_bound 21 [some (vR 12 (some x0)), some (vI x1), some (vJ x2), none, some (vJ x4), none] [vI y0, vR 12 y1] σ Q := by
  refine aw_iconst (x := 2) dX12_bound_21 rfl ?_
  obtain ⟨r1, e2, h⟩ := h
  refine aw_invVi (M := MX12_bound) (ci := 12) [vI y0, vI 2] e2 mo_X12_must rfl lm_X12_404 li_X12_must ls_X12_must (by decide +kernel) dX12_bound_22 rfl (Nat.le_of_ble_eq_true rfl) (ACi.mono (fun v4 σ3 h => ?_) h)
  refine aw_if_eq (tgt := 60) dX12_bound_25 (by decide) (fun k5 => ?_) (fun k5 => ?_)
  · replace h := h.1 k5
    exact aw_ret h rfl dX12_bound_60
  · replace h := h.2 k5
    refine aw_aload_n dX12_bound_28 rfl rfl ?_
    refine aw_aload_n dX12_bound_29 rfl rfl ?_
    refine aw_getJ' rfl fk_1217 lf_X12_64 dX12_bound_30 ?_
    refine aw_lload_n dX12_bound_33 rfl rfl ?_
    refine aw_lcmp_lt (M := MX12_bound) (tgt := 52) dX12_bound_34 dX12_bound_35 (by decide) (fun k6 => ?_) (fun k6 => ?_)
    · replace h := h.1 k6
      refine aw_iconst (x := 0) dX12_bound_52 rfl ?_
      exact aw_fgt (L' := [some (vR 12 (some x0)), some (vI x1), none, none, none, none]) ⟨rfl, ⟨rfl, trivial⟩⟩ h
    · replace h := h.2 k6
      refine aw_aload_n dX12_bound_38 rfl rfl ?_
      refine aw_getJ' rfl fk_1217 lf_X12_64 dX12_bound_39 ?_
      refine aw_lload dX12_bound_42 rfl ?_
      refine aw_lcmp_gt (M := MX12_bound) (tgt := 52) dX12_bound_44 dX12_bound_45 (by decide) (fun k7 => ?_) (fun k7 => ?_)
      · replace h := h.1 k7
        refine aw_iconst (x := 0) dX12_bound_52 rfl ?_
        exact aw_fgt (L' := [some (vR 12 (some x0)), some (vI x1), none, none, none, none]) ⟨rfl, ⟨rfl, trivial⟩⟩ h
      · replace h := h.2 k7
        refine aw_iconst (x := 1) dX12_bound_48 rfl ?_
        refine aw_goto (tgt := 53) dX12_bound_49 (by decide) ?_
        exact aw_fgt (L' := [some (vR 12 (some x0)), some (vI x1), none, none, none, none]) ⟨rfl, ⟨rfl, trivial⟩⟩ h
set_option maxRecDepth 4000 in
theorem bk_X12_bound_53 {g : GP} {l : Launch} {d : Nat} {σ : St} {Q : Option AV → St → Prop} {x0 : Nat} {x1 : Int} {y0 : Int} {y1 : Option Nat}
    (h : ∃ r1, y1 = some r1 ∧ ACi g l d MX12_must [vR 12 (some r1), vI y0, vI 5] σ (fun v4 σ3 => ((¬ v4 = 0 → LC 12 σ3 x0 ∧ Bd x1 560 ∧ ACv g l d MX12_next [vR 12 (some x0)] (sI σ3 1235 x0 x1.toNat (j2i (gJ σ3 1217 x0 0))) (fun σ8 => Q none σ8)) ∧ (v4 = 0 → Q none σ3)))) :
    AW g l (d + 1) MX12_bound 53 [some (vR 12 (some x0)), some (vI x1), none, none, none, none] [vI y0, vR 12 y1] σ Q := by
  refine aw_iconst (x := 5) dX12_bound_53 rfl ?_
  obtain ⟨r1, e2, h⟩ := h
  refine aw_invVi (M := MX12_bound) (ci := 12) [vI y0, vI 5] e2 mo_X12_must rfl lm_X12_404 li_X12_must ls_X12_must (by decide +kernel) dX12_bound_54 rfl (Nat.le_of_ble_eq_true rfl) (ACi.mono (fun v4 σ3 h => ?_) h)
  refine aw_if_ne (tgt := 61) dX12_bound_57 (by decide) (fun k5 => ?_) (fun k5 => ?_)
  · replace h := h.1 k5
    refine aw_aload_n dX12_bound_61 rfl rfl ?_
    obtain ⟨lc6, h⟩ := h
    refine aw_getA' rfl fk_1235 (by decide) lf_X12_119 dX12_bound_62 (LC.ne lc6 rfl rfl) ?_
    refine aw_iload_n dX12_bound_65 rfl rfl ?_
    refine aw_aload_n dX12_bound_66 rfl rfl ?_
    refine aw_getJ' rfl fk_1217 lf_X12_64 dX12_bound_67 ?_
    refine aw_l2i dX12_bound_70 ?_
    obtain ⟨⟨c7, c7x⟩, h⟩ := h
    refine aw_iastore (by decide) rfl dX12_bound_71 c7 (LC.lt lc6 rfl rfl c7x) ?_
    refine aw_aload_n dX12_bound_72 rfl rfl ?_
    refine aw_invVv (M := MX12_bound) (ci := 12) [] rfl mo_X12_next rfl lm_X12_408 li_X12_next ls_X12_next (by decide +kernel) dX12_bound_73 rfl (Nat.le_of_ble_eq_true rfl) (ACv.mono (fun σ8 h => ?_) h)
    exact aw_ret h rfl dX12_bound_76
  · replace h := h.2 k5
    exact aw_ret h rfl dX12_bound_60
set_option maxRecDepth 4000 in
theorem bk_X12_cell_0 {g : GP} {l : Launch} {d : Nat} {σ : St} {Q : Option AV → St → Prop} {x0 : Nat} {x1 : Int} {x2 : Int} {x3 : Int}
    (h : R32 (4 * x1) ∧ R32 ((4 * x1) + x2) ∧ R32 (((4 * x1) + x2) * 2000) ∧ R32 ((((4 * x1) + x2) * 2000) + x3) ∧ Q (some (vI ((((4 * x1) + x2) * 2000) + x3))) σ) :
    AW g l d MX12_cell 0 [some (vR 12 (some x0)), some (vI x1), some (vI x2), some (vI x3)] [] σ Q := by
  refine aw_iconst (x := 4) dX12_cell_0 rfl ?_
  refine aw_iload_n dX12_cell_1 rfl rfl ?_
  obtain ⟨⟨c1, c1x⟩, h⟩ := h
  refine aw_imulc dX12_cell_2 c1 c1x ?_
  refine aw_iload_n dX12_cell_3 rfl rfl ?_
  obtain ⟨⟨c2, c2x⟩, h⟩ := h
  refine aw_iaddc dX12_cell_4 c2 c2x ?_
  refine aw_sipush (x := 2000) dX12_cell_5 rfl ?_
  obtain ⟨⟨c3, c3x⟩, h⟩ := h
  refine aw_imulc dX12_cell_8 c3 c3x ?_
  refine aw_iload_n dX12_cell_9 rfl rfl ?_
  obtain ⟨⟨c4, c4x⟩, h⟩ := h
  refine aw_iaddc dX12_cell_10 c4 c4x ?_
  exact aw_ireturn dX12_cell_11 rfl h
set_option maxRecDepth 4000 in
theorem bk_X12_changed_0 {g : GP} {l : Launch} {d : Nat} {σ : St} {Q : Option AV → St → Prop} {x0 : Nat} {x1 : Int} {x2 : Int}
    (h : ACi g l d MX12_isImage [vR 12 (some x0), vI x1] σ (fun v2 σ1 => ((v2 = 0 → Q (some (vI (-1))) σ1) ∧ (¬ v2 = 0 → ((x2 < 0 → Q (some (vI (-1))) σ1) ∧ (¬ x2 < 0 → LC 12 σ1 x0 ∧ Bd x1 6 ∧ ((¬ (gI σ1 1202 x0 x1.toNat) = 0 → AW g l (d + 1) MX12_changed 28 [some (vR 12 (some x0)), some (vI x1), none, some (vI x2), some (vI 0)] [] σ1 Q) ∧ ((gI σ1 1202 x0 x1.toNat) = 0 → Q (some (vI (-1))) σ1)))))))) :
    AW g l (d + 1) MX12_changed 0 [some (vR 12 (some x0)), some (vI x1), some (vI x2), none, none] [] σ Q := by
  refine aw_aload_n dX12_changed_0 rfl rfl ?_
  refine aw_iload_n dX12_changed_1 rfl rfl ?_
  refine aw_invVi (M := MX12_changed) (ci := 12) [vI x1] rfl mo_X12_isImage rfl lm_X12_293 li_X12_isImage ls_X12_isImage (by decide +kernel) dX12_changed_2 rfl (Nat.le_of_ble_eq_true rfl) (ACi.mono (fun v2 σ1 h => ?_) h)
  refine aw_if_eq (tgt := 21) dX12_changed_5 (by decide) (fun k3 => ?_) (fun k3 => ?_)
  · replace h := h.1 k3
    refine aw_iconst (x := (-1)) dX12_changed_21 rfl ?_
    exact aw_ireturn dX12_changed_22 rfl h
  · replace h := h.2 k3
    refine aw_iload_n dX12_changed_8 rfl rfl ?_
    refine aw_if_lt (tgt := 21) dX12_changed_9 (by decide) (fun k4 => ?_) (fun k4 => ?_)
    · replace h := h.1 k4
      refine aw_iconst (x := (-1)) dX12_changed_21 rfl ?_
      exact aw_ireturn dX12_changed_22 rfl h
    · replace h := h.2 k4
      refine aw_aload_n dX12_changed_12 rfl rfl ?_
      obtain ⟨lc5, h⟩ := h
      refine aw_getA' rfl fk_1202 (by decide) lf_X12_17 dX12_changed_13 (LC.ne lc5 rfl rfl) ?_
      refine aw_iload_n dX12_changed_16 rfl rfl ?_
      obtain ⟨⟨c6, c6x⟩, h⟩ := h
      refine aw_iaload (by decide) rfl dX12_changed_17 c6 (LC.lt lc5 rfl rfl c6x) ?_
      refine aw_if_ne (tgt := 23) dX12_changed_18 (by decide) (fun k7 => ?_) (fun k7 => ?_)
      · replace h := h.1 k7
        refine aw_iload_n dX12_changed_23 rfl rfl ?_
        refine aw_istore_n (L' := [some (vR 12 (some x0)), some (vI x1), some (vI x2), some (vI x2), none]) dX12_changed_24 rfl (by decide) rfl ?_
        refine aw_iconst (x := 0) dX12_changed_25 rfl ?_
        refine aw_istore (L' := [some (vR 12 (some x0)), some (vI x1), some (vI x2), some (vI x2), some (vI 0)]) dX12_changed_26 (by decide) rfl ?_
        exact aw_fgt (L' := [some (vR 12 (some x0)), some (vI x1), none, some (vI x2), some (vI 0)]) ⟨rfl, ⟨rfl, ⟨rfl, ⟨rfl, trivial⟩⟩⟩⟩ h
      · replace h := h.2 k7
        refine aw_iconst (x := (-1)) dX12_changed_21 rfl ?_
        exact aw_ireturn dX12_changed_22 rfl h
set_option maxRecDepth 4000 in
theorem bk_X12_changed_28 {g : GP} {l : Launch} {d : Nat} {σ : St} {Q : Option AV → St → Prop} {x0 : Nat} {x1 : Int} {x3 : Int} {x4 : Int}
    (h : LC 12 σ x0 ∧ Bd x1 6 ∧ (((gI σ 1201 x0 x1.toNat) ≤ x4 → Q (some (vI (-1))) σ) ∧ (¬ (gI σ 1201 x0 x1.toNat) ≤ x4 → R32 ((gI σ 1202 x0 x1.toNat) - 1) ∧ ACi g l d MX12_cell [vR 12 (some x0), vI x1, vI ((gI σ 1202 x0 x1.toNat) - 1), vI x4] σ (fun v6 σ5 => LC 12 σ5 x0 ∧ Bd v6 48000 ∧ ((0 ≤ (gI σ5 1204 x0 v6.toNat) → ((¬ x3 = 0 → R32 (x3 + (-1)) ∧ R32 (x4 + 1) ∧ AW g l (d + 1) MX12_changed 28 [some (vR 12 (some x0)), some (vI x1), none, some (vI (x3 + (-1))), some (vI (x4 + 1))] [] σ5 Q) ∧ (x3 = 0 → Q (some (vI x4)) σ5))) ∧ (¬ 0 ≤ (gI σ5 1204 x0 v6.toNat) → R32 (x4 + 1) ∧ AW g l (d + 1) MX12_changed 28 [some (vR 12 (some x0)), some (vI x1), none, some (vI x3), some (vI (x4 + 1))] [] σ5 Q)))))) :
    AW g l (d + 1) MX12_changed 28 [some (vR 12 (some x0)), some (vI x1), none, some (vI x3), some (vI x4)] [] σ Q := by
  refine aw_iload dX12_changed_28 rfl ?_
  refine aw_aload_n dX12_changed_30 rfl rfl ?_
  obtain ⟨lc1, h⟩ := h
  refine aw_getA' rfl fk_1201 (by decide) lf_X12_13 dX12_changed_31 (LC.ne lc1 rfl rfl) ?_
  refine aw_iload_n dX12_changed_34 rfl rfl ?_
  obtain ⟨⟨c2, c2x⟩, h⟩ := h
  refine aw_iaload (by decide) rfl dX12_changed_35 c2 (LC.lt lc1 rfl rfl c2x) ?_
  refine aw_icmp_ge (tgt := 81) dX12_changed_36 (by decide) (fun k3 => ?_) (fun k3 => ?_)
  · replace h := h.1 k3
    refine aw_iconst (x := (-1)) dX12_changed_81 rfl ?_
    exact aw_ireturn dX12_changed_82 rfl h
  · replace h := h.2 k3
    refine aw_aload_n dX12_changed_39 rfl rfl ?_
    refine aw_getA' rfl fk_1204 (by decide) lf_X12_24 dX12_changed_40 (LC.ne lc1 rfl rfl) ?_
    refine aw_aload_n dX12_changed_43 rfl rfl ?_
    refine aw_iload_n dX12_changed_44 rfl rfl ?_
    refine aw_aload_n dX12_changed_45 rfl rfl ?_
    refine aw_getA' rfl fk_1202 (by decide) lf_X12_17 dX12_changed_46 (LC.ne lc1 rfl rfl) ?_
    refine aw_iload_n dX12_changed_49 rfl rfl ?_
    refine aw_iaload (by decide) rfl dX12_changed_50 c2 (LC.lt lc1 rfl rfl c2x) ?_
    refine aw_iconst (x := 1) dX12_changed_51 rfl ?_
    obtain ⟨⟨c4, c4x⟩, h⟩ := h
    refine aw_isubc dX12_changed_52 c4 c4x ?_
    refine aw_iload dX12_changed_53 rfl ?_
    refine aw_invVi (M := MX12_changed) (ci := 12) [vI x1, vI ((gI σ 1202 x0 x1.toNat) - 1), vI x4] rfl mo_X12_cell rfl lm_X12_289 li_X12_cell ls_X12_cell (by decide +kernel) dX12_changed_55 rfl (Nat.le_of_ble_eq_true rfl) (ACi.mono (fun v6 σ5 h => ?_) h)
    obtain ⟨lc7, h⟩ := h
    obtain ⟨⟨c8, c8x⟩, h⟩ := h
    refine aw_iaload (by decide) rfl dX12_changed_58 c8 (LC.lt lc7 rfl rfl c8x) ?_
    refine aw_if_ge (tgt := 65) dX12_changed_59 (by decide) (fun k9 => ?_) (fun k9 => ?_)
    · replace h := h.1 k9
      refine aw_iload_n dX12_changed_65 rfl rfl ?_
      refine aw_if_ne (tgt := 72) dX12_changed_66 (by decide) (fun k10 => ?_) (fun k10 => ?_)
      · replace h := h.1 k10
        obtain ⟨⟨c11, c11x⟩, h⟩ := h
        refine aw_iincc (L' := [some (vR 12 (some x0)), some (vI x1), none, some (vI (x3 + (-1))), some (vI x4)]) dX12_changed_72 rfl (by decide) rfl c11 c11x rfl ?_
        obtain ⟨⟨c12, c12x⟩, h⟩ := h
        refine aw_iincc (L' := [some (vR 12 (some x0)), some (vI x1), none, some (vI (x3 + (-1))), some (vI (x4 + 1))]) dX12_changed_75 rfl (by decide) rfl c12 c12x rfl ?_
        refine aw_goto (tgt := 28) dX12_changed_78 (by decide) ?_
        exact aw_fgt (L' := [some (vR 12 (some x0)), some (vI x1), none, some (vI (x3 + (-1))), some (vI (x4 + 1))]) ⟨rfl, ⟨rfl, ⟨rfl, ⟨rfl, trivial⟩⟩⟩⟩ h
      · replace h := h.2 k10
        refine aw_iload dX12_changed_69 rfl ?_
        exact aw_ireturn dX12_changed_71 rfl h
    · replace h := h.2 k9
      refine aw_goto (tgt := 75) dX12_changed_62 (by decide) ?_
      obtain ⟨⟨c13, c13x⟩, h⟩ := h
      refine aw_iincc (L' := [some (vR 12 (some x0)), some (vI x1), none, some (vI x3), some (vI (x4 + 1))]) dX12_changed_75 rfl (by decide) rfl c13 c13x rfl ?_
      refine aw_goto (tgt := 28) dX12_changed_78 (by decide) ?_
      exact aw_fgt (L' := [some (vR 12 (some x0)), some (vI x1), none, some (vI x3), some (vI (x4 + 1))]) ⟨rfl, ⟨rfl, ⟨rfl, ⟨rfl, trivial⟩⟩⟩⟩ h
set_option maxRecDepth 4000 in
theorem bk_X12_clear_0 {g : GP} {l : Launch} {d : Nat} {σ : St} {Q : Option AV → St → Prop} {x0 : Nat}
    (h : Q (some (vI (gI σ 1264 x0 0))) (sI σ 1264 x0 0 0)) :
    AW g l d MX12_clear 0 [some (vR 12 (some x0)), none] [] σ Q := by
  refine aw_aload_n dX12_clear_0 rfl rfl ?_
  refine aw_getI' rfl fk_1264 lf_X12_208 dX12_clear_1 ?_
  refine aw_istore_n (L' := [some (vR 12 (some x0)), some (vI (gI σ 1264 x0 0))]) dX12_clear_4 rfl (by decide) rfl ?_
  refine aw_aload_n dX12_clear_5 rfl rfl ?_
  refine aw_iconst (x := 0) dX12_clear_6 rfl ?_
  refine aw_putI' rfl fk_1264 (Or.inl rfl) lf_X12_208 dX12_clear_7 ?_
  refine aw_iload_n dX12_clear_10 rfl rfl ?_
  exact aw_ireturn dX12_clear_11 rfl h
set_option maxRecDepth 4000 in
theorem bk_X12_closes_0 {g : GP} {l : Launch} {d : Nat} {σ : St} {Q : Option AV → St → Prop} {x0 : Nat}
    (h : R32 ((gI σ 1285 x0 0) - 1) ∧ LC 12 σ x0 ∧ Bd ((gI σ 1285 x0 0) - 1) 128 ∧ ∀ z4 : Int, z4 = gI σ 1283 x0 ((gI σ 1285 x0 0) - 1).toNat → Bd z4 2800 ∧ (((gI σ 1270 x0 z4.toNat) < 0 → Q none (sI σ 1285 x0 0 ((gI σ 1285 x0 0) - 1))) ∧ (¬ (gI σ 1270 x0 z4.toNat) < 0 → Bd (gI σ 1270 x0 z4.toNat) 2800 ∧ (((gI σ 1267 x0 (gI σ 1270 x0 z4.toNat).toNat) = 7 → Q none (sI σ 1285 x0 0 ((gI σ 1285 x0 0) - 1))) ∧ (¬ (gI σ 1267 x0 (gI σ 1270 x0 z4.toNat).toNat) = 7 → Q none (sI (sI σ 1285 x0 0 ((gI σ 1285 x0 0) - 1)) 1269 x0 (gI σ 1270 x0 z4.toNat).toNat (gI σ 1269 x0 z4.toNat))))))) :
    AW g l d MX12_closes 0 [some (vR 12 (some x0)), none, none] [] σ Q := by
  refine aw_aload_n dX12_closes_0 rfl rfl ?_
  refine aw_dup dX12_closes_1 rfl ?_
  refine aw_getI' rfl fk_1285 lf_X12_271 dX12_closes_2 ?_
  refine aw_iconst (x := 1) dX12_closes_5 rfl ?_
  obtain ⟨⟨c1, c1x⟩, h⟩ := h
  refine aw_isubc dX12_closes_6 c1 c1x ?_
  refine aw_putI' rfl fk_1285 (Or.inl rfl) lf_X12_271 dX12_closes_7 ?_
  refine aw_aload_n dX12_closes_10 rfl rfl ?_
  obtain ⟨lc2, h⟩ := h
  refine aw_getA' rfl fk_1283 (by decide) lf_X12_265 dX12_closes_11 (LC.ne lc2 rfl rfl) ?_
  refine aw_aload_n dX12_closes_14 rfl rfl ?_
  refine aw_getIe (v := ((gI σ 1285 x0 0) - 1)) rfl fk_1285 lf_X12_271 dX12_closes_15 (gI_slf σ 1285 x0 0 ((gI σ 1285 x0 0) - 1)) ?_
  obtain ⟨⟨c3, c3x⟩, h⟩ := h
  refine aw_ialoade (v := gI σ 1283 x0 ((gI σ 1285 x0 0) - 1).toNat) (by decide) rfl dX12_closes_18 c3 (LC.lt lc2 rfl rfl c3x) rfl ?_
  refine aw_istore_n (L' := [some (vR 12 (some x0)), some (vI (gI σ 1283 x0 ((gI σ 1285 x0 0) - 1).toNat)), none]) dX12_closes_19 rfl (by decide) rfl ?_
  obtain ⟨z4, hz4⟩ : ∃ z : Int, z = gI σ 1283 x0 ((gI σ 1285 x0 0) - 1).toNat := ⟨_, rfl⟩
  rw [← hz4]
  replace h := h z4 hz4
  refine aw_aload_n dX12_closes_20 rfl rfl ?_
  refine aw_getA' rfl fk_1270 (by decide) lf_X12_226 dX12_closes_21 (LC.ne lc2 rfl rfl) ?_
  refine aw_iload_n dX12_closes_24 rfl rfl ?_
  obtain ⟨⟨c5, c5x⟩, h⟩ := h
  refine aw_ialoade (v := gI σ 1270 x0 z4.toNat) (by decide) rfl dX12_closes_25 c5 (LC.lt lc2 rfl rfl c5x) rfl ?_
  refine aw_istore_n (L' := [some (vR 12 (some x0)), some (vI z4), some (vI (gI σ 1270 x0 z4.toNat))]) dX12_closes_26 rfl (by decide) rfl ?_
  refine aw_iload_n dX12_closes_27 rfl rfl ?_
  refine aw_if_lt (tgt := 54) dX12_closes_28 (by decide) (fun k6 => ?_) (fun k6 => ?_)
  · replace h := h.1 k6
    exact aw_ret h rfl dX12_closes_54
  · replace h := h.2 k6
    refine aw_aload_n dX12_closes_31 rfl rfl ?_
    refine aw_getA' rfl fk_1267 (by decide) lf_X12_217 dX12_closes_32 (LC.ne lc2 rfl rfl) ?_
    refine aw_iload_n dX12_closes_35 rfl rfl ?_
    obtain ⟨⟨c7, c7x⟩, h⟩ := h
    refine aw_ialoade (v := gI σ 1267 x0 (gI σ 1270 x0 z4.toNat).toNat) (by decide) rfl dX12_closes_36 c7 (LC.lt lc2 rfl rfl c7x) rfl ?_
    refine aw_bipush (x := 7) dX12_closes_37 rfl ?_
    refine aw_icmp_eq (tgt := 54) dX12_closes_39 (by decide) (fun k8 => ?_) (fun k8 => ?_)
    · replace h := h.1 k8
      exact aw_ret h rfl dX12_closes_54
    · replace h := h.2 k8
      refine aw_aload_n dX12_closes_42 rfl rfl ?_
      refine aw_getA' rfl fk_1269 (by decide) lf_X12_223 dX12_closes_43 (LC.ne lc2 rfl rfl) ?_
      refine aw_iload_n dX12_closes_46 rfl rfl ?_
      refine aw_aload_n dX12_closes_47 rfl rfl ?_
      refine aw_getA' rfl fk_1269 (by decide) lf_X12_223 dX12_closes_48 (LC.ne lc2 rfl rfl) ?_
      refine aw_iload_n dX12_closes_51 rfl rfl ?_
      refine aw_ialoade (v := gI σ 1269 x0 z4.toNat) (by decide) rfl dX12_closes_52 c5 (LC.lt lc2 rfl rfl c5x) rfl ?_
      refine aw_iastore (by decide) rfl dX12_closes_53 c7 (LC.lt lc2 rfl rfl c7x) ?_
      exact aw_ret h rfl dX12_closes_54
set_option maxRecDepth 4000 in
theorem bk_X12_commit_0 {g : GP} {l : Launch} {d : Nat} {σ : St} {Q : Option AV → St → Prop} {x0 : Nat} {x1 : Int}
    (h : ACi g l d MX12_top [vR 12 (some x0), vI x1, vI 1] σ (fun v2 σ1 => Q (some (vI v2)) σ1)) :
    AW g l (d + 1) MX12_commit 0 [some (vR 12 (some x0)), some (vI x1)] [] σ Q := by
  refine aw_aload_n dX12_commit_0 rfl rfl ?_
  refine aw_iload_n dX12_commit_1 rfl rfl ?_
  refine aw_iconst (x := 1) dX12_commit_2 rfl ?_
  refine aw_invVi (M := MX12_commit) (ci := 12) [vI x1, vI 1] rfl mo_X12_top rfl lm_X12_303 li_X12_top ls_X12_top (by decide +kernel) dX12_commit_3 rfl (Nat.le_of_ble_eq_true rfl) (ACi.mono (fun v2 σ1 h => ?_) h)
  exact aw_ireturn dX12_commit_6 rfl h
set_option maxRecDepth 4000 in
theorem bk_X12_core_0 {g : GP} {l : Launch} {d : Nat} {σ : St} {Q : Option AV → St → Prop} {x0 : Nat} {x1 : Int}
    (h : ACi g l d MX12_whole [vR 12 (some x0)] σ (fun v2 σ1 => ((v2 ≤ 0 → ACi g l d MX12_isName [vR 12 (some x0)] σ1 (fun v5 σ4 => ((v5 = 0 → ACi g l d MX12_isWord [vR 12 (some x0), vJ 1651078259] σ4 (fun v8 σ7 => ((v8 = 0 → ACi g l d MX12_isWord [vR 12 (some x0), vJ 1952807028] σ7 (fun v11 σ10 => ((v11 = 0 → ACi g l d MX12_isWord [vR 12 (some x0), vJ 504363577198] σ10 (fun v14 σ13 => ((v14 = 0 → ACi g l d MX12_isWord [vR 12 (some x0), vJ 29807] σ13 (fun v17 σ16 => ((v17 = 0 → ACi g l d MX12_isWord [vR 12 (some x0), vJ 7364964] σ16 (fun v20 σ19 => ((v20 = 0 → ACi g l d MX12_isWord [vR 12 (some x0), vJ 469785602403] σ19 (fun v23 σ22 => ((v23 = 0 → ACv g l d MX12_readSum [vR 12 (some x0), vI x1] σ22 (fun σ25 => Q none σ25)) ∧ (¬ v23 = 0 → ACv g l d MX12_readMagic [vR 12 (some x0), vI x1] σ22 (fun σ26 => Q none σ26))))) ∧ (¬ v20 = 0 → ACv g l d MX12_next [vR 12 (some x0)] σ19 (fun σ27 => LC 12 σ27 x0 ∧ Bd x1 560 ∧ ACv g l d MX12_bound [vR 12 (some x0), vI x1, vJ 1, vJ 64] (sI σ27 1228 x0 x1.toNat 9) (fun σ30 => Q none σ30)))))) ∧ (¬ v17 = 0 → ACv g l d MX12_readPointer [vR 12 (some x0), vI x1] σ16 (fun σ31 => Q none σ31))))) ∧ (¬ v14 = 0 → ACv g l d MX12_readUnion [vR 12 (some x0), vI x1] σ13 (fun σ32 => Q none σ32))))) ∧ (¬ v11 = 0 → ACv g l d MX12_readText [vR 12 (some x0), vI x1] σ10 (fun σ33 => Q none σ33))))) ∧ (¬ v8 = 0 → ACv g l d MX12_readBits [vR 12 (some x0), vI x1] σ7 (fun σ34 => Q none σ34))))) ∧ (¬ v5 = 0 → LC 12 σ4 x0 ∧ Bd x1 560 ∧ Bd (gI σ4 1253 x0 0) 2 ∧ ACi g l d MX12_structNamed [vR 12 (some x0), vJ (gJ σ4 1216 x0 0), vI (gI σ4 1219 x0 (gI σ4 1253 x0 0).toNat)] (sI σ4 1228 x0 x1.toNat 2) (fun v39 σ38 => LC 12 σ38 x0 ∧ ACv g l d MX12_next [vR 12 (some x0)] (sI σ38 1231 x0 x1.toNat v39) (fun σ41 => ACv g l d MX12_named [vR 12 (some x0), vI x1] σ41 (fun σ42 => ((¬ (gI σ42 1251 x0 0) = 0 → Q none σ42) ∧ ((gI σ42 1251 x0 0) = 0 → ACi g l d MX12_isSign [vR 12 (some x0), vI 91] σ42 (fun v45 σ44 => ((v45 = 0 → Q none σ44) ∧ (¬ v45 = 0 → LC 12 σ44 x0 ∧ ACv g l d MX12_array [vR 12 (some x0), vI x1] (sI σ44 1228 x0 x1.toNat 3) (fun σ48 => Q none σ48))))))))))))) ∧ (¬ v2 ≤ 0 → LC 12 σ1 x0 ∧ ACi g l d MX12_whole [vR 12 (some x0)] σ1 (fun v51 σ50 => LC 12 σ50 x0 ∧ Bd x1 560 ∧ ACv g l d MX12_next [vR 12 (some x0)] (sI σ50 1229 x0 x1.toNat v51) (fun σ54 => ACv g l d MX12_named [vR 12 (some x0), vI x1] σ54 (fun σ55 => ACv g l d MX12_wholeOn [vR 12 (some x0), vI x1] σ55 (fun σ56 => Q none σ56)))))))) :
    AW g l (d + 1) MX12_core 0 [some (vR 12 (some x0)), some (vI x1)] [] σ Q := by
  refine aw_aload_n dX12_core_0 rfl rfl ?_
  refine aw_invVi (M := MX12_core) (ci := 12) [] rfl mo_X12_whole rfl lm_X12_390 li_X12_whole ls_X12_whole (by decide +kernel) dX12_core_1 rfl (Nat.le_of_ble_eq_true rfl) (ACi.mono (fun v2 σ1 h => ?_) h)
  refine aw_if_le (tgt := 34) dX12_core_4 (by decide) (fun k3 => ?_) (fun k3 => ?_)
  · replace h := h.1 k3
    refine aw_aload_n dX12_core_34 rfl rfl ?_
    refine aw_invVi (M := MX12_core) (ci := 12) [] rfl mo_X12_isName rfl lm_X12_418 li_X12_isName ls_X12_isName (by decide +kernel) dX12_core_35 rfl (Nat.le_of_ble_eq_true rfl) (ACi.mono (fun v5 σ4 h => ?_) h)
    refine aw_if_eq (tgt := 111) dX12_core_38 (by decide) (fun k6 => ?_) (fun k6 => ?_)
    · replace h := h.1 k6
      refine aw_aload_n dX12_core_111 rfl rfl ?_
      refine aw_ldc2 lk_X12_344 dX12_core_112 ?_
      refine aw_invVi (M := MX12_core) (ci := 12) [vJ 1651078259] rfl mo_X12_isWord rfl lm_X12_334 li_X12_isWord ls_X12_isWord (by decide +kernel) dX12_core_115 rfl (Nat.le_of_ble_eq_true rfl) (ACi.mono (fun v8 σ7 h => ?_) h)
      refine aw_if_eq (tgt := 129) dX12_core_118 (by decide) (fun k9 => ?_) (fun k9 => ?_)
      · replace h := h.1 k9
        refine aw_aload_n dX12_core_129 rfl rfl ?_
        refine aw_ldc2 lk_X12_346 dX12_core_130 ?_
        refine aw_invVi (M := MX12_core) (ci := 12) [vJ 1952807028] rfl mo_X12_isWord rfl lm_X12_334 li_X12_isWord ls_X12_isWord (by decide +kernel) dX12_core_133 rfl (Nat.le_of_ble_eq_true rfl) (ACi.mono (fun v11 σ10 h => ?_) h)
        refine aw_if_eq (tgt := 147) dX12_core_136 (by decide) (fun k12 => ?_) (fun k12 => ?_)
        · replace h := h.1 k12
          refine aw_aload_n dX12_core_147 rfl rfl ?_
          refine aw_ldc2 lk_X12_350 dX12_core_148 ?_
          refine aw_invVi (M := MX12_core) (ci := 12) [vJ 504363577198] rfl mo_X12_isWord rfl lm_X12_334 li_X12_isWord ls_X12_isWord (by decide +kernel) dX12_core_151 rfl (Nat.le_of_ble_eq_true rfl) (ACi.mono (fun v14 σ13 h => ?_) h)
          refine aw_if_eq (tgt := 165) dX12_core_154 (by decide) (fun k15 => ?_) (fun k15 => ?_)
          · replace h := h.1 k15
            refine aw_aload_n dX12_core_165 rfl rfl ?_
            refine aw_ldc2 lk_X12_356 dX12_core_166 ?_
            refine aw_invVi (M := MX12_core) (ci := 12) [vJ 29807] rfl mo_X12_isWord rfl lm_X12_334 li_X12_isWord ls_X12_isWord (by decide +kernel) dX12_core_169 rfl (Nat.le_of_ble_eq_true rfl) (ACi.mono (fun v17 σ16 h => ?_) h)
            refine aw_if_eq (tgt := 183) dX12_core_172 (by decide) (fun k18 => ?_) (fun k18 => ?_)
            · replace h := h.1 k18
              refine aw_aload_n dX12_core_183 rfl rfl ?_
              refine aw_ldc2 lk_X12_364 dX12_core_184 ?_
              refine aw_invVi (M := MX12_core) (ci := 12) [vJ 7364964] rfl mo_X12_isWord rfl lm_X12_334 li_X12_isWord ls_X12_isWord (by decide +kernel) dX12_core_187 rfl (Nat.le_of_ble_eq_true rfl) (ACi.mono (fun v20 σ19 h => ?_) h)
              refine aw_if_eq (tgt := 217) dX12_core_190 (by decide) (fun k21 => ?_) (fun k21 => ?_)
              · replace h := h.1 k21
                refine aw_aload_n dX12_core_217 rfl rfl ?_
                refine aw_ldc2 lk_X12_366 dX12_core_218 ?_
                refine aw_invVi (M := MX12_core) (ci := 12) [vJ 469785602403] rfl mo_X12_isWord rfl lm_X12_334 li_X12_isWord ls_X12_isWord (by decide +kernel) dX12_core_221 rfl (Nat.le_of_ble_eq_true rfl) (ACi.mono (fun v23 σ22 h => ?_) h)
                refine aw_if_eq (tgt := 235) dX12_core_224 (by decide) (fun k24 => ?_) (fun k24 => ?_)
                · replace h := h.1 k24
                  refine aw_aload_n dX12_core_235 rfl rfl ?_
                  refine aw_iload_n dX12_core_236 rfl rfl ?_
                  refine aw_invVv (M := MX12_core) (ci := 12) [vI x1] rfl mo_X12_readSum rfl lm_X12_496 li_X12_readSum ls_X12_readSum (by decide +kernel) dX12_core_237 rfl (Nat.le_of_ble_eq_true rfl) (ACv.mono (fun σ25 h => ?_) h)
                  exact aw_ret h rfl dX12_core_240
                · replace h := h.2 k24
                  refine aw_aload_n dX12_core_227 rfl rfl ?_
                  refine aw_iload_n dX12_core_228 rfl rfl ?_
                  refine aw_invVv (M := MX12_core) (ci := 12) [vI x1] rfl mo_X12_readMagic rfl lm_X12_493 li_X12_readMagic ls_X12_readMagic (by decide +kernel) dX12_core_229 rfl (Nat.le_of_ble_eq_true rfl) (ACv.mono (fun σ26 h => ?_) h)
                  refine aw_goto (tgt := 240) dX12_core_232 (by decide) ?_
                  exact aw_ret h rfl dX12_core_240
              · replace h := h.2 k21
                refine aw_aload_n dX12_core_193 rfl rfl ?_
                refine aw_invVv (M := MX12_core) (ci := 12) [] rfl mo_X12_next rfl lm_X12_408 li_X12_next ls_X12_next (by decide +kernel) dX12_core_194 rfl (Nat.le_of_ble_eq_true rfl) (ACv.mono (fun σ27 h => ?_) h)
                refine aw_aload_n dX12_core_197 rfl rfl ?_
                obtain ⟨lc28, h⟩ := h
                refine aw_getA' rfl fk_1228 (by decide) lf_X12_98 dX12_core_198 (LC.ne lc28 rfl rfl) ?_
                refine aw_iload_n dX12_core_201 rfl rfl ?_
                refine aw_bipush (x := 9) dX12_core_202 rfl ?_
                obtain ⟨⟨c29, c29x⟩, h⟩ := h
                refine aw_iastore (by decide) rfl dX12_core_204 c29 (LC.lt lc28 rfl rfl c29x) ?_
                refine aw_aload_n dX12_core_205 rfl rfl ?_
                refine aw_iload_n dX12_core_206 rfl rfl ?_
                refine aw_lconst (x := 1) dX12_core_207 rfl ?_
                refine aw_ldc2 lk_X12_487 dX12_core_208 ?_
                refine aw_invVv (M := MX12_core) (ci := 12) [vI x1, vJ 1, vJ 64] rfl mo_X12_bound rfl lm_X12_489 li_X12_bound ls_X12_bound (by decide +kernel) dX12_core_211 rfl (Nat.le_of_ble_eq_true rfl) (ACv.mono (fun σ30 h => ?_) h)
                refine aw_goto (tgt := 240) dX12_core_214 (by decide) ?_
                exact aw_ret h rfl dX12_core_240
            · replace h := h.2 k18
              refine aw_aload_n dX12_core_175 rfl rfl ?_
              refine aw_iload_n dX12_core_176 rfl rfl ?_
              refine aw_invVv (M := MX12_core) (ci := 12) [vI x1] rfl mo_X12_readPointer rfl lm_X12_484 li_X12_readPointer ls_X12_readPointer (by decide +kernel) dX12_core_177 rfl (Nat.le_of_ble_eq_true rfl) (ACv.mono (fun σ31 h => ?_) h)
              refine aw_goto (tgt := 240) dX12_core_180 (by decide) ?_
              exact aw_ret h rfl dX12_core_240
          · replace h := h.2 k15
            refine aw_aload_n dX12_core_157 rfl rfl ?_
            refine aw_iload_n dX12_core_158 rfl rfl ?_
            refine aw_invVv (M := MX12_core) (ci := 12) [vI x1] rfl mo_X12_readUnion rfl lm_X12_481 li_X12_readUnion ls_X12_readUnion (by decide +kernel) dX12_core_159 rfl (Nat.le_of_ble_eq_true rfl) (ACv.mono (fun σ32 h => ?_) h)
            refine aw_goto (tgt := 240) dX12_core_162 (by decide) ?_
            exact aw_ret h rfl dX12_core_240
        · replace h := h.2 k12
          refine aw_aload_n dX12_core_139 rfl rfl ?_
          refine aw_iload_n dX12_core_140 rfl rfl ?_
          refine aw_invVv (M := MX12_core) (ci := 12) [vI x1] rfl mo_X12_readText rfl lm_X12_478 li_X12_readText ls_X12_readText (by decide +kernel) dX12_core_141 rfl (Nat.le_of_ble_eq_true rfl) (ACv.mono (fun σ33 h => ?_) h)
          refine aw_goto (tgt := 240) dX12_core_144 (by decide) ?_
          exact aw_ret h rfl dX12_core_240
      · replace h := h.2 k9
        refine aw_aload_n dX12_core_121 rfl rfl ?_
        refine aw_iload_n dX12_core_122 rfl rfl ?_
        refine aw_invVv (M := MX12_core) (ci := 12) [vI x1] rfl mo_X12_readBits rfl lm_X12_475 li_X12_readBits ls_X12_readBits (by decide +kernel) dX12_core_123 rfl (Nat.le_of_ble_eq_true rfl) (ACv.mono (fun σ34 h => ?_) h)
        refine aw_goto (tgt := 240) dX12_core_126 (by decide) ?_
        exact aw_ret h rfl dX12_core_240
    · replace h := h.2 k6
      refine aw_aload_n dX12_core_41 rfl rfl ?_
      obtain ⟨lc35, h⟩ := h
      refine aw_getA' rfl fk_1228 (by decide) lf_X12_98 dX12_core_42 (LC.ne lc35 rfl rfl) ?_
      refine aw_iload_n dX12_core_45 rfl rfl ?_
      refine aw_iconst (x := 2) dX12_core_46 rfl ?_
      obtain ⟨⟨c36, c36x⟩, h⟩ := h
      refine aw_iastore (by decide) rfl dX12_core_47 c36 (LC.lt lc35 rfl rfl c36x) ?_
      refine aw_aload_n dX12_core_48 rfl rfl ?_
      refine aw_getA' rfl fk_1231 (by decide) lf_X12_107 dX12_core_49 (LC.ne lc35 rfl rfl) ?_
      refine aw_iload_n dX12_core_52 rfl rfl ?_
      refine aw_aload_n dX12_core_53 rfl rfl ?_
      refine aw_aload_n dX12_core_54 rfl rfl ?_
      refine aw_getJe (v := gJ σ4 1216 x0 0) rfl fk_1216 lf_X12_60 dX12_core_55 rfl ?_
      refine aw_aload_n dX12_core_58 rfl rfl ?_
      refine aw_getA' rfl fk_1219 (by decide) lf_X12_70 dX12_core_59 (LC.ne lc35 rfl rfl) ?_
      refine aw_aload_n dX12_core_62 rfl rfl ?_
      refine aw_getIe (v := gI σ4 1253 x0 0) rfl fk_1253 lf_X12_173 dX12_core_63 rfl ?_
      obtain ⟨⟨c37, c37x⟩, h⟩ := h
      refine aw_ialoade (v := gI σ4 1219 x0 (gI σ4 1253 x0 0).toNat) (by decide) rfl dX12_core_66 c37 (LC.lt lc35 rfl rfl c37x) rfl ?_
      refine aw_invVi (M := MX12_core) (ci := 12) [vJ (gJ σ4 1216 x0 0), vI (gI σ4 1219 x0 (gI σ4 1253 x0 0).toNat)] rfl mo_X12_structNamed rfl lm_X12_414 li_X12_structNamed ls_X12_structNamed (by decide +kernel) dX12_core_67 rfl (Nat.le_of_ble_eq_true rfl) (ACi.mono (fun v39 σ38 h => ?_) h)
      obtain ⟨lc40, h⟩ := h
      refine aw_iastore (by decide) rfl dX12_core_70 c36 (LC.lt lc40 rfl rfl c36x) ?_
      refine aw_aload_n dX12_core_71 rfl rfl ?_
      refine aw_invVv (M := MX12_core) (ci := 12) [] rfl mo_X12_next rfl lm_X12_408 li_X12_next ls_X12_next (by decide +kernel) dX12_core_72 rfl (Nat.le_of_ble_eq_true rfl) (ACv.mono (fun σ41 h => ?_) h)
      refine aw_aload_n dX12_core_75 rfl rfl ?_
      refine aw_iload_n dX12_core_76 rfl rfl ?_
      refine aw_invVv (M := MX12_core) (ci := 12) [vI x1] rfl mo_X12_named rfl lm_X12_466 li_X12_named ls_X12_named (by decide +kernel) dX12_core_77 rfl (Nat.le_of_ble_eq_true rfl) (ACv.mono (fun σ42 h => ?_) h)
      refine aw_aload_n dX12_core_80 rfl rfl ?_
      refine aw_getI' rfl fk_1251 lf_X12_167 dX12_core_81 ?_
      refine aw_if_ne (tgt := 240) dX12_core_84 (by decide) (fun k43 => ?_) (fun k43 => ?_)
      · replace h := h.1 k43
        exact aw_ret h rfl dX12_core_240
      · replace h := h.2 k43
        refine aw_aload_n dX12_core_87 rfl rfl ?_
        refine aw_bipush (x := 91) dX12_core_88 rfl ?_
        refine aw_invVi (M := MX12_core) (ci := 12) [vI 91] rfl mo_X12_isSign rfl lm_X12_401 li_X12_isSign ls_X12_isSign (by decide +kernel) dX12_core_90 rfl (Nat.le_of_ble_eq_true rfl) (ACi.mono (fun v45 σ44 h => ?_) h)
        refine aw_if_eq (tgt := 240) dX12_core_93 (by decide) (fun k46 => ?_) (fun k46 => ?_)
        · replace h := h.1 k46
          exact aw_ret h rfl dX12_core_240
        · replace h := h.2 k46
          refine aw_aload_n dX12_core_96 rfl rfl ?_
          obtain ⟨lc47, h⟩ := h
          refine aw_getA' rfl fk_1228 (by decide) lf_X12_98 dX12_core_97 (LC.ne lc47 rfl rfl) ?_
          refine aw_iload_n dX12_core_100 rfl rfl ?_
          refine aw_iconst (x := 3) dX12_core_101 rfl ?_
          refine aw_iastore (by decide) rfl dX12_core_102 c36 (LC.lt lc47 rfl rfl c36x) ?_
          refine aw_aload_n dX12_core_103 rfl rfl ?_
          refine aw_iload_n dX12_core_104 rfl rfl ?_
          refine aw_invVv (M := MX12_core) (ci := 12) [vI x1] rfl mo_X12_array rfl lm_X12_472 li_X12_array ls_X12_array (by decide +kernel) dX12_core_105 rfl (Nat.le_of_ble_eq_true rfl) (ACv.mono (fun σ48 h => ?_) h)
          refine aw_goto (tgt := 240) dX12_core_108 (by decide) ?_
          exact aw_ret h rfl dX12_core_240
  · replace h := h.2 k3
    refine aw_aload_n dX12_core_7 rfl rfl ?_
    obtain ⟨lc49, h⟩ := h
    refine aw_getA' rfl fk_1229 (by decide) lf_X12_101 dX12_core_8 (LC.ne lc49 rfl rfl) ?_
    refine aw_iload_n dX12_core_11 rfl rfl ?_
    refine aw_aload_n dX12_core_12 rfl rfl ?_
    refine aw_invVi (M := MX12_core) (ci := 12) [] rfl mo_X12_whole rfl lm_X12_390 li_X12_whole ls_X12_whole (by decide +kernel) dX12_core_13 rfl (Nat.le_of_ble_eq_true rfl) (ACi.mono (fun v51 σ50 h => ?_) h)
    obtain ⟨lc52, h⟩ := h
    obtain ⟨⟨c53, c53x⟩, h⟩ := h
    refine aw_iastore (by decide) rfl dX12_core_16 c53 (LC.lt lc52 rfl rfl c53x) ?_
    refine aw_aload_n dX12_core_17 rfl rfl ?_
    refine aw_invVv (M := MX12_core) (ci := 12) [] rfl mo_X12_next rfl lm_X12_408 li_X12_next ls_X12_next (by decide +kernel) dX12_core_18 rfl (Nat.le_of_ble_eq_true rfl) (ACv.mono (fun σ54 h => ?_) h)
    refine aw_aload_n dX12_core_21 rfl rfl ?_
    refine aw_iload_n dX12_core_22 rfl rfl ?_
    refine aw_invVv (M := MX12_core) (ci := 12) [vI x1] rfl mo_X12_named rfl lm_X12_466 li_X12_named ls_X12_named (by decide +kernel) dX12_core_23 rfl (Nat.le_of_ble_eq_true rfl) (ACv.mono (fun σ55 h => ?_) h)
    refine aw_aload_n dX12_core_26 rfl rfl ?_
    refine aw_iload_n dX12_core_27 rfl rfl ?_
    refine aw_invVv (M := MX12_core) (ci := 12) [vI x1] rfl mo_X12_wholeOn rfl lm_X12_469 li_X12_wholeOn ls_X12_wholeOn (by decide +kernel) dX12_core_28 rfl (Nat.le_of_ble_eq_true rfl) (ACv.mono (fun σ56 h => ?_) h)
    refine aw_goto (tgt := 240) dX12_core_31 (by decide) ?_
    exact aw_ret h rfl dX12_core_240
set_option maxRecDepth 4000 in
theorem bk_X12_count_0 {g : GP} {l : Launch} {d : Nat} {σ : St} {Q : Option AV → St → Prop} {x0 : Nat} {x1 : Int}
    (h : ((x1 = 0 → Q (some (vI (gI σ 1200 x0 0))) σ) ∧ (x1 = 1 → Q (some (vI (gI σ 1211 x0 0))) σ) ∧ (x1 = 2 → LC 12 σ x0 ∧ Bd (gI σ 1218 x0 0) 2 ∧ Q (some (vI (gI σ 1219 x0 (gI σ 1218 x0 0).toNat))) σ) ∧ (x1 = 3 → LC 12 σ x0 ∧ Bd (gI σ 1218 x0 0) 2 ∧ Q (some (vI (gI σ 1220 x0 (gI σ 1218 x0 0).toNat))) σ) ∧ (x1 = 4 → Q (some (vI (gI σ 1264 x0 0))) σ) ∧ (x1 = 5 → AW g l d MX12_count 85 [some (vR 12 (some x0)), none, some (vI 0), some (vI 0), none] [] σ Q) ∧ (x1 = 6 → AW g l d MX12_count 112 [some (vR 12 (some x0)), none, some (vI 0), some (vI 0), none] [] σ Q) ∧ (x1 = 7 → AW g l d MX12_count 139 [some (vR 12 (some x0)), none, some (vI 0), some (vI 0), none] [] σ Q) ∧ (x1 < 0 ∨ 7 < x1 → Q (some (vI (-1))) σ))) :
    AW g l d MX12_count 0 [some (vR 12 (some x0)), some (vI x1), none, none, none] [] σ Q := by
  refine aw_iconst (x := 0) dX12_count_0 rfl ?_
  refine aw_istore_n (L' := [some (vR 12 (some x0)), some (vI x1), some (vI 0), none, none]) dX12_count_1 rfl (by decide) rfl ?_
  refine aw_iload_n dX12_count_2 rfl rfl ?_
  obtain ⟨h0, h1, h2, h3, h4, h5, h6, h7, hd⟩ := h
  refine aw_table (M := MX12_count) (dt := 189) [48, 53, 58, 68, 78, 83, 110, 137] dX12_count_3 (by decide) (by decide) (by decide) ⟨fun hc => ?_, fun hc => ?_, fun hc => ?_, fun hc => ?_, fun hc => ?_, fun hc => ?_, fun hc => ?_, fun hc => ?_, trivial⟩ (fun hc => ?_)
  · have h := h0 hc; clear h0 h1 h2 h3 h4 h5 h6 h7 hd
    refine aw_aload_n dX12_count_48 rfl rfl ?_
    refine aw_getI' rfl fk_1200 lf_X12_7 dX12_count_49 ?_
    exact aw_ireturn dX12_count_52 rfl h
  · have h := h1 hc; clear h0 h1 h2 h3 h4 h5 h6 h7 hd
    refine aw_aload_n dX12_count_53 rfl rfl ?_
    refine aw_getI' rfl fk_1211 lf_X12_45 dX12_count_54 ?_
    exact aw_ireturn dX12_count_57 rfl h
  · have h := h2 hc; clear h0 h1 h2 h3 h4 h5 h6 h7 hd
    refine aw_aload_n dX12_count_58 rfl rfl ?_
    obtain ⟨lc1, h⟩ := h
    refine aw_getA' rfl fk_1219 (by decide) lf_X12_70 dX12_count_59 (LC.ne lc1 rfl rfl) ?_
    refine aw_aload_n dX12_count_62 rfl rfl ?_
    refine aw_getI' rfl fk_1218 lf_X12_67 dX12_count_63 ?_
    obtain ⟨⟨c2, c2x⟩, h⟩ := h
    refine aw_iaload (by decide) rfl dX12_count_66 c2 (LC.lt lc1 rfl rfl c2x) ?_
    exact aw_ireturn dX12_count_67 rfl h
  · have h := h3 hc; clear h0 h1 h2 h3 h4 h5 h6 h7 hd
    refine aw_aload_n dX12_count_68 rfl rfl ?_
    obtain ⟨lc3, h⟩ := h
    refine aw_getA' rfl fk_1220 (by decide) lf_X12_73 dX12_count_69 (LC.ne lc3 rfl rfl) ?_
    refine aw_aload_n dX12_count_72 rfl rfl ?_
    refine aw_getI' rfl fk_1218 lf_X12_67 dX12_count_73 ?_
    obtain ⟨⟨c4, c4x⟩, h⟩ := h
    refine aw_iaload (by decide) rfl dX12_count_76 c4 (LC.lt lc3 rfl rfl c4x) ?_
    exact aw_ireturn dX12_count_77 rfl h
  · have h := h4 hc; clear h0 h1 h2 h3 h4 h5 h6 h7 hd
    refine aw_aload_n dX12_count_78 rfl rfl ?_
    refine aw_getI' rfl fk_1264 lf_X12_208 dX12_count_79 ?_
    exact aw_ireturn dX12_count_82 rfl h
  · have h := h5 hc; clear h0 h1 h2 h3 h4 h5 h6 h7 hd
    refine aw_iconst (x := 0) dX12_count_83 rfl ?_
    refine aw_istore_n (L' := [some (vR 12 (some x0)), some (vI x1), some (vI 0), some (vI 0), none]) dX12_count_84 rfl (by decide) rfl ?_
    exact aw_fgt (L' := [some (vR 12 (some x0)), none, some (vI 0), some (vI 0), none]) ⟨rfl, ⟨rfl, ⟨rfl, trivial⟩⟩⟩ h
  · have h := h6 hc; clear h0 h1 h2 h3 h4 h5 h6 h7 hd
    refine aw_iconst (x := 0) dX12_count_110 rfl ?_
    refine aw_istore_n (L' := [some (vR 12 (some x0)), some (vI x1), some (vI 0), some (vI 0), none]) dX12_count_111 rfl (by decide) rfl ?_
    exact aw_fgt (L' := [some (vR 12 (some x0)), none, some (vI 0), some (vI 0), none]) ⟨rfl, ⟨rfl, ⟨rfl, trivial⟩⟩⟩ h
  · have h := h7 hc; clear h0 h1 h2 h3 h4 h5 h6 h7 hd
    refine aw_iconst (x := 0) dX12_count_137 rfl ?_
    refine aw_istore_n (L' := [some (vR 12 (some x0)), some (vI x1), some (vI 0), some (vI 0), none]) dX12_count_138 rfl (by decide) rfl ?_
    exact aw_fgt (L' := [some (vR 12 (some x0)), none, some (vI 0), some (vI 0), none]) ⟨rfl, ⟨rfl, ⟨rfl, trivial⟩⟩⟩ h
  · have h := hd hc; clear h0 h1 h2 h3 h4 h5 h6 h7 hd
    refine aw_iconst (x := (-1)) dX12_count_189 rfl ?_
    exact aw_ireturn dX12_count_190 rfl h
set_option maxRecDepth 4000 in
theorem bk_X12_count_85 {g : GP} {l : Launch} {d : Nat} {σ : St} {Q : Option AV → St → Prop} {x0 : Nat} {x2 : Int} {x3 : Int}
    (h : (((gI σ 1264 x0 0) ≤ x3 → Q (some (vI x2)) σ) ∧ (¬ (gI σ 1264 x0 0) ≤ x3 → LC 12 σ x0 ∧ Bd x3 7 ∧ R32 (x2 + (gI σ 1266 x0 x3.toNat)) ∧ ∀ z5 : Int, z5 = x2 + (gI σ 1266 x0 x3.toNat) → R32 (x3 + 1) ∧ AW g l d MX12_count 85 [some (vR 12 (some x0)), none, some (vI z5), some (vI (x3 + 1)), none] [] σ Q))) :
    AW g l d MX12_count 85 [some (vR 12 (some x0)), none, some (vI x2), some (vI x3), none] [] σ Q := by
  refine aw_iload_n dX12_count_85 rfl rfl ?_
  refine aw_aload_n dX12_count_86 rfl rfl ?_
  refine aw_getI' rfl fk_1264 lf_X12_208 dX12_count_87 ?_
  refine aw_icmp_ge (tgt := 108) dX12_count_90 (by decide) (fun k1 => ?_) (fun k1 => ?_)
  · replace h := h.1 k1
    refine aw_iload_n dX12_count_108 rfl rfl ?_
    exact aw_ireturn dX12_count_109 rfl h
  · replace h := h.2 k1
    refine aw_iload_n dX12_count_93 rfl rfl ?_
    refine aw_aload_n dX12_count_94 rfl rfl ?_
    obtain ⟨lc2, h⟩ := h
    refine aw_getA' rfl fk_1266 (by decide) lf_X12_214 dX12_count_95 (LC.ne lc2 rfl rfl) ?_
    refine aw_iload_n dX12_count_98 rfl rfl ?_
    obtain ⟨⟨c3, c3x⟩, h⟩ := h
    refine aw_iaload (by decide) rfl dX12_count_99 c3 (LC.lt lc2 rfl rfl c3x) ?_
    obtain ⟨⟨c4, c4x⟩, h⟩ := h
    refine aw_iaddc dX12_count_100 c4 c4x ?_
    refine aw_istore_n (L' := [some (vR 12 (some x0)), none, some (vI (x2 + (gI σ 1266 x0 x3.toNat))), some (vI x3), none]) dX12_count_101 rfl (by decide) rfl ?_
    obtain ⟨z5, hz5⟩ : ∃ z : Int, z = x2 + (gI σ 1266 x0 x3.toNat) := ⟨_, rfl⟩
    rw [← hz5]
    replace h := h z5 hz5
    obtain ⟨⟨c6, c6x⟩, h⟩ := h
    refine aw_iincc (L' := [some (vR 12 (some x0)), none, some (vI z5), some (vI (x3 + 1)), none]) dX12_count_102 rfl (by decide) rfl c6 c6x rfl ?_
    refine aw_goto (tgt := 85) dX12_count_105 (by decide) ?_
    exact aw_fgt (L' := [some (vR 12 (some x0)), none, some (vI z5), some (vI (x3 + 1)), none]) ⟨rfl, ⟨rfl, ⟨rfl, trivial⟩⟩⟩ h
set_option maxRecDepth 4000 in
theorem bk_X12_count_112 {g : GP} {l : Launch} {d : Nat} {σ : St} {Q : Option AV → St → Prop} {x0 : Nat} {x2 : Int} {x3 : Int}
    (h : (((gI σ 1200 x0 0) ≤ x3 → Q (some (vI x2)) σ) ∧ (¬ (gI σ 1200 x0 0) ≤ x3 → LC 12 σ x0 ∧ Bd x3 6 ∧ R32 (x2 + (gI σ 1202 x0 x3.toNat)) ∧ ∀ z5 : Int, z5 = x2 + (gI σ 1202 x0 x3.toNat) → R32 (x3 + 1) ∧ AW g l d MX12_count 112 [some (vR 12 (some x0)), none, some (vI z5), some (vI (x3 + 1)), none] [] σ Q))) :
    AW g l d MX12_count 112 [some (vR 12 (some x0)), none, some (vI x2), some (vI x3), none] [] σ Q := by
  refine aw_iload_n dX12_count_112 rfl rfl ?_
  refine aw_aload_n dX12_count_113 rfl rfl ?_
  refine aw_getI' rfl fk_1200 lf_X12_7 dX12_count_114 ?_
  refine aw_icmp_ge (tgt := 135) dX12_count_117 (by decide) (fun k1 => ?_) (fun k1 => ?_)
  · replace h := h.1 k1
    refine aw_iload_n dX12_count_135 rfl rfl ?_
    exact aw_ireturn dX12_count_136 rfl h
  · replace h := h.2 k1
    refine aw_iload_n dX12_count_120 rfl rfl ?_
    refine aw_aload_n dX12_count_121 rfl rfl ?_
    obtain ⟨lc2, h⟩ := h
    refine aw_getA' rfl fk_1202 (by decide) lf_X12_17 dX12_count_122 (LC.ne lc2 rfl rfl) ?_
    refine aw_iload_n dX12_count_125 rfl rfl ?_
    obtain ⟨⟨c3, c3x⟩, h⟩ := h
    refine aw_iaload (by decide) rfl dX12_count_126 c3 (LC.lt lc2 rfl rfl c3x) ?_
    obtain ⟨⟨c4, c4x⟩, h⟩ := h
    refine aw_iaddc dX12_count_127 c4 c4x ?_
    refine aw_istore_n (L' := [some (vR 12 (some x0)), none, some (vI (x2 + (gI σ 1202 x0 x3.toNat))), some (vI x3), none]) dX12_count_128 rfl (by decide) rfl ?_
    obtain ⟨z5, hz5⟩ : ∃ z : Int, z = x2 + (gI σ 1202 x0 x3.toNat) := ⟨_, rfl⟩
    rw [← hz5]
    replace h := h z5 hz5
    obtain ⟨⟨c6, c6x⟩, h⟩ := h
    refine aw_iincc (L' := [some (vR 12 (some x0)), none, some (vI z5), some (vI (x3 + 1)), none]) dX12_count_129 rfl (by decide) rfl c6 c6x rfl ?_
    refine aw_goto (tgt := 112) dX12_count_132 (by decide) ?_
    exact aw_fgt (L' := [some (vR 12 (some x0)), none, some (vI z5), some (vI (x3 + 1)), none]) ⟨rfl, ⟨rfl, ⟨rfl, trivial⟩⟩⟩ h
set_option maxRecDepth 4000 in
theorem bk_X12_count_139 {g : GP} {l : Launch} {d : Nat} {σ : St} {Q : Option AV → St → Prop} {x0 : Nat} {x2 : Int} {x3 : Int}
    (h : (((gI σ 1200 x0 0) ≤ x3 → Q (some (vI x2)) σ) ∧ (¬ (gI σ 1200 x0 0) ≤ x3 → AW g l d MX12_count 150 [some (vR 12 (some x0)), none, some (vI x2), some (vI x3), some (vI 0)] [] σ Q))) :
    AW g l d MX12_count 139 [some (vR 12 (some x0)), none, some (vI x2), some (vI x3), none] [] σ Q := by
  refine aw_iload_n dX12_count_139 rfl rfl ?_
  refine aw_aload_n dX12_count_140 rfl rfl ?_
  refine aw_getI' rfl fk_1200 lf_X12_7 dX12_count_141 ?_
  refine aw_icmp_ge (tgt := 187) dX12_count_144 (by decide) (fun k1 => ?_) (fun k1 => ?_)
  · replace h := h.1 k1
    refine aw_iload_n dX12_count_187 rfl rfl ?_
    exact aw_ireturn dX12_count_188 rfl h
  · replace h := h.2 k1
    refine aw_iconst (x := 0) dX12_count_147 rfl ?_
    refine aw_istore (L' := [some (vR 12 (some x0)), none, some (vI x2), some (vI x3), some (vI 0)]) dX12_count_148 (by decide) rfl ?_
    exact aw_fgt (L' := [some (vR 12 (some x0)), none, some (vI x2), some (vI x3), some (vI 0)]) ⟨rfl, ⟨rfl, ⟨rfl, ⟨rfl, trivial⟩⟩⟩⟩ h
set_option maxRecDepth 4000 in
theorem bk_X12_count_150 {g : GP} {l : Launch} {d : Nat} {σ : St} {Q : Option AV → St → Prop} {x0 : Nat} {x2 : Int} {x3 : Int} {x4 : Int}
    (h : LC 12 σ x0 ∧ Bd x3 6 ∧ (((gI σ 1202 x0 x3.toNat) ≤ x4 → R32 (x3 + 1) ∧ AW g l d MX12_count 139 [some (vR 12 (some x0)), none, some (vI x2), some (vI (x3 + 1)), none] [] σ Q) ∧ (¬ (gI σ 1202 x0 x3.toNat) ≤ x4 → R32 (4 * x3) ∧ R32 ((4 * x3) + x4) ∧ Bd ((4 * x3) + x4) 24 ∧ R32 (x2 + (gI σ 1205 x0 ((4 * x3) + x4).toNat)) ∧ ∀ z9 : Int, z9 = x2 + (gI σ 1205 x0 ((4 * x3) + x4).toNat) → R32 (x4 + 1) ∧ AW g l d MX12_count 150 [some (vR 12 (some x0)), none, some (vI z9), some (vI x3), some (vI (x4 + 1))] [] σ Q))) :
    AW g l d MX12_count 150 [some (vR 12 (some x0)), none, some (vI x2), some (vI x3), some (vI x4)] [] σ Q := by
  refine aw_iload dX12_count_150 rfl ?_
  refine aw_aload_n dX12_count_152 rfl rfl ?_
  obtain ⟨lc1, h⟩ := h
  refine aw_getA' rfl fk_1202 (by decide) lf_X12_17 dX12_count_153 (LC.ne lc1 rfl rfl) ?_
  refine aw_iload_n dX12_count_156 rfl rfl ?_
  obtain ⟨⟨c2, c2x⟩, h⟩ := h
  refine aw_iaload (by decide) rfl dX12_count_157 c2 (LC.lt lc1 rfl rfl c2x) ?_
  refine aw_icmp_ge (tgt := 181) dX12_count_158 (by decide) (fun k3 => ?_) (fun k3 => ?_)
  · replace h := h.1 k3
    obtain ⟨⟨c4, c4x⟩, h⟩ := h
    refine aw_iincc (L' := [some (vR 12 (some x0)), none, some (vI x2), some (vI (x3 + 1)), some (vI x4)]) dX12_count_181 rfl (by decide) rfl c4 c4x rfl ?_
    refine aw_goto (tgt := 139) dX12_count_184 (by decide) ?_
    exact aw_fgt (L' := [some (vR 12 (some x0)), none, some (vI x2), some (vI (x3 + 1)), none]) ⟨rfl, ⟨rfl, ⟨rfl, trivial⟩⟩⟩ h
  · replace h := h.2 k3
    refine aw_iload_n dX12_count_161 rfl rfl ?_
    refine aw_aload_n dX12_count_162 rfl rfl ?_
    refine aw_getA' rfl fk_1205 (by decide) lf_X12_27 dX12_count_163 (LC.ne lc1 rfl rfl) ?_
    refine aw_iconst (x := 4) dX12_count_166 rfl ?_
    refine aw_iload_n dX12_count_167 rfl rfl ?_
    obtain ⟨⟨c5, c5x⟩, h⟩ := h
    refine aw_imulc dX12_count_168 c5 c5x ?_
    refine aw_iload dX12_count_169 rfl ?_
    obtain ⟨⟨c6, c6x⟩, h⟩ := h
    refine aw_iaddc dX12_count_171 c6 c6x ?_
    obtain ⟨⟨c7, c7x⟩, h⟩ := h
    refine aw_iaload (by decide) rfl dX12_count_172 c7 (LC.lt lc1 rfl rfl c7x) ?_
    obtain ⟨⟨c8, c8x⟩, h⟩ := h
    refine aw_iaddc dX12_count_173 c8 c8x ?_
    refine aw_istore_n (L' := [some (vR 12 (some x0)), none, some (vI (x2 + (gI σ 1205 x0 ((4 * x3) + x4).toNat))), some (vI x3), some (vI x4)]) dX12_count_174 rfl (by decide) rfl ?_
    obtain ⟨z9, hz9⟩ : ∃ z : Int, z = x2 + (gI σ 1205 x0 ((4 * x3) + x4).toNat) := ⟨_, rfl⟩
    rw [← hz9]
    replace h := h z9 hz9
    obtain ⟨⟨c10, c10x⟩, h⟩ := h
    refine aw_iincc (L' := [some (vR 12 (some x0)), none, some (vI z9), some (vI x3), some (vI (x4 + 1))]) dX12_count_175 rfl (by decide) rfl c10 c10x rfl ?_
    refine aw_goto (tgt := 150) dX12_count_178 (by decide) ?_
    exact aw_fgt (L' := [some (vR 12 (some x0)), none, some (vI z9), some (vI x3), some (vI (x4 + 1))]) ⟨rfl, ⟨rfl, ⟨rfl, ⟨rfl, trivial⟩⟩⟩⟩ h
set_option maxRecDepth 4000 in
theorem bk_X12_covered_0 {g : GP} {l : Launch} {d : Nat} {σ : St} {Q : Option AV → St → Prop} {x0 : Nat} {x1 : Int} {x2 : Int}
    (h : ACi g l d MX12_isNode [vR 12 (some x0), vI x1, vI 0] σ (fun v2 σ1 => ((¬ v2 = 0 → R32 (400 * x1) ∧ AW g l (d + 1) MX12_covered 23 [some (vR 12 (some x0)), some (vI x1), some (vI x2), some (vI (-1)), some (vI (-1)), some (vI (400 * x1)), none, none] [] σ1 Q) ∧ (v2 = 0 → Q (some (vI (-1))) σ1)))) :
    AW g l (d + 1) MX12_covered 0 [some (vR 12 (some x0)), some (vI x1), some (vI x2), none, none, none, none, none] [] σ Q := by
  refine aw_aload_n dX12_covered_0 rfl rfl ?_
  refine aw_iload_n dX12_covered_1 rfl rfl ?_
  refine aw_iconst (x := 0) dX12_covered_2 rfl ?_
  refine aw_invVi (M := MX12_covered) (ci := 12) [vI x1, vI 0] rfl mo_X12_isNode rfl lm_X12_688 li_X12_isNode ls_X12_isNode (by decide +kernel) dX12_covered_3 rfl (Nat.le_of_ble_eq_true rfl) (ACi.mono (fun v2 σ1 h => ?_) h)
  refine aw_if_ne (tgt := 11) dX12_covered_6 (by decide) (fun k3 => ?_) (fun k3 => ?_)
  · replace h := h.1 k3
    refine aw_iconst (x := (-1)) dX12_covered_11 rfl ?_
    refine aw_istore_n (L' := [some (vR 12 (some x0)), some (vI x1), some (vI x2), some (vI (-1)), none, none, none, none]) dX12_covered_12 rfl (by decide) rfl ?_
    refine aw_iconst (x := (-1)) dX12_covered_13 rfl ?_
    refine aw_istore (L' := [some (vR 12 (some x0)), some (vI x1), some (vI x2), some (vI (-1)), some (vI (-1)), none, none, none]) dX12_covered_14 (by decide) rfl ?_
    refine aw_sipush (x := 400) dX12_covered_16 rfl ?_
    refine aw_iload_n dX12_covered_19 rfl rfl ?_
    obtain ⟨⟨c4, c4x⟩, h⟩ := h
    refine aw_imulc dX12_covered_20 c4 c4x ?_
    refine aw_istore (L' := [some (vR 12 (some x0)), some (vI x1), some (vI x2), some (vI (-1)), some (vI (-1)), some (vI (400 * x1)), none, none]) dX12_covered_21 (by decide) rfl ?_
    exact aw_fgt (L' := [some (vR 12 (some x0)), some (vI x1), some (vI x2), some (vI (-1)), some (vI (-1)), some (vI (400 * x1)), none, none]) ⟨rfl, ⟨rfl, ⟨rfl, ⟨rfl, ⟨rfl, ⟨rfl, trivial⟩⟩⟩⟩⟩⟩ h
  · replace h := h.2 k3
    refine aw_iconst (x := (-1)) dX12_covered_9 rfl ?_
    exact aw_ireturn dX12_covered_10 rfl h
set_option maxRecDepth 4000 in
theorem bk_X12_covered_23 {g : GP} {l : Launch} {d : Nat} {σ : St} {Q : Option AV → St → Prop} {x0 : Nat} {x1 : Int} {x2 : Int} {x3 : Int} {x4 : Int} {x5 : Int}
    (h : R32 (400 * x1) ∧ LC 12 σ x0 ∧ Bd x1 7 ∧ R32 ((400 * x1) + (gI σ 1266 x0 x1.toNat)) ∧ ((((400 * x1) + (gI σ 1266 x0 x1.toNat)) ≤ x5 → ACi g l d MX12_outward [vR 12 (some x0), vI x3] σ (fun v7 σ6 => Q (some (vI v7)) σ6)) ∧ (¬ ((400 * x1) + (gI σ 1266 x0 x1.toNat)) ≤ x5 → Bd x5 2800 ∧ ((x2 < (gI σ 1268 x0 x5.toNat) → R32 (x5 + 1) ∧ AW g l (d + 1) MX12_covered 23 [some (vR 12 (some x0)), some (vI x1), some (vI x2), some (vI x3), some (vI x4), some (vI (x5 + 1)), none, none] [] σ Q) ∧ (¬ x2 < (gI σ 1268 x0 x5.toNat) → ((x2 < (gI σ 1269 x0 x5.toNat) → AW g l (d + 1) MX12_covered 77 [some (vR 12 (some x0)), some (vI x1), some (vI x2), some (vI x3), some (vI x4), some (vI x5), some (vI 0), some (vI (gI σ 1270 x0 x5.toNat))] [] σ Q) ∧ (¬ x2 < (gI σ 1269 x0 x5.toNat) → R32 (x5 + 1) ∧ AW g l (d + 1) MX12_covered 23 [some (vR 12 (some x0)), some (vI x1), some (vI x2), some (vI x3), some (vI x4), some (vI (x5 + 1)), none, none] [] σ Q))))))) :
    AW g l (d + 1) MX12_covered 23 [some (vR 12 (some x0)), some (vI x1), some (vI x2), some (vI x3), some (vI x4), some (vI x5), none, none] [] σ Q := by
  refine aw_iload dX12_covered_23 rfl ?_
  refine aw_sipush (x := 400) dX12_covered_25 rfl ?_
  refine aw_iload_n dX12_covered_28 rfl rfl ?_
  obtain ⟨⟨c1, c1x⟩, h⟩ := h
  refine aw_imulc dX12_covered_29 c1 c1x ?_
  refine aw_aload_n dX12_covered_30 rfl rfl ?_
  obtain ⟨lc2, h⟩ := h
  refine aw_getA' rfl fk_1266 (by decide) lf_X12_214 dX12_covered_31 (LC.ne lc2 rfl rfl) ?_
  refine aw_iload_n dX12_covered_34 rfl rfl ?_
  obtain ⟨⟨c3, c3x⟩, h⟩ := h
  refine aw_iaload (by decide) rfl dX12_covered_35 c3 (LC.lt lc2 rfl rfl c3x) ?_
  obtain ⟨⟨c4, c4x⟩, h⟩ := h
  refine aw_iaddc dX12_covered_36 c4 c4x ?_
  refine aw_icmp_ge (tgt := 120) dX12_covered_37 (by decide) (fun k5 => ?_) (fun k5 => ?_)
  · replace h := h.1 k5
    refine aw_aload_n dX12_covered_120 rfl rfl ?_
    refine aw_iload_n dX12_covered_121 rfl rfl ?_
    refine aw_invVi (M := MX12_covered) (ci := 12) [vI x3] rfl mo_X12_outward rfl lm_X12_691 li_X12_outward ls_X12_outward (by decide +kernel) dX12_covered_122 rfl (Nat.le_of_ble_eq_true rfl) (ACi.mono (fun v7 σ6 h => ?_) h)
    exact aw_ireturn dX12_covered_125 rfl h
  · replace h := h.2 k5
    refine aw_aload_n dX12_covered_40 rfl rfl ?_
    refine aw_getA' rfl fk_1268 (by decide) lf_X12_220 dX12_covered_41 (LC.ne lc2 rfl rfl) ?_
    refine aw_iload dX12_covered_44 rfl ?_
    obtain ⟨⟨c8, c8x⟩, h⟩ := h
    refine aw_iaload (by decide) rfl dX12_covered_46 c8 (LC.lt lc2 rfl rfl c8x) ?_
    refine aw_iload_n dX12_covered_47 rfl rfl ?_
    refine aw_icmp_gt (tgt := 114) dX12_covered_48 (by decide) (fun k9 => ?_) (fun k9 => ?_)
    · replace h := h.1 k9
      obtain ⟨⟨c10, c10x⟩, h⟩ := h
      refine aw_iincc (L' := [some (vR 12 (some x0)), some (vI x1), some (vI x2), some (vI x3), some (vI x4), some (vI (x5 + 1)), none, none]) dX12_covered_114 rfl (by decide) rfl c10 c10x rfl ?_
      refine aw_goto (tgt := 23) dX12_covered_117 (by decide) ?_
      exact aw_fgt (L' := [some (vR 12 (some x0)), some (vI x1), some (vI x2), some (vI x3), some (vI x4), some (vI (x5 + 1)), none, none]) ⟨rfl, ⟨rfl, ⟨rfl, ⟨rfl, ⟨rfl, ⟨rfl, trivial⟩⟩⟩⟩⟩⟩ h
    · replace h := h.2 k9
      refine aw_aload_n dX12_covered_51 rfl rfl ?_
      refine aw_getA' rfl fk_1269 (by decide) lf_X12_223 dX12_covered_52 (LC.ne lc2 rfl rfl) ?_
      refine aw_iload dX12_covered_55 rfl ?_
      refine aw_iaload (by decide) rfl dX12_covered_57 c8 (LC.lt lc2 rfl rfl c8x) ?_
      refine aw_iload_n dX12_covered_58 rfl rfl ?_
      refine aw_icmp_gt (tgt := 65) dX12_covered_59 (by decide) (fun k11 => ?_) (fun k11 => ?_)
      · replace h := h.1 k11
        refine aw_iconst (x := 0) dX12_covered_65 rfl ?_
        refine aw_istore (L' := [some (vR 12 (some x0)), some (vI x1), some (vI x2), some (vI x3), some (vI x4), some (vI x5), some (vI 0), none]) dX12_covered_66 (by decide) rfl ?_
        refine aw_aload_n dX12_covered_68 rfl rfl ?_
        refine aw_getA' rfl fk_1270 (by decide) lf_X12_226 dX12_covered_69 (LC.ne lc2 rfl rfl) ?_
        refine aw_iload dX12_covered_72 rfl ?_
        refine aw_iaload (by decide) rfl dX12_covered_74 c8 (LC.lt lc2 rfl rfl c8x) ?_
        refine aw_istore (L' := [some (vR 12 (some x0)), some (vI x1), some (vI x2), some (vI x3), some (vI x4), some (vI x5), some (vI 0), some (vI (gI σ 1270 x0 x5.toNat))]) dX12_covered_75 (by decide) rfl ?_
        exact aw_fgt (L' := [some (vR 12 (some x0)), some (vI x1), some (vI x2), some (vI x3), some (vI x4), some (vI x5), some (vI 0), some (vI (gI σ 1270 x0 x5.toNat))]) ⟨rfl, ⟨rfl, ⟨rfl, ⟨rfl, ⟨rfl, ⟨rfl, ⟨rfl, ⟨rfl, trivial⟩⟩⟩⟩⟩⟩⟩⟩ h
      · replace h := h.2 k11
        refine aw_goto (tgt := 114) dX12_covered_62 (by decide) ?_
        obtain ⟨⟨c12, c12x⟩, h⟩ := h
        refine aw_iincc (L' := [some (vR 12 (some x0)), some (vI x1), some (vI x2), some (vI x3), some (vI x4), some (vI (x5 + 1)), none, none]) dX12_covered_114 rfl (by decide) rfl c12 c12x rfl ?_
        refine aw_goto (tgt := 23) dX12_covered_117 (by decide) ?_
        exact aw_fgt (L' := [some (vR 12 (some x0)), some (vI x1), some (vI x2), some (vI x3), some (vI x4), some (vI (x5 + 1)), none, none]) ⟨rfl, ⟨rfl, ⟨rfl, ⟨rfl, ⟨rfl, ⟨rfl, trivial⟩⟩⟩⟩⟩⟩ h
set_option maxRecDepth 4000 in
theorem bk_X12_covered_77 {g : GP} {l : Launch} {d : Nat} {σ : St} {Q : Option AV → St → Prop} {x0 : Nat} {x1 : Int} {x2 : Int} {x3 : Int} {x4 : Int} {x5 : Int} {x6 : Int} {x7 : Int}
    (h : ((x7 < 0 → ((x4 < x6 → R32 (x5 + 1) ∧ AW g l (d + 1) MX12_covered 23 [some (vR 12 (some x0)), some (vI x1), some (vI x2), some (vI x5), some (vI x6), some (vI (x5 + 1)), none, none] [] σ Q) ∧ (¬ x4 < x6 → R32 (x5 + 1) ∧ AW g l (d + 1) MX12_covered 23 [some (vR 12 (some x0)), some (vI x1), some (vI x2), some (vI x3), some (vI x4), some (vI (x5 + 1)), none, none] [] σ Q))) ∧ (¬ x7 < 0 → R32 (x6 + 1) ∧ LC 12 σ x0 ∧ Bd x7 2800 ∧ AW g l (d + 1) MX12_covered 77 [some (vR 12 (some x0)), some (vI x1), some (vI x2), some (vI x3), some (vI x4), some (vI x5), some (vI (x6 + 1)), some (vI (gI σ 1270 x0 x7.toNat))] [] σ Q))) :
    AW g l (d + 1) MX12_covered 77 [some (vR 12 (some x0)), some (vI x1), some (vI x2), some (vI x3), some (vI x4), some (vI x5), some (vI x6), some (vI x7)] [] σ Q := by
  refine aw_iload dX12_covered_77 rfl ?_
  refine aw_if_lt (tgt := 97) dX12_covered_79 (by decide) (fun k1 => ?_) (fun k1 => ?_)
  · replace h := h.1 k1
    refine aw_iload dX12_covered_97 rfl ?_
    refine aw_iload dX12_covered_99 rfl ?_
    refine aw_icmp_gt (tgt := 107) dX12_covered_101 (by decide) (fun k2 => ?_) (fun k2 => ?_)
    · replace h := h.1 k2
      refine aw_iload dX12_covered_107 rfl ?_
      refine aw_istore (L' := [some (vR 12 (some x0)), some (vI x1), some (vI x2), some (vI x3), some (vI x6), some (vI x5), some (vI x6), some (vI x7)]) dX12_covered_109 (by decide) rfl ?_
      refine aw_iload dX12_covered_111 rfl ?_
      refine aw_istore_n (L' := [some (vR 12 (some x0)), some (vI x1), some (vI x2), some (vI x5), some (vI x6), some (vI x5), some (vI x6), some (vI x7)]) dX12_covered_113 rfl (by decide) rfl ?_
      obtain ⟨⟨c3, c3x⟩, h⟩ := h
      refine aw_iincc (L' := [some (vR 12 (some x0)), some (vI x1), some (vI x2), some (vI x5), some (vI x6), some (vI (x5 + 1)), some (vI x6), some (vI x7)]) dX12_covered_114 rfl (by decide) rfl c3 c3x rfl ?_
      refine aw_goto (tgt := 23) dX12_covered_117 (by decide) ?_
      exact aw_fgt (L' := [some (vR 12 (some x0)), some (vI x1), some (vI x2), some (vI x5), some (vI x6), some (vI (x5 + 1)), none, none]) ⟨rfl, ⟨rfl, ⟨rfl, ⟨rfl, ⟨rfl, ⟨rfl, trivial⟩⟩⟩⟩⟩⟩ h
    · replace h := h.2 k2
      refine aw_goto (tgt := 114) dX12_covered_104 (by decide) ?_
      obtain ⟨⟨c4, c4x⟩, h⟩ := h
      refine aw_iincc (L' := [some (vR 12 (some x0)), some (vI x1), some (vI x2), some (vI x3), some (vI x4), some (vI (x5 + 1)), some (vI x6), some (vI x7)]) dX12_covered_114 rfl (by decide) rfl c4 c4x rfl ?_
      refine aw_goto (tgt := 23) dX12_covered_117 (by decide) ?_
      exact aw_fgt (L' := [some (vR 12 (some x0)), some (vI x1), some (vI x2), some (vI x3), some (vI x4), some (vI (x5 + 1)), none, none]) ⟨rfl, ⟨rfl, ⟨rfl, ⟨rfl, ⟨rfl, ⟨rfl, trivial⟩⟩⟩⟩⟩⟩ h
  · replace h := h.2 k1
    obtain ⟨⟨c5, c5x⟩, h⟩ := h
    refine aw_iincc (L' := [some (vR 12 (some x0)), some (vI x1), some (vI x2), some (vI x3), some (vI x4), some (vI x5), some (vI (x6 + 1)), some (vI x7)]) dX12_covered_82 rfl (by decide) rfl c5 c5x rfl ?_
    refine aw_aload_n dX12_covered_85 rfl rfl ?_
    obtain ⟨lc6, h⟩ := h
    refine aw_getA' rfl fk_1270 (by decide) lf_X12_226 dX12_covered_86 (LC.ne lc6 rfl rfl) ?_
    refine aw_iload dX12_covered_89 rfl ?_
    obtain ⟨⟨c7, c7x⟩, h⟩ := h
    refine aw_iaload (by decide) rfl dX12_covered_91 c7 (LC.lt lc6 rfl rfl c7x) ?_
    refine aw_istore (L' := [some (vR 12 (some x0)), some (vI x1), some (vI x2), some (vI x3), some (vI x4), some (vI x5), some (vI (x6 + 1)), some (vI (gI σ 1270 x0 x7.toNat))]) dX12_covered_92 (by decide) rfl ?_
    refine aw_goto (tgt := 77) dX12_covered_94 (by decide) ?_
    exact aw_fgt (L' := [some (vR 12 (some x0)), some (vI x1), some (vI x2), some (vI x3), some (vI x4), some (vI x5), some (vI (x6 + 1)), some (vI (gI σ 1270 x0 x7.toNat))]) ⟨rfl, ⟨rfl, ⟨rfl, ⟨rfl, ⟨rfl, ⟨rfl, ⟨rfl, ⟨rfl, trivial⟩⟩⟩⟩⟩⟩⟩⟩ h
set_option maxRecDepth 4000 in
theorem bk_X12_cut_0 {g : GP} {l : Launch} {d : Nat} {σ : St} {Q : Option AV → St → Prop} {x0 : Nat} {x1 : Int}
    (h : ((x1 < 0 → Q (some (vI (-3))) σ) ∧ (¬ x1 < 0 → ((x1 ≤ (gI σ 1211 x0 0) → Q (some (vI x1)) (sI σ 1211 x0 0 x1)) ∧ (¬ x1 ≤ (gI σ 1211 x0 0) → Q (some (vI (-3))) σ))))) :
    AW g l d MX12_cut 0 [some (vR 12 (some x0)), some (vI x1)] [] σ Q := by
  refine aw_iload_n dX12_cut_0 rfl rfl ?_
  refine aw_if_lt (tgt := 12) dX12_cut_1 (by decide) (fun k1 => ?_) (fun k1 => ?_)
  · replace h := h.1 k1
    refine aw_bipush (x := (-3)) dX12_cut_12 rfl ?_
    exact aw_ireturn dX12_cut_14 rfl h
  · replace h := h.2 k1
    refine aw_iload_n dX12_cut_4 rfl rfl ?_
    refine aw_aload_n dX12_cut_5 rfl rfl ?_
    refine aw_getI' rfl fk_1211 lf_X12_45 dX12_cut_6 ?_
    refine aw_icmp_le (tgt := 15) dX12_cut_9 (by decide) (fun k2 => ?_) (fun k2 => ?_)
    · replace h := h.1 k2
      refine aw_aload_n dX12_cut_15 rfl rfl ?_
      refine aw_iload_n dX12_cut_16 rfl rfl ?_
      refine aw_putI' rfl fk_1211 (Or.inl rfl) lf_X12_45 dX12_cut_17 ?_
      refine aw_iload_n dX12_cut_20 rfl rfl ?_
      exact aw_ireturn dX12_cut_21 rfl h
    · replace h := h.2 k2
      refine aw_bipush (x := (-3)) dX12_cut_12 rfl ?_
      exact aw_ireturn dX12_cut_14 rfl h
set_option maxRecDepth 4000 in
theorem bk_X12_describe_0 {g : GP} {l : Launch} {d : Nat} {σ : St} {Q : Option AV → St → Prop} {x0 : Nat}
    (h : R32 (1 - (gI σ 1218 x0 0)) ∧ LC 12 σ x0 ∧ Bd (1 - (gI σ 1218 x0 0)) 2 ∧ R32 (3000 * (1 - (gI σ 1218 x0 0))) ∧ ACv g l d MX12_next [vR 12 (some x0)] (sI (sI (sI (sI (sI (sI (sI (sI σ 1253 x0 0 (1 - (gI σ 1218 x0 0))) 1219 x0 (1 - (gI σ 1218 x0 0)).toNat 0) 1220 x0 (1 - (gI σ 1218 x0 0)).toNat 0) 1246 x0 0 (3000 * (1 - (gI σ 1218 x0 0)))) 1250 x0 0 0) 1251 x0 0 0) 1255 x0 0 0) 1215 x0 0 0) (fun σ5 => ACi g l d MX12_isWord [vR 12 (some x0), vJ 1701737837] σ5 (fun v7 σ6 => ((¬ v7 = 0 → AW g l (d + 1) MX12_describe 87 [some (vR 12 (some x0)), none] [vR 12 (some x0)] σ6 Q) ∧ (v7 = 0 → ACi g l d MX12_isWord [vR 12 (some x0), vJ 126943973696372] σ6 (fun v10 σ9 => ((v10 = 0 → ACi g l d MX12_must [vR 12 (some x0), vI 0, vI 2] σ9 (fun v13 σ12 => ((v13 = 0 → AW g l (d + 1) MX12_describe 122 [some (vR 12 (some x0)), some (vI 0)] [] σ12 Q) ∧ (¬ v13 = 0 → AW g l (d + 1) MX12_describe 99 [some (vR 12 (some x0)), none] [] σ12 Q)))) ∧ (¬ v10 = 0 → AW g l (d + 1) MX12_describe 87 [some (vR 12 (some x0)), none] [vR 12 (some x0)] σ9 Q)))))))) :
    AW g l (d + 1) MX12_describe 0 [some (vR 12 (some x0)), none] [] σ Q := by
  refine aw_aload_n dX12_describe_0 rfl rfl ?_
  refine aw_iconst (x := 1) dX12_describe_1 rfl ?_
  refine aw_aload_n dX12_describe_2 rfl rfl ?_
  refine aw_getI' rfl fk_1218 lf_X12_67 dX12_describe_3 ?_
  obtain ⟨⟨c1, c1x⟩, h⟩ := h
  refine aw_isubc dX12_describe_6 c1 c1x ?_
  refine aw_putI' rfl fk_1253 (Or.inl rfl) lf_X12_173 dX12_describe_7 ?_
  refine aw_aload_n dX12_describe_10 rfl rfl ?_
  obtain ⟨lc2, h⟩ := h
  refine aw_getA' rfl fk_1219 (by decide) lf_X12_70 dX12_describe_11 (LC.ne lc2 rfl rfl) ?_
  refine aw_aload_n dX12_describe_14 rfl rfl ?_
  refine aw_getIe (v := (1 - (gI σ 1218 x0 0))) rfl fk_1253 lf_X12_173 dX12_describe_15 (gI_slf σ 1253 x0 0 (1 - (gI σ 1218 x0 0))) ?_
  refine aw_iconst (x := 0) dX12_describe_18 rfl ?_
  obtain ⟨⟨c3, c3x⟩, h⟩ := h
  refine aw_iastore (by decide) rfl dX12_describe_19 c3 (LC.lt lc2 rfl rfl c3x) ?_
  refine aw_aload_n dX12_describe_20 rfl rfl ?_
  refine aw_getA' rfl fk_1220 (by decide) lf_X12_73 dX12_describe_21 (LC.ne lc2 rfl rfl) ?_
  refine aw_aload_n dX12_describe_24 rfl rfl ?_
  refine aw_getIe (v := (1 - (gI σ 1218 x0 0))) rfl fk_1253 lf_X12_173 dX12_describe_25 (gI_slf σ 1253 x0 0 (1 - (gI σ 1218 x0 0))) ?_
  refine aw_iconst (x := 0) dX12_describe_28 rfl ?_
  refine aw_iastore (by decide) rfl dX12_describe_29 c3 (LC.lt lc2 rfl rfl c3x) ?_
  refine aw_aload_n dX12_describe_30 rfl rfl ?_
  refine aw_sipush (x := 3000) dX12_describe_31 rfl ?_
  refine aw_aload_n dX12_describe_34 rfl rfl ?_
  refine aw_getIe (v := (1 - (gI σ 1218 x0 0))) rfl fk_1253 lf_X12_173 dX12_describe_35 (gI_slf σ 1253 x0 0 (1 - (gI σ 1218 x0 0))) ?_
  obtain ⟨⟨c4, c4x⟩, h⟩ := h
  refine aw_imulc dX12_describe_38 c4 c4x ?_
  refine aw_putI' rfl fk_1246 (Or.inl rfl) lf_X12_152 dX12_describe_39 ?_
  refine aw_aload_n dX12_describe_42 rfl rfl ?_
  refine aw_iconst (x := 0) dX12_describe_43 rfl ?_
  refine aw_putI' rfl fk_1250 (Or.inl rfl) lf_X12_164 dX12_describe_44 ?_
  refine aw_aload_n dX12_describe_47 rfl rfl ?_
  refine aw_iconst (x := 0) dX12_describe_48 rfl ?_
  refine aw_putI' rfl fk_1251 (Or.inl rfl) lf_X12_167 dX12_describe_49 ?_
  refine aw_aload_n dX12_describe_52 rfl rfl ?_
  refine aw_iconst (x := 0) dX12_describe_53 rfl ?_
  refine aw_putI' rfl fk_1255 (Or.inl rfl) lf_X12_179 dX12_describe_54 ?_
  refine aw_aload_n dX12_describe_57 rfl rfl ?_
  refine aw_iconst (x := 0) dX12_describe_58 rfl ?_
  refine aw_putI' rfl fk_1215 (Or.inl rfl) lf_X12_57 dX12_describe_59 ?_
  refine aw_aload_n dX12_describe_62 rfl rfl ?_
  refine aw_invVv (M := MX12_describe) (ci := 12) [] rfl mo_X12_next rfl lm_X12_408 li_X12_next ls_X12_next (by decide +kernel) dX12_describe_63 rfl (Nat.le_of_ble_eq_true rfl) (ACv.mono (fun σ5 h => ?_) h)
  refine aw_aload_n dX12_describe_66 rfl rfl ?_
  refine aw_aload_n dX12_describe_67 rfl rfl ?_
  refine aw_ldc2 lk_X12_332 dX12_describe_68 ?_
  refine aw_invVi (M := MX12_describe) (ci := 12) [vJ 1701737837] rfl mo_X12_isWord rfl lm_X12_334 li_X12_isWord ls_X12_isWord (by decide +kernel) dX12_describe_71 rfl (Nat.le_of_ble_eq_true rfl) (ACi.mono (fun v7 σ6 h => ?_) h)
  refine aw_if_ne (tgt := 87) dX12_describe_74 (by decide) (fun k8 => ?_) (fun k8 => ?_)
  · replace h := h.1 k8
    exact aw_fgt (L' := [some (vR 12 (some x0)), none]) ⟨rfl, trivial⟩ h
  · replace h := h.2 k8
    refine aw_aload_n dX12_describe_77 rfl rfl ?_
    refine aw_ldc2 lk_X12_338 dX12_describe_78 ?_
    refine aw_invVi (M := MX12_describe) (ci := 12) [vJ 126943973696372] rfl mo_X12_isWord rfl lm_X12_334 li_X12_isWord ls_X12_isWord (by decide +kernel) dX12_describe_81 rfl (Nat.le_of_ble_eq_true rfl) (ACi.mono (fun v10 σ9 h => ?_) h)
    refine aw_if_eq (tgt := 91) dX12_describe_84 (by decide) (fun k11 => ?_) (fun k11 => ?_)
    · replace h := h.1 k11
      refine aw_iconst (x := 0) dX12_describe_91 rfl ?_
      refine aw_iconst (x := 2) dX12_describe_92 rfl ?_
      refine aw_invVi (M := MX12_describe) (ci := 12) [vI 0, vI 2] rfl mo_X12_must rfl lm_X12_404 li_X12_must ls_X12_must (by decide +kernel) dX12_describe_93 rfl (Nat.le_of_ble_eq_true rfl) (ACi.mono (fun v13 σ12 h => ?_) h)
      refine aw_if_eq (tgt := 120) dX12_describe_96 (by decide) (fun k14 => ?_) (fun k14 => ?_)
      · replace h := h.1 k14
        refine aw_iconst (x := 0) dX12_describe_120 rfl ?_
        refine aw_istore_n (L' := [some (vR 12 (some x0)), some (vI 0)]) dX12_describe_121 rfl (by decide) rfl ?_
        exact aw_fgt (L' := [some (vR 12 (some x0)), some (vI 0)]) ⟨rfl, ⟨rfl, trivial⟩⟩ h
      · replace h := h.2 k14
        exact aw_fgt (L' := [some (vR 12 (some x0)), none]) ⟨rfl, trivial⟩ h
    · replace h := h.2 k11
      exact aw_fgt (L' := [some (vR 12 (some x0)), none]) ⟨rfl, trivial⟩ h
set_option maxRecDepth 4000 in
theorem bk_X12_describe_87 {g : GP} {l : Launch} {d : Nat} {σ : St} {Q : Option AV → St → Prop} {x0 : Nat} {y0 : Option Nat}
    (h : ∃ r1, y0 = some r1 ∧ ACi g l d MX12_must [vR 12 (some r1), vI 1, vI 2] σ (fun v4 σ3 => ((v4 = 0 → AW g l (d + 1) MX12_describe 122 [some (vR 12 (some x0)), some (vI 0)] [] σ3 Q) ∧ (¬ v4 = 0 → AW g l (d + 1) MX12_describe 99 [some (vR 12 (some x0)), none] [] σ3 Q)))) :
    AW g l (d + 1) MX12_describe 87 [some (vR 12 (some x0)), none] [vR 12 y0] σ Q := by
  refine aw_iconst (x := 1) dX12_describe_87 rfl ?_
  refine aw_goto (tgt := 92) dX12_describe_88 (by decide) ?_
  refine aw_iconst (x := 2) dX12_describe_92 rfl ?_
  obtain ⟨r1, e2, h⟩ := h
  refine aw_invVi (M := MX12_describe) (ci := 12) [vI 1, vI 2] e2 mo_X12_must rfl lm_X12_404 li_X12_must ls_X12_must (by decide +kernel) dX12_describe_93 rfl (Nat.le_of_ble_eq_true rfl) (ACi.mono (fun v4 σ3 h => ?_) h)
  refine aw_if_eq (tgt := 120) dX12_describe_96 (by decide) (fun k5 => ?_) (fun k5 => ?_)
  · replace h := h.1 k5
    refine aw_iconst (x := 0) dX12_describe_120 rfl ?_
    refine aw_istore_n (L' := [some (vR 12 (some x0)), some (vI 0)]) dX12_describe_121 rfl (by decide) rfl ?_
    exact aw_fgt (L' := [some (vR 12 (some x0)), some (vI 0)]) ⟨rfl, ⟨rfl, trivial⟩⟩ h
  · replace h := h.2 k5
    exact aw_fgt (L' := [some (vR 12 (some x0)), none]) ⟨rfl, trivial⟩ h
set_option maxRecDepth 4000 in
theorem bk_X12_describe_99 {g : GP} {l : Launch} {d : Nat} {σ : St} {Q : Option AV → St → Prop} {x0 : Nat}
    (h : ((¬ (gI σ 1251 x0 0) = 0 → AW g l (d + 1) MX12_describe 122 [some (vR 12 (some x0)), some (vI 0)] [] σ Q) ∧ ((gI σ 1251 x0 0) = 0 → (((gI σ 1213 x0 0) = 0 → AW g l (d + 1) MX12_describe 122 [some (vR 12 (some x0)), some (vI 0)] [] σ Q) ∧ (¬ (gI σ 1213 x0 0) = 0 → ACv g l d MX12_item [vR 12 (some x0)] σ (fun σ3 => AW g l (d + 1) MX12_describe 99 [some (vR 12 (some x0)), none] [] σ3 Q)))))) :
    AW g l (d + 1) MX12_describe 99 [some (vR 12 (some x0)), none] [] σ Q := by
  refine aw_aload_n dX12_describe_99 rfl rfl ?_
  refine aw_getI' rfl fk_1251 lf_X12_167 dX12_describe_100 ?_
  refine aw_if_ne (tgt := 120) dX12_describe_103 (by decide) (fun k1 => ?_) (fun k1 => ?_)
  · replace h := h.1 k1
    refine aw_iconst (x := 0) dX12_describe_120 rfl ?_
    refine aw_istore_n (L' := [some (vR 12 (some x0)), some (vI 0)]) dX12_describe_121 rfl (by decide) rfl ?_
    exact aw_fgt (L' := [some (vR 12 (some x0)), some (vI 0)]) ⟨rfl, ⟨rfl, trivial⟩⟩ h
  · replace h := h.2 k1
    refine aw_aload_n dX12_describe_106 rfl rfl ?_
    refine aw_getI' rfl fk_1213 lf_X12_51 dX12_describe_107 ?_
    refine aw_if_eq (tgt := 120) dX12_describe_110 (by decide) (fun k2 => ?_) (fun k2 => ?_)
    · replace h := h.1 k2
      refine aw_iconst (x := 0) dX12_describe_120 rfl ?_
      refine aw_istore_n (L' := [some (vR 12 (some x0)), some (vI 0)]) dX12_describe_121 rfl (by decide) rfl ?_
      exact aw_fgt (L' := [some (vR 12 (some x0)), some (vI 0)]) ⟨rfl, ⟨rfl, trivial⟩⟩ h
    · replace h := h.2 k2
      refine aw_aload_n dX12_describe_113 rfl rfl ?_
      refine aw_invVv (M := MX12_describe) (ci := 12) [] rfl mo_X12_item rfl lm_X12_411 li_X12_item ls_X12_item (by decide +kernel) dX12_describe_114 rfl (Nat.le_of_ble_eq_true rfl) (ACv.mono (fun σ3 h => ?_) h)
      refine aw_goto (tgt := 99) dX12_describe_117 (by decide) ?_
      exact aw_fgt (L' := [some (vR 12 (some x0)), none]) ⟨rfl, trivial⟩ h
set_option maxRecDepth 4000 in
theorem bk_X12_describe_122 {g : GP} {l : Launch} {d : Nat} {σ : St} {Q : Option AV → St → Prop} {x0 : Nat} {x1 : Int}
    (h : (((gI σ 1250 x0 0) ≤ x1 → AW g l (d + 1) MX12_describe 202 [some (vR 12 (some x0)), none] [] σ Q) ∧ (¬ (gI σ 1250 x0 0) ≤ x1 → ((¬ (gI σ 1251 x0 0) = 0 → AW g l (d + 1) MX12_describe 202 [some (vR 12 (some x0)), none] [] σ Q) ∧ ((gI σ 1251 x0 0) = 0 → LC 12 σ x0 ∧ Bd x1 280 ∧ Bd (gI σ 1253 x0 0) 2 ∧ ACi g l d MX12_structNamed [vR 12 (some x0), vJ (gJ σ 1249 x0 x1.toNat), vI (gI σ 1219 x0 (gI σ 1253 x0 0).toNat)] σ (fun v7 σ6 => LC 12 σ6 x0 ∧ Bd (gI σ 1247 x0 x1.toNat) 560 ∧ Bd (gI σ6 1247 x0 x1.toNat) 560 ∧ ((0 ≤ (gI (sI σ6 1231 x0 (gI σ 1247 x0 x1.toNat).toNat v7) 1231 x0 (gI σ6 1247 x0 x1.toNat).toNat) → R32 (x1 + 1) ∧ AW g l (d + 1) MX12_describe 122 [some (vR 12 (some x0)), some (vI (x1 + 1))] [] (sI σ6 1231 x0 (gI σ 1247 x0 x1.toNat).toNat v7) Q) ∧ (¬ 0 ≤ (gI (sI σ6 1231 x0 (gI σ 1247 x0 x1.toNat).toNat v7) 1231 x0 (gI σ6 1247 x0 x1.toNat).toNat) → R32 (x1 + 1) ∧ AW g l (d + 1) MX12_describe 122 [some (vR 12 (some x0)), some (vI (x1 + 1))] [] (sI (sI (sI σ6 1231 x0 (gI σ 1247 x0 x1.toNat).toNat v7) 1251 x0 0 4) 1252 x0 0 (gI σ6 1248 x0 x1.toNat)) Q)))))))) :
    AW g l (d + 1) MX12_describe 122 [some (vR 12 (some x0)), some (vI x1)] [] σ Q := by
  refine aw_iload_n dX12_describe_122 rfl rfl ?_
  refine aw_aload_n dX12_describe_123 rfl rfl ?_
  refine aw_getI' rfl fk_1250 lf_X12_164 dX12_describe_124 ?_
  refine aw_icmp_ge (tgt := 202) dX12_describe_127 (by decide) (fun k1 => ?_) (fun k1 => ?_)
  · replace h := h.1 k1
    exact aw_fgt (L' := [some (vR 12 (some x0)), none]) ⟨rfl, trivial⟩ h
  · replace h := h.2 k1
    refine aw_aload_n dX12_describe_130 rfl rfl ?_
    refine aw_getI' rfl fk_1251 lf_X12_167 dX12_describe_131 ?_
    refine aw_if_ne (tgt := 202) dX12_describe_134 (by decide) (fun k2 => ?_) (fun k2 => ?_)
    · replace h := h.1 k2
      exact aw_fgt (L' := [some (vR 12 (some x0)), none]) ⟨rfl, trivial⟩ h
    · replace h := h.2 k2
      refine aw_aload_n dX12_describe_137 rfl rfl ?_
      obtain ⟨lc3, h⟩ := h
      refine aw_getA' rfl fk_1231 (by decide) lf_X12_107 dX12_describe_138 (LC.ne lc3 rfl rfl) ?_
      refine aw_aload_n dX12_describe_141 rfl rfl ?_
      refine aw_getA' rfl fk_1247 (by decide) lf_X12_155 dX12_describe_142 (LC.ne lc3 rfl rfl) ?_
      refine aw_iload_n dX12_describe_145 rfl rfl ?_
      obtain ⟨⟨c4, c4x⟩, h⟩ := h
      refine aw_iaload (by decide) rfl dX12_describe_146 c4 (LC.lt lc3 rfl rfl c4x) ?_
      refine aw_aload_n dX12_describe_147 rfl rfl ?_
      refine aw_aload_n dX12_describe_148 rfl rfl ?_
      refine aw_getA' rfl fk_1249 (by decide) lf_X12_161 dX12_describe_149 (LC.ne lc3 rfl rfl) ?_
      refine aw_iload_n dX12_describe_152 rfl rfl ?_
      refine aw_laload (by decide) rfl dX12_describe_153 c4 (LC.lt lc3 rfl rfl c4x) ?_
      refine aw_aload_n dX12_describe_154 rfl rfl ?_
      refine aw_getA' rfl fk_1219 (by decide) lf_X12_70 dX12_describe_155 (LC.ne lc3 rfl rfl) ?_
      refine aw_aload_n dX12_describe_158 rfl rfl ?_
      refine aw_getI' rfl fk_1253 lf_X12_173 dX12_describe_159 ?_
      obtain ⟨⟨c5, c5x⟩, h⟩ := h
      refine aw_iaload (by decide) rfl dX12_describe_162 c5 (LC.lt lc3 rfl rfl c5x) ?_
      refine aw_invVi (M := MX12_describe) (ci := 12) [vJ (gJ σ 1249 x0 x1.toNat), vI (gI σ 1219 x0 (gI σ 1253 x0 0).toNat)] rfl mo_X12_structNamed rfl lm_X12_414 li_X12_structNamed ls_X12_structNamed (by decide +kernel) dX12_describe_163 rfl (Nat.le_of_ble_eq_true rfl) (ACi.mono (fun v7 σ6 h => ?_) h)
      obtain ⟨lc8, h⟩ := h
      obtain ⟨⟨c9, c9x⟩, h⟩ := h
      refine aw_iastore (by decide) rfl dX12_describe_166 c9 (LC.lt lc8 rfl rfl c9x) ?_
      refine aw_aload_n dX12_describe_167 rfl rfl ?_
      refine aw_getA' rfl fk_1231 (by decide) lf_X12_107 dX12_describe_168 (LC.ne lc8 rfl rfl) ?_
      refine aw_aload_n dX12_describe_171 rfl rfl ?_
      refine aw_getA' rfl fk_1247 (by decide) lf_X12_155 dX12_describe_172 (LC.ne lc8 rfl rfl) ?_
      refine aw_iload_n dX12_describe_175 rfl rfl ?_
      refine aw_ialoade (v := gI σ6 1247 x0 x1.toNat) (by decide) rfl dX12_describe_176 c4 (LC.lt lc8 rfl rfl c4x) rfl ?_
      obtain ⟨⟨c10, c10x⟩, h⟩ := h
      refine aw_iaload (by decide) rfl dX12_describe_177 c10 (LC.lt lc8 rfl rfl c10x) ?_
      refine aw_if_ge (tgt := 196) dX12_describe_178 (by decide) (fun k11 => ?_) (fun k11 => ?_)
      · replace h := h.1 k11
        obtain ⟨⟨c12, c12x⟩, h⟩ := h
        refine aw_iincc (L' := [some (vR 12 (some x0)), some (vI (x1 + 1))]) dX12_describe_196 rfl (by decide) rfl c12 c12x rfl ?_
        refine aw_goto (tgt := 122) dX12_describe_199 (by decide) ?_
        exact aw_fgt (L' := [some (vR 12 (some x0)), some (vI (x1 + 1))]) ⟨rfl, ⟨rfl, trivial⟩⟩ h
      · replace h := h.2 k11
        refine aw_aload_n dX12_describe_181 rfl rfl ?_
        refine aw_iconst (x := 4) dX12_describe_182 rfl ?_
        refine aw_putI' rfl fk_1251 (Or.inl rfl) lf_X12_167 dX12_describe_183 ?_
        refine aw_aload_n dX12_describe_186 rfl rfl ?_
        refine aw_aload_n dX12_describe_187 rfl rfl ?_
        refine aw_getA' rfl fk_1248 (by decide) lf_X12_158 dX12_describe_188 (LC.ne lc8 rfl rfl) ?_
        refine aw_iload_n dX12_describe_191 rfl rfl ?_
        refine aw_ialoade (v := gI σ6 1248 x0 x1.toNat) (by decide) rfl dX12_describe_192 c4 (LC.lt lc8 rfl rfl c4x) rfl ?_
        refine aw_putI' rfl fk_1252 (Or.inl rfl) lf_X12_170 dX12_describe_193 ?_
        obtain ⟨⟨c13, c13x⟩, h⟩ := h
        refine aw_iincc (L' := [some (vR 12 (some x0)), some (vI (x1 + 1))]) dX12_describe_196 rfl (by decide) rfl c13 c13x rfl ?_
        refine aw_goto (tgt := 122) dX12_describe_199 (by decide) ?_
        exact aw_fgt (L' := [some (vR 12 (some x0)), some (vI (x1 + 1))]) ⟨rfl, ⟨rfl, trivial⟩⟩ h
set_option maxRecDepth 4000 in
theorem bk_X12_describe_202 {g : GP} {l : Launch} {d : Nat} {σ : St} {Q : Option AV → St → Prop} {x0 : Nat}
    (h : (((gI σ 1251 x0 0) ≤ 0 → LC 12 σ x0 ∧ Bd (gI σ 1253 x0 0) 2 ∧ Q (some (vI (gI σ 1219 x0 (gI σ 1253 x0 0).toNat))) (sI (sI (sI (sI σ 1211 x0 0 0) 1212 x0 0 (gI σ 1251 x0 0)) 1218 x0 0 (gI σ 1253 x0 0)) 1264 x0 0 0)) ∧ (¬ (gI σ 1251 x0 0) ≤ 0 → R32 ((-10) - (gI σ 1252 x0 0)) ∧ Q (some (vI ((-10) - (gI σ 1252 x0 0)))) (sI (sI σ 1211 x0 0 0) 1212 x0 0 (gI σ 1251 x0 0))))) :
    AW g l (d + 1) MX12_describe 202 [some (vR 12 (some x0)), none] [] σ Q := by
  refine aw_aload_n dX12_describe_202 rfl rfl ?_
  refine aw_iconst (x := 0) dX12_describe_203 rfl ?_
  refine aw_putI' rfl fk_1211 (Or.inl rfl) lf_X12_45 dX12_describe_204 ?_
  refine aw_aload_n dX12_describe_207 rfl rfl ?_
  refine aw_aload_n dX12_describe_208 rfl rfl ?_
  refine aw_getIe (v := gI σ 1251 x0 0) rfl fk_1251 lf_X12_167 dX12_describe_209 rfl ?_
  refine aw_putI' rfl fk_1212 (Or.inl rfl) lf_X12_48 dX12_describe_212 ?_
  refine aw_aload_n dX12_describe_215 rfl rfl ?_
  refine aw_getIe (v := gI σ 1251 x0 0) rfl fk_1251 lf_X12_167 dX12_describe_216 rfl ?_
  refine aw_if_le (tgt := 230) dX12_describe_219 (by decide) (fun k1 => ?_) (fun k1 => ?_)
  · replace h := h.1 k1
    refine aw_aload_n dX12_describe_230 rfl rfl ?_
    refine aw_aload_n dX12_describe_231 rfl rfl ?_
    refine aw_getIe (v := gI σ 1253 x0 0) rfl fk_1253 lf_X12_173 dX12_describe_232 rfl ?_
    refine aw_putI' rfl fk_1218 (Or.inl rfl) lf_X12_67 dX12_describe_235 ?_
    refine aw_aload_n dX12_describe_238 rfl rfl ?_
    refine aw_iconst (x := 0) dX12_describe_239 rfl ?_
    refine aw_putI' rfl fk_1264 (Or.inl rfl) lf_X12_208 dX12_describe_240 ?_
    refine aw_aload_n dX12_describe_243 rfl rfl ?_
    obtain ⟨lc2, h⟩ := h
    refine aw_getA' rfl fk_1219 (by decide) lf_X12_70 dX12_describe_244 (LC.ne lc2 rfl rfl) ?_
    refine aw_aload_n dX12_describe_247 rfl rfl ?_
    refine aw_getIe (v := (gI σ 1253 x0 0)) rfl fk_1218 lf_X12_67 dX12_describe_248 (gI_slf (sI (sI σ 1211 x0 0 0) 1212 x0 0 (gI σ 1251 x0 0)) 1218 x0 0 (gI σ 1253 x0 0)) ?_
    obtain ⟨⟨c3, c3x⟩, h⟩ := h
    refine aw_ialoade (v := gI σ 1219 x0 (gI σ 1253 x0 0).toNat) (by decide) rfl dX12_describe_251 c3 (LC.lt lc2 rfl rfl c3x) rfl ?_
    exact aw_ireturn dX12_describe_252 rfl h
  · replace h := h.2 k1
    refine aw_bipush (x := (-10)) dX12_describe_222 rfl ?_
    refine aw_aload_n dX12_describe_224 rfl rfl ?_
    refine aw_getIe (v := gI σ 1252 x0 0) rfl fk_1252 lf_X12_170 dX12_describe_225 rfl ?_
    obtain ⟨⟨c4, c4x⟩, h⟩ := h
    refine aw_isubc dX12_describe_228 c4 c4x ?_
    exact aw_ireturn dX12_describe_229 rfl h
set_option maxRecDepth 4000 in
theorem bk_X12_differ_0 {g : GP} {l : Launch} {d : Nat} {σ : St} {Q : Option AV → St → Prop} {x0 : Nat} {x1 : Int} {x2 : Int} {x3 : Int} {x4 : Int}
    (h : ACi g l d MX12_isImage [vR 12 (some x0), vI x1] σ (fun v2 σ1 => ((v2 = 0 → Q (some (vI (-1))) σ1) ∧ (¬ v2 = 0 → ACi g l d MX12_isImage [vR 12 (some x0), vI x2] σ1 (fun v5 σ4 => ((v5 = 0 → Q (some (vI (-1))) σ4) ∧ (¬ v5 = 0 → ((x3 < 0 → Q (some (vI (-1))) σ4) ∧ (¬ x3 < 0 → ((x4 < 0 → Q (some (vI (-1))) σ4) ∧ (¬ x4 < 0 → ((x4 ≤ 1 → LC 12 σ4 x0 ∧ Bd x1 6 ∧ Bd x2 6 ∧ (((gI σ4 1201 x0 x1.toNat) ≤ (gI σ4 1201 x0 x2.toNat) → AW g l (d + 1) MX12_differ 77 [some (vR 12 (some x0)), some (vI x1), some (vI x2), none, some (vI x4), some (vI (gI σ4 1201 x0 x2.toNat)), some (vI x3), some (vI 1), some (vI (-1)), some (vI 0), none] [] σ4 Q) ∧ (¬ (gI σ4 1201 x0 x1.toNat) ≤ (gI σ4 1201 x0 x2.toNat) → AW g l (d + 1) MX12_differ 77 [some (vR 12 (some x0)), some (vI x1), some (vI x2), none, some (vI x4), some (vI (gI σ4 1201 x0 x1.toNat)), some (vI x3), some (vI 1), some (vI (-1)), some (vI 0), none] [] σ4 Q))) ∧ (¬ x4 ≤ 1 → Q (some (vI (-1))) σ4))))))))))))) :
    AW g l (d + 1) MX12_differ 0 [some (vR 12 (some x0)), some (vI x1), some (vI x2), some (vI x3), some (vI x4), none, none, none, none, none, none] [] σ Q := by
  refine aw_aload_n dX12_differ_0 rfl rfl ?_
  refine aw_iload_n dX12_differ_1 rfl rfl ?_
  refine aw_invVi (M := MX12_differ) (ci := 12) [vI x1] rfl mo_X12_isImage rfl lm_X12_293 li_X12_isImage ls_X12_isImage (by decide +kernel) dX12_differ_2 rfl (Nat.le_of_ble_eq_true rfl) (ACi.mono (fun v2 σ1 h => ?_) h)
  refine aw_if_eq (tgt := 31) dX12_differ_5 (by decide) (fun k3 => ?_) (fun k3 => ?_)
  · replace h := h.1 k3
    refine aw_iconst (x := (-1)) dX12_differ_31 rfl ?_
    exact aw_ireturn dX12_differ_32 rfl h
  · replace h := h.2 k3
    refine aw_aload_n dX12_differ_8 rfl rfl ?_
    refine aw_iload_n dX12_differ_9 rfl rfl ?_
    refine aw_invVi (M := MX12_differ) (ci := 12) [vI x2] rfl mo_X12_isImage rfl lm_X12_293 li_X12_isImage ls_X12_isImage (by decide +kernel) dX12_differ_10 rfl (Nat.le_of_ble_eq_true rfl) (ACi.mono (fun v5 σ4 h => ?_) h)
    refine aw_if_eq (tgt := 31) dX12_differ_13 (by decide) (fun k6 => ?_) (fun k6 => ?_)
    · replace h := h.1 k6
      refine aw_iconst (x := (-1)) dX12_differ_31 rfl ?_
      exact aw_ireturn dX12_differ_32 rfl h
    · replace h := h.2 k6
      refine aw_iload_n dX12_differ_16 rfl rfl ?_
      refine aw_if_lt (tgt := 31) dX12_differ_17 (by decide) (fun k7 => ?_) (fun k7 => ?_)
      · replace h := h.1 k7
        refine aw_iconst (x := (-1)) dX12_differ_31 rfl ?_
        exact aw_ireturn dX12_differ_32 rfl h
      · replace h := h.2 k7
        refine aw_iload dX12_differ_20 rfl ?_
        refine aw_if_lt (tgt := 31) dX12_differ_22 (by decide) (fun k8 => ?_) (fun k8 => ?_)
        · replace h := h.1 k8
          refine aw_iconst (x := (-1)) dX12_differ_31 rfl ?_
          exact aw_ireturn dX12_differ_32 rfl h
        · replace h := h.2 k8
          refine aw_iload dX12_differ_25 rfl ?_
          refine aw_iconst (x := 1) dX12_differ_27 rfl ?_
          refine aw_icmp_le (tgt := 33) dX12_differ_28 (by decide) (fun k9 => ?_) (fun k9 => ?_)
          · replace h := h.1 k9
            refine aw_aload_n dX12_differ_33 rfl rfl ?_
            obtain ⟨lc10, h⟩ := h
            refine aw_getA' rfl fk_1201 (by decide) lf_X12_13 dX12_differ_34 (LC.ne lc10 rfl rfl) ?_
            refine aw_iload_n dX12_differ_37 rfl rfl ?_
            obtain ⟨⟨c11, c11x⟩, h⟩ := h
            refine aw_iaload (by decide) rfl dX12_differ_38 c11 (LC.lt lc10 rfl rfl c11x) ?_
            refine aw_aload_n dX12_differ_39 rfl rfl ?_
            refine aw_getA' rfl fk_1201 (by decide) lf_X12_13 dX12_differ_40 (LC.ne lc10 rfl rfl) ?_
            refine aw_iload_n dX12_differ_43 rfl rfl ?_
            obtain ⟨⟨c12, c12x⟩, h⟩ := h
            refine aw_iaload (by decide) rfl dX12_differ_44 c12 (LC.lt lc10 rfl rfl c12x) ?_
            refine aw_icmp_le (tgt := 57) dX12_differ_45 (by decide) (fun k13 => ?_) (fun k13 => ?_)
            · replace h := h.1 k13
              refine aw_aload_n dX12_differ_57 rfl rfl ?_
              refine aw_getA' rfl fk_1201 (by decide) lf_X12_13 dX12_differ_58 (LC.ne lc10 rfl rfl) ?_
              refine aw_iload_n dX12_differ_61 rfl rfl ?_
              refine aw_iaload (by decide) rfl dX12_differ_62 c12 (LC.lt lc10 rfl rfl c12x) ?_
              refine aw_istore (L' := [some (vR 12 (some x0)), some (vI x1), some (vI x2), some (vI x3), some (vI x4), some (vI (gI σ4 1201 x0 x2.toNat)), none, none, none, none, none]) dX12_differ_63 (by decide) rfl ?_
              refine aw_iload_n dX12_differ_65 rfl rfl ?_
              refine aw_istore (L' := [some (vR 12 (some x0)), some (vI x1), some (vI x2), some (vI x3), some (vI x4), some (vI (gI σ4 1201 x0 x2.toNat)), some (vI x3), none, none, none, none]) dX12_differ_66 (by decide) rfl ?_
              refine aw_iconst (x := 1) dX12_differ_68 rfl ?_
              refine aw_istore (L' := [some (vR 12 (some x0)), some (vI x1), some (vI x2), some (vI x3), some (vI x4), some (vI (gI σ4 1201 x0 x2.toNat)), some (vI x3), some (vI 1), none, none, none]) dX12_differ_69 (by decide) rfl ?_
              refine aw_iconst (x := (-1)) dX12_differ_71 rfl ?_
              refine aw_istore (L' := [some (vR 12 (some x0)), some (vI x1), some (vI x2), some (vI x3), some (vI x4), some (vI (gI σ4 1201 x0 x2.toNat)), some (vI x3), some (vI 1), some (vI (-1)), none, none]) dX12_differ_72 (by decide) rfl ?_
              refine aw_iconst (x := 0) dX12_differ_74 rfl ?_
              refine aw_istore (L' := [some (vR 12 (some x0)), some (vI x1), some (vI x2), some (vI x3), some (vI x4), some (vI (gI σ4 1201 x0 x2.toNat)), some (vI x3), some (vI 1), some (vI (-1)), some (vI 0), none]) dX12_differ_75 (by decide) rfl ?_
              exact aw_fgt (L' := [some (vR 12 (some x0)), some (vI x1), some (vI x2), none, some (vI x4), some (vI (gI σ4 1201 x0 x2.toNat)), some (vI x3), some (vI 1), some (vI (-1)), some (vI 0), none]) ⟨rfl, ⟨rfl, ⟨rfl, ⟨rfl, ⟨rfl, ⟨rfl, ⟨rfl, ⟨rfl, ⟨rfl, trivial⟩⟩⟩⟩⟩⟩⟩⟩⟩ h
            · replace h := h.2 k13
              refine aw_aload_n dX12_differ_48 rfl rfl ?_
              refine aw_getA' rfl fk_1201 (by decide) lf_X12_13 dX12_differ_49 (LC.ne lc10 rfl rfl) ?_
              refine aw_iload_n dX12_differ_52 rfl rfl ?_
              refine aw_iaload (by decide) rfl dX12_differ_53 c11 (LC.lt lc10 rfl rfl c11x) ?_
              refine aw_goto (tgt := 63) dX12_differ_54 (by decide) ?_
              refine aw_istore (L' := [some (vR 12 (some x0)), some (vI x1), some (vI x2), some (vI x3), some (vI x4), some (vI (gI σ4 1201 x0 x1.toNat)), none, none, none, none, none]) dX12_differ_63 (by decide) rfl ?_
              refine aw_iload_n dX12_differ_65 rfl rfl ?_
              refine aw_istore (L' := [some (vR 12 (some x0)), some (vI x1), some (vI x2), some (vI x3), some (vI x4), some (vI (gI σ4 1201 x0 x1.toNat)), some (vI x3), none, none, none, none]) dX12_differ_66 (by decide) rfl ?_
              refine aw_iconst (x := 1) dX12_differ_68 rfl ?_
              refine aw_istore (L' := [some (vR 12 (some x0)), some (vI x1), some (vI x2), some (vI x3), some (vI x4), some (vI (gI σ4 1201 x0 x1.toNat)), some (vI x3), some (vI 1), none, none, none]) dX12_differ_69 (by decide) rfl ?_
              refine aw_iconst (x := (-1)) dX12_differ_71 rfl ?_
              refine aw_istore (L' := [some (vR 12 (some x0)), some (vI x1), some (vI x2), some (vI x3), some (vI x4), some (vI (gI σ4 1201 x0 x1.toNat)), some (vI x3), some (vI 1), some (vI (-1)), none, none]) dX12_differ_72 (by decide) rfl ?_
              refine aw_iconst (x := 0) dX12_differ_74 rfl ?_
              refine aw_istore (L' := [some (vR 12 (some x0)), some (vI x1), some (vI x2), some (vI x3), some (vI x4), some (vI (gI σ4 1201 x0 x1.toNat)), some (vI x3), some (vI 1), some (vI (-1)), some (vI 0), none]) dX12_differ_75 (by decide) rfl ?_
              exact aw_fgt (L' := [some (vR 12 (some x0)), some (vI x1), some (vI x2), none, some (vI x4), some (vI (gI σ4 1201 x0 x1.toNat)), some (vI x3), some (vI 1), some (vI (-1)), some (vI 0), none]) ⟨rfl, ⟨rfl, ⟨rfl, ⟨rfl, ⟨rfl, ⟨rfl, ⟨rfl, ⟨rfl, ⟨rfl, trivial⟩⟩⟩⟩⟩⟩⟩⟩⟩ h
          · replace h := h.2 k9
            refine aw_iconst (x := (-1)) dX12_differ_31 rfl ?_
            exact aw_ireturn dX12_differ_32 rfl h
set_option maxRecDepth 4000 in
theorem bk_X12_differ_77 {g : GP} {l : Launch} {d : Nat} {σ : St} {Q : Option AV → St → Prop} {x0 : Nat} {x1 : Int} {x2 : Int} {x4 : Int} {x5 : Int} {x6 : Int} {x7 : Int} {x8 : Int} {x9 : Int}
    (h : ((x5 ≤ x9 → ((¬ x7 = 0 → Q (some (vI (-1))) σ) ∧ (x7 = 0 → ((¬ x8 = 0 → Q (some (vI (-1))) σ) ∧ (x8 = 0 → Q (some (vI x5)) σ))))) ∧ (¬ x5 ≤ x9 → LC 12 σ x0 ∧ Bd x1 6 ∧ (((gI σ 1201 x0 x1.toNat) ≤ x9 → AW g l (d + 1) MX12_differ 128 [some (vR 12 (some x0)), some (vI x1), some (vI x2), none, some (vI x4), some (vI x5), some (vI x6), some (vI x7), some (vI x8), some (vI x9), none] [vI 0] σ Q) ∧ (¬ (gI σ 1201 x0 x1.toNat) ≤ x9 → Bd x2 6 ∧ (((gI σ 1201 x0 x2.toNat) ≤ x9 → AW g l (d + 1) MX12_differ 128 [some (vR 12 (some x0)), some (vI x1), some (vI x2), none, some (vI x4), some (vI x5), some (vI x6), some (vI x7), some (vI x8), some (vI x9), none] [vI 0] σ Q) ∧ (¬ (gI σ 1201 x0 x2.toNat) ≤ x9 → ACi g l d MX12_has [vR 12 (some x0), vI x1, vI x9] σ (fun v10 σ9 => ACi g l d MX12_has [vR 12 (some x0), vI x2, vI x9] σ9 (fun v12 σ11 => ((¬ v10 = v12 → AW g l (d + 1) MX12_differ 128 [some (vR 12 (some x0)), some (vI x1), some (vI x2), none, some (vI x4), some (vI x5), some (vI x6), some (vI x7), some (vI x8), some (vI x9), none] [vI 0] σ11 Q) ∧ (v10 = v12 → AW g l (d + 1) MX12_differ 128 [some (vR 12 (some x0)), some (vI x1), some (vI x2), none, some (vI x4), some (vI x5), some (vI x6), some (vI x7), some (vI x8), some (vI x9), none] [vI 1] σ11 Q))))))))))) :
    AW g l (d + 1) MX12_differ 77 [some (vR 12 (some x0)), some (vI x1), some (vI x2), none, some (vI x4), some (vI x5), some (vI x6), some (vI x7), some (vI x8), some (vI x9), none] [] σ Q := by
  refine aw_iload dX12_differ_77 rfl ?_
  refine aw_iload dX12_differ_79 rfl ?_
  refine aw_icmp_ge (tgt := 188) dX12_differ_81 (by decide) (fun k1 => ?_) (fun k1 => ?_)
  · replace h := h.1 k1
    refine aw_iload dX12_differ_188 rfl ?_
    refine aw_if_ne (tgt := 203) dX12_differ_190 (by decide) (fun k2 => ?_) (fun k2 => ?_)
    · replace h := h.1 k2
      refine aw_iconst (x := (-1)) dX12_differ_203 rfl ?_
      exact aw_ireturn dX12_differ_204 rfl h
    · replace h := h.2 k2
      refine aw_iload dX12_differ_193 rfl ?_
      refine aw_if_ne (tgt := 203) dX12_differ_195 (by decide) (fun k3 => ?_) (fun k3 => ?_)
      · replace h := h.1 k3
        refine aw_iconst (x := (-1)) dX12_differ_203 rfl ?_
        exact aw_ireturn dX12_differ_204 rfl h
      · replace h := h.2 k3
        refine aw_iload dX12_differ_198 rfl ?_
        refine aw_goto (tgt := 204) dX12_differ_200 (by decide) ?_
        exact aw_ireturn dX12_differ_204 rfl h
  · replace h := h.2 k1
    refine aw_iload dX12_differ_84 rfl ?_
    refine aw_aload_n dX12_differ_86 rfl rfl ?_
    obtain ⟨lc4, h⟩ := h
    refine aw_getA' rfl fk_1201 (by decide) lf_X12_13 dX12_differ_87 (LC.ne lc4 rfl rfl) ?_
    refine aw_iload_n dX12_differ_90 rfl rfl ?_
    obtain ⟨⟨c5, c5x⟩, h⟩ := h
    refine aw_iaload (by decide) rfl dX12_differ_91 c5 (LC.lt lc4 rfl rfl c5x) ?_
    refine aw_icmp_ge (tgt := 127) dX12_differ_92 (by decide) (fun k6 => ?_) (fun k6 => ?_)
    · replace h := h.1 k6
      refine aw_iconst (x := 0) dX12_differ_127 rfl ?_
      exact aw_fgt (L' := [some (vR 12 (some x0)), some (vI x1), some (vI x2), none, some (vI x4), some (vI x5), some (vI x6), some (vI x7), some (vI x8), some (vI x9), none]) ⟨rfl, ⟨rfl, ⟨rfl, ⟨rfl, ⟨rfl, ⟨rfl, ⟨rfl, ⟨rfl, ⟨rfl, trivial⟩⟩⟩⟩⟩⟩⟩⟩⟩ h
    · replace h := h.2 k6
      refine aw_iload dX12_differ_95 rfl ?_
      refine aw_aload_n dX12_differ_97 rfl rfl ?_
      refine aw_getA' rfl fk_1201 (by decide) lf_X12_13 dX12_differ_98 (LC.ne lc4 rfl rfl) ?_
      refine aw_iload_n dX12_differ_101 rfl rfl ?_
      obtain ⟨⟨c7, c7x⟩, h⟩ := h
      refine aw_iaload (by decide) rfl dX12_differ_102 c7 (LC.lt lc4 rfl rfl c7x) ?_
      refine aw_icmp_ge (tgt := 127) dX12_differ_103 (by decide) (fun k8 => ?_) (fun k8 => ?_)
      · replace h := h.1 k8
        refine aw_iconst (x := 0) dX12_differ_127 rfl ?_
        exact aw_fgt (L' := [some (vR 12 (some x0)), some (vI x1), some (vI x2), none, some (vI x4), some (vI x5), some (vI x6), some (vI x7), some (vI x8), some (vI x9), none]) ⟨rfl, ⟨rfl, ⟨rfl, ⟨rfl, ⟨rfl, ⟨rfl, ⟨rfl, ⟨rfl, ⟨rfl, trivial⟩⟩⟩⟩⟩⟩⟩⟩⟩ h
      · replace h := h.2 k8
        refine aw_aload_n dX12_differ_106 rfl rfl ?_
        refine aw_iload_n dX12_differ_107 rfl rfl ?_
        refine aw_iload dX12_differ_108 rfl ?_
        refine aw_invVi (M := MX12_differ) (ci := 12) [vI x1, vI x9] rfl mo_X12_has rfl lm_X12_299 li_X12_has ls_X12_has (by decide +kernel) dX12_differ_110 rfl (Nat.le_of_ble_eq_true rfl) (ACi.mono (fun v10 σ9 h => ?_) h)
        refine aw_aload_n dX12_differ_113 rfl rfl ?_
        refine aw_iload_n dX12_differ_114 rfl rfl ?_
        refine aw_iload dX12_differ_115 rfl ?_
        refine aw_invVi (M := MX12_differ) (ci := 12) [vI x2, vI x9] rfl mo_X12_has rfl lm_X12_299 li_X12_has ls_X12_has (by decide +kernel) dX12_differ_117 rfl (Nat.le_of_ble_eq_true rfl) (ACi.mono (fun v12 σ11 h => ?_) h)
        refine aw_icmp_ne (tgt := 127) dX12_differ_120 (by decide) (fun k13 => ?_) (fun k13 => ?_)
        · replace h := h.1 k13
          refine aw_iconst (x := 0) dX12_differ_127 rfl ?_
          exact aw_fgt (L' := [some (vR 12 (some x0)), some (vI x1), some (vI x2), none, some (vI x4), some (vI x5), some (vI x6), some (vI x7), some (vI x8), some (vI x9), none]) ⟨rfl, ⟨rfl, ⟨rfl, ⟨rfl, ⟨rfl, ⟨rfl, ⟨rfl, ⟨rfl, ⟨rfl, trivial⟩⟩⟩⟩⟩⟩⟩⟩⟩ h
        · replace h := h.2 k13
          refine aw_iconst (x := 1) dX12_differ_123 rfl ?_
          refine aw_goto (tgt := 128) dX12_differ_124 (by decide) ?_
          exact aw_fgt (L' := [some (vR 12 (some x0)), some (vI x1), some (vI x2), none, some (vI x4), some (vI x5), some (vI x6), some (vI x7), some (vI x8), some (vI x9), none]) ⟨rfl, ⟨rfl, ⟨rfl, ⟨rfl, ⟨rfl, ⟨rfl, ⟨rfl, ⟨rfl, ⟨rfl, trivial⟩⟩⟩⟩⟩⟩⟩⟩⟩ h
set_option maxRecDepth 4000 in
theorem bk_X12_differ_128 {g : GP} {l : Launch} {d : Nat} {σ : St} {Q : Option AV → St → Prop} {x0 : Nat} {x1 : Int} {x2 : Int} {x4 : Int} {x5 : Int} {x6 : Int} {x7 : Int} {x8 : Int} {x9 : Int} {y0 : Int}
    (h : ((¬ y0 = 0 → AW g l (d + 1) MX12_differ 160 [some (vR 12 (some x0)), some (vI x1), some (vI x2), none, some (vI x4), some (vI x5), some (vI x6), some (vI x7), some (vI x8), some (vI x9), some (vI y0)] [] σ Q) ∧ (y0 = 0 → ((x7 = 0 → AW g l (d + 1) MX12_differ 160 [some (vR 12 (some x0)), some (vI x1), some (vI x2), none, some (vI x4), some (vI x5), some (vI x6), some (vI x7), some (vI x8), some (vI x9), some (vI y0)] [] σ Q) ∧ (¬ x7 = 0 → ((¬ x6 = 0 → R32 (x6 + (-1)) ∧ AW g l (d + 1) MX12_differ 160 [some (vR 12 (some x0)), some (vI x1), some (vI x2), none, some (vI x4), some (vI x5), some (vI (x6 + (-1))), some (vI x7), some (vI x6), some (vI x9), some (vI y0)] [] σ Q) ∧ (x6 = 0 → ((¬ x4 = 0 → R32 (x6 + (-1)) ∧ AW g l (d + 1) MX12_differ 160 [some (vR 12 (some x0)), some (vI x1), some (vI x2), none, some (vI x4), some (vI x5), some (vI (x6 + (-1))), some (vI x7), some (vI x6), some (vI x9), some (vI y0)] [] σ Q) ∧ (x4 = 0 → Q (some (vI x9)) σ))))))))) :
    AW g l (d + 1) MX12_differ 128 [some (vR 12 (some x0)), some (vI x1), some (vI x2), none, some (vI x4), some (vI x5), some (vI x6), some (vI x7), some (vI x8), some (vI x9), none] [vI y0] σ Q := by
  refine aw_istore (L' := [some (vR 12 (some x0)), some (vI x1), some (vI x2), none, some (vI x4), some (vI x5), some (vI x6), some (vI x7), some (vI x8), some (vI x9), some (vI y0)]) dX12_differ_128 (by decide) rfl ?_
  refine aw_iload dX12_differ_130 rfl ?_
  refine aw_if_ne (tgt := 160) dX12_differ_132 (by decide) (fun k1 => ?_) (fun k1 => ?_)
  · replace h := h.1 k1
    exact aw_fgt (L' := [some (vR 12 (some x0)), some (vI x1), some (vI x2), none, some (vI x4), some (vI x5), some (vI x6), some (vI x7), some (vI x8), some (vI x9), some (vI y0)]) ⟨rfl, ⟨rfl, ⟨rfl, ⟨rfl, ⟨rfl, ⟨rfl, ⟨rfl, ⟨rfl, ⟨rfl, ⟨rfl, trivial⟩⟩⟩⟩⟩⟩⟩⟩⟩⟩ h
  · replace h := h.2 k1
    refine aw_iload dX12_differ_135 rfl ?_
    refine aw_if_eq (tgt := 160) dX12_differ_137 (by decide) (fun k2 => ?_) (fun k2 => ?_)
    · replace h := h.1 k2
      exact aw_fgt (L' := [some (vR 12 (some x0)), some (vI x1), some (vI x2), none, some (vI x4), some (vI x5), some (vI x6), some (vI x7), some (vI x8), some (vI x9), some (vI y0)]) ⟨rfl, ⟨rfl, ⟨rfl, ⟨rfl, ⟨rfl, ⟨rfl, ⟨rfl, ⟨rfl, ⟨rfl, ⟨rfl, trivial⟩⟩⟩⟩⟩⟩⟩⟩⟩⟩ h
    · replace h := h.2 k2
      refine aw_iload dX12_differ_140 rfl ?_
      refine aw_if_ne (tgt := 153) dX12_differ_142 (by decide) (fun k3 => ?_) (fun k3 => ?_)
      · replace h := h.1 k3
        refine aw_iload dX12_differ_153 rfl ?_
        refine aw_istore (L' := [some (vR 12 (some x0)), some (vI x1), some (vI x2), none, some (vI x4), some (vI x5), some (vI x6), some (vI x7), some (vI x6), some (vI x9), some (vI y0)]) dX12_differ_155 (by decide) rfl ?_
        obtain ⟨⟨c4, c4x⟩, h⟩ := h
        refine aw_iincc (L' := [some (vR 12 (some x0)), some (vI x1), some (vI x2), none, some (vI x4), some (vI x5), some (vI (x6 + (-1))), some (vI x7), some (vI x6), some (vI x9), some (vI y0)]) dX12_differ_157 rfl (by decide) rfl c4 c4x rfl ?_
        exact aw_fgt (L' := [some (vR 12 (some x0)), some (vI x1), some (vI x2), none, some (vI x4), some (vI x5), some (vI (x6 + (-1))), some (vI x7), some (vI x6), some (vI x9), some (vI y0)]) ⟨rfl, ⟨rfl, ⟨rfl, ⟨rfl, ⟨rfl, ⟨rfl, ⟨rfl, ⟨rfl, ⟨rfl, ⟨rfl, trivial⟩⟩⟩⟩⟩⟩⟩⟩⟩⟩ h
      · replace h := h.2 k3
        refine aw_iload dX12_differ_145 rfl ?_
        refine aw_if_ne (tgt := 153) dX12_differ_147 (by decide) (fun k5 => ?_) (fun k5 => ?_)
        · replace h := h.1 k5
          refine aw_iload dX12_differ_153 rfl ?_
          refine aw_istore (L' := [some (vR 12 (some x0)), some (vI x1), some (vI x2), none, some (vI x4), some (vI x5), some (vI x6), some (vI x7), some (vI x6), some (vI x9), some (vI y0)]) dX12_differ_155 (by decide) rfl ?_
          obtain ⟨⟨c6, c6x⟩, h⟩ := h
          refine aw_iincc (L' := [some (vR 12 (some x0)), some (vI x1), some (vI x2), none, some (vI x4), some (vI x5), some (vI (x6 + (-1))), some (vI x7), some (vI x6), some (vI x9), some (vI y0)]) dX12_differ_157 rfl (by decide) rfl c6 c6x rfl ?_
          exact aw_fgt (L' := [some (vR 12 (some x0)), some (vI x1), some (vI x2), none, some (vI x4), some (vI x5), some (vI (x6 + (-1))), some (vI x7), some (vI x6), some (vI x9), some (vI y0)]) ⟨rfl, ⟨rfl, ⟨rfl, ⟨rfl, ⟨rfl, ⟨rfl, ⟨rfl, ⟨rfl, ⟨rfl, ⟨rfl, trivial⟩⟩⟩⟩⟩⟩⟩⟩⟩⟩ h
        · replace h := h.2 k5
          refine aw_iload dX12_differ_150 rfl ?_
          exact aw_ireturn dX12_differ_152 rfl h
set_option maxRecDepth 4000 in
theorem bk_X12_differ_160 {g : GP} {l : Launch} {d : Nat} {σ : St} {Q : Option AV → St → Prop} {x0 : Nat} {x1 : Int} {x2 : Int} {x4 : Int} {x5 : Int} {x6 : Int} {x7 : Int} {x8 : Int} {x9 : Int} {x10 : Int}
    (h : ((x10 = 0 → R32 (x9 + 1) ∧ AW g l (d + 1) MX12_differ 77 [some (vR 12 (some x0)), some (vI x1), some (vI x2), none, some (vI x4), some (vI x5), some (vI x6), some (vI x10), some (vI x8), some (vI (x9 + 1)), none] [] σ Q) ∧ (¬ x10 = 0 → ((¬ x7 = 0 → R32 (x9 + 1) ∧ AW g l (d + 1) MX12_differ 77 [some (vR 12 (some x0)), some (vI x1), some (vI x2), none, some (vI x4), some (vI x5), some (vI x6), some (vI x10), some (vI x8), some (vI (x9 + 1)), none] [] σ Q) ∧ (x7 = 0 → ((¬ x8 = 0 → R32 (x9 + 1) ∧ AW g l (d + 1) MX12_differ 77 [some (vR 12 (some x0)), some (vI x1), some (vI x2), none, some (vI x4), some (vI x5), some (vI x6), some (vI x10), some (vI x8), some (vI (x9 + 1)), none] [] σ Q) ∧ (x8 = 0 → Q (some (vI x9)) σ))))))) :
    AW g l (d + 1) MX12_differ 160 [some (vR 12 (some x0)), some (vI x1), some (vI x2), none, some (vI x4), some (vI x5), some (vI x6), some (vI x7), some (vI x8), some (vI x9), some (vI x10)] [] σ Q := by
  refine aw_iload dX12_differ_160 rfl ?_
  refine aw_if_eq (tgt := 178) dX12_differ_162 (by decide) (fun k1 => ?_) (fun k1 => ?_)
  · replace h := h.1 k1
    refine aw_iload dX12_differ_178 rfl ?_
    refine aw_istore (L' := [some (vR 12 (some x0)), some (vI x1), some (vI x2), none, some (vI x4), some (vI x5), some (vI x6), some (vI x10), some (vI x8), some (vI x9), some (vI x10)]) dX12_differ_180 (by decide) rfl ?_
    obtain ⟨⟨c2, c2x⟩, h⟩ := h
    refine aw_iincc (L' := [some (vR 12 (some x0)), some (vI x1), some (vI x2), none, some (vI x4), some (vI x5), some (vI x6), some (vI x10), some (vI x8), some (vI (x9 + 1)), some (vI x10)]) dX12_differ_182 rfl (by decide) rfl c2 c2x rfl ?_
    refine aw_goto (tgt := 77) dX12_differ_185 (by decide) ?_
    exact aw_fgt (L' := [some (vR 12 (some x0)), some (vI x1), some (vI x2), none, some (vI x4), some (vI x5), some (vI x6), some (vI x10), some (vI x8), some (vI (x9 + 1)), none]) ⟨rfl, ⟨rfl, ⟨rfl, ⟨rfl, ⟨rfl, ⟨rfl, ⟨rfl, ⟨rfl, ⟨rfl, trivial⟩⟩⟩⟩⟩⟩⟩⟩⟩ h
  · replace h := h.2 k1
    refine aw_iload dX12_differ_165 rfl ?_
    refine aw_if_ne (tgt := 178) dX12_differ_167 (by decide) (fun k3 => ?_) (fun k3 => ?_)
    · replace h := h.1 k3
      refine aw_iload dX12_differ_178 rfl ?_
      refine aw_istore (L' := [some (vR 12 (some x0)), some (vI x1), some (vI x2), none, some (vI x4), some (vI x5), some (vI x6), some (vI x10), some (vI x8), some (vI x9), some (vI x10)]) dX12_differ_180 (by decide) rfl ?_
      obtain ⟨⟨c4, c4x⟩, h⟩ := h
      refine aw_iincc (L' := [some (vR 12 (some x0)), some (vI x1), some (vI x2), none, some (vI x4), some (vI x5), some (vI x6), some (vI x10), some (vI x8), some (vI (x9 + 1)), some (vI x10)]) dX12_differ_182 rfl (by decide) rfl c4 c4x rfl ?_
      refine aw_goto (tgt := 77) dX12_differ_185 (by decide) ?_
      exact aw_fgt (L' := [some (vR 12 (some x0)), some (vI x1), some (vI x2), none, some (vI x4), some (vI x5), some (vI x6), some (vI x10), some (vI x8), some (vI (x9 + 1)), none]) ⟨rfl, ⟨rfl, ⟨rfl, ⟨rfl, ⟨rfl, ⟨rfl, ⟨rfl, ⟨rfl, ⟨rfl, trivial⟩⟩⟩⟩⟩⟩⟩⟩⟩ h
    · replace h := h.2 k3
      refine aw_iload dX12_differ_170 rfl ?_
      refine aw_if_ne (tgt := 178) dX12_differ_172 (by decide) (fun k5 => ?_) (fun k5 => ?_)
      · replace h := h.1 k5
        refine aw_iload dX12_differ_178 rfl ?_
        refine aw_istore (L' := [some (vR 12 (some x0)), some (vI x1), some (vI x2), none, some (vI x4), some (vI x5), some (vI x6), some (vI x10), some (vI x8), some (vI x9), some (vI x10)]) dX12_differ_180 (by decide) rfl ?_
        obtain ⟨⟨c6, c6x⟩, h⟩ := h
        refine aw_iincc (L' := [some (vR 12 (some x0)), some (vI x1), some (vI x2), none, some (vI x4), some (vI x5), some (vI x6), some (vI x10), some (vI x8), some (vI (x9 + 1)), some (vI x10)]) dX12_differ_182 rfl (by decide) rfl c6 c6x rfl ?_
        refine aw_goto (tgt := 77) dX12_differ_185 (by decide) ?_
        exact aw_fgt (L' := [some (vR 12 (some x0)), some (vI x1), some (vI x2), none, some (vI x4), some (vI x5), some (vI x6), some (vI x10), some (vI x8), some (vI (x9 + 1)), none]) ⟨rfl, ⟨rfl, ⟨rfl, ⟨rfl, ⟨rfl, ⟨rfl, ⟨rfl, ⟨rfl, ⟨rfl, trivial⟩⟩⟩⟩⟩⟩⟩⟩⟩ h
      · replace h := h.2 k5
        refine aw_iload dX12_differ_175 rfl ?_
        exact aw_ireturn dX12_differ_177 rfl h
set_option maxRecDepth 4000 in
theorem bk_X12_digit_0 {g : GP} {l : Launch} {d : Nat} {σ : St} {Q : Option AV → St → Prop} {x0 : Nat} {x1 : Int}
    (h : ((x1 < 48 → Q (some (vI 0)) σ) ∧ (¬ x1 < 48 → ((57 < x1 → Q (some (vI 0)) σ) ∧ (¬ 57 < x1 → Q (some (vI 1)) σ))))) :
    AW g l d MX12_digit 0 [some (vR 12 (some x0)), some (vI x1)] [] σ Q := by
  refine aw_iload_n dX12_digit_0 rfl rfl ?_
  refine aw_bipush (x := 48) dX12_digit_1 rfl ?_
  refine aw_icmp_lt (tgt := 16) dX12_digit_3 (by decide) (fun k1 => ?_) (fun k1 => ?_)
  · replace h := h.1 k1
    refine aw_iconst (x := 0) dX12_digit_16 rfl ?_
    exact aw_zreturn dX12_digit_17 rfl (Or.inl rfl) h
  · replace h := h.2 k1
    refine aw_iload_n dX12_digit_6 rfl rfl ?_
    refine aw_bipush (x := 57) dX12_digit_7 rfl ?_
    refine aw_icmp_gt (tgt := 16) dX12_digit_9 (by decide) (fun k2 => ?_) (fun k2 => ?_)
    · replace h := h.1 k2
      refine aw_iconst (x := 0) dX12_digit_16 rfl ?_
      exact aw_zreturn dX12_digit_17 rfl (Or.inl rfl) h
    · replace h := h.2 k2
      refine aw_iconst (x := 1) dX12_digit_12 rfl ?_
      refine aw_goto (tgt := 17) dX12_digit_13 (by decide) ?_
      exact aw_zreturn dX12_digit_17 rfl (Or.inr rfl) h
set_option maxRecDepth 4000 in
theorem bk_X12_drop_0 {g : GP} {l : Launch} {d : Nat} {σ : St} {Q : Option AV → St → Prop} {x0 : Nat} {x1 : Int}
    (h : ACi g l d MX12_top [vR 12 (some x0), vI x1, vI 0] σ (fun v2 σ1 => Q (some (vI v2)) σ1)) :
    AW g l (d + 1) MX12_drop 0 [some (vR 12 (some x0)), some (vI x1)] [] σ Q := by
  refine aw_aload_n dX12_drop_0 rfl rfl ?_
  refine aw_iload_n dX12_drop_1 rfl rfl ?_
  refine aw_iconst (x := 0) dX12_drop_2 rfl ?_
  refine aw_invVi (M := MX12_drop) (ci := 12) [vI x1, vI 0] rfl mo_X12_top rfl lm_X12_303 li_X12_top ls_X12_top (by decide +kernel) dX12_drop_3 rfl (Nat.le_of_ble_eq_true rfl) (ACi.mono (fun v2 σ1 h => ?_) h)
  exact aw_ireturn dX12_drop_6 rfl h
set_option maxRecDepth 4000 in
theorem bk_X12_due_0 {g : GP} {l : Launch} {d : Nat} {σ : St} {Q : Option AV → St → Prop} {x0 : Nat} {x1 : Int} {x2 : Int} {x3 : Int}
    (h : AW g l (d + 1) MX12_due 10 [some (vR 12 (some x0)), some (vI x1), some (vI x2), some (vI x3), some (vJ 0), none, some (vI (j2i (gJ σ 1288 x0 0))), none] [] σ Q) :
    AW g l (d + 1) MX12_due 0 [some (vR 12 (some x0)), some (vI x1), some (vI x2), some (vI x3), none, none, none, none] [] σ Q := by
  refine aw_lconst (x := 0) dX12_due_0 rfl ?_
  refine aw_lstore (L' := [some (vR 12 (some x0)), some (vI x1), some (vI x2), some (vI x3), some (vJ 0), none, none, none]) dX12_due_1 (by decide) rfl ?_
  refine aw_aload_n dX12_due_3 rfl rfl ?_
  refine aw_getJ' rfl fk_1288 lf_X12_280 dX12_due_4 ?_
  refine aw_l2i dX12_due_7 ?_
  refine aw_istore (L' := [some (vR 12 (some x0)), some (vI x1), some (vI x2), some (vI x3), some (vJ 0), none, some (vI (j2i (gJ σ 1288 x0 0))), none]) dX12_due_8 (by decide) rfl ?_
  exact aw_fgt (L' := [some (vR 12 (some x0)), some (vI x1), some (vI x2), some (vI x3), some (vJ 0), none, some (vI (j2i (gJ σ 1288 x0 0))), none]) ⟨rfl, ⟨rfl, ⟨rfl, ⟨rfl, ⟨rfl, ⟨rfl, trivial⟩⟩⟩⟩⟩⟩ h
set_option maxRecDepth 4000 in
theorem bk_X12_due_10 {g : GP} {l : Launch} {d : Nat} {σ : St} {Q : Option AV → St → Prop} {x0 : Nat} {x1 : Int} {x2 : Int} {x3 : Int} {x4 : Int64} {x6 : Int}
    (h : (((gJ σ 1289 x0 0).toInt ≤ (i2j x6).toInt → LC 12 σ x0 ∧ Bd x2 560 ∧ ((¬ (gI σ 1235 x0 x2.toNat) = 2 → AW g l (d + 1) MX12_due 160 [some (vR 12 (some x0)), none, some (vI x2), none, none, none, none, none] [vJ x4] σ Q) ∧ ((gI σ 1235 x0 x2.toNat) = 2 → AW g l (d + 1) MX12_due 160 [some (vR 12 (some x0)), none, some (vI x2), none, none, none, none, none] [vJ (((-1) : Int64) - x4)] σ Q))) ∧ (¬ (gJ σ 1289 x0 0).toInt ≤ (i2j x6).toInt → LC 12 σ x0 ∧ Bd x3 2800 ∧ R32 ((gI σ 1268 x0 x3.toNat) + x6) ∧ ∀ z8 : Int, z8 = (gI σ 1268 x0 x3.toNat) + x6 → Bd x1 2800 ∧ ((z8 < (gI σ 1268 x0 x1.toNat) → AW g l (d + 1) MX12_due 57 [some (vR 12 (some x0)), some (vI x1), some (vI x2), some (vI x3), some (vJ x4), none, some (vI x6), some (vI z8)] [] σ Q) ∧ (¬ z8 < (gI σ 1268 x0 x1.toNat) → (((gI σ 1269 x0 x1.toNat) ≤ z8 → AW g l (d + 1) MX12_due 57 [some (vR 12 (some x0)), some (vI x1), some (vI x2), some (vI x3), some (vJ x4), none, some (vI x6), some (vI z8)] [] σ Q) ∧ (¬ (gI σ 1269 x0 x1.toNat) ≤ z8 → R32 (x6 + 1) ∧ AW g l (d + 1) MX12_due 10 [some (vR 12 (some x0)), some (vI x1), some (vI x2), some (vI x3), some (vJ x4), none, some (vI (x6 + 1)), none] [] σ Q))))))) :
    AW g l (d + 1) MX12_due 10 [some (vR 12 (some x0)), some (vI x1), some (vI x2), some (vI x3), some (vJ x4), none, some (vI x6), none] [] σ Q := by
  refine aw_iload dX12_due_10 rfl ?_
  refine aw_i2l dX12_due_12 ?_
  refine aw_aload_n dX12_due_13 rfl rfl ?_
  refine aw_getJ' rfl fk_1289 lf_X12_283 dX12_due_14 ?_
  refine aw_lcmp_ge (M := MX12_due) (tgt := 139) dX12_due_17 dX12_due_18 (by decide) (fun k1 => ?_) (fun k1 => ?_)
  · replace h := h.1 k1
    refine aw_aload_n dX12_due_139 rfl rfl ?_
    obtain ⟨lc2, h⟩ := h
    refine aw_getA' rfl fk_1235 (by decide) lf_X12_119 dX12_due_140 (LC.ne lc2 rfl rfl) ?_
    refine aw_iload_n dX12_due_143 rfl rfl ?_
    obtain ⟨⟨c3, c3x⟩, h⟩ := h
    refine aw_iaload (by decide) rfl dX12_due_144 c3 (LC.lt lc2 rfl rfl c3x) ?_
    refine aw_iconst (x := 2) dX12_due_145 rfl ?_
    refine aw_icmp_ne (tgt := 158) dX12_due_146 (by decide) (fun k4 => ?_) (fun k4 => ?_)
    · replace h := h.1 k4
      refine aw_lload dX12_due_158 rfl ?_
      exact aw_fgt (L' := [some (vR 12 (some x0)), none, some (vI x2), none, none, none, none, none]) ⟨rfl, ⟨rfl, trivial⟩⟩ h
    · replace h := h.2 k4
      refine aw_ldc2 lk_X12_521 dX12_due_149 ?_
      refine aw_lload dX12_due_152 rfl ?_
      refine aw_lsub dX12_due_154 ?_
      refine aw_goto (tgt := 160) dX12_due_155 (by decide) ?_
      exact aw_fgt (L' := [some (vR 12 (some x0)), none, some (vI x2), none, none, none, none, none]) ⟨rfl, ⟨rfl, trivial⟩⟩ h
  · replace h := h.2 k1
    refine aw_aload_n dX12_due_21 rfl rfl ?_
    obtain ⟨lc5, h⟩ := h
    refine aw_getA' rfl fk_1268 (by decide) lf_X12_220 dX12_due_22 (LC.ne lc5 rfl rfl) ?_
    refine aw_iload_n dX12_due_25 rfl rfl ?_
    obtain ⟨⟨c6, c6x⟩, h⟩ := h
    refine aw_iaload (by decide) rfl dX12_due_26 c6 (LC.lt lc5 rfl rfl c6x) ?_
    refine aw_iload dX12_due_27 rfl ?_
    obtain ⟨⟨c7, c7x⟩, h⟩ := h
    refine aw_iaddc dX12_due_29 c7 c7x ?_
    refine aw_istore (L' := [some (vR 12 (some x0)), some (vI x1), some (vI x2), some (vI x3), some (vJ x4), none, some (vI x6), some (vI ((gI σ 1268 x0 x3.toNat) + x6))]) dX12_due_30 (by decide) rfl ?_
    obtain ⟨z8, hz8⟩ : ∃ z : Int, z = (gI σ 1268 x0 x3.toNat) + x6 := ⟨_, rfl⟩
    rw [← hz8]
    replace h := h z8 hz8
    refine aw_iload dX12_due_32 rfl ?_
    refine aw_aload_n dX12_due_34 rfl rfl ?_
    refine aw_getA' rfl fk_1268 (by decide) lf_X12_220 dX12_due_35 (LC.ne lc5 rfl rfl) ?_
    refine aw_iload_n dX12_due_38 rfl rfl ?_
    obtain ⟨⟨c9, c9x⟩, h⟩ := h
    refine aw_iaload (by decide) rfl dX12_due_39 c9 (LC.lt lc5 rfl rfl c9x) ?_
    refine aw_icmp_lt (tgt := 57) dX12_due_40 (by decide) (fun k10 => ?_) (fun k10 => ?_)
    · replace h := h.1 k10
      exact aw_fgt (L' := [some (vR 12 (some x0)), some (vI x1), some (vI x2), some (vI x3), some (vJ x4), none, some (vI x6), some (vI z8)]) ⟨rfl, ⟨rfl, ⟨rfl, ⟨rfl, ⟨rfl, ⟨rfl, ⟨rfl, trivial⟩⟩⟩⟩⟩⟩⟩ h
    · replace h := h.2 k10
      refine aw_iload dX12_due_43 rfl ?_
      refine aw_aload_n dX12_due_45 rfl rfl ?_
      refine aw_getA' rfl fk_1269 (by decide) lf_X12_223 dX12_due_46 (LC.ne lc5 rfl rfl) ?_
      refine aw_iload_n dX12_due_49 rfl rfl ?_
      refine aw_iaload (by decide) rfl dX12_due_50 c9 (LC.lt lc5 rfl rfl c9x) ?_
      refine aw_icmp_ge (tgt := 57) dX12_due_51 (by decide) (fun k11 => ?_) (fun k11 => ?_)
      · replace h := h.1 k11
        exact aw_fgt (L' := [some (vR 12 (some x0)), some (vI x1), some (vI x2), some (vI x3), some (vJ x4), none, some (vI x6), some (vI z8)]) ⟨rfl, ⟨rfl, ⟨rfl, ⟨rfl, ⟨rfl, ⟨rfl, ⟨rfl, trivial⟩⟩⟩⟩⟩⟩⟩ h
      · replace h := h.2 k11
        refine aw_goto (tgt := 133) dX12_due_54 (by decide) ?_
        obtain ⟨⟨c12, c12x⟩, h⟩ := h
        refine aw_iincc (L' := [some (vR 12 (some x0)), some (vI x1), some (vI x2), some (vI x3), some (vJ x4), none, some (vI (x6 + 1)), some (vI z8)]) dX12_due_133 rfl (by decide) rfl c12 c12x rfl ?_
        refine aw_goto (tgt := 10) dX12_due_136 (by decide) ?_
        exact aw_fgt (L' := [some (vR 12 (some x0)), some (vI x1), some (vI x2), some (vI x3), some (vJ x4), none, some (vI (x6 + 1)), none]) ⟨rfl, ⟨rfl, ⟨rfl, ⟨rfl, ⟨rfl, ⟨rfl, trivial⟩⟩⟩⟩⟩⟩ h
set_option maxRecDepth 4000 in
theorem bk_X12_due_57 {g : GP} {l : Launch} {d : Nat} {σ : St} {Q : Option AV → St → Prop} {x0 : Nat} {x1 : Int} {x2 : Int} {x3 : Int} {x4 : Int64} {x6 : Int} {x7 : Int}
    (h : LC 12 σ x0 ∧ Bd x2 560 ∧ ((¬ (gI σ 1235 x0 x2.toNat) = 1 → ((¬ (gI σ 1235 x0 x2.toNat) = 3 → ACi g l d MX12_has [vR 12 (some x0), vI (gI σ 1281 x0 0), vI x7] σ (fun v6 σ5 => R32 (x6 + 1) ∧ AW g l (d + 1) MX12_due 10 [some (vR 12 (some x0)), some (vI x1), some (vI x2), some (vI x3), some (vJ (x4 + (i2j v6))), none, some (vI (x6 + 1)), none] [] σ5 Q)) ∧ ((gI σ 1235 x0 x2.toNat) = 3 → ACi g l d MX12_has [vR 12 (some x0), vI (gI σ 1281 x0 0), vI x7] σ (fun v9 σ8 => R32 (x6 + 1) ∧ AW g l (d + 1) MX12_due 10 [some (vR 12 (some x0)), some (vI x1), some (vI x2), some (vI x3), some (vJ (((31 : Int64) * x4) + (i2j v9))), none, some (vI (x6 + 1)), none] [] σ8 Q)))) ∧ ((gI σ 1235 x0 x2.toNat) = 1 → ACi g l d MX12_has [vR 12 (some x0), vI (gI σ 1281 x0 0), vI x7] σ (fun v12 σ11 => R32 (x6 + 1) ∧ AW g l (d + 1) MX12_due 10 [some (vR 12 (some x0)), some (vI x1), some (vI x2), some (vI x3), some (vJ (x4 ^^^ (i2j v12))), none, some (vI (x6 + 1)), none] [] σ11 Q)))) :
    AW g l (d + 1) MX12_due 57 [some (vR 12 (some x0)), some (vI x1), some (vI x2), some (vI x3), some (vJ x4), none, some (vI x6), some (vI x7)] [] σ Q := by
  refine aw_aload_n dX12_due_57 rfl rfl ?_
  obtain ⟨lc1, h⟩ := h
  refine aw_getA' rfl fk_1235 (by decide) lf_X12_119 dX12_due_58 (LC.ne lc1 rfl rfl) ?_
  refine aw_iload_n dX12_due_61 rfl rfl ?_
  obtain ⟨⟨c2, c2x⟩, h⟩ := h
  refine aw_iaload (by decide) rfl dX12_due_62 c2 (LC.lt lc1 rfl rfl c2x) ?_
  refine aw_iconst (x := 1) dX12_due_63 rfl ?_
  refine aw_icmp_ne (tgt := 86) dX12_due_64 (by decide) (fun k3 => ?_) (fun k3 => ?_)
  · replace h := h.1 k3
    refine aw_aload_n dX12_due_86 rfl rfl ?_
    refine aw_getA' rfl fk_1235 (by decide) lf_X12_119 dX12_due_87 (LC.ne lc1 rfl rfl) ?_
    refine aw_iload_n dX12_due_90 rfl rfl ?_
    refine aw_iaload (by decide) rfl dX12_due_91 c2 (LC.lt lc1 rfl rfl c2x) ?_
    refine aw_iconst (x := 3) dX12_due_92 rfl ?_
    refine aw_icmp_ne (tgt := 117) dX12_due_93 (by decide) (fun k4 => ?_) (fun k4 => ?_)
    · replace h := h.1 k4
      refine aw_lload dX12_due_117 rfl ?_
      refine aw_aload_n dX12_due_119 rfl rfl ?_
      refine aw_aload_n dX12_due_120 rfl rfl ?_
      refine aw_getI' rfl fk_1281 lf_X12_259 dX12_due_121 ?_
      refine aw_iload dX12_due_124 rfl ?_
      refine aw_invVi (M := MX12_due) (ci := 12) [vI (gI σ 1281 x0 0), vI x7] rfl mo_X12_has rfl lm_X12_299 li_X12_has ls_X12_has (by decide +kernel) dX12_due_126 rfl (Nat.le_of_ble_eq_true rfl) (ACi.mono (fun v6 σ5 h => ?_) h)
      refine aw_i2l dX12_due_129 ?_
      refine aw_ladd dX12_due_130 ?_
      refine aw_lstore (L' := [some (vR 12 (some x0)), some (vI x1), some (vI x2), some (vI x3), some (vJ (x4 + (i2j v6))), none, some (vI x6), some (vI x7)]) dX12_due_131 (by decide) rfl ?_
      obtain ⟨⟨c7, c7x⟩, h⟩ := h
      refine aw_iincc (L' := [some (vR 12 (some x0)), some (vI x1), some (vI x2), some (vI x3), some (vJ (x4 + (i2j v6))), none, some (vI (x6 + 1)), some (vI x7)]) dX12_due_133 rfl (by decide) rfl c7 c7x rfl ?_
      refine aw_goto (tgt := 10) dX12_due_136 (by decide) ?_
      exact aw_fgt (L' := [some (vR 12 (some x0)), some (vI x1), some (vI x2), some (vI x3), some (vJ (x4 + (i2j v6))), none, some (vI (x6 + 1)), none]) ⟨rfl, ⟨rfl, ⟨rfl, ⟨rfl, ⟨rfl, ⟨rfl, trivial⟩⟩⟩⟩⟩⟩ h
    · replace h := h.2 k4
      refine aw_ldc2 lk_X12_670 dX12_due_96 ?_
      refine aw_lload dX12_due_99 rfl ?_
      refine aw_lmul dX12_due_101 ?_
      refine aw_aload_n dX12_due_102 rfl rfl ?_
      refine aw_aload_n dX12_due_103 rfl rfl ?_
      refine aw_getI' rfl fk_1281 lf_X12_259 dX12_due_104 ?_
      refine aw_iload dX12_due_107 rfl ?_
      refine aw_invVi (M := MX12_due) (ci := 12) [vI (gI σ 1281 x0 0), vI x7] rfl mo_X12_has rfl lm_X12_299 li_X12_has ls_X12_has (by decide +kernel) dX12_due_109 rfl (Nat.le_of_ble_eq_true rfl) (ACi.mono (fun v9 σ8 h => ?_) h)
      refine aw_i2l dX12_due_112 ?_
      refine aw_ladd dX12_due_113 ?_
      refine aw_goto (tgt := 131) dX12_due_114 (by decide) ?_
      refine aw_lstore (L' := [some (vR 12 (some x0)), some (vI x1), some (vI x2), some (vI x3), some (vJ (((31 : Int64) * x4) + (i2j v9))), none, some (vI x6), some (vI x7)]) dX12_due_131 (by decide) rfl ?_
      obtain ⟨⟨c10, c10x⟩, h⟩ := h
      refine aw_iincc (L' := [some (vR 12 (some x0)), some (vI x1), some (vI x2), some (vI x3), some (vJ (((31 : Int64) * x4) + (i2j v9))), none, some (vI (x6 + 1)), some (vI x7)]) dX12_due_133 rfl (by decide) rfl c10 c10x rfl ?_
      refine aw_goto (tgt := 10) dX12_due_136 (by decide) ?_
      exact aw_fgt (L' := [some (vR 12 (some x0)), some (vI x1), some (vI x2), some (vI x3), some (vJ (((31 : Int64) * x4) + (i2j v9))), none, some (vI (x6 + 1)), none]) ⟨rfl, ⟨rfl, ⟨rfl, ⟨rfl, ⟨rfl, ⟨rfl, trivial⟩⟩⟩⟩⟩⟩ h
  · replace h := h.2 k3
    refine aw_lload dX12_due_67 rfl ?_
    refine aw_aload_n dX12_due_69 rfl rfl ?_
    refine aw_aload_n dX12_due_70 rfl rfl ?_
    refine aw_getI' rfl fk_1281 lf_X12_259 dX12_due_71 ?_
    refine aw_iload dX12_due_74 rfl ?_
    refine aw_invVi (M := MX12_due) (ci := 12) [vI (gI σ 1281 x0 0), vI x7] rfl mo_X12_has rfl lm_X12_299 li_X12_has ls_X12_has (by decide +kernel) dX12_due_76 rfl (Nat.le_of_ble_eq_true rfl) (ACi.mono (fun v12 σ11 h => ?_) h)
    refine aw_i2l dX12_due_79 ?_
    refine aw_lxor dX12_due_80 ?_
    refine aw_lstore (L' := [some (vR 12 (some x0)), some (vI x1), some (vI x2), some (vI x3), some (vJ (x4 ^^^ (i2j v12))), none, some (vI x6), some (vI x7)]) dX12_due_81 (by decide) rfl ?_
    refine aw_goto (tgt := 133) dX12_due_83 (by decide) ?_
    obtain ⟨⟨c13, c13x⟩, h⟩ := h
    refine aw_iincc (L' := [some (vR 12 (some x0)), some (vI x1), some (vI x2), some (vI x3), some (vJ (x4 ^^^ (i2j v12))), none, some (vI (x6 + 1)), some (vI x7)]) dX12_due_133 rfl (by decide) rfl c13 c13x rfl ?_
    refine aw_goto (tgt := 10) dX12_due_136 (by decide) ?_
    exact aw_fgt (L' := [some (vR 12 (some x0)), some (vI x1), some (vI x2), some (vI x3), some (vJ (x4 ^^^ (i2j v12))), none, some (vI (x6 + 1)), none]) ⟨rfl, ⟨rfl, ⟨rfl, ⟨rfl, ⟨rfl, ⟨rfl, trivial⟩⟩⟩⟩⟩⟩ h
set_option maxRecDepth 4000 in
theorem bk_X12_due_160 {g : GP} {l : Launch} {d : Nat} {σ : St} {Q : Option AV → St → Prop} {x0 : Nat} {x2 : Int} {y0 : Int64}
    (h : LC 12 σ x0 ∧ Bd x2 560 ∧ R32 (8 * (i_and (gI σ 1229 x0 x2.toNat) 15)) ∧ ACj g l d MX12_mask [vR 12 (some x0), vJ (i2j (8 * (i_and (gI σ 1229 x0 x2.toNat) 15)))] σ (fun v5 σ4 => Q (some (vJ (y0 &&& v5))) σ4)) :
    AW g l (d + 1) MX12_due 160 [some (vR 12 (some x0)), none, some (vI x2), none, none, none, none, none] [vJ y0] σ Q := by
  refine aw_aload_n dX12_due_160 rfl rfl ?_
  refine aw_bipush (x := 8) dX12_due_161 rfl ?_
  refine aw_aload_n dX12_due_163 rfl rfl ?_
  obtain ⟨lc1, h⟩ := h
  refine aw_getA' rfl fk_1229 (by decide) lf_X12_101 dX12_due_164 (LC.ne lc1 rfl rfl) ?_
  refine aw_iload_n dX12_due_167 rfl rfl ?_
  obtain ⟨⟨c2, c2x⟩, h⟩ := h
  refine aw_iaload (by decide) rfl dX12_due_168 c2 (LC.lt lc1 rfl rfl c2x) ?_
  refine aw_bipush (x := 15) dX12_due_169 rfl ?_
  refine aw_iand dX12_due_171 ?_
  obtain ⟨⟨c3, c3x⟩, h⟩ := h
  refine aw_imulc dX12_due_172 c3 c3x ?_
  refine aw_i2l dX12_due_173 ?_
  refine aw_invVj (M := MX12_due) (ci := 12) [vJ (i2j (8 * (i_and (gI σ 1229 x0 x2.toNat) 15)))] rfl mo_X12_mask rfl lm_X12_663 li_X12_mask ls_X12_mask (by decide +kernel) dX12_due_174 rfl (Nat.le_of_ble_eq_true rfl) (ACj.mono (fun v5 σ4 h => ?_) h)
  refine aw_land dX12_due_177 ?_
  exact aw_lreturn dX12_due_178 rfl h
set_option maxRecDepth 4000 in
theorem bk_X12_either_0 {g : GP} {l : Launch} {d : Nat} {σ : St} {Q : Option AV → St → Prop} {x0 : Nat}
    (h : AW g l (d + 1) MX12_either 17 [some (vR 12 (some x0)), some (vI (gI σ 1246 x0 0)), some (vI 1)] [] (sI (sI σ 1260 x0 0 0) 1261 x0 0 0) Q) :
    AW g l (d + 1) MX12_either 0 [some (vR 12 (some x0)), none, none] [] σ Q := by
  refine aw_aload_n dX12_either_0 rfl rfl ?_
  refine aw_getI' rfl fk_1246 lf_X12_152 dX12_either_1 ?_
  refine aw_istore_n (L' := [some (vR 12 (some x0)), some (vI (gI σ 1246 x0 0)), none]) dX12_either_4 rfl (by decide) rfl ?_
  refine aw_aload_n dX12_either_5 rfl rfl ?_
  refine aw_iconst (x := 0) dX12_either_6 rfl ?_
  refine aw_putI' rfl fk_1260 (Or.inl rfl) lf_X12_195 dX12_either_7 ?_
  refine aw_aload_n dX12_either_10 rfl rfl ?_
  refine aw_iconst (x := 0) dX12_either_11 rfl ?_
  refine aw_putI' rfl fk_1261 (Or.inl rfl) lf_X12_198 dX12_either_12 ?_
  refine aw_iconst (x := 1) dX12_either_15 rfl ?_
  refine aw_istore_n (L' := [some (vR 12 (some x0)), some (vI (gI σ 1246 x0 0)), some (vI 1)]) dX12_either_16 rfl (by decide) rfl ?_
  exact aw_fgt (L' := [some (vR 12 (some x0)), some (vI (gI σ 1246 x0 0)), some (vI 1)]) ⟨rfl, ⟨rfl, ⟨rfl, trivial⟩⟩⟩ h
set_option maxRecDepth 4000 in
theorem bk_X12_either_17 {g : GP} {l : Launch} {d : Nat} {σ : St} {Q : Option AV → St → Prop} {x0 : Nat} {x1 : Int} {x2 : Int}
    (h : ((x2 = 0 → AW g l (d + 1) MX12_either 55 [some (vR 12 (some x0)), some (vI x1), none] [] σ Q) ∧ (¬ x2 = 0 → ((¬ (gI σ 1251 x0 0) = 0 → AW g l (d + 1) MX12_either 55 [some (vR 12 (some x0)), some (vI x1), none] [] σ Q) ∧ ((gI σ 1251 x0 0) = 0 → ACv g l d MX12_operand [vR 12 (some x0)] σ (fun σ3 => ((¬ (gI σ3 1251 x0 0) = 0 → AW g l (d + 1) MX12_either 17 [some (vR 12 (some x0)), some (vI x1), some (vI 0)] [] σ3 Q) ∧ ((gI σ3 1251 x0 0) = 0 → ACi g l d MX12_goesOn [vR 12 (some x0)] σ3 (fun v6 σ5 => ((v6 = 0 → AW g l (d + 1) MX12_either 17 [some (vR 12 (some x0)), some (vI x1), some (vI 0)] [] σ5 Q) ∧ (¬ v6 = 0 → AW g l (d + 1) MX12_either 17 [some (vR 12 (some x0)), some (vI x1), some (vI 1)] [] σ5 Q))))))))))) :
    AW g l (d + 1) MX12_either 17 [some (vR 12 (some x0)), some (vI x1), some (vI x2)] [] σ Q := by
  refine aw_iload_n dX12_either_17 rfl rfl ?_
  refine aw_if_eq (tgt := 55) dX12_either_18 (by decide) (fun k1 => ?_) (fun k1 => ?_)
  · replace h := h.1 k1
    exact aw_fgt (L' := [some (vR 12 (some x0)), some (vI x1), none]) ⟨rfl, ⟨rfl, trivial⟩⟩ h
  · replace h := h.2 k1
    refine aw_aload_n dX12_either_21 rfl rfl ?_
    refine aw_getI' rfl fk_1251 lf_X12_167 dX12_either_22 ?_
    refine aw_if_ne (tgt := 55) dX12_either_25 (by decide) (fun k2 => ?_) (fun k2 => ?_)
    · replace h := h.1 k2
      exact aw_fgt (L' := [some (vR 12 (some x0)), some (vI x1), none]) ⟨rfl, ⟨rfl, trivial⟩⟩ h
    · replace h := h.2 k2
      refine aw_aload_n dX12_either_28 rfl rfl ?_
      refine aw_invVv (M := MX12_either) (ci := 12) [] rfl mo_X12_operand rfl lm_X12_536 li_X12_operand ls_X12_operand (by decide +kernel) dX12_either_29 rfl (Nat.le_of_ble_eq_true rfl) (ACv.mono (fun σ3 h => ?_) h)
      refine aw_aload_n dX12_either_32 rfl rfl ?_
      refine aw_getI' rfl fk_1251 lf_X12_167 dX12_either_33 ?_
      refine aw_if_ne (tgt := 50) dX12_either_36 (by decide) (fun k4 => ?_) (fun k4 => ?_)
      · replace h := h.1 k4
        refine aw_iconst (x := 0) dX12_either_50 rfl ?_
        refine aw_istore_n (L' := [some (vR 12 (some x0)), some (vI x1), some (vI 0)]) dX12_either_51 rfl (by decide) rfl ?_
        refine aw_goto (tgt := 17) dX12_either_52 (by decide) ?_
        exact aw_fgt (L' := [some (vR 12 (some x0)), some (vI x1), some (vI 0)]) ⟨rfl, ⟨rfl, ⟨rfl, trivial⟩⟩⟩ h
      · replace h := h.2 k4
        refine aw_aload_n dX12_either_39 rfl rfl ?_
        refine aw_invVi (M := MX12_either) (ci := 12) [] rfl mo_X12_goesOn rfl lm_X12_539 li_X12_goesOn ls_X12_goesOn (by decide +kernel) dX12_either_40 rfl (Nat.le_of_ble_eq_true rfl) (ACi.mono (fun v6 σ5 h => ?_) h)
        refine aw_if_eq (tgt := 50) dX12_either_43 (by decide) (fun k7 => ?_) (fun k7 => ?_)
        · replace h := h.1 k7
          refine aw_iconst (x := 0) dX12_either_50 rfl ?_
          refine aw_istore_n (L' := [some (vR 12 (some x0)), some (vI x1), some (vI 0)]) dX12_either_51 rfl (by decide) rfl ?_
          refine aw_goto (tgt := 17) dX12_either_52 (by decide) ?_
          exact aw_fgt (L' := [some (vR 12 (some x0)), some (vI x1), some (vI 0)]) ⟨rfl, ⟨rfl, ⟨rfl, trivial⟩⟩⟩ h
        · replace h := h.2 k7
          refine aw_iconst (x := 1) dX12_either_46 rfl ?_
          refine aw_goto (tgt := 51) dX12_either_47 (by decide) ?_
          refine aw_istore_n (L' := [some (vR 12 (some x0)), some (vI x1), some (vI 1)]) dX12_either_51 rfl (by decide) rfl ?_
          refine aw_goto (tgt := 17) dX12_either_52 (by decide) ?_
          exact aw_fgt (L' := [some (vR 12 (some x0)), some (vI x1), some (vI 1)]) ⟨rfl, ⟨rfl, ⟨rfl, trivial⟩⟩⟩ h
set_option maxRecDepth 4000 in
theorem bk_X12_either_55 {g : GP} {l : Launch} {d : Nat} {σ : St} {Q : Option AV → St → Prop} {x0 : Nat} {x1 : Int}
    (h : (((gI σ 1251 x0 0) ≤ 0 → ACv g l d MX12_joinAll [vR 12 (some x0), vI 1] σ (fun σ2 => ((¬ (gI σ2 1260 x0 0) = 0 → AW g l (d + 1) MX12_either 82 [some (vR 12 (some x0)), some (vI x1), none] [vI 0, vR 12 (some x0)] σ2 Q) ∧ ((gI σ2 1260 x0 0) = 0 → AW g l (d + 1) MX12_either 82 [some (vR 12 (some x0)), some (vI x1), none] [vI 1, vR 12 (some x0)] σ2 Q)))) ∧ (¬ (gI σ 1251 x0 0) ≤ 0 → Q (some (vI (-1))) σ))) :
    AW g l (d + 1) MX12_either 55 [some (vR 12 (some x0)), some (vI x1), none] [] σ Q := by
  refine aw_aload_n dX12_either_55 rfl rfl ?_
  refine aw_getI' rfl fk_1251 lf_X12_167 dX12_either_56 ?_
  refine aw_if_le (tgt := 64) dX12_either_59 (by decide) (fun k1 => ?_) (fun k1 => ?_)
  · replace h := h.1 k1
    refine aw_aload_n dX12_either_64 rfl rfl ?_
    refine aw_iconst (x := 1) dX12_either_65 rfl ?_
    refine aw_invVv (M := MX12_either) (ci := 12) [vI 1] rfl mo_X12_joinAll rfl lm_X12_542 li_X12_joinAll ls_X12_joinAll (by decide +kernel) dX12_either_66 rfl (Nat.le_of_ble_eq_true rfl) (ACv.mono (fun σ2 h => ?_) h)
    refine aw_aload_n dX12_either_69 rfl rfl ?_
    refine aw_aload_n dX12_either_70 rfl rfl ?_
    refine aw_getI' rfl fk_1260 lf_X12_195 dX12_either_71 ?_
    refine aw_if_ne (tgt := 81) dX12_either_74 (by decide) (fun k3 => ?_) (fun k3 => ?_)
    · replace h := h.1 k3
      refine aw_iconst (x := 0) dX12_either_81 rfl ?_
      exact aw_fgt (L' := [some (vR 12 (some x0)), some (vI x1), none]) ⟨rfl, ⟨rfl, trivial⟩⟩ h
    · replace h := h.2 k3
      refine aw_iconst (x := 1) dX12_either_77 rfl ?_
      refine aw_goto (tgt := 82) dX12_either_78 (by decide) ?_
      exact aw_fgt (L' := [some (vR 12 (some x0)), some (vI x1), none]) ⟨rfl, ⟨rfl, trivial⟩⟩ h
  · replace h := h.2 k1
    refine aw_iconst (x := (-1)) dX12_either_62 rfl ?_
    exact aw_ireturn dX12_either_63 rfl h
set_option maxRecDepth 4000 in
theorem bk_X12_either_82 {g : GP} {l : Launch} {d : Nat} {σ : St} {Q : Option AV → St → Prop} {x0 : Nat} {x1 : Int} {y0 : Int} {y1 : Option Nat}
    (h : ∃ r1, y1 = some r1 ∧ ACi g l d MX12_must [vR 12 (some r1), vI y0, vI 2] σ (fun v4 σ3 => ((¬ v4 = 0 → LC 12 σ3 x0 ∧ Bd (gI σ3 1259 x0 0) 9000 ∧ Q (some (vI (gI σ3 1259 x0 0))) (sI σ3 1262 x0 (gI σ3 1259 x0 0).toNat x1)) ∧ (v4 = 0 → Q (some (vI (-1))) σ3)))) :
    AW g l (d + 1) MX12_either 82 [some (vR 12 (some x0)), some (vI x1), none] [vI y0, vR 12 y1] σ Q := by
  refine aw_iconst (x := 2) dX12_either_82 rfl ?_
  obtain ⟨r1, e2, h⟩ := h
  refine aw_invVi (M := MX12_either) (ci := 12) [vI y0, vI 2] e2 mo_X12_must rfl lm_X12_404 li_X12_must ls_X12_must (by decide +kernel) dX12_either_83 rfl (Nat.le_of_ble_eq_true rfl) (ACi.mono (fun v4 σ3 h => ?_) h)
  refine aw_if_ne (tgt := 91) dX12_either_86 (by decide) (fun k5 => ?_) (fun k5 => ?_)
  · replace h := h.1 k5
    refine aw_aload_n dX12_either_91 rfl rfl ?_
    obtain ⟨lc6, h⟩ := h
    refine aw_getA' rfl fk_1262 (by decide) lf_X12_201 dX12_either_92 (LC.ne lc6 rfl rfl) ?_
    refine aw_aload_n dX12_either_95 rfl rfl ?_
    refine aw_getA' rfl fk_1259 (by decide) lf_X12_192 dX12_either_96 (LC.ne lc6 rfl rfl) ?_
    refine aw_iconst (x := 0) dX12_either_99 rfl ?_
    refine aw_iaload (by decide) rfl dX12_either_100 (by decide) (LC.lt lc6 rfl rfl (by decide)) ?_
    refine aw_iload_n dX12_either_101 rfl rfl ?_
    obtain ⟨⟨c7, c7x⟩, h⟩ := h
    refine aw_iastore (by decide) rfl dX12_either_102 c7 (LC.lt lc6 rfl rfl c7x) ?_
    refine aw_aload_n dX12_either_103 rfl rfl ?_
    refine aw_getA' rfl fk_1259 (by decide) lf_X12_192 dX12_either_104 (LC.ne lc6 rfl rfl) ?_
    refine aw_iconst (x := 0) dX12_either_107 rfl ?_
    refine aw_ialoade (v := gI σ3 1259 x0 0) (by decide) rfl dX12_either_108 (by decide) (LC.lt lc6 rfl rfl (by decide)) rfl ?_
    exact aw_ireturn dX12_either_109 rfl h
  · replace h := h.2 k5
    refine aw_iconst (x := (-1)) dX12_either_89 rfl ?_
    exact aw_ireturn dX12_either_90 rfl h
set_option maxRecDepth 4000 in
theorem bk_X12_ended_0 {g : GP} {l : Launch} {d : Nat} {σ : St} {Q : Option AV → St → Prop} {x0 : Nat}
    (h : ACi g l d MX12_isName [vR 12 (some x0)] σ (fun v2 σ1 => ACi g l d MX12_must [vR 12 (some x0), vI v2, vI 2] σ1 (fun v4 σ3 => ((v4 = 0 → Q (some (vI (-1))) σ3) ∧ (¬ v4 = 0 → LC 12 σ3 x0 ∧ Bd (gI σ3 1253 x0 0) 2 ∧ ACi g l d MX12_structNamed [vR 12 (some x0), vJ (gJ σ3 1216 x0 0), vI (gI σ3 1219 x0 (gI σ3 1253 x0 0).toNat)] σ3 (fun v9 σ8 => ((v9 < 0 → AW g l (d + 1) MX12_ended 38 [some (vR 12 (some x0)), none] [vI 0, vR 12 (some x0)] σ8 Q) ∧ (¬ v9 < 0 → AW g l (d + 1) MX12_ended 38 [some (vR 12 (some x0)), none] [vI 1, vR 12 (some x0)] σ8 Q)))))))) :
    AW g l (d + 1) MX12_ended 0 [some (vR 12 (some x0)), none] [] σ Q := by
  refine aw_aload_n dX12_ended_0 rfl rfl ?_
  refine aw_aload_n dX12_ended_1 rfl rfl ?_
  refine aw_invVi (M := MX12_ended) (ci := 12) [] rfl mo_X12_isName rfl lm_X12_418 li_X12_isName ls_X12_isName (by decide +kernel) dX12_ended_2 rfl (Nat.le_of_ble_eq_true rfl) (ACi.mono (fun v2 σ1 h => ?_) h)
  refine aw_iconst (x := 2) dX12_ended_5 rfl ?_
  refine aw_invVi (M := MX12_ended) (ci := 12) [vI v2, vI 2] rfl mo_X12_must rfl lm_X12_404 li_X12_must ls_X12_must (by decide +kernel) dX12_ended_6 rfl (Nat.le_of_ble_eq_true rfl) (ACi.mono (fun v4 σ3 h => ?_) h)
  refine aw_if_eq (tgt := 45) dX12_ended_9 (by decide) (fun k5 => ?_) (fun k5 => ?_)
  · replace h := h.1 k5
    refine aw_iconst (x := (-1)) dX12_ended_45 rfl ?_
    exact aw_ireturn dX12_ended_46 rfl h
  · replace h := h.2 k5
    refine aw_aload_n dX12_ended_12 rfl rfl ?_
    refine aw_aload_n dX12_ended_13 rfl rfl ?_
    refine aw_aload_n dX12_ended_14 rfl rfl ?_
    refine aw_getJ' rfl fk_1216 lf_X12_60 dX12_ended_15 ?_
    refine aw_aload_n dX12_ended_18 rfl rfl ?_
    obtain ⟨lc6, h⟩ := h
    refine aw_getA' rfl fk_1219 (by decide) lf_X12_70 dX12_ended_19 (LC.ne lc6 rfl rfl) ?_
    refine aw_aload_n dX12_ended_22 rfl rfl ?_
    refine aw_getI' rfl fk_1253 lf_X12_173 dX12_ended_23 ?_
    obtain ⟨⟨c7, c7x⟩, h⟩ := h
    refine aw_iaload (by decide) rfl dX12_ended_26 c7 (LC.lt lc6 rfl rfl c7x) ?_
    refine aw_invVi (M := MX12_ended) (ci := 12) [vJ (gJ σ3 1216 x0 0), vI (gI σ3 1219 x0 (gI σ3 1253 x0 0).toNat)] rfl mo_X12_structNamed rfl lm_X12_414 li_X12_structNamed ls_X12_structNamed (by decide +kernel) dX12_ended_27 rfl (Nat.le_of_ble_eq_true rfl) (ACi.mono (fun v9 σ8 h => ?_) h)
    refine aw_if_lt (tgt := 37) dX12_ended_30 (by decide) (fun k10 => ?_) (fun k10 => ?_)
    · replace h := h.1 k10
      refine aw_iconst (x := 0) dX12_ended_37 rfl ?_
      exact aw_fgt (L' := [some (vR 12 (some x0)), none]) ⟨rfl, trivial⟩ h
    · replace h := h.2 k10
      refine aw_iconst (x := 1) dX12_ended_33 rfl ?_
      refine aw_goto (tgt := 38) dX12_ended_34 (by decide) ?_
      exact aw_fgt (L' := [some (vR 12 (some x0)), none]) ⟨rfl, trivial⟩ h
set_option maxRecDepth 4000 in
theorem bk_X12_ended_38 {g : GP} {l : Launch} {d : Nat} {σ : St} {Q : Option AV → St → Prop} {x0 : Nat} {y0 : Int} {y1 : Option Nat}
    (h : ∃ r1, y1 = some r1 ∧ ACi g l d MX12_must [vR 12 (some r1), vI y0, vI 4] σ (fun v4 σ3 => ((¬ v4 = 0 → LC 12 σ3 x0 ∧ Bd (gI σ3 1253 x0 0) 2 ∧ ACi g l d MX12_structNamed [vR 12 (some x0), vJ (gJ σ3 1216 x0 0), vI (gI σ3 1219 x0 (gI σ3 1253 x0 0).toNat)] σ3 (fun v9 σ8 => ACv g l d MX12_next [vR 12 (some x0)] σ8 (fun σ10 => Q (some (vI v9)) σ10))) ∧ (v4 = 0 → Q (some (vI (-1))) σ3)))) :
    AW g l (d + 1) MX12_ended 38 [some (vR 12 (some x0)), none] [vI y0, vR 12 y1] σ Q := by
  refine aw_iconst (x := 4) dX12_ended_38 rfl ?_
  obtain ⟨r1, e2, h⟩ := h
  refine aw_invVi (M := MX12_ended) (ci := 12) [vI y0, vI 4] e2 mo_X12_must rfl lm_X12_404 li_X12_must ls_X12_must (by decide +kernel) dX12_ended_39 rfl (Nat.le_of_ble_eq_true rfl) (ACi.mono (fun v4 σ3 h => ?_) h)
  refine aw_if_ne (tgt := 47) dX12_ended_42 (by decide) (fun k5 => ?_) (fun k5 => ?_)
  · replace h := h.1 k5
    refine aw_aload_n dX12_ended_47 rfl rfl ?_
    refine aw_aload_n dX12_ended_48 rfl rfl ?_
    refine aw_getJ' rfl fk_1216 lf_X12_60 dX12_ended_49 ?_
    refine aw_aload_n dX12_ended_52 rfl rfl ?_
    obtain ⟨lc6, h⟩ := h
    refine aw_getA' rfl fk_1219 (by decide) lf_X12_70 dX12_ended_53 (LC.ne lc6 rfl rfl) ?_
    refine aw_aload_n dX12_ended_56 rfl rfl ?_
    refine aw_getI' rfl fk_1253 lf_X12_173 dX12_ended_57 ?_
    obtain ⟨⟨c7, c7x⟩, h⟩ := h
    refine aw_iaload (by decide) rfl dX12_ended_60 c7 (LC.lt lc6 rfl rfl c7x) ?_
    refine aw_invVi (M := MX12_ended) (ci := 12) [vJ (gJ σ3 1216 x0 0), vI (gI σ3 1219 x0 (gI σ3 1253 x0 0).toNat)] rfl mo_X12_structNamed rfl lm_X12_414 li_X12_structNamed ls_X12_structNamed (by decide +kernel) dX12_ended_61 rfl (Nat.le_of_ble_eq_true rfl) (ACi.mono (fun v9 σ8 h => ?_) h)
    refine aw_istore_n (L' := [some (vR 12 (some x0)), some (vI v9)]) dX12_ended_64 rfl (by decide) rfl ?_
    refine aw_aload_n dX12_ended_65 rfl rfl ?_
    refine aw_invVv (M := MX12_ended) (ci := 12) [] rfl mo_X12_next rfl lm_X12_408 li_X12_next ls_X12_next (by decide +kernel) dX12_ended_66 rfl (Nat.le_of_ble_eq_true rfl) (ACv.mono (fun σ10 h => ?_) h)
    refine aw_iload_n dX12_ended_69 rfl rfl ?_
    exact aw_ireturn dX12_ended_70 rfl h
  · replace h := h.2 k5
    refine aw_iconst (x := (-1)) dX12_ended_45 rfl ?_
    exact aw_ireturn dX12_ended_46 rfl h
set_option maxRecDepth 4000 in
theorem bk_X12_enumNamed_0 {g : GP} {l : Launch} {d : Nat} {σ : St} {Q : Option AV → St → Prop} {x0 : Nat} {x1 : Int64}
    (h : AW g l d MX12_enumNamed 2 [some (vR 12 (some x0)), some (vJ x1), none, some (vI 0)] [] σ Q) :
    AW g l d MX12_enumNamed 0 [some (vR 12 (some x0)), some (vJ x1), none, none] [] σ Q := by
  refine aw_iconst (x := 0) dX12_enumNamed_0 rfl ?_
  refine aw_istore_n (L' := [some (vR 12 (some x0)), some (vJ x1), none, some (vI 0)]) dX12_enumNamed_1 rfl (by decide) rfl ?_
  exact aw_fgt (L' := [some (vR 12 (some x0)), some (vJ x1), none, some (vI 0)]) ⟨rfl, ⟨rfl, ⟨rfl, trivial⟩⟩⟩ h
set_option maxRecDepth 4000 in
theorem bk_X12_enumNamed_2 {g : GP} {l : Launch} {d : Nat} {σ : St} {Q : Option AV → St → Prop} {x0 : Nat} {x1 : Int64} {x3 : Int}
    (h : LC 12 σ x0 ∧ Bd (gI σ 1253 x0 0) 2 ∧ (((gI σ 1220 x0 (gI σ 1253 x0 0).toNat) ≤ x3 → Q (some (vI (-1))) σ) ∧ (¬ (gI σ 1220 x0 (gI σ 1253 x0 0).toNat) ≤ x3 → R32 (8 * (gI σ 1253 x0 0)) ∧ R32 ((8 * (gI σ 1253 x0 0)) + x3) ∧ Bd ((8 * (gI σ 1253 x0 0)) + x3) 16 ∧ ((¬ (gJ σ 1224 x0 ((8 * (gI σ 1253 x0 0)) + x3).toNat) = x1 → R32 (x3 + 1) ∧ AW g l d MX12_enumNamed 2 [some (vR 12 (some x0)), some (vJ x1), none, some (vI (x3 + 1))] [] σ Q) ∧ ((gJ σ 1224 x0 ((8 * (gI σ 1253 x0 0)) + x3).toNat) = x1 → Q (some (vI x3)) σ))))) :
    AW g l d MX12_enumNamed 2 [some (vR 12 (some x0)), some (vJ x1), none, some (vI x3)] [] σ Q := by
  refine aw_iload_n dX12_enumNamed_2 rfl rfl ?_
  refine aw_aload_n dX12_enumNamed_3 rfl rfl ?_
  obtain ⟨lc1, h⟩ := h
  refine aw_getA' rfl fk_1220 (by decide) lf_X12_73 dX12_enumNamed_4 (LC.ne lc1 rfl rfl) ?_
  refine aw_aload_n dX12_enumNamed_7 rfl rfl ?_
  refine aw_getI' rfl fk_1253 lf_X12_173 dX12_enumNamed_8 ?_
  obtain ⟨⟨c2, c2x⟩, h⟩ := h
  refine aw_iaload (by decide) rfl dX12_enumNamed_11 c2 (LC.lt lc1 rfl rfl c2x) ?_
  refine aw_icmp_ge (tgt := 42) dX12_enumNamed_12 (by decide) (fun k3 => ?_) (fun k3 => ?_)
  · replace h := h.1 k3
    refine aw_iconst (x := (-1)) dX12_enumNamed_42 rfl ?_
    exact aw_ireturn dX12_enumNamed_43 rfl h
  · replace h := h.2 k3
    refine aw_aload_n dX12_enumNamed_15 rfl rfl ?_
    refine aw_getA' rfl fk_1224 (by decide) lf_X12_86 dX12_enumNamed_16 (LC.ne lc1 rfl rfl) ?_
    refine aw_bipush (x := 8) dX12_enumNamed_19 rfl ?_
    refine aw_aload_n dX12_enumNamed_21 rfl rfl ?_
    refine aw_getI' rfl fk_1253 lf_X12_173 dX12_enumNamed_22 ?_
    obtain ⟨⟨c4, c4x⟩, h⟩ := h
    refine aw_imulc dX12_enumNamed_25 c4 c4x ?_
    refine aw_iload_n dX12_enumNamed_26 rfl rfl ?_
    obtain ⟨⟨c5, c5x⟩, h⟩ := h
    refine aw_iaddc dX12_enumNamed_27 c5 c5x ?_
    obtain ⟨⟨c6, c6x⟩, h⟩ := h
    refine aw_laload (by decide) rfl dX12_enumNamed_28 c6 (LC.lt lc1 rfl rfl c6x) ?_
    refine aw_lload_n dX12_enumNamed_29 rfl rfl ?_
    refine aw_lcmp_ne (M := MX12_enumNamed) (tgt := 36) dX12_enumNamed_30 dX12_enumNamed_31 (by decide) (fun k7 => ?_) (fun k7 => ?_)
    · replace h := h.1 k7
      obtain ⟨⟨c8, c8x⟩, h⟩ := h
      refine aw_iincc (L' := [some (vR 12 (some x0)), some (vJ x1), none, some (vI (x3 + 1))]) dX12_enumNamed_36 rfl (by decide) rfl c8 c8x rfl ?_
      refine aw_goto (tgt := 2) dX12_enumNamed_39 (by decide) ?_
      exact aw_fgt (L' := [some (vR 12 (some x0)), some (vJ x1), none, some (vI (x3 + 1))]) ⟨rfl, ⟨rfl, ⟨rfl, trivial⟩⟩⟩ h
    · replace h := h.2 k7
      refine aw_iload_n dX12_enumNamed_34 rfl rfl ?_
      exact aw_ireturn dX12_enumNamed_35 rfl h
set_option maxRecDepth 4000 in
theorem bk_X12_evaluate_0 {g : GP} {l : Launch} {d : Nat} {σ : St} {Q : Option AV → St → Prop} {x0 : Nat} {x1 : Int} {x2 : Int}
    (h : ACi g l d MX12_isNode [vR 12 (some x0), vI x1, vI x2] σ (fun v2 σ1 => ((¬ v2 = 0 → R32 (400 * x1) ∧ R32 ((400 * x1) + x2) ∧ LC 12 σ1 x0 ∧ Bd ((400 * x1) + x2) 2800 ∧ (((gI σ1 1267 x0 ((400 * x1) + x2).toNat) = 0 → R32 (20 * (gI σ1 1253 x0 0)) ∧ R32 ((20 * (gI σ1 1253 x0 0)) + (gI σ1 1273 x0 ((400 * x1) + x2).toNat)) ∧ Bd ((20 * (gI σ1 1253 x0 0)) + (gI σ1 1273 x0 ((400 * x1) + x2).toNat)) 40 ∧ ACv g l d MX12_next [vR 12 (some x0)] (sI (sI (sI (sI (sI (sI σ1 1254 x0 0 (gI σ1 1273 x0 ((400 * x1) + x2).toNat)) 1257 x0 0 (gI σ1 1222 x0 ((20 * (gI σ1 1253 x0 0)) + (gI σ1 1273 x0 ((400 * x1) + x2).toNat)).toNat)) 1246 x0 0 6000) 1251 x0 0 0) 1255 x0 0 0) 1215 x0 0 0) (fun σ12 => ACi g l d MX12_either [vR 12 (some x0)] σ12 (fun v14 σ13 => ((¬ (gI σ13 1213 x0 0) = 0 → AW g l (d + 1) MX12_evaluate 107 [some (vR 12 (some x0)), none, none, some (vI ((400 * x1) + x2)), some (vI v14), none, none, none] [vI 0, vR 12 (some x0)] σ13 Q) ∧ ((gI σ13 1213 x0 0) = 0 → AW g l (d + 1) MX12_evaluate 107 [some (vR 12 (some x0)), none, none, some (vI ((400 * x1) + x2)), some (vI v14), none, none, none] [vI 1, vR 12 (some x0)] σ13 Q))))) ∧ (¬ (gI σ1 1267 x0 ((400 * x1) + x2).toNat) = 0 → Q (some (vI (-4))) σ1))) ∧ (v2 = 0 → Q (some (vI (-1))) σ1)))) :
    AW g l (d + 1) MX12_evaluate 0 [some (vR 12 (some x0)), some (vI x1), some (vI x2), none, none, none, none, none] [] σ Q := by
  refine aw_aload_n dX12_evaluate_0 rfl rfl ?_
  refine aw_iload_n dX12_evaluate_1 rfl rfl ?_
  refine aw_iload_n dX12_evaluate_2 rfl rfl ?_
  refine aw_invVi (M := MX12_evaluate) (ci := 12) [vI x1, vI x2] rfl mo_X12_isNode rfl lm_X12_688 li_X12_isNode ls_X12_isNode (by decide +kernel) dX12_evaluate_3 rfl (Nat.le_of_ble_eq_true rfl) (ACi.mono (fun v2 σ1 h => ?_) h)
  refine aw_if_ne (tgt := 11) dX12_evaluate_6 (by decide) (fun k3 => ?_) (fun k3 => ?_)
  · replace h := h.1 k3
    refine aw_sipush (x := 400) dX12_evaluate_11 rfl ?_
    refine aw_iload_n dX12_evaluate_14 rfl rfl ?_
    obtain ⟨⟨c4, c4x⟩, h⟩ := h
    refine aw_imulc dX12_evaluate_15 c4 c4x ?_
    refine aw_iload_n dX12_evaluate_16 rfl rfl ?_
    obtain ⟨⟨c5, c5x⟩, h⟩ := h
    refine aw_iaddc dX12_evaluate_17 c5 c5x ?_
    refine aw_istore_n (L' := [some (vR 12 (some x0)), some (vI x1), some (vI x2), some (vI ((400 * x1) + x2)), none, none, none, none]) dX12_evaluate_18 rfl (by decide) rfl ?_
    refine aw_aload_n dX12_evaluate_19 rfl rfl ?_
    obtain ⟨lc6, h⟩ := h
    refine aw_getA' rfl fk_1267 (by decide) lf_X12_217 dX12_evaluate_20 (LC.ne lc6 rfl rfl) ?_
    refine aw_iload_n dX12_evaluate_23 rfl rfl ?_
    obtain ⟨⟨c7, c7x⟩, h⟩ := h
    refine aw_iaload (by decide) rfl dX12_evaluate_24 c7 (LC.lt lc6 rfl rfl c7x) ?_
    refine aw_if_eq (tgt := 31) dX12_evaluate_25 (by decide) (fun k8 => ?_) (fun k8 => ?_)
    · replace h := h.1 k8
      refine aw_aload_n dX12_evaluate_31 rfl rfl ?_
      refine aw_aload_n dX12_evaluate_32 rfl rfl ?_
      refine aw_getA' rfl fk_1273 (by decide) lf_X12_235 dX12_evaluate_33 (LC.ne lc6 rfl rfl) ?_
      refine aw_iload_n dX12_evaluate_36 rfl rfl ?_
      refine aw_iaload (by decide) rfl dX12_evaluate_37 c7 (LC.lt lc6 rfl rfl c7x) ?_
      refine aw_putI' rfl fk_1254 (Or.inl rfl) lf_X12_176 dX12_evaluate_38 ?_
      refine aw_aload_n dX12_evaluate_41 rfl rfl ?_
      refine aw_aload_n dX12_evaluate_42 rfl rfl ?_
      refine aw_getA' rfl fk_1222 (by decide) lf_X12_80 dX12_evaluate_43 (LC.ne lc6 rfl rfl) ?_
      refine aw_bipush (x := 20) dX12_evaluate_46 rfl ?_
      refine aw_aload_n dX12_evaluate_48 rfl rfl ?_
      refine aw_getIe (v := gI σ1 1253 x0 0) rfl fk_1253 lf_X12_173 dX12_evaluate_49 rfl ?_
      obtain ⟨⟨c9, c9x⟩, h⟩ := h
      refine aw_imulc dX12_evaluate_52 c9 c9x ?_
      refine aw_aload_n dX12_evaluate_53 rfl rfl ?_
      refine aw_getIe (v := (gI σ1 1273 x0 ((400 * x1) + x2).toNat)) rfl fk_1254 lf_X12_176 dX12_evaluate_54 (gI_slf σ1 1254 x0 0 (gI σ1 1273 x0 ((400 * x1) + x2).toNat)) ?_
      obtain ⟨⟨c10, c10x⟩, h⟩ := h
      refine aw_iaddc dX12_evaluate_57 c10 c10x ?_
      obtain ⟨⟨c11, c11x⟩, h⟩ := h
      refine aw_ialoade (v := gI σ1 1222 x0 ((20 * (gI σ1 1253 x0 0)) + (gI σ1 1273 x0 ((400 * x1) + x2).toNat)).toNat) (by decide) rfl dX12_evaluate_58 c11 (LC.lt lc6 rfl rfl c11x) rfl ?_
      refine aw_putI' rfl fk_1257 (Or.inl rfl) lf_X12_186 dX12_evaluate_59 ?_
      refine aw_aload_n dX12_evaluate_62 rfl rfl ?_
      refine aw_sipush (x := 6000) dX12_evaluate_63 rfl ?_
      refine aw_putI' rfl fk_1246 (Or.inl rfl) lf_X12_152 dX12_evaluate_66 ?_
      refine aw_aload_n dX12_evaluate_69 rfl rfl ?_
      refine aw_iconst (x := 0) dX12_evaluate_70 rfl ?_
      refine aw_putI' rfl fk_1251 (Or.inl rfl) lf_X12_167 dX12_evaluate_71 ?_
      refine aw_aload_n dX12_evaluate_74 rfl rfl ?_
      refine aw_iconst (x := 0) dX12_evaluate_75 rfl ?_
      refine aw_putI' rfl fk_1255 (Or.inl rfl) lf_X12_179 dX12_evaluate_76 ?_
      refine aw_aload_n dX12_evaluate_79 rfl rfl ?_
      refine aw_iconst (x := 0) dX12_evaluate_80 rfl ?_
      refine aw_putI' rfl fk_1215 (Or.inl rfl) lf_X12_57 dX12_evaluate_81 ?_
      refine aw_aload_n dX12_evaluate_84 rfl rfl ?_
      refine aw_invVv (M := MX12_evaluate) (ci := 12) [] rfl mo_X12_next rfl lm_X12_408 li_X12_next ls_X12_next (by decide +kernel) dX12_evaluate_85 rfl (Nat.le_of_ble_eq_true rfl) (ACv.mono (fun σ12 h => ?_) h)
      refine aw_aload_n dX12_evaluate_88 rfl rfl ?_
      refine aw_invVi (M := MX12_evaluate) (ci := 12) [] rfl mo_X12_either rfl lm_X12_523 li_X12_either ls_X12_either (by decide +kernel) dX12_evaluate_89 rfl (Nat.le_of_ble_eq_true rfl) (ACi.mono (fun v14 σ13 h => ?_) h)
      refine aw_istore (L' := [some (vR 12 (some x0)), some (vI x1), some (vI x2), some (vI ((400 * x1) + x2)), some (vI v14), none, none, none]) dX12_evaluate_92 (by decide) rfl ?_
      refine aw_aload_n dX12_evaluate_94 rfl rfl ?_
      refine aw_aload_n dX12_evaluate_95 rfl rfl ?_
      refine aw_getI' rfl fk_1213 lf_X12_51 dX12_evaluate_96 ?_
      refine aw_if_ne (tgt := 106) dX12_evaluate_99 (by decide) (fun k15 => ?_) (fun k15 => ?_)
      · replace h := h.1 k15
        refine aw_iconst (x := 0) dX12_evaluate_106 rfl ?_
        exact aw_fgt (L' := [some (vR 12 (some x0)), none, none, some (vI ((400 * x1) + x2)), some (vI v14), none, none, none]) ⟨rfl, ⟨rfl, ⟨rfl, trivial⟩⟩⟩ h
      · replace h := h.2 k15
        refine aw_iconst (x := 1) dX12_evaluate_102 rfl ?_
        refine aw_goto (tgt := 107) dX12_evaluate_103 (by decide) ?_
        exact aw_fgt (L' := [some (vR 12 (some x0)), none, none, some (vI ((400 * x1) + x2)), some (vI v14), none, none, none]) ⟨rfl, ⟨rfl, ⟨rfl, trivial⟩⟩⟩ h
    · replace h := h.2 k8
      refine aw_bipush (x := (-4)) dX12_evaluate_28 rfl ?_
      exact aw_ireturn dX12_evaluate_30 rfl h
  · replace h := h.2 k3
    refine aw_iconst (x := (-1)) dX12_evaluate_9 rfl ?_
    exact aw_ireturn dX12_evaluate_10 rfl h
set_option maxRecDepth 4000 in
theorem bk_X12_evaluate_107 {g : GP} {l : Launch} {d : Nat} {σ : St} {Q : Option AV → St → Prop} {x0 : Nat} {x3 : Int} {x4 : Int} {y0 : Int} {y1 : Option Nat}
    (h : ∃ r1, y1 = some r1 ∧ ACi g l d MX12_must [vR 12 (some r1), vI y0, vI 2] σ (fun v4 σ3 => (((gI σ3 1251 x0 0) ≤ 0 → LC 12 σ3 x0 ∧ Bd x3 2800 ∧ ACj g l d MX12_worked [vR 12 (some x0), vI x4, vI x3, vI (gI σ3 1269 x0 x3.toNat)] (sI (sI σ3 1211 x0 0 0) 1212 x0 0 (gI σ3 1251 x0 0)) (fun v9 σ8 => (((gI σ8 1286 x0 0) = 0 → Q (some (vI 0)) (sJ σ8 1290 x0 0 v9)) ∧ (¬ (gI σ8 1286 x0 0) = 0 → Q (some (vI (-3))) σ8)))) ∧ (¬ (gI σ3 1251 x0 0) ≤ 0 → R32 ((-10) - (gI σ3 1252 x0 0)) ∧ Q (some (vI ((-10) - (gI σ3 1252 x0 0)))) (sI (sI σ3 1211 x0 0 0) 1212 x0 0 (gI σ3 1251 x0 0)))))) :
    AW g l (d + 1) MX12_evaluate 107 [some (vR 12 (some x0)), none, none, some (vI x3), some (vI x4), none, none, none] [vI y0, vR 12 y1] σ Q := by
  refine aw_iconst (x := 2) dX12_evaluate_107 rfl ?_
  obtain ⟨r1, e2, h⟩ := h
  refine aw_invVi (M := MX12_evaluate) (ci := 12) [vI y0, vI 2] e2 mo_X12_must rfl lm_X12_404 li_X12_must ls_X12_must (by decide +kernel) dX12_evaluate_108 rfl (Nat.le_of_ble_eq_true rfl) (ACi.mono (fun v4 σ3 h => ?_) h)
  refine aw_istore (L' := [some (vR 12 (some x0)), none, none, some (vI x3), some (vI x4), some (vI v4), none, none]) dX12_evaluate_111 (by decide) rfl ?_
  refine aw_aload_n dX12_evaluate_113 rfl rfl ?_
  refine aw_iconst (x := 0) dX12_evaluate_114 rfl ?_
  refine aw_putI' rfl fk_1211 (Or.inl rfl) lf_X12_45 dX12_evaluate_115 ?_
  refine aw_aload_n dX12_evaluate_118 rfl rfl ?_
  refine aw_aload_n dX12_evaluate_119 rfl rfl ?_
  refine aw_getIe (v := gI σ3 1251 x0 0) rfl fk_1251 lf_X12_167 dX12_evaluate_120 rfl ?_
  refine aw_putI' rfl fk_1212 (Or.inl rfl) lf_X12_48 dX12_evaluate_123 ?_
  refine aw_aload_n dX12_evaluate_126 rfl rfl ?_
  refine aw_getIe (v := gI σ3 1251 x0 0) rfl fk_1251 lf_X12_167 dX12_evaluate_127 rfl ?_
  refine aw_if_le (tgt := 141) dX12_evaluate_130 (by decide) (fun k5 => ?_) (fun k5 => ?_)
  · replace h := h.1 k5
    refine aw_aload_n dX12_evaluate_141 rfl rfl ?_
    refine aw_iload dX12_evaluate_142 rfl ?_
    refine aw_iload_n dX12_evaluate_144 rfl rfl ?_
    refine aw_aload_n dX12_evaluate_145 rfl rfl ?_
    obtain ⟨lc6, h⟩ := h
    refine aw_getA' rfl fk_1269 (by decide) lf_X12_223 dX12_evaluate_146 (LC.ne lc6 rfl rfl) ?_
    refine aw_iload_n dX12_evaluate_149 rfl rfl ?_
    obtain ⟨⟨c7, c7x⟩, h⟩ := h
    refine aw_ialoade (v := gI σ3 1269 x0 x3.toNat) (by decide) rfl dX12_evaluate_150 c7 (LC.lt lc6 rfl rfl c7x) rfl ?_
    refine aw_invVj (M := MX12_evaluate) (ci := 12) [vI x4, vI x3, vI (gI σ3 1269 x0 x3.toNat)] rfl mo_X12_worked rfl lm_X12_608 li_X12_worked ls_X12_worked (by decide +kernel) dX12_evaluate_151 rfl (Nat.le_of_ble_eq_true rfl) (ACj.mono (fun v9 σ8 h => ?_) h)
    refine aw_lstore (L' := [some (vR 12 (some x0)), none, none, some (vI x3), some (vI x4), some (vI v4), some (vJ v9), none]) dX12_evaluate_154 (by decide) rfl ?_
    refine aw_aload_n dX12_evaluate_156 rfl rfl ?_
    refine aw_getZ' rfl fk_1286 lf_X12_274 dX12_evaluate_157 ?_
    refine aw_if_eq (tgt := 166) dX12_evaluate_160 (by decide) (fun k10 => ?_) (fun k10 => ?_)
    · replace h := h.1 k10
      refine aw_aload_n dX12_evaluate_166 rfl rfl ?_
      refine aw_lload dX12_evaluate_167 rfl ?_
      refine aw_putJ' rfl fk_1290 (Or.inl rfl) lf_X12_286 dX12_evaluate_169 ?_
      refine aw_iconst (x := 0) dX12_evaluate_172 rfl ?_
      exact aw_ireturn dX12_evaluate_173 rfl h
    · replace h := h.2 k10
      refine aw_bipush (x := (-3)) dX12_evaluate_163 rfl ?_
      exact aw_ireturn dX12_evaluate_165 rfl h
  · replace h := h.2 k5
    refine aw_bipush (x := (-10)) dX12_evaluate_133 rfl ?_
    refine aw_aload_n dX12_evaluate_135 rfl rfl ?_
    refine aw_getIe (v := gI σ3 1252 x0 0) rfl fk_1252 lf_X12_170 dX12_evaluate_136 rfl ?_
    obtain ⟨⟨c11, c11x⟩, h⟩ := h
    refine aw_isubc dX12_evaluate_139 c11 c11x ?_
    exact aw_ireturn dX12_evaluate_140 rfl h
set_option maxRecDepth 4000 in
theorem bk_X12_expr_0 {g : GP} {l : Launch} {d : Nat} {σ : St} {Q : Option AV → St → Prop} {x0 : Nat}
    (h : LC 12 σ x0 ∧ R32 (20 * (gI σ 1253 x0 0)) ∧ R32 ((20 * (gI σ 1253 x0 0)) + (gI σ 1254 x0 0)) ∧ Bd ((20 * (gI σ 1253 x0 0)) + (gI σ 1254 x0 0)) 40 ∧ ACi g l d MX12_either [vR 12 (some x0)] (sI σ 1257 x0 0 (gI σ 1222 x0 ((20 * (gI σ 1253 x0 0)) + (gI σ 1254 x0 0)).toNat)) (fun v6 σ5 => Q (some (vI v6)) σ5)) :
    AW g l (d + 1) MX12_expr 0 [some (vR 12 (some x0))] [] σ Q := by
  refine aw_aload_n dX12_expr_0 rfl rfl ?_
  refine aw_aload_n dX12_expr_1 rfl rfl ?_
  obtain ⟨lc1, h⟩ := h
  refine aw_getA' rfl fk_1222 (by decide) lf_X12_80 dX12_expr_2 (LC.ne lc1 rfl rfl) ?_
  refine aw_bipush (x := 20) dX12_expr_5 rfl ?_
  refine aw_aload_n dX12_expr_7 rfl rfl ?_
  refine aw_getI' rfl fk_1253 lf_X12_173 dX12_expr_8 ?_
  obtain ⟨⟨c2, c2x⟩, h⟩ := h
  refine aw_imulc dX12_expr_11 c2 c2x ?_
  refine aw_aload_n dX12_expr_12 rfl rfl ?_
  refine aw_getI' rfl fk_1254 lf_X12_176 dX12_expr_13 ?_
  obtain ⟨⟨c3, c3x⟩, h⟩ := h
  refine aw_iaddc dX12_expr_16 c3 c3x ?_
  obtain ⟨⟨c4, c4x⟩, h⟩ := h
  refine aw_iaload (by decide) rfl dX12_expr_17 c4 (LC.lt lc1 rfl rfl c4x) ?_
  refine aw_putI' rfl fk_1257 (Or.inl rfl) lf_X12_186 dX12_expr_18 ?_
  refine aw_aload_n dX12_expr_21 rfl rfl ?_
  refine aw_invVi (M := MX12_expr) (ci := 12) [] rfl mo_X12_either rfl lm_X12_523 li_X12_either ls_X12_either (by decide +kernel) dX12_expr_22 rfl (Nat.le_of_ble_eq_true rfl) (ACi.mono (fun v6 σ5 h => ?_) h)
  exact aw_ireturn dX12_expr_25 rfl h
set_option maxRecDepth 4000 in
theorem bk_X12_fault_0 {g : GP} {l : Launch} {d : Nat} {σ : St} {Q : Option AV → St → Prop} {x0 : Nat} {x1 : Int}
    (h : (((gI σ 1251 x0 0) ≤ 0 → ((¬ (gI σ 1213 x0 0) = 4 → Q none (sI (sI σ 1251 x0 0 x1) 1252 x0 0 (gI σ 1214 x0 0))) ∧ ((gI σ 1213 x0 0) = 4 → Q none (sI (sI σ 1251 x0 0 1) 1252 x0 0 (gI σ 1214 x0 0))))) ∧ (¬ (gI σ 1251 x0 0) ≤ 0 → Q none σ))) :
    AW g l d MX12_fault 0 [some (vR 12 (some x0)), some (vI x1)] [] σ Q := by
  refine aw_aload_n dX12_fault_0 rfl rfl ?_
  refine aw_getI' rfl fk_1251 lf_X12_167 dX12_fault_1 ?_
  refine aw_if_le (tgt := 8) dX12_fault_4 (by decide) (fun k1 => ?_) (fun k1 => ?_)
  · replace h := h.1 k1
    refine aw_aload_n dX12_fault_8 rfl rfl ?_
    refine aw_aload_n dX12_fault_9 rfl rfl ?_
    refine aw_getI' rfl fk_1213 lf_X12_51 dX12_fault_10 ?_
    refine aw_iconst (x := 4) dX12_fault_13 rfl ?_
    refine aw_icmp_ne (tgt := 21) dX12_fault_14 (by decide) (fun k2 => ?_) (fun k2 => ?_)
    · replace h := h.1 k2
      refine aw_iload_n dX12_fault_21 rfl rfl ?_
      refine aw_putI' rfl fk_1251 (Or.inl rfl) lf_X12_167 dX12_fault_22 ?_
      refine aw_aload_n dX12_fault_25 rfl rfl ?_
      refine aw_aload_n dX12_fault_26 rfl rfl ?_
      refine aw_getIe (v := gI σ 1214 x0 0) rfl fk_1214 lf_X12_54 dX12_fault_27 rfl ?_
      refine aw_putI' rfl fk_1252 (Or.inl rfl) lf_X12_170 dX12_fault_30 ?_
      exact aw_ret h rfl dX12_fault_33
    · replace h := h.2 k2
      refine aw_iconst (x := 1) dX12_fault_17 rfl ?_
      refine aw_goto (tgt := 22) dX12_fault_18 (by decide) ?_
      refine aw_putI' rfl fk_1251 (Or.inl rfl) lf_X12_167 dX12_fault_22 ?_
      refine aw_aload_n dX12_fault_25 rfl rfl ?_
      refine aw_aload_n dX12_fault_26 rfl rfl ?_
      refine aw_getIe (v := gI σ 1214 x0 0) rfl fk_1214 lf_X12_54 dX12_fault_27 rfl ?_
      refine aw_putI' rfl fk_1252 (Or.inl rfl) lf_X12_170 dX12_fault_30 ?_
      exact aw_ret h rfl dX12_fault_33
  · replace h := h.2 k1
    exact aw_ret h rfl dX12_fault_7
set_option maxRecDepth 4000 in
theorem bk_X12_faults_0 {g : GP} {l : Launch} {d : Nat} {σ : St} {Q : Option AV → St → Prop} {x0 : Nat} {x1 : Int} {x2 : Int}
    (h : ((x1 < 0 → Q (some (vI (-1))) σ) ∧ (¬ x1 < 0 → (((gI σ 1264 x0 0) ≤ x1 → Q (some (vI (-1))) σ) ∧ (¬ (gI σ 1264 x0 0) ≤ x1 → ((x2 < 0 → Q (some (vI (-1))) σ) ∧ (¬ x2 < 0 → ((x2 ≤ 2 → ((¬ x2 = 2 → LC 12 σ x0 ∧ Bd x1 7 ∧ R32 ((gI σ 1266 x0 x1.toNat) - 1) ∧ ∀ z9 : Int, z9 = (gI σ 1266 x0 x1.toNat) - 1 → AW g l d MX12_faults 50 [some (vR 12 (some x0)), some (vI x1), some (vI x2), some (vI 0), some (vI (-1)), some (vI z9)] [] σ Q) ∧ (x2 = 2 → LC 12 σ x0 ∧ Bd x1 7 ∧ Q (some (vI (gI σ 1266 x0 x1.toNat))) σ))) ∧ (¬ x2 ≤ 2 → Q (some (vI (-1))) σ))))))))) :
    AW g l d MX12_faults 0 [some (vR 12 (some x0)), some (vI x1), some (vI x2), none, none, none] [] σ Q := by
  refine aw_iload_n dX12_faults_0 rfl rfl ?_
  refine aw_if_lt (tgt := 21) dX12_faults_1 (by decide) (fun k1 => ?_) (fun k1 => ?_)
  · replace h := h.1 k1
    refine aw_iconst (x := (-1)) dX12_faults_21 rfl ?_
    exact aw_ireturn dX12_faults_22 rfl h
  · replace h := h.2 k1
    refine aw_iload_n dX12_faults_4 rfl rfl ?_
    refine aw_aload_n dX12_faults_5 rfl rfl ?_
    refine aw_getI' rfl fk_1264 lf_X12_208 dX12_faults_6 ?_
    refine aw_icmp_ge (tgt := 21) dX12_faults_9 (by decide) (fun k2 => ?_) (fun k2 => ?_)
    · replace h := h.1 k2
      refine aw_iconst (x := (-1)) dX12_faults_21 rfl ?_
      exact aw_ireturn dX12_faults_22 rfl h
    · replace h := h.2 k2
      refine aw_iload_n dX12_faults_12 rfl rfl ?_
      refine aw_if_lt (tgt := 21) dX12_faults_13 (by decide) (fun k3 => ?_) (fun k3 => ?_)
      · replace h := h.1 k3
        refine aw_iconst (x := (-1)) dX12_faults_21 rfl ?_
        exact aw_ireturn dX12_faults_22 rfl h
      · replace h := h.2 k3
        refine aw_iload_n dX12_faults_16 rfl rfl ?_
        refine aw_iconst (x := 2) dX12_faults_17 rfl ?_
        refine aw_icmp_le (tgt := 23) dX12_faults_18 (by decide) (fun k4 => ?_) (fun k4 => ?_)
        · replace h := h.1 k4
          refine aw_iload_n dX12_faults_23 rfl rfl ?_
          refine aw_iconst (x := 2) dX12_faults_24 rfl ?_
          refine aw_icmp_ne (tgt := 35) dX12_faults_25 (by decide) (fun k5 => ?_) (fun k5 => ?_)
          · replace h := h.1 k5
            refine aw_iconst (x := 0) dX12_faults_35 rfl ?_
            refine aw_istore_n (L' := [some (vR 12 (some x0)), some (vI x1), some (vI x2), some (vI 0), none, none]) dX12_faults_36 rfl (by decide) rfl ?_
            refine aw_iconst (x := (-1)) dX12_faults_37 rfl ?_
            refine aw_istore (L' := [some (vR 12 (some x0)), some (vI x1), some (vI x2), some (vI 0), some (vI (-1)), none]) dX12_faults_38 (by decide) rfl ?_
            refine aw_aload_n dX12_faults_40 rfl rfl ?_
            obtain ⟨lc6, h⟩ := h
            refine aw_getA' rfl fk_1266 (by decide) lf_X12_214 dX12_faults_41 (LC.ne lc6 rfl rfl) ?_
            refine aw_iload_n dX12_faults_44 rfl rfl ?_
            obtain ⟨⟨c7, c7x⟩, h⟩ := h
            refine aw_iaload (by decide) rfl dX12_faults_45 c7 (LC.lt lc6 rfl rfl c7x) ?_
            refine aw_iconst (x := 1) dX12_faults_46 rfl ?_
            obtain ⟨⟨c8, c8x⟩, h⟩ := h
            refine aw_isubc dX12_faults_47 c8 c8x ?_
            refine aw_istore (L' := [some (vR 12 (some x0)), some (vI x1), some (vI x2), some (vI 0), some (vI (-1)), some (vI ((gI σ 1266 x0 x1.toNat) - 1))]) dX12_faults_48 (by decide) rfl ?_
            obtain ⟨z9, hz9⟩ : ∃ z : Int, z = (gI σ 1266 x0 x1.toNat) - 1 := ⟨_, rfl⟩
            rw [← hz9]
            replace h := h z9 hz9
            exact aw_fgt (L' := [some (vR 12 (some x0)), some (vI x1), some (vI x2), some (vI 0), some (vI (-1)), some (vI z9)]) ⟨rfl, ⟨rfl, ⟨rfl, ⟨rfl, ⟨rfl, ⟨rfl, trivial⟩⟩⟩⟩⟩⟩ h
          · replace h := h.2 k5
            refine aw_aload_n dX12_faults_28 rfl rfl ?_
            obtain ⟨lc10, h⟩ := h
            refine aw_getA' rfl fk_1266 (by decide) lf_X12_214 dX12_faults_29 (LC.ne lc10 rfl rfl) ?_
            refine aw_iload_n dX12_faults_32 rfl rfl ?_
            obtain ⟨⟨c11, c11x⟩, h⟩ := h
            refine aw_iaload (by decide) rfl dX12_faults_33 c11 (LC.lt lc10 rfl rfl c11x) ?_
            exact aw_ireturn dX12_faults_34 rfl h
        · replace h := h.2 k4
          refine aw_iconst (x := (-1)) dX12_faults_21 rfl ?_
          exact aw_ireturn dX12_faults_22 rfl h
set_option maxRecDepth 4000 in
theorem bk_X12_faults_50 {g : GP} {l : Launch} {d : Nat} {σ : St} {Q : Option AV → St → Prop} {x0 : Nat} {x1 : Int} {x2 : Int} {x3 : Int} {x4 : Int} {x5 : Int}
    (h : ((x5 < 0 → ((¬ x2 = 0 → Q (some (vI x4)) σ) ∧ (x2 = 0 → Q (some (vI x3)) σ))) ∧ (¬ x5 < 0 → LC 12 σ x0 ∧ R32 (400 * x1) ∧ R32 ((400 * x1) + x5) ∧ Bd ((400 * x1) + x5) 2800 ∧ ((¬ (gI σ 1272 x0 ((400 * x1) + x5).toNat) = 0 → R32 (x3 + 1) ∧ R32 (x5 + (-1)) ∧ AW g l d MX12_faults 50 [some (vR 12 (some x0)), some (vI x1), some (vI x2), some (vI (x3 + 1)), some (vI x5), some (vI (x5 + (-1)))] [] σ Q) ∧ ((gI σ 1272 x0 ((400 * x1) + x5).toNat) = 0 → R32 (x5 + (-1)) ∧ AW g l d MX12_faults 50 [some (vR 12 (some x0)), some (vI x1), some (vI x2), some (vI x3), some (vI x4), some (vI (x5 + (-1)))] [] σ Q))))) :
    AW g l d MX12_faults 50 [some (vR 12 (some x0)), some (vI x1), some (vI x2), some (vI x3), some (vI x4), some (vI x5)] [] σ Q := by
  refine aw_iload dX12_faults_50 rfl ?_
  refine aw_if_lt (tgt := 87) dX12_faults_52 (by decide) (fun k1 => ?_) (fun k1 => ?_)
  · replace h := h.1 k1
    refine aw_iload_n dX12_faults_87 rfl rfl ?_
    refine aw_if_ne (tgt := 95) dX12_faults_88 (by decide) (fun k2 => ?_) (fun k2 => ?_)
    · replace h := h.1 k2
      refine aw_iload dX12_faults_95 rfl ?_
      exact aw_ireturn dX12_faults_97 rfl h
    · replace h := h.2 k2
      refine aw_iload_n dX12_faults_91 rfl rfl ?_
      refine aw_goto (tgt := 97) dX12_faults_92 (by decide) ?_
      exact aw_ireturn dX12_faults_97 rfl h
  · replace h := h.2 k1
    refine aw_aload_n dX12_faults_55 rfl rfl ?_
    obtain ⟨lc3, h⟩ := h
    refine aw_getA' rfl fk_1272 (by decide) lf_X12_232 dX12_faults_56 (LC.ne lc3 rfl rfl) ?_
    refine aw_sipush (x := 400) dX12_faults_59 rfl ?_
    refine aw_iload_n dX12_faults_62 rfl rfl ?_
    obtain ⟨⟨c4, c4x⟩, h⟩ := h
    refine aw_imulc dX12_faults_63 c4 c4x ?_
    refine aw_iload dX12_faults_64 rfl ?_
    obtain ⟨⟨c5, c5x⟩, h⟩ := h
    refine aw_iaddc dX12_faults_66 c5 c5x ?_
    obtain ⟨⟨c6, c6x⟩, h⟩ := h
    refine aw_iaload (by decide) rfl dX12_faults_67 c6 (LC.lt lc3 rfl rfl c6x) ?_
    refine aw_if_ne (tgt := 74) dX12_faults_68 (by decide) (fun k7 => ?_) (fun k7 => ?_)
    · replace h := h.1 k7
      obtain ⟨⟨c8, c8x⟩, h⟩ := h
      refine aw_iincc (L' := [some (vR 12 (some x0)), some (vI x1), some (vI x2), some (vI (x3 + 1)), some (vI x4), some (vI x5)]) dX12_faults_74 rfl (by decide) rfl c8 c8x rfl ?_
      refine aw_iload dX12_faults_77 rfl ?_
      refine aw_istore (L' := [some (vR 12 (some x0)), some (vI x1), some (vI x2), some (vI (x3 + 1)), some (vI x5), some (vI x5)]) dX12_faults_79 (by decide) rfl ?_
      obtain ⟨⟨c9, c9x⟩, h⟩ := h
      refine aw_iincc (L' := [some (vR 12 (some x0)), some (vI x1), some (vI x2), some (vI (x3 + 1)), some (vI x5), some (vI (x5 + (-1)))]) dX12_faults_81 rfl (by decide) rfl c9 c9x rfl ?_
      refine aw_goto (tgt := 50) dX12_faults_84 (by decide) ?_
      exact aw_fgt (L' := [some (vR 12 (some x0)), some (vI x1), some (vI x2), some (vI (x3 + 1)), some (vI x5), some (vI (x5 + (-1)))]) ⟨rfl, ⟨rfl, ⟨rfl, ⟨rfl, ⟨rfl, ⟨rfl, trivial⟩⟩⟩⟩⟩⟩ h
    · replace h := h.2 k7
      refine aw_goto (tgt := 81) dX12_faults_71 (by decide) ?_
      obtain ⟨⟨c10, c10x⟩, h⟩ := h
      refine aw_iincc (L' := [some (vR 12 (some x0)), some (vI x1), some (vI x2), some (vI x3), some (vI x4), some (vI (x5 + (-1)))]) dX12_faults_81 rfl (by decide) rfl c10 c10x rfl ?_
      refine aw_goto (tgt := 50) dX12_faults_84 (by decide) ?_
      exact aw_fgt (L' := [some (vR 12 (some x0)), some (vI x1), some (vI x2), some (vI x3), some (vI x4), some (vI (x5 + (-1)))]) ⟨rfl, ⟨rfl, ⟨rfl, ⟨rfl, ⟨rfl, ⟨rfl, trivial⟩⟩⟩⟩⟩⟩ h
set_option maxRecDepth 4000 in
theorem bk_X12_faulty_0 {g : GP} {l : Launch} {d : Nat} {σ : St} {Q : Option AV → St → Prop} {x0 : Nat} {x1 : Int} {x2 : Int}
    (h : LC 12 σ x0 ∧ Bd x1 2800 ∧ ((¬ (gI σ 1272 x0 x1.toNat) = 0 → Q none σ) ∧ ((gI σ 1272 x0 x1.toNat) = 0 → Q none (sI σ 1272 x0 x1.toNat x2)))) :
    AW g l d MX12_faulty 0 [some (vR 12 (some x0)), some (vI x1), some (vI x2)] [] σ Q := by
  refine aw_aload_n dX12_faulty_0 rfl rfl ?_
  obtain ⟨lc1, h⟩ := h
  refine aw_getA' rfl fk_1272 (by decide) lf_X12_232 dX12_faulty_1 (LC.ne lc1 rfl rfl) ?_
  refine aw_iload_n dX12_faulty_4 rfl rfl ?_
  obtain ⟨⟨c2, c2x⟩, h⟩ := h
  refine aw_iaload (by decide) rfl dX12_faulty_5 c2 (LC.lt lc1 rfl rfl c2x) ?_
  refine aw_if_ne (tgt := 16) dX12_faulty_6 (by decide) (fun k3 => ?_) (fun k3 => ?_)
  · replace h := h.1 k3
    exact aw_ret h rfl dX12_faulty_16
  · replace h := h.2 k3
    refine aw_aload_n dX12_faulty_9 rfl rfl ?_
    refine aw_getA' rfl fk_1272 (by decide) lf_X12_232 dX12_faulty_10 (LC.ne lc1 rfl rfl) ?_
    refine aw_iload_n dX12_faulty_13 rfl rfl ?_
    refine aw_iload_n dX12_faulty_14 rfl rfl ?_
    refine aw_iastore (by decide) rfl dX12_faulty_15 c2 (LC.lt lc1 rfl rfl c2x) ?_
    exact aw_ret h rfl dX12_faulty_16
set_option maxRecDepth 4000 in
theorem bk_X12_feed_0 {g : GP} {l : Launch} {d : Nat} {σ : St} {Q : Option AV → St → Prop} {x0 : Nat} {x1 : Int64} {x3 : Int}
    (h : ((x3 < 1 → Q (some (vI (-3))) σ) ∧ (¬ x3 < 1 → ((x3 ≤ 8 → R32 ((gI σ 1211 x0 0) + x3) ∧ ((((gI σ 1211 x0 0) + x3) ≤ 3000 → R32 (x3 - 1) ∧ AW g l d MX12_feed 34 [some (vR 12 (some x0)), some (vJ x1), none, none, some (vI (x3 - 1))] [] σ Q) ∧ (¬ ((gI σ 1211 x0 0) + x3) ≤ 3000 → Q (some (vI (-2))) σ))) ∧ (¬ x3 ≤ 8 → Q (some (vI (-3))) σ))))) :
    AW g l d MX12_feed 0 [some (vR 12 (some x0)), some (vJ x1), none, some (vI x3), none] [] σ Q := by
  refine aw_iload_n dX12_feed_0 rfl rfl ?_
  refine aw_iconst (x := 1) dX12_feed_1 rfl ?_
  refine aw_icmp_lt (tgt := 11) dX12_feed_2 (by decide) (fun k1 => ?_) (fun k1 => ?_)
  · replace h := h.1 k1
    refine aw_bipush (x := (-3)) dX12_feed_11 rfl ?_
    exact aw_ireturn dX12_feed_13 rfl h
  · replace h := h.2 k1
    refine aw_iload_n dX12_feed_5 rfl rfl ?_
    refine aw_bipush (x := 8) dX12_feed_6 rfl ?_
    refine aw_icmp_le (tgt := 14) dX12_feed_8 (by decide) (fun k2 => ?_) (fun k2 => ?_)
    · replace h := h.1 k2
      refine aw_aload_n dX12_feed_14 rfl rfl ?_
      refine aw_getI' rfl fk_1211 lf_X12_45 dX12_feed_15 ?_
      refine aw_iload_n dX12_feed_18 rfl rfl ?_
      obtain ⟨⟨c3, c3x⟩, h⟩ := h
      refine aw_iaddc dX12_feed_19 c3 c3x ?_
      refine aw_sipush (x := 3000) dX12_feed_20 rfl ?_
      refine aw_icmp_le (tgt := 29) dX12_feed_23 (by decide) (fun k4 => ?_) (fun k4 => ?_)
      · replace h := h.1 k4
        refine aw_iload_n dX12_feed_29 rfl rfl ?_
        refine aw_iconst (x := 1) dX12_feed_30 rfl ?_
        obtain ⟨⟨c5, c5x⟩, h⟩ := h
        refine aw_isubc dX12_feed_31 c5 c5x ?_
        refine aw_istore (L' := [some (vR 12 (some x0)), some (vJ x1), none, some (vI x3), some (vI (x3 - 1))]) dX12_feed_32 (by decide) rfl ?_
        exact aw_fgt (L' := [some (vR 12 (some x0)), some (vJ x1), none, none, some (vI (x3 - 1))]) ⟨rfl, ⟨rfl, ⟨rfl, trivial⟩⟩⟩ h
      · replace h := h.2 k4
        refine aw_bipush (x := (-2)) dX12_feed_26 rfl ?_
        exact aw_ireturn dX12_feed_28 rfl h
    · replace h := h.2 k2
      refine aw_bipush (x := (-3)) dX12_feed_11 rfl ?_
      exact aw_ireturn dX12_feed_13 rfl h
set_option maxRecDepth 4000 in
theorem bk_X12_feed_34 {g : GP} {l : Launch} {d : Nat} {σ : St} {Q : Option AV → St → Prop} {x0 : Nat} {x1 : Int64} {x4 : Int}
    (h : ((x4 < 0 → Q (some (vI (gI σ 1211 x0 0))) σ) ∧ (¬ x4 < 0 → LC 12 σ x0 ∧ R32 (8 * x4) ∧ Bd (gI σ 1211 x0 0) 3000 ∧ R32 ((gI σ 1211 x0 0) + 1) ∧ R32 (x4 + (-1)) ∧ AW g l d MX12_feed 34 [some (vR 12 (some x0)), some (vJ x1), none, none, some (vI (x4 + (-1)))] [] (sI (sI σ 1210 x0 (gI σ 1211 x0 0).toNat (j2i ((j_shr x1 (8 * x4)) &&& (255 : Int64)))) 1211 x0 0 ((gI σ 1211 x0 0) + 1)) Q))) :
    AW g l d MX12_feed 34 [some (vR 12 (some x0)), some (vJ x1), none, none, some (vI x4)] [] σ Q := by
  refine aw_iload dX12_feed_34 rfl ?_
  refine aw_if_lt (tgt := 76) dX12_feed_36 (by decide) (fun k1 => ?_) (fun k1 => ?_)
  · replace h := h.1 k1
    refine aw_aload_n dX12_feed_76 rfl rfl ?_
    refine aw_getI' rfl fk_1211 lf_X12_45 dX12_feed_77 ?_
    exact aw_ireturn dX12_feed_80 rfl h
  · replace h := h.2 k1
    refine aw_aload_n dX12_feed_39 rfl rfl ?_
    obtain ⟨lc2, h⟩ := h
    refine aw_getA' rfl fk_1210 (by decide) lf_X12_42 dX12_feed_40 (LC.ne lc2 rfl rfl) ?_
    refine aw_aload_n dX12_feed_43 rfl rfl ?_
    refine aw_getI' rfl fk_1211 lf_X12_45 dX12_feed_44 ?_
    refine aw_lload_n dX12_feed_47 rfl rfl ?_
    refine aw_bipush (x := 8) dX12_feed_48 rfl ?_
    refine aw_iload dX12_feed_50 rfl ?_
    obtain ⟨⟨c3, c3x⟩, h⟩ := h
    refine aw_imulc dX12_feed_52 c3 c3x ?_
    refine aw_lshr dX12_feed_53 ?_
    refine aw_ldc2 lk_X12_297 dX12_feed_54 ?_
    refine aw_land dX12_feed_57 ?_
    refine aw_l2i dX12_feed_58 ?_
    obtain ⟨⟨c4, c4x⟩, h⟩ := h
    refine aw_iastore (by decide) rfl dX12_feed_59 c4 (LC.lt lc2 rfl rfl c4x) ?_
    refine aw_aload_n dX12_feed_60 rfl rfl ?_
    refine aw_dup dX12_feed_61 rfl ?_
    refine aw_getIe (v := gI σ 1211 x0 0) rfl fk_1211 lf_X12_45 dX12_feed_62 rfl ?_
    refine aw_iconst (x := 1) dX12_feed_65 rfl ?_
    obtain ⟨⟨c5, c5x⟩, h⟩ := h
    refine aw_iaddc dX12_feed_66 c5 c5x ?_
    refine aw_putI' rfl fk_1211 (Or.inl rfl) lf_X12_45 dX12_feed_67 ?_
    obtain ⟨⟨c6, c6x⟩, h⟩ := h
    refine aw_iincc (L' := [some (vR 12 (some x0)), some (vJ x1), none, none, some (vI (x4 + (-1)))]) dX12_feed_70 rfl (by decide) rfl c6 c6x rfl ?_
    refine aw_goto (tgt := 34) dX12_feed_73 (by decide) ?_
    exact aw_fgt (L' := [some (vR 12 (some x0)), some (vJ x1), none, none, some (vI (x4 + (-1)))]) ⟨rfl, ⟨rfl, ⟨rfl, trivial⟩⟩⟩ h
set_option maxRecDepth 4000 in
theorem bk_X12_field_0 {g : GP} {l : Launch} {d : Nat} {σ : St} {Q : Option AV → St → Prop} {x0 : Nat} {x1 : Int} {x2 : Int}
    (h : R32 (20 * (gI σ 1253 x0 0)) ∧ R32 ((20 * (gI σ 1253 x0 0)) + x1) ∧ R32 (14 * ((20 * (gI σ 1253 x0 0)) + x1)) ∧ R32 ((14 * ((20 * (gI σ 1253 x0 0)) + x1)) + x2) ∧ Q (some (vI ((14 * ((20 * (gI σ 1253 x0 0)) + x1)) + x2))) σ) :
    AW g l d MX12_field 0 [some (vR 12 (some x0)), some (vI x1), some (vI x2)] [] σ Q := by
  refine aw_bipush (x := 14) dX12_field_0 rfl ?_
  refine aw_bipush (x := 20) dX12_field_2 rfl ?_
  refine aw_aload_n dX12_field_4 rfl rfl ?_
  refine aw_getI' rfl fk_1253 lf_X12_173 dX12_field_5 ?_
  obtain ⟨⟨c1, c1x⟩, h⟩ := h
  refine aw_imulc dX12_field_8 c1 c1x ?_
  refine aw_iload_n dX12_field_9 rfl rfl ?_
  obtain ⟨⟨c2, c2x⟩, h⟩ := h
  refine aw_iaddc dX12_field_10 c2 c2x ?_
  obtain ⟨⟨c3, c3x⟩, h⟩ := h
  refine aw_imulc dX12_field_11 c3 c3x ?_
  refine aw_iload_n dX12_field_12 rfl rfl ?_
  obtain ⟨⟨c4, c4x⟩, h⟩ := h
  refine aw_iaddc dX12_field_13 c4 c4x ?_
  exact aw_ireturn dX12_field_14 rfl h
set_option maxRecDepth 4000 in
theorem bk_X12_fieldBegun_0 {g : GP} {l : Launch} {d : Nat} {σ : St} {Q : Option AV → St → Prop} {x0 : Nat} {x1 : Int} {x2 : Int}
    (h : LC 12 σ x0 ∧ Bd x1 2800 ∧ Bd x2 560 ∧ (((gI σ 1232 x0 x2.toNat) < 0 → AW g l (d + 1) MX12_fieldBegun 67 [some (vR 12 (some x0)), some (vI x1), some (vI x2), some (vI (gI σ 1269 x0 x1.toNat)), none, none, none, none] [] σ Q) ∧ (¬ (gI σ 1232 x0 x2.toNat) < 0 → ACj g l d MX12_worked [vR 12 (some x0), vI (gI σ 1232 x0 x2.toNat), vI x1, vI (gI σ 1269 x0 x1.toNat)] σ (fun v6 σ5 => ((v6 = (0 : Int64) → AW g l (d + 1) MX12_fieldBegun 38 [some (vR 12 (some x0)), some (vI x1), some (vI x2), some (vI (gI σ 1269 x0 x1.toNat)), none, none, none, none] [vI 0] σ5 Q) ∧ (¬ v6 = (0 : Int64) → AW g l (d + 1) MX12_fieldBegun 38 [some (vR 12 (some x0)), some (vI x1), some (vI x2), some (vI (gI σ 1269 x0 x1.toNat)), none, none, none, none] [vI 1] σ5 Q)))))) :
    AW g l (d + 1) MX12_fieldBegun 0 [some (vR 12 (some x0)), some (vI x1), some (vI x2), none, none, none, none, none] [] σ Q := by
  refine aw_aload_n dX12_fieldBegun_0 rfl rfl ?_
  obtain ⟨lc1, h⟩ := h
  refine aw_getA' rfl fk_1269 (by decide) lf_X12_223 dX12_fieldBegun_1 (LC.ne lc1 rfl rfl) ?_
  refine aw_iload_n dX12_fieldBegun_4 rfl rfl ?_
  obtain ⟨⟨c2, c2x⟩, h⟩ := h
  refine aw_iaload (by decide) rfl dX12_fieldBegun_5 c2 (LC.lt lc1 rfl rfl c2x) ?_
  refine aw_istore_n (L' := [some (vR 12 (some x0)), some (vI x1), some (vI x2), some (vI (gI σ 1269 x0 x1.toNat)), none, none, none, none]) dX12_fieldBegun_6 rfl (by decide) rfl ?_
  refine aw_aload_n dX12_fieldBegun_7 rfl rfl ?_
  refine aw_getA' rfl fk_1232 (by decide) lf_X12_110 dX12_fieldBegun_8 (LC.ne lc1 rfl rfl) ?_
  refine aw_iload_n dX12_fieldBegun_11 rfl rfl ?_
  obtain ⟨⟨c3, c3x⟩, h⟩ := h
  refine aw_iaload (by decide) rfl dX12_fieldBegun_12 c3 (LC.lt lc1 rfl rfl c3x) ?_
  refine aw_if_lt (tgt := 67) dX12_fieldBegun_13 (by decide) (fun k4 => ?_) (fun k4 => ?_)
  · replace h := h.1 k4
    exact aw_fgt (L' := [some (vR 12 (some x0)), some (vI x1), some (vI x2), some (vI (gI σ 1269 x0 x1.toNat)), none, none, none, none]) ⟨rfl, ⟨rfl, ⟨rfl, ⟨rfl, trivial⟩⟩⟩⟩ h
  · replace h := h.2 k4
    refine aw_aload_n dX12_fieldBegun_16 rfl rfl ?_
    refine aw_aload_n dX12_fieldBegun_17 rfl rfl ?_
    refine aw_getA' rfl fk_1232 (by decide) lf_X12_110 dX12_fieldBegun_18 (LC.ne lc1 rfl rfl) ?_
    refine aw_iload_n dX12_fieldBegun_21 rfl rfl ?_
    refine aw_iaload (by decide) rfl dX12_fieldBegun_22 c3 (LC.lt lc1 rfl rfl c3x) ?_
    refine aw_iload_n dX12_fieldBegun_23 rfl rfl ?_
    refine aw_iload_n dX12_fieldBegun_24 rfl rfl ?_
    refine aw_invVj (M := MX12_fieldBegun) (ci := 12) [vI (gI σ 1232 x0 x2.toNat), vI x1, vI (gI σ 1269 x0 x1.toNat)] rfl mo_X12_worked rfl lm_X12_608 li_X12_worked ls_X12_worked (by decide +kernel) dX12_fieldBegun_25 rfl (Nat.le_of_ble_eq_true rfl) (ACj.mono (fun v6 σ5 h => ?_) h)
    refine aw_lconst (x := 0) dX12_fieldBegun_28 rfl ?_
    refine aw_lcmp_eq (M := MX12_fieldBegun) (tgt := 37) dX12_fieldBegun_29 dX12_fieldBegun_30 (by decide) (fun k7 => ?_) (fun k7 => ?_)
    · replace h := h.1 k7
      refine aw_iconst (x := 0) dX12_fieldBegun_37 rfl ?_
      exact aw_fgt (L' := [some (vR 12 (some x0)), some (vI x1), some (vI x2), some (vI (gI σ 1269 x0 x1.toNat)), none, none, none, none]) ⟨rfl, ⟨rfl, ⟨rfl, ⟨rfl, trivial⟩⟩⟩⟩ h
    · replace h := h.2 k7
      refine aw_iconst (x := 1) dX12_fieldBegun_33 rfl ?_
      refine aw_goto (tgt := 38) dX12_fieldBegun_34 (by decide) ?_
      exact aw_fgt (L' := [some (vR 12 (some x0)), some (vI x1), some (vI x2), some (vI (gI σ 1269 x0 x1.toNat)), none, none, none, none]) ⟨rfl, ⟨rfl, ⟨rfl, ⟨rfl, trivial⟩⟩⟩⟩ h
set_option maxRecDepth 4000 in
theorem bk_X12_fieldBegun_38 {g : GP} {l : Launch} {d : Nat} {σ : St} {Q : Option AV → St → Prop} {x0 : Nat} {x1 : Int} {x2 : Int} {x3 : Int} {y0 : Int}
    (h : (((gI σ 1286 x0 0) = 0 → ((¬ y0 = 0 → AW g l (d + 1) MX12_fieldBegun 67 [some (vR 12 (some x0)), some (vI x1), some (vI x2), some (vI x3), none, none, none, none] [] σ Q) ∧ (y0 = 0 → Q none σ))) ∧ (¬ (gI σ 1286 x0 0) = 0 → ACv g l d MX12_faulty [vR 12 (some x0), vI x1, vI 6] σ (fun σ3 => ((¬ (gI σ3 1286 x0 0) = 0 → Q none σ3) ∧ ((gI σ3 1286 x0 0) = 0 → ((¬ y0 = 0 → AW g l (d + 1) MX12_fieldBegun 67 [some (vR 12 (some x0)), some (vI x1), some (vI x2), some (vI x3), none, none, none, none] [] σ3 Q) ∧ (y0 = 0 → Q none σ3)))))))) :
    AW g l (d + 1) MX12_fieldBegun 38 [some (vR 12 (some x0)), some (vI x1), some (vI x2), some (vI x3), none, none, none, none] [vI y0] σ Q := by
  refine aw_istore (L' := [some (vR 12 (some x0)), some (vI x1), some (vI x2), some (vI x3), some (vI y0), none, none, none]) dX12_fieldBegun_38 (by decide) rfl ?_
  refine aw_aload_n dX12_fieldBegun_40 rfl rfl ?_
  refine aw_getZ' rfl fk_1286 lf_X12_274 dX12_fieldBegun_41 ?_
  refine aw_if_eq (tgt := 54) dX12_fieldBegun_44 (by decide) (fun k1 => ?_) (fun k1 => ?_)
  · replace h := h.1 k1
    refine aw_aload_n dX12_fieldBegun_54 rfl rfl ?_
    refine aw_getZ' rfl fk_1286 lf_X12_274 dX12_fieldBegun_55 ?_
    refine aw_if_ne (tgt := 66) dX12_fieldBegun_58 (by decide) (fun q => absurd k1 q) (fun _ => ?_)
    refine aw_iload dX12_fieldBegun_61 rfl ?_
    refine aw_if_ne (tgt := 67) dX12_fieldBegun_63 (by decide) (fun k2 => ?_) (fun k2 => ?_)
    · replace h := h.1 k2
      exact aw_fgt (L' := [some (vR 12 (some x0)), some (vI x1), some (vI x2), some (vI x3), none, none, none, none]) ⟨rfl, ⟨rfl, ⟨rfl, ⟨rfl, trivial⟩⟩⟩⟩ h
    · replace h := h.2 k2
      exact aw_ret h rfl dX12_fieldBegun_66
  · replace h := h.2 k1
    refine aw_aload_n dX12_fieldBegun_47 rfl rfl ?_
    refine aw_iload_n dX12_fieldBegun_48 rfl rfl ?_
    refine aw_bipush (x := 6) dX12_fieldBegun_49 rfl ?_
    refine aw_invVv (M := MX12_fieldBegun) (ci := 12) [vI x1, vI 6] rfl mo_X12_faulty rfl lm_X12_577 li_X12_faulty ls_X12_faulty (by decide +kernel) dX12_fieldBegun_51 rfl (Nat.le_of_ble_eq_true rfl) (ACv.mono (fun σ3 h => ?_) h)
    refine aw_aload_n dX12_fieldBegun_54 rfl rfl ?_
    refine aw_getZ' rfl fk_1286 lf_X12_274 dX12_fieldBegun_55 ?_
    refine aw_if_ne (tgt := 66) dX12_fieldBegun_58 (by decide) (fun k4 => ?_) (fun k4 => ?_)
    · replace h := h.1 k4
      exact aw_ret h rfl dX12_fieldBegun_66
    · replace h := h.2 k4
      refine aw_iload dX12_fieldBegun_61 rfl ?_
      refine aw_if_ne (tgt := 67) dX12_fieldBegun_63 (by decide) (fun k5 => ?_) (fun k5 => ?_)
      · replace h := h.1 k5
        exact aw_fgt (L' := [some (vR 12 (some x0)), some (vI x1), some (vI x2), some (vI x3), none, none, none, none]) ⟨rfl, ⟨rfl, ⟨rfl, ⟨rfl, trivial⟩⟩⟩⟩ h
      · replace h := h.2 k5
        exact aw_ret h rfl dX12_fieldBegun_66
set_option maxRecDepth 4000 in
theorem bk_X12_fieldBegun_67 {g : GP} {l : Launch} {d : Nat} {σ : St} {Q : Option AV → St → Prop} {x0 : Nat} {x1 : Int} {x2 : Int} {x3 : Int}
    (h : LC 12 σ x0 ∧ Bd x2 560 ∧ ((¬ (gI σ 1228 x0 x2.toNat) = 2 → ((¬ (gI σ 1228 x0 x2.toNat) = 0 → (((gI σ 1228 x0 x2.toNat) = 1 → AW g l (d + 1) MX12_fieldBegun 233 [some (vR 12 (some x0)), some (vI x1), some (vI x2), some (vI x3), none, none, none, none] [vI 2] σ Q) ∧ (¬ (gI σ 1228 x0 x2.toNat) = 1 → ((¬ (gI σ 1228 x0 x2.toNat) = 3 → ((¬ (gI σ 1228 x0 x2.toNat) = 4 → (((gI σ 1228 x0 x2.toNat) = 5 → AW g l (d + 1) MX12_fieldBegun 233 [some (vR 12 (some x0)), some (vI x1), some (vI x2), some (vI x3), none, none, none, none] [vI 5] σ Q) ∧ (¬ (gI σ 1228 x0 x2.toNat) = 5 → ((¬ (gI σ 1228 x0 x2.toNat) = 6 → ((¬ (gI σ 1228 x0 x2.toNat) = 7 → ((¬ (gI σ 1228 x0 x2.toNat) = 8 → ((¬ (gI σ 1228 x0 x2.toNat) = 9 → ((¬ (gI σ 1228 x0 x2.toNat) = 10 → AW g l (d + 1) MX12_fieldBegun 233 [some (vR 12 (some x0)), some (vI x1), some (vI x2), some (vI x3), none, none, none, none] [vI 10] σ Q) ∧ ((gI σ 1228 x0 x2.toNat) = 10 → AW g l (d + 1) MX12_fieldBegun 233 [some (vR 12 (some x0)), some (vI x1), some (vI x2), some (vI x3), none, none, none, none] [vI 9] σ Q))) ∧ ((gI σ 1228 x0 x2.toNat) = 9 → AW g l (d + 1) MX12_fieldBegun 233 [some (vR 12 (some x0)), some (vI x1), some (vI x2), some (vI x3), none, none, none, none] [vI 8] σ Q))) ∧ ((gI σ 1228 x0 x2.toNat) = 8 → AW g l (d + 1) MX12_fieldBegun 233 [some (vR 12 (some x0)), some (vI x1), some (vI x2), some (vI x3), none, none, none, none] [vI 7] σ Q))) ∧ ((gI σ 1228 x0 x2.toNat) = 7 → AW g l (d + 1) MX12_fieldBegun 233 [some (vR 12 (some x0)), some (vI x1), some (vI x2), some (vI x3), none, none, none, none] [vI 6] σ Q))) ∧ ((gI σ 1228 x0 x2.toNat) = 6 → AW g l (d + 1) MX12_fieldBegun 233 [some (vR 12 (some x0)), some (vI x1), some (vI x2), some (vI x3), none, none, none, none] [vI 5] σ Q))))) ∧ ((gI σ 1228 x0 x2.toNat) = 4 → AW g l (d + 1) MX12_fieldBegun 233 [some (vR 12 (some x0)), some (vI x1), some (vI x2), some (vI x3), none, none, none, none] [vI 3] σ Q))) ∧ ((gI σ 1228 x0 x2.toNat) = 3 → AW g l (d + 1) MX12_fieldBegun 233 [some (vR 12 (some x0)), some (vI x1), some (vI x2), some (vI x3), none, none, none, none] [vI 2] σ Q))))) ∧ ((gI σ 1228 x0 x2.toNat) = 0 → AW g l (d + 1) MX12_fieldBegun 233 [some (vR 12 (some x0)), some (vI x1), some (vI x2), some (vI x3), none, none, none, none] [vI 1] σ Q))) ∧ ((gI σ 1228 x0 x2.toNat) = 2 → ACv g l d MX12_begun [vR 12 (some x0), vI (gI σ 1231 x0 x2.toNat), vI x1, vI x3, vI x2] σ (fun σ14 => Q none σ14)))) :
    AW g l (d + 1) MX12_fieldBegun 67 [some (vR 12 (some x0)), some (vI x1), some (vI x2), some (vI x3), none, none, none, none] [] σ Q := by
  refine aw_aload_n dX12_fieldBegun_67 rfl rfl ?_
  obtain ⟨lc1, h⟩ := h
  refine aw_getA' rfl fk_1228 (by decide) lf_X12_98 dX12_fieldBegun_68 (LC.ne lc1 rfl rfl) ?_
  refine aw_iload_n dX12_fieldBegun_71 rfl rfl ?_
  obtain ⟨⟨c2, c2x⟩, h⟩ := h
  refine aw_iaload (by decide) rfl dX12_fieldBegun_72 c2 (LC.lt lc1 rfl rfl c2x) ?_
  refine aw_iconst (x := 2) dX12_fieldBegun_73 rfl ?_
  refine aw_icmp_ne (tgt := 91) dX12_fieldBegun_74 (by decide) (fun k3 => ?_) (fun k3 => ?_)
  · replace h := h.1 k3
    refine aw_aload_n dX12_fieldBegun_91 rfl rfl ?_
    refine aw_getA' rfl fk_1228 (by decide) lf_X12_98 dX12_fieldBegun_92 (LC.ne lc1 rfl rfl) ?_
    refine aw_iload_n dX12_fieldBegun_95 rfl rfl ?_
    refine aw_iaload (by decide) rfl dX12_fieldBegun_96 c2 (LC.lt lc1 rfl rfl c2x) ?_
    refine aw_if_ne (tgt := 104) dX12_fieldBegun_97 (by decide) (fun k4 => ?_) (fun k4 => ?_)
    · replace h := h.1 k4
      refine aw_aload_n dX12_fieldBegun_104 rfl rfl ?_
      refine aw_getA' rfl fk_1228 (by decide) lf_X12_98 dX12_fieldBegun_105 (LC.ne lc1 rfl rfl) ?_
      refine aw_iload_n dX12_fieldBegun_108 rfl rfl ?_
      refine aw_iaload (by decide) rfl dX12_fieldBegun_109 c2 (LC.lt lc1 rfl rfl c2x) ?_
      refine aw_iconst (x := 1) dX12_fieldBegun_110 rfl ?_
      refine aw_icmp_eq (tgt := 124) dX12_fieldBegun_111 (by decide) (fun k5 => ?_) (fun k5 => ?_)
      · replace h := h.1 k5
        refine aw_iconst (x := 2) dX12_fieldBegun_124 rfl ?_
        refine aw_goto (tgt := 233) dX12_fieldBegun_125 (by decide) ?_
        exact aw_fgt (L' := [some (vR 12 (some x0)), some (vI x1), some (vI x2), some (vI x3), none, none, none, none]) ⟨rfl, ⟨rfl, ⟨rfl, ⟨rfl, trivial⟩⟩⟩⟩ h
      · replace h := h.2 k5
        refine aw_aload_n dX12_fieldBegun_114 rfl rfl ?_
        refine aw_getA' rfl fk_1228 (by decide) lf_X12_98 dX12_fieldBegun_115 (LC.ne lc1 rfl rfl) ?_
        refine aw_iload_n dX12_fieldBegun_118 rfl rfl ?_
        refine aw_iaload (by decide) rfl dX12_fieldBegun_119 c2 (LC.lt lc1 rfl rfl c2x) ?_
        refine aw_iconst (x := 3) dX12_fieldBegun_120 rfl ?_
        refine aw_icmp_ne (tgt := 128) dX12_fieldBegun_121 (by decide) (fun k6 => ?_) (fun k6 => ?_)
        · replace h := h.1 k6
          refine aw_aload_n dX12_fieldBegun_128 rfl rfl ?_
          refine aw_getA' rfl fk_1228 (by decide) lf_X12_98 dX12_fieldBegun_129 (LC.ne lc1 rfl rfl) ?_
          refine aw_iload_n dX12_fieldBegun_132 rfl rfl ?_
          refine aw_iaload (by decide) rfl dX12_fieldBegun_133 c2 (LC.lt lc1 rfl rfl c2x) ?_
          refine aw_iconst (x := 4) dX12_fieldBegun_134 rfl ?_
          refine aw_icmp_ne (tgt := 142) dX12_fieldBegun_135 (by decide) (fun k7 => ?_) (fun k7 => ?_)
          · replace h := h.1 k7
            refine aw_aload_n dX12_fieldBegun_142 rfl rfl ?_
            refine aw_getA' rfl fk_1228 (by decide) lf_X12_98 dX12_fieldBegun_143 (LC.ne lc1 rfl rfl) ?_
            refine aw_iload_n dX12_fieldBegun_146 rfl rfl ?_
            refine aw_iaload (by decide) rfl dX12_fieldBegun_147 c2 (LC.lt lc1 rfl rfl c2x) ?_
            refine aw_iconst (x := 5) dX12_fieldBegun_148 rfl ?_
            refine aw_icmp_eq (tgt := 163) dX12_fieldBegun_149 (by decide) (fun k8 => ?_) (fun k8 => ?_)
            · replace h := h.1 k8
              refine aw_iconst (x := 5) dX12_fieldBegun_163 rfl ?_
              refine aw_goto (tgt := 233) dX12_fieldBegun_164 (by decide) ?_
              exact aw_fgt (L' := [some (vR 12 (some x0)), some (vI x1), some (vI x2), some (vI x3), none, none, none, none]) ⟨rfl, ⟨rfl, ⟨rfl, ⟨rfl, trivial⟩⟩⟩⟩ h
            · replace h := h.2 k8
              refine aw_aload_n dX12_fieldBegun_152 rfl rfl ?_
              refine aw_getA' rfl fk_1228 (by decide) lf_X12_98 dX12_fieldBegun_153 (LC.ne lc1 rfl rfl) ?_
              refine aw_iload_n dX12_fieldBegun_156 rfl rfl ?_
              refine aw_iaload (by decide) rfl dX12_fieldBegun_157 c2 (LC.lt lc1 rfl rfl c2x) ?_
              refine aw_bipush (x := 6) dX12_fieldBegun_158 rfl ?_
              refine aw_icmp_ne (tgt := 167) dX12_fieldBegun_160 (by decide) (fun k9 => ?_) (fun k9 => ?_)
              · replace h := h.1 k9
                refine aw_aload_n dX12_fieldBegun_167 rfl rfl ?_
                refine aw_getA' rfl fk_1228 (by decide) lf_X12_98 dX12_fieldBegun_168 (LC.ne lc1 rfl rfl) ?_
                refine aw_iload_n dX12_fieldBegun_171 rfl rfl ?_
                refine aw_iaload (by decide) rfl dX12_fieldBegun_172 c2 (LC.lt lc1 rfl rfl c2x) ?_
                refine aw_bipush (x := 7) dX12_fieldBegun_173 rfl ?_
                refine aw_icmp_ne (tgt := 183) dX12_fieldBegun_175 (by decide) (fun k10 => ?_) (fun k10 => ?_)
                · replace h := h.1 k10
                  refine aw_aload_n dX12_fieldBegun_183 rfl rfl ?_
                  refine aw_getA' rfl fk_1228 (by decide) lf_X12_98 dX12_fieldBegun_184 (LC.ne lc1 rfl rfl) ?_
                  refine aw_iload_n dX12_fieldBegun_187 rfl rfl ?_
                  refine aw_iaload (by decide) rfl dX12_fieldBegun_188 c2 (LC.lt lc1 rfl rfl c2x) ?_
                  refine aw_bipush (x := 8) dX12_fieldBegun_189 rfl ?_
                  refine aw_icmp_ne (tgt := 199) dX12_fieldBegun_191 (by decide) (fun k11 => ?_) (fun k11 => ?_)
                  · replace h := h.1 k11
                    refine aw_aload_n dX12_fieldBegun_199 rfl rfl ?_
                    refine aw_getA' rfl fk_1228 (by decide) lf_X12_98 dX12_fieldBegun_200 (LC.ne lc1 rfl rfl) ?_
                    refine aw_iload_n dX12_fieldBegun_203 rfl rfl ?_
                    refine aw_iaload (by decide) rfl dX12_fieldBegun_204 c2 (LC.lt lc1 rfl rfl c2x) ?_
                    refine aw_bipush (x := 9) dX12_fieldBegun_205 rfl ?_
                    refine aw_icmp_ne (tgt := 215) dX12_fieldBegun_207 (by decide) (fun k12 => ?_) (fun k12 => ?_)
                    · replace h := h.1 k12
                      refine aw_aload_n dX12_fieldBegun_215 rfl rfl ?_
                      refine aw_getA' rfl fk_1228 (by decide) lf_X12_98 dX12_fieldBegun_216 (LC.ne lc1 rfl rfl) ?_
                      refine aw_iload_n dX12_fieldBegun_219 rfl rfl ?_
                      refine aw_iaload (by decide) rfl dX12_fieldBegun_220 c2 (LC.lt lc1 rfl rfl c2x) ?_
                      refine aw_bipush (x := 10) dX12_fieldBegun_221 rfl ?_
                      refine aw_icmp_ne (tgt := 231) dX12_fieldBegun_223 (by decide) (fun k13 => ?_) (fun k13 => ?_)
                      · replace h := h.1 k13
                        refine aw_bipush (x := 10) dX12_fieldBegun_231 rfl ?_
                        exact aw_fgt (L' := [some (vR 12 (some x0)), some (vI x1), some (vI x2), some (vI x3), none, none, none, none]) ⟨rfl, ⟨rfl, ⟨rfl, ⟨rfl, trivial⟩⟩⟩⟩ h
                      · replace h := h.2 k13
                        refine aw_bipush (x := 9) dX12_fieldBegun_226 rfl ?_
                        refine aw_goto (tgt := 233) dX12_fieldBegun_228 (by decide) ?_
                        exact aw_fgt (L' := [some (vR 12 (some x0)), some (vI x1), some (vI x2), some (vI x3), none, none, none, none]) ⟨rfl, ⟨rfl, ⟨rfl, ⟨rfl, trivial⟩⟩⟩⟩ h
                    · replace h := h.2 k12
                      refine aw_bipush (x := 8) dX12_fieldBegun_210 rfl ?_
                      refine aw_goto (tgt := 233) dX12_fieldBegun_212 (by decide) ?_
                      exact aw_fgt (L' := [some (vR 12 (some x0)), some (vI x1), some (vI x2), some (vI x3), none, none, none, none]) ⟨rfl, ⟨rfl, ⟨rfl, ⟨rfl, trivial⟩⟩⟩⟩ h
                  · replace h := h.2 k11
                    refine aw_bipush (x := 7) dX12_fieldBegun_194 rfl ?_
                    refine aw_goto (tgt := 233) dX12_fieldBegun_196 (by decide) ?_
                    exact aw_fgt (L' := [some (vR 12 (some x0)), some (vI x1), some (vI x2), some (vI x3), none, none, none, none]) ⟨rfl, ⟨rfl, ⟨rfl, ⟨rfl, trivial⟩⟩⟩⟩ h
                · replace h := h.2 k10
                  refine aw_bipush (x := 6) dX12_fieldBegun_178 rfl ?_
                  refine aw_goto (tgt := 233) dX12_fieldBegun_180 (by decide) ?_
                  exact aw_fgt (L' := [some (vR 12 (some x0)), some (vI x1), some (vI x2), some (vI x3), none, none, none, none]) ⟨rfl, ⟨rfl, ⟨rfl, ⟨rfl, trivial⟩⟩⟩⟩ h
              · replace h := h.2 k9
                refine aw_iconst (x := 5) dX12_fieldBegun_163 rfl ?_
                refine aw_goto (tgt := 233) dX12_fieldBegun_164 (by decide) ?_
                exact aw_fgt (L' := [some (vR 12 (some x0)), some (vI x1), some (vI x2), some (vI x3), none, none, none, none]) ⟨rfl, ⟨rfl, ⟨rfl, ⟨rfl, trivial⟩⟩⟩⟩ h
          · replace h := h.2 k7
            refine aw_iconst (x := 3) dX12_fieldBegun_138 rfl ?_
            refine aw_goto (tgt := 233) dX12_fieldBegun_139 (by decide) ?_
            exact aw_fgt (L' := [some (vR 12 (some x0)), some (vI x1), some (vI x2), some (vI x3), none, none, none, none]) ⟨rfl, ⟨rfl, ⟨rfl, ⟨rfl, trivial⟩⟩⟩⟩ h
        · replace h := h.2 k6
          refine aw_iconst (x := 2) dX12_fieldBegun_124 rfl ?_
          refine aw_goto (tgt := 233) dX12_fieldBegun_125 (by decide) ?_
          exact aw_fgt (L' := [some (vR 12 (some x0)), some (vI x1), some (vI x2), some (vI x3), none, none, none, none]) ⟨rfl, ⟨rfl, ⟨rfl, ⟨rfl, trivial⟩⟩⟩⟩ h
    · replace h := h.2 k4
      refine aw_iconst (x := 1) dX12_fieldBegun_100 rfl ?_
      refine aw_goto (tgt := 233) dX12_fieldBegun_101 (by decide) ?_
      exact aw_fgt (L' := [some (vR 12 (some x0)), some (vI x1), some (vI x2), some (vI x3), none, none, none, none]) ⟨rfl, ⟨rfl, ⟨rfl, ⟨rfl, trivial⟩⟩⟩⟩ h
  · replace h := h.2 k3
    refine aw_aload_n dX12_fieldBegun_77 rfl rfl ?_
    refine aw_aload_n dX12_fieldBegun_78 rfl rfl ?_
    refine aw_getA' rfl fk_1231 (by decide) lf_X12_107 dX12_fieldBegun_79 (LC.ne lc1 rfl rfl) ?_
    refine aw_iload_n dX12_fieldBegun_82 rfl rfl ?_
    refine aw_iaload (by decide) rfl dX12_fieldBegun_83 c2 (LC.lt lc1 rfl rfl c2x) ?_
    refine aw_iload_n dX12_fieldBegun_84 rfl rfl ?_
    refine aw_iload_n dX12_fieldBegun_85 rfl rfl ?_
    refine aw_iload_n dX12_fieldBegun_86 rfl rfl ?_
    refine aw_invVv (M := MX12_fieldBegun) (ci := 12) [vI (gI σ 1231 x0 x2.toNat), vI x1, vI x3, vI x2] rfl mo_X12_begun rfl lm_X12_590 li_X12_begun ls_X12_begun (by decide +kernel) dX12_fieldBegun_87 rfl (Nat.le_of_ble_eq_true rfl) (ACv.mono (fun σ14 h => ?_) h)
    exact aw_ret h rfl dX12_fieldBegun_90
set_option maxRecDepth 4000 in
theorem bk_X12_fieldBegun_233 {g : GP} {l : Launch} {d : Nat} {σ : St} {Q : Option AV → St → Prop} {x0 : Nat} {x1 : Int} {x2 : Int} {x3 : Int} {y0 : Int}
    (h : ACi g l d MX12_make [vR 12 (some x0), vI y0, vI x1, vI x3, vI x2] σ (fun v2 σ1 => (((gI σ1 1282 x0 0) = 0 → ACi g l d MX12_filled [vR 12 (some x0), vI v2, vI x2, vI x1] σ1 (fun v5 σ4 => ((¬ v5 = 0 → ((¬ (gI σ4 1285 x0 0) = (gI σ1 1285 x0 0) → Q none σ4) ∧ ((gI σ4 1285 x0 0) = (gI σ1 1285 x0 0) → LC 12 σ4 x0 ∧ Bd v2 2800 ∧ Bd x1 2800 ∧ Q none (sI σ4 1269 x0 x1.toNat (gI σ4 1269 x0 v2.toNat))))) ∧ (v5 = 0 → ACv g l d MX12_stops [vR 12 (some x0)] σ4 (fun σ11 => ((¬ (gI σ11 1285 x0 0) = (gI σ1 1285 x0 0) → Q none σ11) ∧ ((gI σ11 1285 x0 0) = (gI σ1 1285 x0 0) → LC 12 σ11 x0 ∧ Bd v2 2800 ∧ Bd x1 2800 ∧ Q none (sI σ11 1269 x0 x1.toNat (gI σ11 1269 x0 v2.toNat))))))))) ∧ (¬ (gI σ1 1282 x0 0) = 0 → Q none σ1)))) :
    AW g l (d + 1) MX12_fieldBegun 233 [some (vR 12 (some x0)), some (vI x1), some (vI x2), some (vI x3), none, none, none, none] [vI y0] σ Q := by
  refine aw_istore (L' := [some (vR 12 (some x0)), some (vI x1), some (vI x2), some (vI x3), some (vI y0), none, none, none]) dX12_fieldBegun_233 (by decide) rfl ?_
  refine aw_aload_n dX12_fieldBegun_235 rfl rfl ?_
  refine aw_iload dX12_fieldBegun_236 rfl ?_
  refine aw_iload_n dX12_fieldBegun_238 rfl rfl ?_
  refine aw_iload_n dX12_fieldBegun_239 rfl rfl ?_
  refine aw_iload_n dX12_fieldBegun_240 rfl rfl ?_
  refine aw_invVi (M := MX12_fieldBegun) (ci := 12) [vI y0, vI x1, vI x3, vI x2] rfl mo_X12_make rfl lm_X12_580 li_X12_make ls_X12_make (by decide +kernel) dX12_fieldBegun_241 rfl (Nat.le_of_ble_eq_true rfl) (ACi.mono (fun v2 σ1 h => ?_) h)
  refine aw_istore (L' := [some (vR 12 (some x0)), some (vI x1), some (vI x2), some (vI x3), some (vI y0), some (vI v2), none, none]) dX12_fieldBegun_244 (by decide) rfl ?_
  refine aw_aload_n dX12_fieldBegun_246 rfl rfl ?_
  refine aw_getZ' rfl fk_1282 lf_X12_262 dX12_fieldBegun_247 ?_
  refine aw_if_eq (tgt := 254) dX12_fieldBegun_250 (by decide) (fun k3 => ?_) (fun k3 => ?_)
  · replace h := h.1 k3
    refine aw_aload_n dX12_fieldBegun_254 rfl rfl ?_
    refine aw_getI' rfl fk_1285 lf_X12_271 dX12_fieldBegun_255 ?_
    refine aw_istore (L' := [some (vR 12 (some x0)), some (vI x1), some (vI x2), some (vI x3), some (vI y0), some (vI v2), some (vI (gI σ1 1285 x0 0)), none]) dX12_fieldBegun_258 (by decide) rfl ?_
    refine aw_aload_n dX12_fieldBegun_260 rfl rfl ?_
    refine aw_iload dX12_fieldBegun_261 rfl ?_
    refine aw_iload_n dX12_fieldBegun_263 rfl rfl ?_
    refine aw_iload_n dX12_fieldBegun_264 rfl rfl ?_
    refine aw_invVi (M := MX12_fieldBegun) (ci := 12) [vI v2, vI x2, vI x1] rfl mo_X12_filled rfl lm_X12_612 li_X12_filled ls_X12_filled (by decide +kernel) dX12_fieldBegun_265 rfl (Nat.le_of_ble_eq_true rfl) (ACi.mono (fun v5 σ4 h => ?_) h)
    refine aw_istore (L' := [some (vR 12 (some x0)), some (vI x1), some (vI x2), some (vI x3), some (vI y0), some (vI v2), some (vI (gI σ1 1285 x0 0)), some (vI v5)]) dX12_fieldBegun_268 (by decide) rfl ?_
    refine aw_iload dX12_fieldBegun_270 rfl ?_
    refine aw_if_ne (tgt := 279) dX12_fieldBegun_272 (by decide) (fun k6 => ?_) (fun k6 => ?_)
    · replace h := h.1 k6
      refine aw_aload_n dX12_fieldBegun_279 rfl rfl ?_
      refine aw_getI' rfl fk_1285 lf_X12_271 dX12_fieldBegun_280 ?_
      refine aw_iload dX12_fieldBegun_283 rfl ?_
      refine aw_icmp_ne (tgt := 301) dX12_fieldBegun_285 (by decide) (fun k7 => ?_) (fun k7 => ?_)
      · replace h := h.1 k7
        exact aw_ret h rfl dX12_fieldBegun_301
      · replace h := h.2 k7
        refine aw_aload_n dX12_fieldBegun_288 rfl rfl ?_
        obtain ⟨lc8, h⟩ := h
        refine aw_getA' rfl fk_1269 (by decide) lf_X12_223 dX12_fieldBegun_289 (LC.ne lc8 rfl rfl) ?_
        refine aw_iload_n dX12_fieldBegun_292 rfl rfl ?_
        refine aw_aload_n dX12_fieldBegun_293 rfl rfl ?_
        refine aw_getA' rfl fk_1269 (by decide) lf_X12_223 dX12_fieldBegun_294 (LC.ne lc8 rfl rfl) ?_
        refine aw_iload dX12_fieldBegun_297 rfl ?_
        obtain ⟨⟨c9, c9x⟩, h⟩ := h
        refine aw_iaload (by decide) rfl dX12_fieldBegun_299 c9 (LC.lt lc8 rfl rfl c9x) ?_
        obtain ⟨⟨c10, c10x⟩, h⟩ := h
        refine aw_iastore (by decide) rfl dX12_fieldBegun_300 c10 (LC.lt lc8 rfl rfl c10x) ?_
        exact aw_ret h rfl dX12_fieldBegun_301
    · replace h := h.2 k6
      refine aw_aload_n dX12_fieldBegun_275 rfl rfl ?_
      refine aw_invVv (M := MX12_fieldBegun) (ci := 12) [] rfl mo_X12_stops rfl lm_X12_605 li_X12_stops ls_X12_stops (by decide +kernel) dX12_fieldBegun_276 rfl (Nat.le_of_ble_eq_true rfl) (ACv.mono (fun σ11 h => ?_) h)
      refine aw_aload_n dX12_fieldBegun_279 rfl rfl ?_
      refine aw_getI' rfl fk_1285 lf_X12_271 dX12_fieldBegun_280 ?_
      refine aw_iload dX12_fieldBegun_283 rfl ?_
      refine aw_icmp_ne (tgt := 301) dX12_fieldBegun_285 (by decide) (fun k12 => ?_) (fun k12 => ?_)
      · replace h := h.1 k12
        exact aw_ret h rfl dX12_fieldBegun_301
      · replace h := h.2 k12
        refine aw_aload_n dX12_fieldBegun_288 rfl rfl ?_
        obtain ⟨lc13, h⟩ := h
        refine aw_getA' rfl fk_1269 (by decide) lf_X12_223 dX12_fieldBegun_289 (LC.ne lc13 rfl rfl) ?_
        refine aw_iload_n dX12_fieldBegun_292 rfl rfl ?_
        refine aw_aload_n dX12_fieldBegun_293 rfl rfl ?_
        refine aw_getA' rfl fk_1269 (by decide) lf_X12_223 dX12_fieldBegun_294 (LC.ne lc13 rfl rfl) ?_
        refine aw_iload dX12_fieldBegun_297 rfl ?_
        obtain ⟨⟨c14, c14x⟩, h⟩ := h
        refine aw_iaload (by decide) rfl dX12_fieldBegun_299 c14 (LC.lt lc13 rfl rfl c14x) ?_
        obtain ⟨⟨c15, c15x⟩, h⟩ := h
        refine aw_iastore (by decide) rfl dX12_fieldBegun_300 c15 (LC.lt lc13 rfl rfl c15x) ?_
        exact aw_ret h rfl dX12_fieldBegun_301
  · replace h := h.2 k3
    exact aw_ret h rfl dX12_fieldBegun_253
set_option maxRecDepth 4000 in
theorem bk_X12_figure_0 {g : GP} {l : Launch} {d : Nat} {σ : St} {Q : Option AV → St → Prop} {x0 : Nat} {x1 : Int}
    (h : ((10 ≤ x1 → R32 (97 + x1) ∧ R32 ((97 + x1) - 10) ∧ Q (some (vI ((97 + x1) - 10))) σ) ∧ (¬ 10 ≤ x1 → R32 (48 + x1) ∧ Q (some (vI (48 + x1))) σ))) :
    AW g l d MX12_figure 0 [some (vR 12 (some x0)), some (vI x1)] [] σ Q := by
  refine aw_iload_n dX12_figure_0 rfl rfl ?_
  refine aw_bipush (x := 10) dX12_figure_1 rfl ?_
  refine aw_icmp_ge (tgt := 13) dX12_figure_3 (by decide) (fun k1 => ?_) (fun k1 => ?_)
  · replace h := h.1 k1
    refine aw_bipush (x := 97) dX12_figure_13 rfl ?_
    refine aw_iload_n dX12_figure_15 rfl rfl ?_
    obtain ⟨⟨c2, c2x⟩, h⟩ := h
    refine aw_iaddc dX12_figure_16 c2 c2x ?_
    refine aw_bipush (x := 10) dX12_figure_17 rfl ?_
    obtain ⟨⟨c3, c3x⟩, h⟩ := h
    refine aw_isubc dX12_figure_19 c3 c3x ?_
    exact aw_ireturn dX12_figure_20 rfl h
  · replace h := h.2 k1
    refine aw_bipush (x := 48) dX12_figure_6 rfl ?_
    refine aw_iload_n dX12_figure_8 rfl rfl ?_
    obtain ⟨⟨c4, c4x⟩, h⟩ := h
    refine aw_iaddc dX12_figure_9 c4 c4x ?_
    refine aw_goto (tgt := 20) dX12_figure_10 (by decide) ?_
    exact aw_ireturn dX12_figure_20 rfl h
set_option maxRecDepth 4000 in
theorem bk_X12_filled_0 {g : GP} {l : Launch} {d : Nat} {σ : St} {Q : Option AV → St → Prop} {x0 : Nat} {x1 : Int} {x2 : Int} {x3 : Int}
    (h : LC 12 σ x0 ∧ Bd x2 560 ∧ (((gI σ 1228 x0 x2.toNat) = 1 → ACv g l d MX12_arrayLaid [vR 12 (some x0), vI x1, vI x2, vI x3] σ (fun σ3 => Q (some (vI 1)) σ3)) ∧ ((gI σ 1228 x0 x2.toNat) = 2 → AW g l (d + 1) MX12_filled 141 [some (vR 12 (some x0)), some (vI x1), some (vI x2), some (vI x3)] [] σ Q) ∧ ((gI σ 1228 x0 x2.toNat) = 3 → ACv g l d MX12_arrayLaid [vR 12 (some x0), vI x1, vI x2, vI x3] σ (fun σ4 => Q (some (vI 1)) σ4)) ∧ ((gI σ 1228 x0 x2.toNat) = 4 → AW g l (d + 1) MX12_filled 141 [some (vR 12 (some x0)), some (vI x1), some (vI x2), some (vI x3)] [] σ Q) ∧ ((gI σ 1228 x0 x2.toNat) = 5 → ACi g l d MX12_textLaid [vR 12 (some x0), vI x1, vI x2, vI x3] σ (fun v6 σ5 => ((v6 = 0 ∨ v6 = 1) ∧ Q (some (vI v6)) σ5))) ∧ ((gI σ 1228 x0 x2.toNat) = 6 → ACi g l d MX12_untilLaid [vR 12 (some x0), vI x1, vI x2] σ (fun v8 σ7 => ((v8 = 0 ∨ v8 = 1) ∧ Q (some (vI v8)) σ7))) ∧ ((gI σ 1228 x0 x2.toNat) = 7 → ACv g l d MX12_unionLaid [vR 12 (some x0), vI x1, vI x2, vI x3] σ (fun σ9 => Q (some (vI 1)) σ9)) ∧ ((gI σ 1228 x0 x2.toNat) = 8 → AW g l (d + 1) MX12_filled 141 [some (vR 12 (some x0)), some (vI x1), some (vI x2), some (vI x3)] [] σ Q) ∧ ((gI σ 1228 x0 x2.toNat) = 9 → Bd x1 2800 ∧ Bd x3 2800 ∧ R32 ((gI σ 1268 x0 x1.toNat) - (gI σ 1268 x0 x3.toNat)) ∧ ¬ (gI σ 1235 x0 x2.toNat) = 0 ∧ R32 ((gI σ 1235 x0 x2.toNat) - (i_rem ((gI σ 1268 x0 x1.toNat) - (gI σ 1268 x0 x3.toNat)) (gI σ 1235 x0 x2.toNat))) ∧ ¬ (gI σ 1235 x0 x2.toNat) = 0 ∧ ACi g l d MX12_reaches [vR 12 (some x0), vI x1, vJ (i2j (i_rem ((gI σ 1235 x0 x2.toNat) - (i_rem ((gI σ 1268 x0 x1.toNat) - (gI σ 1268 x0 x3.toNat)) (gI σ 1235 x0 x2.toNat))) (gI σ 1235 x0 x2.toNat)))] σ (fun v15 σ14 => ((v15 = 0 ∨ v15 = 1) ∧ Q (some (vI v15)) σ14))) ∧ ((gI σ 1228 x0 x2.toNat) = 10 → ACi g l d MX12_magicLaid [vR 12 (some x0), vI x1, vI x2] σ (fun v17 σ16 => ((v17 = 0 ∨ v17 = 1) ∧ Q (some (vI v17)) σ16))) ∧ ((gI σ 1228 x0 x2.toNat) < 1 ∨ 10 < (gI σ 1228 x0 x2.toNat) → AW g l (d + 1) MX12_filled 141 [some (vR 12 (some x0)), some (vI x1), some (vI x2), some (vI x3)] [] σ Q))) :
    AW g l (d + 1) MX12_filled 0 [some (vR 12 (some x0)), some (vI x1), some (vI x2), some (vI x3)] [] σ Q := by
  refine aw_aload_n dX12_filled_0 rfl rfl ?_
  obtain ⟨lc1, h⟩ := h
  refine aw_getA' rfl fk_1228 (by decide) lf_X12_98 dX12_filled_1 (LC.ne lc1 rfl rfl) ?_
  refine aw_iload_n dX12_filled_4 rfl rfl ?_
  obtain ⟨⟨c2, c2x⟩, h⟩ := h
  refine aw_iaload (by decide) rfl dX12_filled_5 c2 (LC.lt lc1 rfl rfl c2x) ?_
  obtain ⟨h0, h1, h2, h3, h4, h5, h6, h7, h8, h9, hd⟩ := h
  refine aw_table (M := MX12_filled) (dt := 141) [60, 141, 60, 141, 69, 77, 84, 141, 93, 134] dX12_filled_6 (by decide) (by decide) (by decide) ⟨fun hc => ?_, fun hc => ?_, fun hc => ?_, fun hc => ?_, fun hc => ?_, fun hc => ?_, fun hc => ?_, fun hc => ?_, fun hc => ?_, fun hc => ?_, trivial⟩ (fun hc => ?_)
  · have h := h0 hc; clear h0 h1 h2 h3 h4 h5 h6 h7 h8 h9 hd
    refine aw_aload_n dX12_filled_60 rfl rfl ?_
    refine aw_iload_n dX12_filled_61 rfl rfl ?_
    refine aw_iload_n dX12_filled_62 rfl rfl ?_
    refine aw_iload_n dX12_filled_63 rfl rfl ?_
    refine aw_invVv (M := MX12_filled) (ci := 12) [vI x1, vI x2, vI x3] rfl mo_X12_arrayLaid rfl lm_X12_616 li_X12_arrayLaid ls_X12_arrayLaid (by decide +kernel) dX12_filled_64 rfl (Nat.le_of_ble_eq_true rfl) (ACv.mono (fun σ3 h => ?_) h)
    refine aw_iconst (x := 1) dX12_filled_67 rfl ?_
    exact aw_zreturn dX12_filled_68 rfl (Or.inr rfl) h
  · have h := h1 hc; clear h0 h1 h2 h3 h4 h5 h6 h7 h8 h9 hd
    exact aw_fgt (L' := [some (vR 12 (some x0)), some (vI x1), some (vI x2), some (vI x3)]) ⟨rfl, ⟨rfl, ⟨rfl, ⟨rfl, trivial⟩⟩⟩⟩ h
  · have h := h2 hc; clear h0 h1 h2 h3 h4 h5 h6 h7 h8 h9 hd
    refine aw_aload_n dX12_filled_60 rfl rfl ?_
    refine aw_iload_n dX12_filled_61 rfl rfl ?_
    refine aw_iload_n dX12_filled_62 rfl rfl ?_
    refine aw_iload_n dX12_filled_63 rfl rfl ?_
    refine aw_invVv (M := MX12_filled) (ci := 12) [vI x1, vI x2, vI x3] rfl mo_X12_arrayLaid rfl lm_X12_616 li_X12_arrayLaid ls_X12_arrayLaid (by decide +kernel) dX12_filled_64 rfl (Nat.le_of_ble_eq_true rfl) (ACv.mono (fun σ4 h => ?_) h)
    refine aw_iconst (x := 1) dX12_filled_67 rfl ?_
    exact aw_zreturn dX12_filled_68 rfl (Or.inr rfl) h
  · have h := h3 hc; clear h0 h1 h2 h3 h4 h5 h6 h7 h8 h9 hd
    exact aw_fgt (L' := [some (vR 12 (some x0)), some (vI x1), some (vI x2), some (vI x3)]) ⟨rfl, ⟨rfl, ⟨rfl, ⟨rfl, trivial⟩⟩⟩⟩ h
  · have h := h4 hc; clear h0 h1 h2 h3 h4 h5 h6 h7 h8 h9 hd
    refine aw_aload_n dX12_filled_69 rfl rfl ?_
    refine aw_iload_n dX12_filled_70 rfl rfl ?_
    refine aw_iload_n dX12_filled_71 rfl rfl ?_
    refine aw_iload_n dX12_filled_72 rfl rfl ?_
    refine aw_invVi (M := MX12_filled) (ci := 12) [vI x1, vI x2, vI x3] rfl mo_X12_textLaid rfl lm_X12_619 li_X12_textLaid ls_X12_textLaid (by decide +kernel) dX12_filled_73 rfl (Nat.le_of_ble_eq_true rfl) (ACi.mono (fun v6 σ5 h => ?_) h)
    exact aw_zreturn dX12_filled_76 rfl h.1 h.2
  · have h := h5 hc; clear h0 h1 h2 h3 h4 h5 h6 h7 h8 h9 hd
    refine aw_aload_n dX12_filled_77 rfl rfl ?_
    refine aw_iload_n dX12_filled_78 rfl rfl ?_
    refine aw_iload_n dX12_filled_79 rfl rfl ?_
    refine aw_invVi (M := MX12_filled) (ci := 12) [vI x1, vI x2] rfl mo_X12_untilLaid rfl lm_X12_622 li_X12_untilLaid ls_X12_untilLaid (by decide +kernel) dX12_filled_80 rfl (Nat.le_of_ble_eq_true rfl) (ACi.mono (fun v8 σ7 h => ?_) h)
    exact aw_zreturn dX12_filled_83 rfl h.1 h.2
  · have h := h6 hc; clear h0 h1 h2 h3 h4 h5 h6 h7 h8 h9 hd
    refine aw_aload_n dX12_filled_84 rfl rfl ?_
    refine aw_iload_n dX12_filled_85 rfl rfl ?_
    refine aw_iload_n dX12_filled_86 rfl rfl ?_
    refine aw_iload_n dX12_filled_87 rfl rfl ?_
    refine aw_invVv (M := MX12_filled) (ci := 12) [vI x1, vI x2, vI x3] rfl mo_X12_unionLaid rfl lm_X12_625 li_X12_unionLaid ls_X12_unionLaid (by decide +kernel) dX12_filled_88 rfl (Nat.le_of_ble_eq_true rfl) (ACv.mono (fun σ9 h => ?_) h)
    refine aw_iconst (x := 1) dX12_filled_91 rfl ?_
    exact aw_zreturn dX12_filled_92 rfl (Or.inr rfl) h
  · have h := h7 hc; clear h0 h1 h2 h3 h4 h5 h6 h7 h8 h9 hd
    exact aw_fgt (L' := [some (vR 12 (some x0)), some (vI x1), some (vI x2), some (vI x3)]) ⟨rfl, ⟨rfl, ⟨rfl, ⟨rfl, trivial⟩⟩⟩⟩ h
  · have h := h8 hc; clear h0 h1 h2 h3 h4 h5 h6 h7 h8 h9 hd
    refine aw_aload_n dX12_filled_93 rfl rfl ?_
    refine aw_iload_n dX12_filled_94 rfl rfl ?_
    refine aw_aload_n dX12_filled_95 rfl rfl ?_
    refine aw_getA' rfl fk_1235 (by decide) lf_X12_119 dX12_filled_96 (LC.ne lc1 rfl rfl) ?_
    refine aw_iload_n dX12_filled_99 rfl rfl ?_
    refine aw_iaload (by decide) rfl dX12_filled_100 c2 (LC.lt lc1 rfl rfl c2x) ?_
    refine aw_aload_n dX12_filled_101 rfl rfl ?_
    refine aw_getA' rfl fk_1268 (by decide) lf_X12_220 dX12_filled_102 (LC.ne lc1 rfl rfl) ?_
    refine aw_iload_n dX12_filled_105 rfl rfl ?_
    obtain ⟨⟨c10, c10x⟩, h⟩ := h
    refine aw_iaload (by decide) rfl dX12_filled_106 c10 (LC.lt lc1 rfl rfl c10x) ?_
    refine aw_aload_n dX12_filled_107 rfl rfl ?_
    refine aw_getA' rfl fk_1268 (by decide) lf_X12_220 dX12_filled_108 (LC.ne lc1 rfl rfl) ?_
    refine aw_iload_n dX12_filled_111 rfl rfl ?_
    obtain ⟨⟨c11, c11x⟩, h⟩ := h
    refine aw_iaload (by decide) rfl dX12_filled_112 c11 (LC.lt lc1 rfl rfl c11x) ?_
    obtain ⟨⟨c12, c12x⟩, h⟩ := h
    refine aw_isubc dX12_filled_113 c12 c12x ?_
    refine aw_aload_n dX12_filled_114 rfl rfl ?_
    refine aw_getA' rfl fk_1235 (by decide) lf_X12_119 dX12_filled_115 (LC.ne lc1 rfl rfl) ?_
    refine aw_iload_n dX12_filled_118 rfl rfl ?_
    refine aw_iaload (by decide) rfl dX12_filled_119 c2 (LC.lt lc1 rfl rfl c2x) ?_
    obtain ⟨h0, h⟩ := h
    refine aw_irem dX12_filled_120 h0 ?_
    obtain ⟨⟨c13, c13x⟩, h⟩ := h
    refine aw_isubc dX12_filled_121 c13 c13x ?_
    refine aw_aload_n dX12_filled_122 rfl rfl ?_
    refine aw_getA' rfl fk_1235 (by decide) lf_X12_119 dX12_filled_123 (LC.ne lc1 rfl rfl) ?_
    refine aw_iload_n dX12_filled_126 rfl rfl ?_
    refine aw_iaload (by decide) rfl dX12_filled_127 c2 (LC.lt lc1 rfl rfl c2x) ?_
    obtain ⟨h0, h⟩ := h
    refine aw_irem dX12_filled_128 h0 ?_
    refine aw_i2l dX12_filled_129 ?_
    refine aw_invVi (M := MX12_filled) (ci := 12) [vI x1, vJ (i2j (i_rem ((gI σ 1235 x0 x2.toNat) - (i_rem ((gI σ 1268 x0 x1.toNat) - (gI σ 1268 x0 x3.toNat)) (gI σ 1235 x0 x2.toNat))) (gI σ 1235 x0 x2.toNat)))] rfl mo_X12_reaches rfl lm_X12_602 li_X12_reaches ls_X12_reaches (by decide +kernel) dX12_filled_130 rfl (Nat.le_of_ble_eq_true rfl) (ACi.mono (fun v15 σ14 h => ?_) h)
    exact aw_zreturn dX12_filled_133 rfl h.1 h.2
  · have h := h9 hc; clear h0 h1 h2 h3 h4 h5 h6 h7 h8 h9 hd
    refine aw_aload_n dX12_filled_134 rfl rfl ?_
    refine aw_iload_n dX12_filled_135 rfl rfl ?_
    refine aw_iload_n dX12_filled_136 rfl rfl ?_
    refine aw_invVi (M := MX12_filled) (ci := 12) [vI x1, vI x2] rfl mo_X12_magicLaid rfl lm_X12_628 li_X12_magicLaid ls_X12_magicLaid (by decide +kernel) dX12_filled_137 rfl (Nat.le_of_ble_eq_true rfl) (ACi.mono (fun v17 σ16 h => ?_) h)
    exact aw_zreturn dX12_filled_140 rfl h.1 h.2
  · have h := hd hc; clear h0 h1 h2 h3 h4 h5 h6 h7 h8 h9 hd
    exact aw_fgt (L' := [some (vR 12 (some x0)), some (vI x1), some (vI x2), some (vI x3)]) ⟨rfl, ⟨rfl, ⟨rfl, ⟨rfl, trivial⟩⟩⟩⟩ h
set_option maxRecDepth 4000 in
theorem bk_X12_filled_141 {g : GP} {l : Launch} {d : Nat} {σ : St} {Q : Option AV → St → Prop} {x0 : Nat} {x1 : Int} {x2 : Int} {x3 : Int}
    (h : LC 12 σ x0 ∧ Bd x2 560 ∧ ACi g l d MX12_reaches [vR 12 (some x0), vI x1, vJ (i2j (i_and (gI σ 1229 x0 x2.toNat) 15))] σ (fun v4 σ3 => ((¬ v4 = 0 → LC 12 σ3 x0 ∧ ((¬ (gI σ3 1228 x0 x2.toNat) = 4 → ((¬ (gI σ3 1228 x0 x2.toNat) = 8 → ((¬ (gI σ3 1228 x0 x2.toNat) = 11 → (((gI σ3 1230 x0 x2.toNat) < 0 → Q (some (vI 1)) σ3) ∧ (¬ (gI σ3 1230 x0 x2.toNat) < 0 → ACi g l d MX12_paired [vR 12 (some x0), vI x1, vI x2] σ3 (fun v12 σ11 => ((0 ≤ v12 → Q (some (vI 1)) σ11) ∧ (¬ 0 ≤ v12 → ACv g l d MX12_faulty [vR 12 (some x0), vI x1, vI 4] σ11 (fun σ14 => Q (some (vI 1)) σ14))))))) ∧ ((gI σ3 1228 x0 x2.toNat) = 11 → ACv g l d MX12_summed [vR 12 (some x0), vI x1, vI x2, vI x3] σ3 (fun σ15 => Q (some (vI 1)) σ15)))) ∧ ((gI σ3 1228 x0 x2.toNat) = 8 → ACv g l d MX12_pointed [vR 12 (some x0), vI x1, vI x2, vI x3] σ3 (fun σ16 => Q (some (vI 1)) σ16)))) ∧ ((gI σ3 1228 x0 x2.toNat) = 4 → ACv g l d MX12_partsLaid [vR 12 (some x0), vI x1, vI x2] σ3 (fun σ17 => Q (some (vI 1)) σ17)))) ∧ (v4 = 0 → Q (some (vI 0)) σ3)))) :
    AW g l (d + 1) MX12_filled 141 [some (vR 12 (some x0)), some (vI x1), some (vI x2), some (vI x3)] [] σ Q := by
  refine aw_aload_n dX12_filled_141 rfl rfl ?_
  refine aw_iload_n dX12_filled_142 rfl rfl ?_
  refine aw_aload_n dX12_filled_143 rfl rfl ?_
  obtain ⟨lc1, h⟩ := h
  refine aw_getA' rfl fk_1229 (by decide) lf_X12_101 dX12_filled_144 (LC.ne lc1 rfl rfl) ?_
  refine aw_iload_n dX12_filled_147 rfl rfl ?_
  obtain ⟨⟨c2, c2x⟩, h⟩ := h
  refine aw_iaload (by decide) rfl dX12_filled_148 c2 (LC.lt lc1 rfl rfl c2x) ?_
  refine aw_bipush (x := 15) dX12_filled_149 rfl ?_
  refine aw_iand dX12_filled_151 ?_
  refine aw_i2l dX12_filled_152 ?_
  refine aw_invVi (M := MX12_filled) (ci := 12) [vI x1, vJ (i2j (i_and (gI σ 1229 x0 x2.toNat) 15))] rfl mo_X12_reaches rfl lm_X12_602 li_X12_reaches ls_X12_reaches (by decide +kernel) dX12_filled_153 rfl (Nat.le_of_ble_eq_true rfl) (ACi.mono (fun v4 σ3 h => ?_) h)
  refine aw_if_ne (tgt := 161) dX12_filled_156 (by decide) (fun k5 => ?_) (fun k5 => ?_)
  · replace h := h.1 k5
    refine aw_aload_n dX12_filled_161 rfl rfl ?_
    obtain ⟨lc6, h⟩ := h
    refine aw_getA' rfl fk_1228 (by decide) lf_X12_98 dX12_filled_162 (LC.ne lc6 rfl rfl) ?_
    refine aw_iload_n dX12_filled_165 rfl rfl ?_
    refine aw_iaload (by decide) rfl dX12_filled_166 c2 (LC.lt lc6 rfl rfl c2x) ?_
    refine aw_iconst (x := 4) dX12_filled_167 rfl ?_
    refine aw_icmp_ne (tgt := 180) dX12_filled_168 (by decide) (fun k7 => ?_) (fun k7 => ?_)
    · replace h := h.1 k7
      refine aw_aload_n dX12_filled_180 rfl rfl ?_
      refine aw_getA' rfl fk_1228 (by decide) lf_X12_98 dX12_filled_181 (LC.ne lc6 rfl rfl) ?_
      refine aw_iload_n dX12_filled_184 rfl rfl ?_
      refine aw_iaload (by decide) rfl dX12_filled_185 c2 (LC.lt lc6 rfl rfl c2x) ?_
      refine aw_bipush (x := 8) dX12_filled_186 rfl ?_
      refine aw_icmp_ne (tgt := 201) dX12_filled_188 (by decide) (fun k8 => ?_) (fun k8 => ?_)
      · replace h := h.1 k8
        refine aw_aload_n dX12_filled_201 rfl rfl ?_
        refine aw_getA' rfl fk_1228 (by decide) lf_X12_98 dX12_filled_202 (LC.ne lc6 rfl rfl) ?_
        refine aw_iload_n dX12_filled_205 rfl rfl ?_
        refine aw_iaload (by decide) rfl dX12_filled_206 c2 (LC.lt lc6 rfl rfl c2x) ?_
        refine aw_bipush (x := 11) dX12_filled_207 rfl ?_
        refine aw_icmp_ne (tgt := 222) dX12_filled_209 (by decide) (fun k9 => ?_) (fun k9 => ?_)
        · replace h := h.1 k9
          refine aw_aload_n dX12_filled_222 rfl rfl ?_
          refine aw_getA' rfl fk_1230 (by decide) lf_X12_104 dX12_filled_223 (LC.ne lc6 rfl rfl) ?_
          refine aw_iload_n dX12_filled_226 rfl rfl ?_
          refine aw_iaload (by decide) rfl dX12_filled_227 c2 (LC.lt lc6 rfl rfl c2x) ?_
          refine aw_if_lt (tgt := 246) dX12_filled_228 (by decide) (fun k10 => ?_) (fun k10 => ?_)
          · replace h := h.1 k10
            refine aw_iconst (x := 1) dX12_filled_246 rfl ?_
            exact aw_zreturn dX12_filled_247 rfl (Or.inr rfl) h
          · replace h := h.2 k10
            refine aw_aload_n dX12_filled_231 rfl rfl ?_
            refine aw_iload_n dX12_filled_232 rfl rfl ?_
            refine aw_iload_n dX12_filled_233 rfl rfl ?_
            refine aw_invVi (M := MX12_filled) (ci := 12) [vI x1, vI x2] rfl mo_X12_paired rfl lm_X12_640 li_X12_paired ls_X12_paired (by decide +kernel) dX12_filled_234 rfl (Nat.le_of_ble_eq_true rfl) (ACi.mono (fun v12 σ11 h => ?_) h)
            refine aw_if_ge (tgt := 246) dX12_filled_237 (by decide) (fun k13 => ?_) (fun k13 => ?_)
            · replace h := h.1 k13
              refine aw_iconst (x := 1) dX12_filled_246 rfl ?_
              exact aw_zreturn dX12_filled_247 rfl (Or.inr rfl) h
            · replace h := h.2 k13
              refine aw_aload_n dX12_filled_240 rfl rfl ?_
              refine aw_iload_n dX12_filled_241 rfl rfl ?_
              refine aw_iconst (x := 4) dX12_filled_242 rfl ?_
              refine aw_invVv (M := MX12_filled) (ci := 12) [vI x1, vI 4] rfl mo_X12_faulty rfl lm_X12_577 li_X12_faulty ls_X12_faulty (by decide +kernel) dX12_filled_243 rfl (Nat.le_of_ble_eq_true rfl) (ACv.mono (fun σ14 h => ?_) h)
              refine aw_iconst (x := 1) dX12_filled_246 rfl ?_
              exact aw_zreturn dX12_filled_247 rfl (Or.inr rfl) h
        · replace h := h.2 k9
          refine aw_aload_n dX12_filled_212 rfl rfl ?_
          refine aw_iload_n dX12_filled_213 rfl rfl ?_
          refine aw_iload_n dX12_filled_214 rfl rfl ?_
          refine aw_iload_n dX12_filled_215 rfl rfl ?_
          refine aw_invVv (M := MX12_filled) (ci := 12) [vI x1, vI x2, vI x3] rfl mo_X12_summed rfl lm_X12_637 li_X12_summed ls_X12_summed (by decide +kernel) dX12_filled_216 rfl (Nat.le_of_ble_eq_true rfl) (ACv.mono (fun σ15 h => ?_) h)
          refine aw_goto (tgt := 246) dX12_filled_219 (by decide) ?_
          refine aw_iconst (x := 1) dX12_filled_246 rfl ?_
          exact aw_zreturn dX12_filled_247 rfl (Or.inr rfl) h
      · replace h := h.2 k8
        refine aw_aload_n dX12_filled_191 rfl rfl ?_
        refine aw_iload_n dX12_filled_192 rfl rfl ?_
        refine aw_iload_n dX12_filled_193 rfl rfl ?_
        refine aw_iload_n dX12_filled_194 rfl rfl ?_
        refine aw_invVv (M := MX12_filled) (ci := 12) [vI x1, vI x2, vI x3] rfl mo_X12_pointed rfl lm_X12_634 li_X12_pointed ls_X12_pointed (by decide +kernel) dX12_filled_195 rfl (Nat.le_of_ble_eq_true rfl) (ACv.mono (fun σ16 h => ?_) h)
        refine aw_goto (tgt := 246) dX12_filled_198 (by decide) ?_
        refine aw_iconst (x := 1) dX12_filled_246 rfl ?_
        exact aw_zreturn dX12_filled_247 rfl (Or.inr rfl) h
    · replace h := h.2 k7
      refine aw_aload_n dX12_filled_171 rfl rfl ?_
      refine aw_iload_n dX12_filled_172 rfl rfl ?_
      refine aw_iload_n dX12_filled_173 rfl rfl ?_
      refine aw_invVv (M := MX12_filled) (ci := 12) [vI x1, vI x2] rfl mo_X12_partsLaid rfl lm_X12_631 li_X12_partsLaid ls_X12_partsLaid (by decide +kernel) dX12_filled_174 rfl (Nat.le_of_ble_eq_true rfl) (ACv.mono (fun σ17 h => ?_) h)
      refine aw_goto (tgt := 246) dX12_filled_177 (by decide) ?_
      refine aw_iconst (x := 1) dX12_filled_246 rfl ?_
      exact aw_zreturn dX12_filled_247 rfl (Or.inr rfl) h
  · replace h := h.2 k5
    refine aw_iconst (x := 0) dX12_filled_159 rfl ?_
    exact aw_zreturn dX12_filled_160 rfl (Or.inl rfl) h
set_option maxRecDepth 4000 in
theorem bk_X12_find_0 {g : GP} {l : Launch} {d : Nat} {σ : St} {Q : Option AV → St → Prop} {x0 : Nat} {x1 : Int}
    (h : ACi g l d MX12_isNode [vR 12 (some x0), vI x1, vI 0] σ (fun v2 σ1 => ((¬ v2 = 0 → R32 (400 * x1) ∧ ACv g l d MX12_next [vR 12 (some x0)] (sI σ1 1215 x0 0 0) (fun σ5 => AW g l (d + 1) MX12_find 28 [some (vR 12 (some x0)), none, some (vI (400 * x1)), some (vI 0), none, none] [] σ5 Q)) ∧ (v2 = 0 → Q (some (vI (-1))) σ1)))) :
    AW g l (d + 1) MX12_find 0 [some (vR 12 (some x0)), some (vI x1), none, none, none, none] [] σ Q := by
  refine aw_aload_n dX12_find_0 rfl rfl ?_
  refine aw_iload_n dX12_find_1 rfl rfl ?_
  refine aw_iconst (x := 0) dX12_find_2 rfl ?_
  refine aw_invVi (M := MX12_find) (ci := 12) [vI x1, vI 0] rfl mo_X12_isNode rfl lm_X12_688 li_X12_isNode ls_X12_isNode (by decide +kernel) dX12_find_3 rfl (Nat.le_of_ble_eq_true rfl) (ACi.mono (fun v2 σ1 h => ?_) h)
  refine aw_if_ne (tgt := 11) dX12_find_6 (by decide) (fun k3 => ?_) (fun k3 => ?_)
  · replace h := h.1 k3
    refine aw_sipush (x := 400) dX12_find_11 rfl ?_
    refine aw_iload_n dX12_find_14 rfl rfl ?_
    obtain ⟨⟨c4, c4x⟩, h⟩ := h
    refine aw_imulc dX12_find_15 c4 c4x ?_
    refine aw_istore_n (L' := [some (vR 12 (some x0)), some (vI x1), some (vI (400 * x1)), none, none, none]) dX12_find_16 rfl (by decide) rfl ?_
    refine aw_iconst (x := 0) dX12_find_17 rfl ?_
    refine aw_istore_n (L' := [some (vR 12 (some x0)), some (vI x1), some (vI (400 * x1)), some (vI 0), none, none]) dX12_find_18 rfl (by decide) rfl ?_
    refine aw_aload_n dX12_find_19 rfl rfl ?_
    refine aw_iconst (x := 0) dX12_find_20 rfl ?_
    refine aw_putI' rfl fk_1215 (Or.inl rfl) lf_X12_57 dX12_find_21 ?_
    refine aw_aload_n dX12_find_24 rfl rfl ?_
    refine aw_invVv (M := MX12_find) (ci := 12) [] rfl mo_X12_next rfl lm_X12_408 li_X12_next ls_X12_next (by decide +kernel) dX12_find_25 rfl (Nat.le_of_ble_eq_true rfl) (ACv.mono (fun σ5 h => ?_) h)
    exact aw_fgt (L' := [some (vR 12 (some x0)), none, some (vI (400 * x1)), some (vI 0), none, none]) ⟨rfl, ⟨rfl, ⟨rfl, trivial⟩⟩⟩ h
  · replace h := h.2 k3
    refine aw_iconst (x := (-1)) dX12_find_9 rfl ?_
    exact aw_ireturn dX12_find_10 rfl h
set_option maxRecDepth 4000 in
theorem bk_X12_find_28 {g : GP} {l : Launch} {d : Nat} {σ : St} {Q : Option AV → St → Prop} {x0 : Nat} {x2 : Int} {x3 : Int}
    (h : (((gI σ 1213 x0 0) = 0 → ACi g l d MX12_outward [vR 12 (some x0), vI x2] (sI σ 1211 x0 0 0) (fun v3 σ2 => Q (some (vI v3)) σ2)) ∧ (¬ (gI σ 1213 x0 0) = 0 → ((¬ (gI σ 1213 x0 0) = 2 → LC 12 σ x0 ∧ Bd x2 2800 ∧ AW g l (d + 1) MX12_find 65 [some (vR 12 (some x0)), none, none, some (vI x3), some (vI (-1)), some (vI (gI σ 1276 x0 x2.toNat))] [] σ Q) ∧ ((gI σ 1213 x0 0) = 2 → ACi g l d MX12_kidOf [vR 12 (some x0), vI x2, vJ (gJ σ 1217 x0 0)] σ (fun v8 σ7 => LC 12 σ7 x0 ∧ Bd x2 2800 ∧ AW g l (d + 1) MX12_find 65 [some (vR 12 (some x0)), none, none, some (vI x3), some (vI v8), some (vI (gI σ7 1276 x0 x2.toNat))] [] σ7 Q)))))) :
    AW g l (d + 1) MX12_find 28 [some (vR 12 (some x0)), none, some (vI x2), some (vI x3), none, none] [] σ Q := by
  refine aw_aload_n dX12_find_28 rfl rfl ?_
  refine aw_getI' rfl fk_1213 lf_X12_51 dX12_find_29 ?_
  refine aw_if_eq (tgt := 140) dX12_find_32 (by decide) (fun k1 => ?_) (fun k1 => ?_)
  · replace h := h.1 k1
    refine aw_aload_n dX12_find_140 rfl rfl ?_
    refine aw_iconst (x := 0) dX12_find_141 rfl ?_
    refine aw_putI' rfl fk_1211 (Or.inl rfl) lf_X12_45 dX12_find_142 ?_
    refine aw_aload_n dX12_find_145 rfl rfl ?_
    refine aw_iload_n dX12_find_146 rfl rfl ?_
    refine aw_invVi (M := MX12_find) (ci := 12) [vI x2] rfl mo_X12_outward rfl lm_X12_691 li_X12_outward ls_X12_outward (by decide +kernel) dX12_find_147 rfl (Nat.le_of_ble_eq_true rfl) (ACi.mono (fun v3 σ2 h => ?_) h)
    exact aw_ireturn dX12_find_150 rfl h
  · replace h := h.2 k1
    refine aw_iconst (x := (-1)) dX12_find_35 rfl ?_
    refine aw_istore (L' := [some (vR 12 (some x0)), none, some (vI x2), some (vI x3), some (vI (-1)), none]) dX12_find_36 (by decide) rfl ?_
    refine aw_aload_n dX12_find_38 rfl rfl ?_
    refine aw_getI' rfl fk_1213 lf_X12_51 dX12_find_39 ?_
    refine aw_iconst (x := 2) dX12_find_42 rfl ?_
    refine aw_icmp_ne (tgt := 57) dX12_find_43 (by decide) (fun k4 => ?_) (fun k4 => ?_)
    · replace h := h.1 k4
      refine aw_aload_n dX12_find_57 rfl rfl ?_
      obtain ⟨lc5, h⟩ := h
      refine aw_getA' rfl fk_1276 (by decide) lf_X12_244 dX12_find_58 (LC.ne lc5 rfl rfl) ?_
      refine aw_iload_n dX12_find_61 rfl rfl ?_
      obtain ⟨⟨c6, c6x⟩, h⟩ := h
      refine aw_iaload (by decide) rfl dX12_find_62 c6 (LC.lt lc5 rfl rfl c6x) ?_
      refine aw_istore (L' := [some (vR 12 (some x0)), none, some (vI x2), some (vI x3), some (vI (-1)), some (vI (gI σ 1276 x0 x2.toNat))]) dX12_find_63 (by decide) rfl ?_
      exact aw_fgt (L' := [some (vR 12 (some x0)), none, none, some (vI x3), some (vI (-1)), some (vI (gI σ 1276 x0 x2.toNat))]) ⟨rfl, ⟨rfl, ⟨rfl, ⟨rfl, trivial⟩⟩⟩⟩ h
    · replace h := h.2 k4
      refine aw_aload_n dX12_find_46 rfl rfl ?_
      refine aw_iload_n dX12_find_47 rfl rfl ?_
      refine aw_aload_n dX12_find_48 rfl rfl ?_
      refine aw_getJ' rfl fk_1217 lf_X12_64 dX12_find_49 ?_
      refine aw_invVi (M := MX12_find) (ci := 12) [vI x2, vJ (gJ σ 1217 x0 0)] rfl mo_X12_kidOf rfl lm_X12_694 li_X12_kidOf ls_X12_kidOf (by decide +kernel) dX12_find_52 rfl (Nat.le_of_ble_eq_true rfl) (ACi.mono (fun v8 σ7 h => ?_) h)
      refine aw_istore (L' := [some (vR 12 (some x0)), none, some (vI x2), some (vI x3), some (vI v8), none]) dX12_find_55 (by decide) rfl ?_
      refine aw_aload_n dX12_find_57 rfl rfl ?_
      obtain ⟨lc9, h⟩ := h
      refine aw_getA' rfl fk_1276 (by decide) lf_X12_244 dX12_find_58 (LC.ne lc9 rfl rfl) ?_
      refine aw_iload_n dX12_find_61 rfl rfl ?_
      obtain ⟨⟨c10, c10x⟩, h⟩ := h
      refine aw_iaload (by decide) rfl dX12_find_62 c10 (LC.lt lc9 rfl rfl c10x) ?_
      refine aw_istore (L' := [some (vR 12 (some x0)), none, some (vI x2), some (vI x3), some (vI v8), some (vI (gI σ7 1276 x0 x2.toNat))]) dX12_find_63 (by decide) rfl ?_
      exact aw_fgt (L' := [some (vR 12 (some x0)), none, none, some (vI x3), some (vI v8), some (vI (gI σ7 1276 x0 x2.toNat))]) ⟨rfl, ⟨rfl, ⟨rfl, ⟨rfl, trivial⟩⟩⟩⟩ h
set_option maxRecDepth 4000 in
theorem bk_X12_find_65 {g : GP} {l : Launch} {d : Nat} {σ : St} {Q : Option AV → St → Prop} {x0 : Nat} {x3 : Int} {x4 : Int} {x5 : Int}
    (h : ((x5 < 0 → AW g l (d + 1) MX12_find 112 [some (vR 12 (some x0)), none, none, some (vI x3), some (vI x4), none] [] σ Q) ∧ (¬ x5 < 0 → ((0 ≤ x4 → AW g l (d + 1) MX12_find 112 [some (vR 12 (some x0)), none, none, some (vI x3), some (vI x4), none] [] σ Q) ∧ (¬ 0 ≤ x4 → ACi g l d MX12_isName [vR 12 (some x0)] σ (fun v4 σ3 => ((v4 = 0 → AW g l (d + 1) MX12_find 112 [some (vR 12 (some x0)), none, none, some (vI x3), some (vI x4), none] [] σ3 Q) ∧ (¬ v4 = 0 → ACj g l d MX12_nameOf [vR 12 (some x0), vI x5] σ3 (fun v7 σ6 => ((¬ v7 = (gJ σ6 1216 x0 0) → LC 12 σ6 x0 ∧ Bd x5 2800 ∧ AW g l (d + 1) MX12_find 65 [some (vR 12 (some x0)), none, none, some (vI x3), some (vI x4), some (vI (gI σ6 1278 x0 x5.toNat))] [] σ6 Q) ∧ (v7 = (gJ σ6 1216 x0 0) → LC 12 σ6 x0 ∧ Bd x5 2800 ∧ AW g l (d + 1) MX12_find 65 [some (vR 12 (some x0)), none, none, some (vI x3), some (vI x5), some (vI (gI σ6 1278 x0 x5.toNat))] [] σ6 Q))))))))))) :
    AW g l (d + 1) MX12_find 65 [some (vR 12 (some x0)), none, none, some (vI x3), some (vI x4), some (vI x5)] [] σ Q := by
  refine aw_iload dX12_find_65 rfl ?_
  refine aw_if_lt (tgt := 112) dX12_find_67 (by decide) (fun k1 => ?_) (fun k1 => ?_)
  · replace h := h.1 k1
    exact aw_fgt (L' := [some (vR 12 (some x0)), none, none, some (vI x3), some (vI x4), none]) ⟨rfl, ⟨rfl, ⟨rfl, trivial⟩⟩⟩ h
  · replace h := h.2 k1
    refine aw_iload dX12_find_70 rfl ?_
    refine aw_if_ge (tgt := 112) dX12_find_72 (by decide) (fun k2 => ?_) (fun k2 => ?_)
    · replace h := h.1 k2
      exact aw_fgt (L' := [some (vR 12 (some x0)), none, none, some (vI x3), some (vI x4), none]) ⟨rfl, ⟨rfl, ⟨rfl, trivial⟩⟩⟩ h
    · replace h := h.2 k2
      refine aw_aload_n dX12_find_75 rfl rfl ?_
      refine aw_invVi (M := MX12_find) (ci := 12) [] rfl mo_X12_isName rfl lm_X12_418 li_X12_isName ls_X12_isName (by decide +kernel) dX12_find_76 rfl (Nat.le_of_ble_eq_true rfl) (ACi.mono (fun v4 σ3 h => ?_) h)
      refine aw_if_eq (tgt := 112) dX12_find_79 (by decide) (fun k5 => ?_) (fun k5 => ?_)
      · replace h := h.1 k5
        exact aw_fgt (L' := [some (vR 12 (some x0)), none, none, some (vI x3), some (vI x4), none]) ⟨rfl, ⟨rfl, ⟨rfl, trivial⟩⟩⟩ h
      · replace h := h.2 k5
        refine aw_aload_n dX12_find_82 rfl rfl ?_
        refine aw_iload dX12_find_83 rfl ?_
        refine aw_invVj (M := MX12_find) (ci := 12) [vI x5] rfl mo_X12_nameOf rfl lm_X12_698 li_X12_nameOf ls_X12_nameOf (by decide +kernel) dX12_find_85 rfl (Nat.le_of_ble_eq_true rfl) (ACj.mono (fun v7 σ6 h => ?_) h)
        refine aw_aload_n dX12_find_88 rfl rfl ?_
        refine aw_getJ' rfl fk_1216 lf_X12_60 dX12_find_89 ?_
        refine aw_lcmp_ne (M := MX12_find) (tgt := 100) dX12_find_92 dX12_find_93 (by decide) (fun k8 => ?_) (fun k8 => ?_)
        · replace h := h.1 k8
          refine aw_aload_n dX12_find_100 rfl rfl ?_
          obtain ⟨lc9, h⟩ := h
          refine aw_getA' rfl fk_1278 (by decide) lf_X12_250 dX12_find_101 (LC.ne lc9 rfl rfl) ?_
          refine aw_iload dX12_find_104 rfl ?_
          obtain ⟨⟨c10, c10x⟩, h⟩ := h
          refine aw_iaload (by decide) rfl dX12_find_106 c10 (LC.lt lc9 rfl rfl c10x) ?_
          refine aw_istore (L' := [some (vR 12 (some x0)), none, none, some (vI x3), some (vI x4), some (vI (gI σ6 1278 x0 x5.toNat))]) dX12_find_107 (by decide) rfl ?_
          refine aw_goto (tgt := 65) dX12_find_109 (by decide) ?_
          exact aw_fgt (L' := [some (vR 12 (some x0)), none, none, some (vI x3), some (vI x4), some (vI (gI σ6 1278 x0 x5.toNat))]) ⟨rfl, ⟨rfl, ⟨rfl, ⟨rfl, trivial⟩⟩⟩⟩ h
        · replace h := h.2 k8
          refine aw_iload dX12_find_96 rfl ?_
          refine aw_istore (L' := [some (vR 12 (some x0)), none, none, some (vI x3), some (vI x5), some (vI x5)]) dX12_find_98 (by decide) rfl ?_
          refine aw_aload_n dX12_find_100 rfl rfl ?_
          obtain ⟨lc11, h⟩ := h
          refine aw_getA' rfl fk_1278 (by decide) lf_X12_250 dX12_find_101 (LC.ne lc11 rfl rfl) ?_
          refine aw_iload dX12_find_104 rfl ?_
          obtain ⟨⟨c12, c12x⟩, h⟩ := h
          refine aw_iaload (by decide) rfl dX12_find_106 c12 (LC.lt lc11 rfl rfl c12x) ?_
          refine aw_istore (L' := [some (vR 12 (some x0)), none, none, some (vI x3), some (vI x5), some (vI (gI σ6 1278 x0 x5.toNat))]) dX12_find_107 (by decide) rfl ?_
          refine aw_goto (tgt := 65) dX12_find_109 (by decide) ?_
          exact aw_fgt (L' := [some (vR 12 (some x0)), none, none, some (vI x3), some (vI x5), some (vI (gI σ6 1278 x0 x5.toNat))]) ⟨rfl, ⟨rfl, ⟨rfl, ⟨rfl, trivial⟩⟩⟩⟩ h
set_option maxRecDepth 4000 in
theorem bk_X12_find_112 {g : GP} {l : Launch} {d : Nat} {σ : St} {Q : Option AV → St → Prop} {x0 : Nat} {x3 : Int} {x4 : Int}
    (h : ((0 ≤ x4 → R32 (x3 + 1) ∧ ACv g l d MX12_next [vR 12 (some x0)] σ (fun σ3 => AW g l (d + 1) MX12_find 28 [some (vR 12 (some x0)), none, some (vI x4), some (vI (x3 + 1)), none, none] [] σ3 Q)) ∧ (¬ 0 ≤ x4 → R32 ((-10) - x3) ∧ Q (some (vI ((-10) - x3))) (sI σ 1211 x0 0 0)))) :
    AW g l (d + 1) MX12_find 112 [some (vR 12 (some x0)), none, none, some (vI x3), some (vI x4), none] [] σ Q := by
  refine aw_iload dX12_find_112 rfl ?_
  refine aw_if_ge (tgt := 127) dX12_find_114 (by decide) (fun k1 => ?_) (fun k1 => ?_)
  · replace h := h.1 k1
    refine aw_iload dX12_find_127 rfl ?_
    refine aw_istore_n (L' := [some (vR 12 (some x0)), none, some (vI x4), some (vI x3), some (vI x4), none]) dX12_find_129 rfl (by decide) rfl ?_
    obtain ⟨⟨c2, c2x⟩, h⟩ := h
    refine aw_iincc (L' := [some (vR 12 (some x0)), none, some (vI x4), some (vI (x3 + 1)), some (vI x4), none]) dX12_find_130 rfl (by decide) rfl c2 c2x rfl ?_
    refine aw_aload_n dX12_find_133 rfl rfl ?_
    refine aw_invVv (M := MX12_find) (ci := 12) [] rfl mo_X12_next rfl lm_X12_408 li_X12_next ls_X12_next (by decide +kernel) dX12_find_134 rfl (Nat.le_of_ble_eq_true rfl) (ACv.mono (fun σ3 h => ?_) h)
    refine aw_goto (tgt := 28) dX12_find_137 (by decide) ?_
    exact aw_fgt (L' := [some (vR 12 (some x0)), none, some (vI x4), some (vI (x3 + 1)), none, none]) ⟨rfl, ⟨rfl, ⟨rfl, trivial⟩⟩⟩ h
  · replace h := h.2 k1
    refine aw_aload_n dX12_find_117 rfl rfl ?_
    refine aw_iconst (x := 0) dX12_find_118 rfl ?_
    refine aw_putI' rfl fk_1211 (Or.inl rfl) lf_X12_45 dX12_find_119 ?_
    refine aw_bipush (x := (-10)) dX12_find_122 rfl ?_
    refine aw_iload_n dX12_find_124 rfl rfl ?_
    obtain ⟨⟨c4, c4x⟩, h⟩ := h
    refine aw_isubc dX12_find_125 c4 c4x ?_
    exact aw_ireturn dX12_find_126 rfl h
