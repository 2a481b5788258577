set_option maxRecDepth 4000 in
theorem bk_X0_init_0 {g : GP} {l : Launch} {d : Nat} {σ : St} {Q : Option AV → St → Prop} {x0 : Nat}
    (h : (gL σ 0 x0 = 0 ∧ hs σ + 1 ≤ gB g + 600000 ∧ sl σ + 3002 ≤ 7302250) ∧ (gL (sArr σ 0 x0 3002) 1 x0 = 0 ∧ hs (sArr σ 0 x0 3002) + 1 ≤ gB g + 600000 ∧ sl (sArr σ 0 x0 3002) + 3002 ≤ 7302250) ∧ Q none (sArr (sArr σ 0 x0 3002) 1 x0 3002)) :
    AW g l (d + 1) MX0_init 0 [some (vR 0 (some x0))] [] σ Q := by
  refine aw_aload_n dX0_init_0 rfl rfl ?_
  refine aw_objInit (M := MX0_init) lm_X0_3 loi_i loi_c dX0_init_1 (Nat.le_of_ble_eq_true rfl) ?_
  refine aw_aload_n dX0_init_4 rfl rfl ?_
  refine aw_sipush (x := 3002) dX0_init_5 rfl ?_
  obtain ⟨⟨h0, h1, h2⟩, h⟩ := h
  refine aw_mkArr (M := MX0_init) (n := 3002) fk_0 (by decide +kernel) rfl (fun _ _ h => h) la_int ⟨rfl, rfl⟩ lf_X0_9 dX0_init_8 dX0_init_10 rfl (by decide) (by decide) h0 h1 h2 ?_
  refine aw_aload_n dX0_init_13 rfl rfl ?_
  refine aw_sipush (x := 3002) dX0_init_14 rfl ?_
  obtain ⟨⟨h0, h1, h2⟩, h⟩ := h
  refine aw_mkArr (M := MX0_init) (n := 3002) fk_1 (by decide +kernel) rfl (fun _ _ h => h) la_long ⟨rfl, rfl⟩ lf_X0_15 dX0_init_17 dX0_init_19 rfl (by decide) (by decide) h0 h1 h2 ?_
  exact aw_ret h rfl dX0_init_22
set_option maxRecDepth 4000 in
theorem bk_X0_add_0 {g : GP} {l : Launch} {d : Nat} {σ : St} {Q : Option AV → St → Prop} {x0 : Nat} {x1 : Int} {x2 : Int64}
    (h : ((3000 < (gI σ 2 x0 0) → Q none σ) ∧ (¬ 3000 < (gI σ 2 x0 0) → LC 0 σ x0 ∧ Bd (gI σ 2 x0 0) 3002 ∧ R32 ((gI σ 2 x0 0) + 1) ∧ Q none (sI (sJ (sI σ 0 x0 (gI σ 2 x0 0).toNat x1) 1 x0 (gI σ 2 x0 0).toNat x2) 2 x0 0 ((gI σ 2 x0 0) + 1))))) :
    AW g l d MX0_add 0 [some (vR 0 (some x0)), some (vI x1), some (vJ x2), none] [] σ Q := by
  refine aw_aload_n dX0_add_0 rfl rfl ?_
  refine aw_getI' rfl fk_2 lf_X0_19 dX0_add_1 ?_
  refine aw_sipush (x := 3000) dX0_add_4 rfl ?_
  refine aw_icmp_gt (tgt := 40) dX0_add_7 (by decide) (fun k1 => ?_) (fun k1 => ?_)
  · replace h := h.1 k1
    exact aw_ret h rfl dX0_add_40
  · replace h := h.2 k1
    refine aw_aload_n dX0_add_10 rfl rfl ?_
    obtain ⟨lc2, h⟩ := h
    refine aw_getA' rfl fk_0 (by decide) lf_X0_9 dX0_add_11 (LC.ne lc2 rfl rfl) ?_
    refine aw_aload_n dX0_add_14 rfl rfl ?_
    refine aw_getI' rfl fk_2 lf_X0_19 dX0_add_15 ?_
    refine aw_iload_n dX0_add_18 rfl rfl ?_
    obtain ⟨⟨c3, c3x⟩, h⟩ := h
    refine aw_iastore (by decide) rfl dX0_add_19 c3 (LC.lt lc2 rfl rfl c3x) ?_
    refine aw_aload_n dX0_add_20 rfl rfl ?_
    refine aw_getA' rfl fk_1 (by decide) lf_X0_15 dX0_add_21 (LC.ne lc2 rfl rfl) ?_
    refine aw_aload_n dX0_add_24 rfl rfl ?_
    refine aw_getIe (v := gI σ 2 x0 0) rfl fk_2 lf_X0_19 dX0_add_25 rfl ?_
    refine aw_lload_n dX0_add_28 rfl rfl ?_
    refine aw_lastore (by decide) rfl dX0_add_29 c3 (LC.lt lc2 rfl rfl c3x) ?_
    refine aw_aload_n dX0_add_30 rfl rfl ?_
    refine aw_dup dX0_add_31 rfl ?_
    refine aw_getIe (v := gI σ 2 x0 0) rfl fk_2 lf_X0_19 dX0_add_32 rfl ?_
    refine aw_iconst (x := 1) dX0_add_35 rfl ?_
    obtain ⟨⟨c4, c4x⟩, h⟩ := h
    refine aw_iaddc dX0_add_36 c4 c4x ?_
    refine aw_putI' rfl fk_2 (Or.inl rfl) lf_X0_19 dX0_add_37 ?_
    exact aw_ret h rfl dX0_add_40
set_option maxRecDepth 4000 in
theorem bk_X0_alone_0 {g : GP} {l : Launch} {d : Nat} {σ : St} {Q : Option AV → St → Prop} {x0 : Nat} {x1 : Int} {x2 : Int}
    (h : ACi g l d MX0_stepAt [vR 0 (some x0), vI x1] σ (fun v2 σ1 => ((¬ v2 = 3 → AW g l (d + 1) MX0_alone 24 [some (vR 0 (some x0)), some (vI x1), some (vI x2), none] [vI 0] σ1 Q) ∧ (v2 = 3 → R32 (x1 + 1) ∧ ACi g l d MX0_stepAt [vR 0 (some x0), vI (x1 + 1)] σ1 (fun v6 σ5 => ((¬ v6 = 0 → AW g l (d + 1) MX0_alone 24 [some (vR 0 (some x0)), some (vI x1), some (vI x2), none] [vI 0] σ5 Q) ∧ (v6 = 0 → AW g l (d + 1) MX0_alone 24 [some (vR 0 (some x0)), some (vI x1), some (vI x2), none] [vI 1] σ5 Q))))))) :
    AW g l (d + 1) MX0_alone 0 [some (vR 0 (some x0)), some (vI x1), some (vI x2), none] [] σ Q := by
  refine aw_aload_n dX0_alone_0 rfl rfl ?_
  refine aw_iload_n dX0_alone_1 rfl rfl ?_
  refine aw_invVi (M := MX0_alone) (ci := 0) [vI x1] rfl mo_X0_stepAt rfl lm_X0_23 li_X0_stepAt ls_X0_stepAt (by decide +kernel) dX0_alone_2 rfl (Nat.le_of_ble_eq_true rfl) (ACi.mono (fun v2 σ1 h => ?_) h)
  refine aw_iconst (x := 3) dX0_alone_5 rfl ?_
  refine aw_icmp_ne (tgt := 23) dX0_alone_6 (by decide) (fun k3 => ?_) (fun k3 => ?_)
  · replace h := h.1 k3
    refine aw_iconst (x := 0) dX0_alone_23 rfl ?_
    exact aw_fgt (L' := [some (vR 0 (some x0)), some (vI x1), some (vI x2), none]) ⟨rfl, ⟨rfl, ⟨rfl, trivial⟩⟩⟩ h
  · replace h := h.2 k3
    refine aw_aload_n dX0_alone_9 rfl rfl ?_
    refine aw_iload_n dX0_alone_10 rfl rfl ?_
    refine aw_iconst (x := 1) dX0_alone_11 rfl ?_
    obtain ⟨⟨c4, c4x⟩, h⟩ := h
    refine aw_iaddc dX0_alone_12 c4 c4x ?_
    refine aw_invVi (M := MX0_alone) (ci := 0) [vI (x1 + 1)] rfl mo_X0_stepAt rfl lm_X0_23 li_X0_stepAt ls_X0_stepAt (by decide +kernel) dX0_alone_13 rfl (Nat.le_of_ble_eq_true rfl) (ACi.mono (fun v6 σ5 h => ?_) h)
    refine aw_if_ne (tgt := 23) dX0_alone_16 (by decide) (fun k7 => ?_) (fun k7 => ?_)
    · replace h := h.1 k7
      refine aw_iconst (x := 0) dX0_alone_23 rfl ?_
      exact aw_fgt (L' := [some (vR 0 (some x0)), some (vI x1), some (vI x2), none]) ⟨rfl, ⟨rfl, ⟨rfl, trivial⟩⟩⟩ h
    · replace h := h.2 k7
      refine aw_iconst (x := 1) dX0_alone_19 rfl ?_
      refine aw_goto (tgt := 24) dX0_alone_20 (by decide) ?_
      exact aw_fgt (L' := [some (vR 0 (some x0)), some (vI x1), some (vI x2), none]) ⟨rfl, ⟨rfl, ⟨rfl, trivial⟩⟩⟩ h
set_option maxRecDepth 4000 in
theorem bk_X0_alone_24 {g : GP} {l : Launch} {d : Nat} {σ : St} {Q : Option AV → St → Prop} {x0 : Nat} {x1 : Int} {x2 : Int} {y0 : Int}
    (h : ((y0 = 0 → Q (some (vJ (-1))) σ) ∧ (¬ y0 = 0 → LC 0 σ x0 ∧ Bd x1 3002 ∧ (((i2j x2).toInt < (gJ σ 1 x0 x1.toNat).toInt → Q (some (vJ (-1))) σ) ∧ (¬ (i2j x2).toInt < (gJ σ 1 x0 x1.toNat).toInt → Q (some (vJ (gJ σ 1 x0 x1.toNat))) σ))))) :
    AW g l (d + 1) MX0_alone 24 [some (vR 0 (some x0)), some (vI x1), some (vI x2), none] [vI y0] σ Q := by
  refine aw_istore_n (L' := [some (vR 0 (some x0)), some (vI x1), some (vI x2), some (vI y0)]) dX0_alone_24 rfl (by decide) rfl ?_
  refine aw_iload_n dX0_alone_25 rfl rfl ?_
  refine aw_if_eq (tgt := 50) dX0_alone_26 (by decide) (fun k1 => ?_) (fun k1 => ?_)
  · replace h := h.1 k1
    refine aw_ldc2 lk_X0_27 dX0_alone_50 ?_
    exact aw_lreturn dX0_alone_53 rfl h
  · replace h := h.2 k1
    refine aw_aload_n dX0_alone_29 rfl rfl ?_
    obtain ⟨lc2, h⟩ := h
    refine aw_getA' rfl fk_1 (by decide) lf_X0_15 dX0_alone_30 (LC.ne lc2 rfl rfl) ?_
    refine aw_iload_n dX0_alone_33 rfl rfl ?_
    obtain ⟨⟨c3, c3x⟩, h⟩ := h
    refine aw_laload (by decide) rfl dX0_alone_34 c3 (LC.lt lc2 rfl rfl c3x) ?_
    refine aw_iload_n dX0_alone_35 rfl rfl ?_
    refine aw_i2l dX0_alone_36 ?_
    refine aw_lcmp_gt (M := MX0_alone) (tgt := 50) dX0_alone_37 dX0_alone_38 (by decide) (fun k4 => ?_) (fun k4 => ?_)
    · replace h := h.1 k4
      refine aw_ldc2 lk_X0_27 dX0_alone_50 ?_
      exact aw_lreturn dX0_alone_53 rfl h
    · replace h := h.2 k4
      refine aw_aload_n dX0_alone_41 rfl rfl ?_
      refine aw_getA' rfl fk_1 (by decide) lf_X0_15 dX0_alone_42 (LC.ne lc2 rfl rfl) ?_
      refine aw_iload_n dX0_alone_45 rfl rfl ?_
      refine aw_laload (by decide) rfl dX0_alone_46 c3 (LC.lt lc2 rfl rfl c3x) ?_
      refine aw_goto (tgt := 53) dX0_alone_47 (by decide) ?_
      exact aw_lreturn dX0_alone_53 rfl h
set_option maxRecDepth 4000 in
theorem bk_X0_stepAt_0 {g : GP} {l : Launch} {d : Nat} {σ : St} {Q : Option AV → St → Prop} {x0 : Nat} {x1 : Int}
    (h : ((x1 < 0 → Q (some (vI 0)) σ) ∧ (¬ x1 < 0 → ((x1 < (gI σ 2 x0 0) → LC 0 σ x0 ∧ Bd x1 3002 ∧ Q (some (vI (gI σ 0 x0 x1.toNat))) σ) ∧ (¬ x1 < (gI σ 2 x0 0) → Q (some (vI 0)) σ))))) :
    AW g l d MX0_stepAt 0 [some (vR 0 (some x0)), some (vI x1)] [] σ Q := by
  refine aw_iload_n dX0_stepAt_0 rfl rfl ?_
  refine aw_if_lt (tgt := 12) dX0_stepAt_1 (by decide) (fun k1 => ?_) (fun k1 => ?_)
  · replace h := h.1 k1
    refine aw_iconst (x := 0) dX0_stepAt_12 rfl ?_
    refine aw_goto (tgt := 22) dX0_stepAt_13 (by decide) ?_
    exact aw_ireturn dX0_stepAt_22 rfl h
  · replace h := h.2 k1
    refine aw_iload_n dX0_stepAt_4 rfl rfl ?_
    refine aw_aload_n dX0_stepAt_5 rfl rfl ?_
    refine aw_getI' rfl fk_2 lf_X0_19 dX0_stepAt_6 ?_
    refine aw_icmp_lt (tgt := 16) dX0_stepAt_9 (by decide) (fun k2 => ?_) (fun k2 => ?_)
    · replace h := h.1 k2
      refine aw_aload_n dX0_stepAt_16 rfl rfl ?_
      obtain ⟨lc3, h⟩ := h
      refine aw_getA' rfl fk_0 (by decide) lf_X0_9 dX0_stepAt_17 (LC.ne lc3 rfl rfl) ?_
      refine aw_iload_n dX0_stepAt_20 rfl rfl ?_
      obtain ⟨⟨c4, c4x⟩, h⟩ := h
      refine aw_iaload (by decide) rfl dX0_stepAt_21 c4 (LC.lt lc3 rfl rfl c4x) ?_
      exact aw_ireturn dX0_stepAt_22 rfl h
    · replace h := h.2 k2
      refine aw_iconst (x := 0) dX0_stepAt_12 rfl ?_
      refine aw_goto (tgt := 22) dX0_stepAt_13 (by decide) ?_
      exact aw_ireturn dX0_stepAt_22 rfl h
set_option maxRecDepth 4000 in
theorem bk_X2_init_0 {g : GP} {l : Launch} {d : Nat} {σ : St} {Q : Option AV → St → Prop} {x0 : Nat} {x1 : Int}
    (h : Q none (sI σ 200 x0 0 x1)) :
    AW g l (d + 1) MX2_init 0 [some (vR 2 (some x0)), some (vI x1)] [] σ Q := by
  refine aw_aload_n dX2_init_0 rfl rfl ?_
  refine aw_objInit (M := MX2_init) lm_X2_3 loi_i loi_c dX2_init_1 (Nat.le_of_ble_eq_true rfl) ?_
  refine aw_aload_n dX2_init_4 rfl rfl ?_
  refine aw_iload_n dX2_init_5 rfl rfl ?_
  refine aw_putI' rfl fk_200 (Or.inr ⟨rfl, rfl⟩) lf_X2_9 dX2_init_6 ?_
  exact aw_ret h rfl dX2_init_9
set_option maxRecDepth 4000 in
theorem bk_X2_forget_0 {g : GP} {l : Launch} {d : Nat} {σ : St} {Q : Option AV → St → Prop} {x0 : Nat}
    (h : Q none (sI (sJ (sI (sI (sI (sJ (sI (sI (sI (sI (sI (sI (sI (sI (sJ (sI σ 201 x0 0 (-1)) 202 x0 0 0) 203 x0 0 0) 204 x0 0 0) 205 x0 0 0) 206 x0 0 (-1)) 207 x0 0 (-1)) 208 x0 0 (-1)) 209 x0 0 (-1)) 210 x0 0 (-1)) 211 x0 0 0) 212 x0 0 (-1)) 213 x0 0 0) 214 x0 0 0) 215 x0 0 0) 216 x0 0 0)) :
    AW g l d MX2_forget 0 [some (vR 2 (some x0))] [] σ Q := by
  refine aw_aload_n dX2_forget_0 rfl rfl ?_
  refine aw_iconst (x := (-1)) dX2_forget_1 rfl ?_
  refine aw_putI' rfl fk_201 (Or.inl rfl) lf_X2_15 dX2_forget_2 ?_
  refine aw_aload_n dX2_forget_5 rfl rfl ?_
  refine aw_lconst (x := 0) dX2_forget_6 rfl ?_
  refine aw_putJ' rfl fk_202 (Or.inl rfl) lf_X2_18 dX2_forget_7 ?_
  refine aw_aload_n dX2_forget_10 rfl rfl ?_
  refine aw_iconst (x := 0) dX2_forget_11 rfl ?_
  refine aw_putI' rfl fk_203 (Or.inl rfl) lf_X2_22 dX2_forget_12 ?_
  refine aw_aload_n dX2_forget_15 rfl rfl ?_
  refine aw_iconst (x := 0) dX2_forget_16 rfl ?_
  refine aw_putZ' rfl fk_204 (Or.inl rfl) lf_X2_25 dX2_forget_17 (Or.inl rfl) ?_
  refine aw_aload_n dX2_forget_20 rfl rfl ?_
  refine aw_iconst (x := 0) dX2_forget_21 rfl ?_
  refine aw_putZ' rfl fk_205 (Or.inl rfl) lf_X2_29 dX2_forget_22 (Or.inl rfl) ?_
  refine aw_aload_n dX2_forget_25 rfl rfl ?_
  refine aw_iconst (x := (-1)) dX2_forget_26 rfl ?_
  refine aw_putI' rfl fk_206 (Or.inl rfl) lf_X2_32 dX2_forget_27 ?_
  refine aw_aload_n dX2_forget_30 rfl rfl ?_
  refine aw_iconst (x := (-1)) dX2_forget_31 rfl ?_
  refine aw_putI' rfl fk_207 (Or.inl rfl) lf_X2_35 dX2_forget_32 ?_
  refine aw_aload_n dX2_forget_35 rfl rfl ?_
  refine aw_iconst (x := (-1)) dX2_forget_36 rfl ?_
  refine aw_putI' rfl fk_208 (Or.inl rfl) lf_X2_38 dX2_forget_37 ?_
  refine aw_aload_n dX2_forget_40 rfl rfl ?_
  refine aw_iconst (x := (-1)) dX2_forget_41 rfl ?_
  refine aw_putI' rfl fk_209 (Or.inl rfl) lf_X2_41 dX2_forget_42 ?_
  refine aw_aload_n dX2_forget_45 rfl rfl ?_
  refine aw_iconst (x := (-1)) dX2_forget_46 rfl ?_
  refine aw_putI' rfl fk_210 (Or.inl rfl) lf_X2_44 dX2_forget_47 ?_
  refine aw_aload_n dX2_forget_50 rfl rfl ?_
  refine aw_lconst (x := 0) dX2_forget_51 rfl ?_
  refine aw_putJ' rfl fk_211 (Or.inl rfl) lf_X2_47 dX2_forget_52 ?_
  refine aw_aload_n dX2_forget_55 rfl rfl ?_
  refine aw_iconst (x := (-1)) dX2_forget_56 rfl ?_
  refine aw_putI' rfl fk_212 (Or.inl rfl) lf_X2_50 dX2_forget_57 ?_
  refine aw_aload_n dX2_forget_60 rfl rfl ?_
  refine aw_iconst (x := 0) dX2_forget_61 rfl ?_
  refine aw_putI' rfl fk_213 (Or.inl rfl) lf_X2_53 dX2_forget_62 ?_
  refine aw_aload_n dX2_forget_65 rfl rfl ?_
  refine aw_iconst (x := 0) dX2_forget_66 rfl ?_
  refine aw_putI' rfl fk_214 (Or.inl rfl) lf_X2_56 dX2_forget_67 ?_
  refine aw_aload_n dX2_forget_70 rfl rfl ?_
  refine aw_lconst (x := 0) dX2_forget_71 rfl ?_
  refine aw_putJ' rfl fk_215 (Or.inl rfl) lf_X2_59 dX2_forget_72 ?_
  refine aw_aload_n dX2_forget_75 rfl rfl ?_
  refine aw_iconst (x := 0) dX2_forget_76 rfl ?_
  refine aw_putI' rfl fk_216 (Or.inl rfl) lf_X2_62 dX2_forget_77 ?_
  exact aw_ret h rfl dX2_forget_80
set_option maxRecDepth 4000 in
theorem bk_X2_padding_0 {g : GP} {l : Launch} {d : Nat} {σ : St} {Q : Option AV → St → Prop} {x0 : Nat} {x1 : Int64}
    (h : (((1 : Int64).toInt ≤ (gJ σ 211 x0 0).toInt → ACj g l d MJ9_floorMod_f86c9 [vJ (-x1), vJ (gJ σ 211 x0 0)] σ (fun v3 σ2 => Q (some (vJ v3)) σ2)) ∧ (¬ (1 : Int64).toInt ≤ (gJ σ 211 x0 0).toInt → Q (some (vJ 0)) σ))) :
    AW g l (d + 1) MX2_padding 0 [some (vR 2 (some x0)), some (vJ x1), none] [] σ Q := by
  refine aw_aload_n dX2_padding_0 rfl rfl ?_
  refine aw_getJ' rfl fk_211 lf_X2_47 dX2_padding_1 ?_
  refine aw_lconst (x := 1) dX2_padding_4 rfl ?_
  refine aw_lcmp_ge (M := MX2_padding) (tgt := 13) dX2_padding_5 dX2_padding_6 (by decide) (fun k1 => ?_) (fun k1 => ?_)
  · replace h := h.1 k1
    refine aw_lload_n dX2_padding_13 rfl rfl ?_
    refine aw_lneg dX2_padding_14 ?_
    refine aw_aload_n dX2_padding_15 rfl rfl ?_
    refine aw_getJ' rfl fk_211 lf_X2_47 dX2_padding_16 ?_
    refine aw_invSj (M := MX2_padding) [vJ (-x1), vJ (gJ σ 211 x0 0)] mo_J9_floorMod_f86c9 rfl lm_X2_69 lt_J9_floorMod_f86c9 dX2_padding_19 rfl (Nat.le_of_ble_eq_true rfl) (ACj.mono (fun v3 σ2 h => ?_) h)
    exact aw_lreturn dX2_padding_22 rfl h
  · replace h := h.2 k1
    refine aw_lconst (x := 0) dX2_padding_9 rfl ?_
    refine aw_goto (tgt := 22) dX2_padding_10 (by decide) ?_
    exact aw_lreturn dX2_padding_22 rfl h
set_option maxRecDepth 4000 in
theorem bk_X2_setType_0 {g : GP} {l : Launch} {d : Nat} {σ : St} {Q : Option AV → St → Prop} {x0 : Nat} {x1 : Int64}
    (h : (((x1 &&& (16 : Int64)) = (0 : Int64) → AW g l d MX2_setType 25 [some (vR 2 (some x0)), some (vJ x1), none] [vI 0, vR 2 (some x0)] (sI σ 203 x0 0 (i_and (j2i x1) 15)) Q) ∧ (¬ (x1 &&& (16 : Int64)) = (0 : Int64) → AW g l d MX2_setType 25 [some (vR 2 (some x0)), some (vJ x1), none] [vI 1, vR 2 (some x0)] (sI σ 203 x0 0 (i_and (j2i x1) 15)) Q))) :
    AW g l d MX2_setType 0 [some (vR 2 (some x0)), some (vJ x1), none] [] σ Q := by
  refine aw_aload_n dX2_setType_0 rfl rfl ?_
  refine aw_lload_n dX2_setType_1 rfl rfl ?_
  refine aw_l2i dX2_setType_2 ?_
  refine aw_bipush (x := 15) dX2_setType_3 rfl ?_
  refine aw_iand dX2_setType_5 ?_
  refine aw_putI' rfl fk_203 (Or.inl rfl) lf_X2_22 dX2_setType_6 ?_
  refine aw_aload_n dX2_setType_9 rfl rfl ?_
  refine aw_lload_n dX2_setType_10 rfl rfl ?_
  refine aw_ldc2 lk_X2_65 dX2_setType_11 ?_
  refine aw_land dX2_setType_14 ?_
  refine aw_lconst (x := 0) dX2_setType_15 rfl ?_
  refine aw_lcmp_eq (M := MX2_setType) (tgt := 24) dX2_setType_16 dX2_setType_17 (by decide) (fun k1 => ?_) (fun k1 => ?_)
  · replace h := h.1 k1
    refine aw_iconst (x := 0) dX2_setType_24 rfl ?_
    exact aw_fgt (L' := [some (vR 2 (some x0)), some (vJ x1), none]) ⟨rfl, ⟨rfl, trivial⟩⟩ h
  · replace h := h.2 k1
    refine aw_iconst (x := 1) dX2_setType_20 rfl ?_
    refine aw_goto (tgt := 25) dX2_setType_21 (by decide) ?_
    exact aw_fgt (L' := [some (vR 2 (some x0)), some (vJ x1), none]) ⟨rfl, ⟨rfl, trivial⟩⟩ h
set_option maxRecDepth 4000 in
theorem bk_X2_setType_25 {g : GP} {l : Launch} {d : Nat} {σ : St} {Q : Option AV → St → Prop} {x0 : Nat} {x1 : Int64} {y0 : Int} {y1 : Option Nat}
    (h : ∃ r1, y1 = some r1 ∧ (y0 = 0 ∨ y0 = 1) ∧ (((x1 &&& (32 : Int64)) = (0 : Int64) → Q none (sI (sI σ 204 r1 0 y0) 205 x0 0 0)) ∧ (¬ (x1 &&& (32 : Int64)) = (0 : Int64) → Q none (sI (sI σ 204 r1 0 y0) 205 x0 0 1)))) :
    AW g l d MX2_setType 25 [some (vR 2 (some x0)), some (vJ x1), none] [vI y0, vR 2 y1] σ Q := by
  obtain ⟨r1, e2, h⟩ := h
  obtain ⟨h0, h⟩ := h
  refine aw_putZ' e2 fk_204 (Or.inl rfl) lf_X2_25 dX2_setType_25 h0 ?_
  refine aw_aload_n dX2_setType_28 rfl rfl ?_
  refine aw_lload_n dX2_setType_29 rfl rfl ?_
  refine aw_ldc2 lk_X2_67 dX2_setType_30 ?_
  refine aw_land dX2_setType_33 ?_
  refine aw_lconst (x := 0) dX2_setType_34 rfl ?_
  refine aw_lcmp_eq (M := MX2_setType) (tgt := 43) dX2_setType_35 dX2_setType_36 (by decide) (fun k3 => ?_) (fun k3 => ?_)
  · replace h := h.1 k3
    refine aw_iconst (x := 0) dX2_setType_43 rfl ?_
    refine aw_putZ' rfl fk_205 (Or.inl rfl) lf_X2_29 dX2_setType_44 (Or.inl rfl) ?_
    exact aw_ret h rfl dX2_setType_47
  · replace h := h.2 k3
    refine aw_iconst (x := 1) dX2_setType_39 rfl ?_
    refine aw_goto (tgt := 44) dX2_setType_40 (by decide) ?_
    refine aw_putZ' rfl fk_205 (Or.inl rfl) lf_X2_29 dX2_setType_44 (Or.inr rfl) ?_
    exact aw_ret h rfl dX2_setType_47
set_option maxRecDepth 4000 in
theorem bk_X4_init_0 {g : GP} {l : Launch} {d : Nat} {σ : St} {Q : Option AV → St → Prop} {x0 : Nat}
    (h : (gL σ 400 x0 = 0 ∧ hs σ + 1 ≤ gB g + 600000 ∧ sl σ + 2000 ≤ 7302250) ∧ (gL (sArr σ 400 x0 2000) 402 x0 = 0 ∧ hs (sArr σ 400 x0 2000) + 1 ≤ gB g + 600000 ∧ sl (sArr σ 400 x0 2000) + 20 ≤ 7302250) ∧ (gL (sArr (sArr σ 400 x0 2000) 402 x0 20) 403 x0 = 0 ∧ hs (sArr (sArr σ 400 x0 2000) 402 x0 20) + 1 ≤ gB g + 600000 ∧ sl (sArr (sArr σ 400 x0 2000) 402 x0 20) + 20 ≤ 7302250) ∧ (gL (sArr (sArr (sArr σ 400 x0 2000) 402 x0 20) 403 x0 20) 404 x0 = 0 ∧ hs (sArr (sArr (sArr σ 400 x0 2000) 402 x0 20) 403 x0 20) + 1 ≤ gB g + 600000 ∧ sl (sArr (sArr (sArr σ 400 x0 2000) 402 x0 20) 403 x0 20) + 160 ≤ 7302250) ∧ Q none (sArr (sArr (sArr (sArr σ 400 x0 2000) 402 x0 20) 403 x0 20) 404 x0 160)) :
    AW g l (d + 1) MX4_init 0 [some (vR 4 (some x0))] [] σ Q := by
  refine aw_aload_n dX4_init_0 rfl rfl ?_
  refine aw_objInit (M := MX4_init) lm_X4_3 loi_i loi_c dX4_init_1 (Nat.le_of_ble_eq_true rfl) ?_
  refine aw_aload_n dX4_init_4 rfl rfl ?_
  refine aw_sipush (x := 2000) dX4_init_5 rfl ?_
  obtain ⟨⟨h0, h1, h2⟩, h⟩ := h
  refine aw_mkArr (M := MX4_init) (n := 2000) fk_400 (by decide +kernel) rfl (fun _ _ h => h) la_int ⟨rfl, rfl⟩ lf_X4_9 dX4_init_8 dX4_init_10 rfl (by decide) (by decide) h0 h1 h2 ?_
  refine aw_aload_n dX4_init_13 rfl rfl ?_
  refine aw_bipush (x := 20) dX4_init_14 rfl ?_
  obtain ⟨⟨h0, h1, h2⟩, h⟩ := h
  refine aw_mkArr (M := MX4_init) (n := 20) fk_402 (by decide +kernel) rfl (fun _ _ h => h) la_int ⟨rfl, rfl⟩ lf_X4_15 dX4_init_16 dX4_init_18 rfl (by decide) (by decide) h0 h1 h2 ?_
  refine aw_aload_n dX4_init_21 rfl rfl ?_
  refine aw_bipush (x := 20) dX4_init_22 rfl ?_
  obtain ⟨⟨h0, h1, h2⟩, h⟩ := h
  refine aw_mkArr (M := MX4_init) (n := 20) fk_403 (by decide +kernel) rfl (fun _ _ h => h) la_int ⟨rfl, rfl⟩ lf_X4_18 dX4_init_24 dX4_init_26 rfl (by decide) (by decide) h0 h1 h2 ?_
  refine aw_aload_n dX4_init_29 rfl rfl ?_
  refine aw_sipush (x := 160) dX4_init_30 rfl ?_
  obtain ⟨⟨h0, h1, h2⟩, h⟩ := h
  refine aw_mkArr (M := MX4_init) (n := 160) fk_404 (by decide +kernel) rfl (fun _ _ h => h) la_int ⟨rfl, rfl⟩ lf_X4_21 dX4_init_33 dX4_init_35 rfl (by decide) (by decide) h0 h1 h2 ?_
  exact aw_ret h rfl dX4_init_38
set_option maxRecDepth 4000 in
theorem bk_X4_forgetOldest_0 {g : GP} {l : Launch} {d : Nat} {σ : St} {Q : Option AV → St → Prop} {x0 : Nat}
    (h : LC 4 σ x0 ∧ R32 ((gI σ 405 x0 0) - 1) ∧ Q none (sI (sCp (sCp (sCp σ 402 x0 1 0 19) 403 x0 1 0 19) 404 x0 8 0 152) 405 x0 0 ((gI σ 405 x0 0) - 1))) :
    AW g l (d + 1) MX4_forgetOldest 0 [some (vR 4 (some x0))] [] σ Q := by
  refine aw_aload_n dX4_forgetOldest_0 rfl rfl ?_
  obtain ⟨lc1, h⟩ := h
  refine aw_getA' rfl fk_402 (by decide) lf_X4_15 dX4_forgetOldest_1 (LC.ne lc1 rfl rfl) ?_
  refine aw_iconst (x := 1) dX4_forgetOldest_4 rfl ?_
  refine aw_aload_n dX4_forgetOldest_5 rfl rfl ?_
  refine aw_getA' rfl fk_402 (by decide) lf_X4_15 dX4_forgetOldest_6 (LC.ne lc1 rfl rfl) ?_
  refine aw_iconst (x := 0) dX4_forgetOldest_9 rfl ?_
  refine aw_bipush (x := 19) dX4_forgetOldest_10 rfl ?_
  refine aw_copy (M := MX4_forgetOldest) (by decide) rfl lm_X4_40 dX4_forgetOldest_12 (by decide) (by decide) (by decide) (LC.le lc1 rfl rfl (by decide)) (LC.le lc1 rfl rfl (by decide)) (Nat.le_of_ble_eq_true rfl) ?_
  refine aw_aload_n dX4_forgetOldest_15 rfl rfl ?_
  refine aw_getA' rfl fk_403 (by decide) lf_X4_18 dX4_forgetOldest_16 (LC.ne lc1 rfl rfl) ?_
  refine aw_iconst (x := 1) dX4_forgetOldest_19 rfl ?_
  refine aw_aload_n dX4_forgetOldest_20 rfl rfl ?_
  refine aw_getA' rfl fk_403 (by decide) lf_X4_18 dX4_forgetOldest_21 (LC.ne lc1 rfl rfl) ?_
  refine aw_iconst (x := 0) dX4_forgetOldest_24 rfl ?_
  refine aw_bipush (x := 19) dX4_forgetOldest_25 rfl ?_
  refine aw_copy (M := MX4_forgetOldest) (by decide) rfl lm_X4_40 dX4_forgetOldest_27 (by decide) (by decide) (by decide) (LC.le lc1 rfl rfl (by decide)) (LC.le lc1 rfl rfl (by decide)) (Nat.le_of_ble_eq_true rfl) ?_
  refine aw_aload_n dX4_forgetOldest_30 rfl rfl ?_
  refine aw_getA' rfl fk_404 (by decide) lf_X4_21 dX4_forgetOldest_31 (LC.ne lc1 rfl rfl) ?_
  refine aw_bipush (x := 8) dX4_forgetOldest_34 rfl ?_
  refine aw_aload_n dX4_forgetOldest_36 rfl rfl ?_
  refine aw_getA' rfl fk_404 (by decide) lf_X4_21 dX4_forgetOldest_37 (LC.ne lc1 rfl rfl) ?_
  refine aw_iconst (x := 0) dX4_forgetOldest_40 rfl ?_
  refine aw_sipush (x := 152) dX4_forgetOldest_41 rfl ?_
  refine aw_copy (M := MX4_forgetOldest) (by decide) rfl lm_X4_40 dX4_forgetOldest_44 (by decide) (by decide) (by decide) (LC.le lc1 rfl rfl (by decide)) (LC.le lc1 rfl rfl (by decide)) (Nat.le_of_ble_eq_true rfl) ?_
  refine aw_aload_n dX4_forgetOldest_47 rfl rfl ?_
  refine aw_dup dX4_forgetOldest_48 rfl ?_
  refine aw_getIe (v := gI σ 405 x0 0) rfl fk_405 lf_X4_34 dX4_forgetOldest_49 rfl ?_
  refine aw_iconst (x := 1) dX4_forgetOldest_52 rfl ?_
  obtain ⟨⟨c2, c2x⟩, h⟩ := h
  refine aw_isubc dX4_forgetOldest_53 c2 c2x ?_
  refine aw_putI' rfl fk_405 (Or.inl rfl) lf_X4_34 dX4_forgetOldest_54 ?_
  exact aw_ret h rfl dX4_forgetOldest_57
set_option maxRecDepth 4000 in
theorem bk_X4_give_0 {g : GP} {l : Launch} {d : Nat} {σ : St} {Q : Option AV → St → Prop} {x0 : Nat} {x1 : Int} {x2 : Int}
    (h : LC 4 σ x0 ∧ Bd x1 2000 ∧ (((gI σ 400 x0 x1.toNat) = (-1) → AW g l d MX4_give 20 [some (vR 4 (some x0)), some (vI x1), some (vI x2)] [] σ Q) ∧ (¬ (gI σ 400 x0 x1.toNat) = (-1) → R32 ((gI σ 401 x0 0) - 1) ∧ AW g l d MX4_give 20 [some (vR 4 (some x0)), some (vI x1), some (vI x2)] [] (sI σ 401 x0 0 ((gI σ 401 x0 0) - 1)) Q))) :
    AW g l d MX4_give 0 [some (vR 4 (some x0)), some (vI x1), some (vI x2)] [] σ Q := by
  refine aw_aload_n dX4_give_0 rfl rfl ?_
  obtain ⟨lc1, h⟩ := h
  refine aw_getA' rfl fk_400 (by decide) lf_X4_9 dX4_give_1 (LC.ne lc1 rfl rfl) ?_
  refine aw_iload_n dX4_give_4 rfl rfl ?_
  obtain ⟨⟨c2, c2x⟩, h⟩ := h
  refine aw_iaload (by decide) rfl dX4_give_5 c2 (LC.lt lc1 rfl rfl c2x) ?_
  refine aw_iconst (x := (-1)) dX4_give_6 rfl ?_
  refine aw_icmp_eq (tgt := 20) dX4_give_7 (by decide) (fun k3 => ?_) (fun k3 => ?_)
  · replace h := h.1 k3
    exact aw_fgt (L' := [some (vR 4 (some x0)), some (vI x1), some (vI x2)]) ⟨rfl, ⟨rfl, ⟨rfl, trivial⟩⟩⟩ h
  · replace h := h.2 k3
    refine aw_aload_n dX4_give_10 rfl rfl ?_
    refine aw_dup dX4_give_11 rfl ?_
    refine aw_getI' rfl fk_401 lf_X4_30 dX4_give_12 ?_
    refine aw_iconst (x := 1) dX4_give_15 rfl ?_
    obtain ⟨⟨c4, c4x⟩, h⟩ := h
    refine aw_isubc dX4_give_16 c4 c4x ?_
    refine aw_putI' rfl fk_401 (Or.inl rfl) lf_X4_30 dX4_give_17 ?_
    exact aw_fgt (L' := [some (vR 4 (some x0)), some (vI x1), some (vI x2)]) ⟨rfl, ⟨rfl, ⟨rfl, trivial⟩⟩⟩ h
set_option maxRecDepth 4000 in
theorem bk_X4_give_20 {g : GP} {l : Launch} {d : Nat} {σ : St} {Q : Option AV → St → Prop} {x0 : Nat} {x1 : Int} {x2 : Int}
    (h : ((x2 = (-1) → LC 4 σ x0 ∧ Bd x1 2000 ∧ Q none (sI σ 400 x0 x1.toNat x2)) ∧ (¬ x2 = (-1) → R32 ((gI σ 401 x0 0) + 1) ∧ LC 4 σ x0 ∧ Bd x1 2000 ∧ Q none (sI (sI σ 401 x0 0 ((gI σ 401 x0 0) + 1)) 400 x0 x1.toNat x2)))) :
    AW g l d MX4_give 20 [some (vR 4 (some x0)), some (vI x1), some (vI x2)] [] σ Q := by
  refine aw_iload_n dX4_give_20 rfl rfl ?_
  refine aw_iconst (x := (-1)) dX4_give_21 rfl ?_
  refine aw_icmp_eq (tgt := 35) dX4_give_22 (by decide) (fun k1 => ?_) (fun k1 => ?_)
  · replace h := h.1 k1
    refine aw_aload_n dX4_give_35 rfl rfl ?_
    obtain ⟨lc2, h⟩ := h
    refine aw_getA' rfl fk_400 (by decide) lf_X4_9 dX4_give_36 (LC.ne lc2 rfl rfl) ?_
    refine aw_iload_n dX4_give_39 rfl rfl ?_
    refine aw_iload_n dX4_give_40 rfl rfl ?_
    obtain ⟨⟨c3, c3x⟩, h⟩ := h
    refine aw_iastore (by decide) rfl dX4_give_41 c3 (LC.lt lc2 rfl rfl c3x) ?_
    exact aw_ret h rfl dX4_give_42
  · replace h := h.2 k1
    refine aw_aload_n dX4_give_25 rfl rfl ?_
    refine aw_dup dX4_give_26 rfl ?_
    refine aw_getI' rfl fk_401 lf_X4_30 dX4_give_27 ?_
    refine aw_iconst (x := 1) dX4_give_30 rfl ?_
    obtain ⟨⟨c4, c4x⟩, h⟩ := h
    refine aw_iaddc dX4_give_31 c4 c4x ?_
    refine aw_putI' rfl fk_401 (Or.inl rfl) lf_X4_30 dX4_give_32 ?_
    refine aw_aload_n dX4_give_35 rfl rfl ?_
    obtain ⟨lc5, h⟩ := h
    refine aw_getA' rfl fk_400 (by decide) lf_X4_9 dX4_give_36 (LC.ne lc5 rfl rfl) ?_
    refine aw_iload_n dX4_give_39 rfl rfl ?_
    refine aw_iload_n dX4_give_40 rfl rfl ?_
    obtain ⟨⟨c6, c6x⟩, h⟩ := h
    refine aw_iastore (by decide) rfl dX4_give_41 c6 (LC.lt lc5 rfl rfl c6x) ?_
    exact aw_ret h rfl dX4_give_42
set_option maxRecDepth 4000 in
theorem bk_X4_keep_0 {g : GP} {l : Launch} {d : Nat} {σ : St} {Q : Option AV → St → Prop} {x0 : Nat} {x1 : Int} {x2 : Int}
    (h : ((¬ (gI σ 405 x0 0) = 20 → AW g l (d + 1) MX4_keep 13 [some (vR 4 (some x0)), some (vI x1), some (vI x2), none] [] σ Q) ∧ ((gI σ 405 x0 0) = 20 → ACv g l d MX4_forgetOldest [vR 4 (some x0)] σ (fun σ2 => AW g l (d + 1) MX4_keep 13 [some (vR 4 (some x0)), some (vI x1), some (vI x2), none] [] σ2 Q)))) :
    AW g l (d + 1) MX4_keep 0 [some (vR 4 (some x0)), some (vI x1), some (vI x2), none] [] σ Q := by
  refine aw_aload_n dX4_keep_0 rfl rfl ?_
  refine aw_getI' rfl fk_405 lf_X4_34 dX4_keep_1 ?_
  refine aw_bipush (x := 20) dX4_keep_4 rfl ?_
  refine aw_icmp_ne (tgt := 13) dX4_keep_6 (by decide) (fun k1 => ?_) (fun k1 => ?_)
  · replace h := h.1 k1
    exact aw_fgt (L' := [some (vR 4 (some x0)), some (vI x1), some (vI x2), none]) ⟨rfl, ⟨rfl, ⟨rfl, trivial⟩⟩⟩ h
  · replace h := h.2 k1
    refine aw_aload_n dX4_keep_9 rfl rfl ?_
    refine aw_invVv (M := MX4_keep) (ci := 4) [] rfl mo_X4_forgetOldest rfl lm_X4_37 li_X4_forgetOldest ls_X4_forgetOldest (by decide +kernel) dX4_keep_10 rfl (Nat.le_of_ble_eq_true rfl) (ACv.mono (fun σ2 h => ?_) h)
    exact aw_fgt (L' := [some (vR 4 (some x0)), some (vI x1), some (vI x2), none]) ⟨rfl, ⟨rfl, ⟨rfl, trivial⟩⟩⟩ h
set_option maxRecDepth 4000 in
theorem bk_X4_keep_13 {g : GP} {l : Launch} {d : Nat} {σ : St} {Q : Option AV → St → Prop} {x0 : Nat} {x1 : Int} {x2 : Int}
    (h : LC 4 σ x0 ∧ Bd (gI σ 405 x0 0) 20 ∧ AW g l (d + 1) MX4_keep 35 [some (vR 4 (some x0)), some (vI x1), some (vI x2), some (vI 0)] [] (sI (sI σ 402 x0 (gI σ 405 x0 0).toNat x1) 403 x0 (gI σ 405 x0 0).toNat x2) Q) :
    AW g l (d + 1) MX4_keep 13 [some (vR 4 (some x0)), some (vI x1), some (vI x2), none] [] σ Q := by
  refine aw_aload_n dX4_keep_13 rfl rfl ?_
  obtain ⟨lc1, h⟩ := h
  refine aw_getA' rfl fk_402 (by decide) lf_X4_15 dX4_keep_14 (LC.ne lc1 rfl rfl) ?_
  refine aw_aload_n dX4_keep_17 rfl rfl ?_
  refine aw_getI' rfl fk_405 lf_X4_34 dX4_keep_18 ?_
  refine aw_iload_n dX4_keep_21 rfl rfl ?_
  obtain ⟨⟨c2, c2x⟩, h⟩ := h
  refine aw_iastore (by decide) rfl dX4_keep_22 c2 (LC.lt lc1 rfl rfl c2x) ?_
  refine aw_aload_n dX4_keep_23 rfl rfl ?_
  refine aw_getA' rfl fk_403 (by decide) lf_X4_18 dX4_keep_24 (LC.ne lc1 rfl rfl) ?_
  refine aw_aload_n dX4_keep_27 rfl rfl ?_
  refine aw_getIe (v := gI σ 405 x0 0) rfl fk_405 lf_X4_34 dX4_keep_28 rfl ?_
  refine aw_iload_n dX4_keep_31 rfl rfl ?_
  refine aw_iastore (by decide) rfl dX4_keep_32 c2 (LC.lt lc1 rfl rfl c2x) ?_
  refine aw_iconst (x := 0) dX4_keep_33 rfl ?_
  refine aw_istore_n (L' := [some (vR 4 (some x0)), some (vI x1), some (vI x2), some (vI 0)]) dX4_keep_34 rfl (by decide) rfl ?_
  exact aw_fgt (L' := [some (vR 4 (some x0)), some (vI x1), some (vI x2), some (vI 0)]) ⟨rfl, ⟨rfl, ⟨rfl, ⟨rfl, trivial⟩⟩⟩⟩ h
set_option maxRecDepth 4000 in
theorem bk_X4_keep_35 {g : GP} {l : Launch} {d : Nat} {σ : St} {Q : Option AV → St → Prop} {x0 : Nat} {x1 : Int} {x2 : Int} {x3 : Int}
    (h : ((x2 ≤ x3 → R32 ((gI σ 405 x0 0) + 1) ∧ Q none (sI σ 405 x0 0 ((gI σ 405 x0 0) + 1))) ∧ (¬ x2 ≤ x3 → LC 4 σ x0 ∧ R32 ((gI σ 405 x0 0) * 8) ∧ R32 (((gI σ 405 x0 0) * 8) + x3) ∧ R32 (x1 + x3) ∧ Bd (x1 + x3) 2000 ∧ Bd (((gI σ 405 x0 0) * 8) + x3) 160 ∧ R32 (x3 + 1) ∧ AW g l (d + 1) MX4_keep 35 [some (vR 4 (some x0)), some (vI x1), some (vI x2), some (vI (x3 + 1))] [] (sI σ 404 x0 (((gI σ 405 x0 0) * 8) + x3).toNat (gI σ 400 x0 (x1 + x3).toNat)) Q))) :
    AW g l (d + 1) MX4_keep 35 [some (vR 4 (some x0)), some (vI x1), some (vI x2), some (vI x3)] [] σ Q := by
  refine aw_iload_n dX4_keep_35 rfl rfl ?_
  refine aw_iload_n dX4_keep_36 rfl rfl ?_
  refine aw_icmp_ge (tgt := 68) dX4_keep_37 (by decide) (fun k1 => ?_) (fun k1 => ?_)
  · replace h := h.1 k1
    refine aw_aload_n dX4_keep_68 rfl rfl ?_
    refine aw_dup dX4_keep_69 rfl ?_
    refine aw_getI' rfl fk_405 lf_X4_34 dX4_keep_70 ?_
    refine aw_iconst (x := 1) dX4_keep_73 rfl ?_
    obtain ⟨⟨c2, c2x⟩, h⟩ := h
    refine aw_iaddc dX4_keep_74 c2 c2x ?_
    refine aw_putI' rfl fk_405 (Or.inl rfl) lf_X4_34 dX4_keep_75 ?_
    exact aw_ret h rfl dX4_keep_78
  · replace h := h.2 k1
    refine aw_aload_n dX4_keep_40 rfl rfl ?_
    obtain ⟨lc3, h⟩ := h
    refine aw_getA' rfl fk_404 (by decide) lf_X4_21 dX4_keep_41 (LC.ne lc3 rfl rfl) ?_
    refine aw_aload_n dX4_keep_44 rfl rfl ?_
    refine aw_getI' rfl fk_405 lf_X4_34 dX4_keep_45 ?_
    refine aw_bipush (x := 8) dX4_keep_48 rfl ?_
    obtain ⟨⟨c4, c4x⟩, h⟩ := h
    refine aw_imulc dX4_keep_50 c4 c4x ?_
    refine aw_iload_n dX4_keep_51 rfl rfl ?_
    obtain ⟨⟨c5, c5x⟩, h⟩ := h
    refine aw_iaddc dX4_keep_52 c5 c5x ?_
    refine aw_aload_n dX4_keep_53 rfl rfl ?_
    refine aw_getA' rfl fk_400 (by decide) lf_X4_9 dX4_keep_54 (LC.ne lc3 rfl rfl) ?_
    refine aw_iload_n dX4_keep_57 rfl rfl ?_
    refine aw_iload_n dX4_keep_58 rfl rfl ?_
    obtain ⟨⟨c6, c6x⟩, h⟩ := h
    refine aw_iaddc dX4_keep_59 c6 c6x ?_
    obtain ⟨⟨c7, c7x⟩, h⟩ := h
    refine aw_iaload (by decide) rfl dX4_keep_60 c7 (LC.lt lc3 rfl rfl c7x) ?_
    obtain ⟨⟨c8, c8x⟩, h⟩ := h
    refine aw_iastore (by decide) rfl dX4_keep_61 c8 (LC.lt lc3 rfl rfl c8x) ?_
    obtain ⟨⟨c9, c9x⟩, h⟩ := h
    refine aw_iincc (L' := [some (vR 4 (some x0)), some (vI x1), some (vI x2), some (vI (x3 + 1))]) dX4_keep_62 rfl (by decide) rfl c9 c9x rfl ?_
    refine aw_goto (tgt := 35) dX4_keep_65 (by decide) ?_
    exact aw_fgt (L' := [some (vR 4 (some x0)), some (vI x1), some (vI x2), some (vI (x3 + 1))]) ⟨rfl, ⟨rfl, ⟨rfl, ⟨rfl, trivial⟩⟩⟩⟩ h
set_option maxRecDepth 4000 in
theorem bk_X4_placeOf_0 {g : GP} {l : Launch} {d : Nat} {σ : St} {Q : Option AV → St → Prop} {x0 : Nat} {x1 : Int}
    (h : AW g l d MX4_placeOf 4 [some (vR 4 (some x0)), some (vI x1), some (vI x1), some (vI 0)] [] σ Q) :
    AW g l d MX4_placeOf 0 [some (vR 4 (some x0)), some (vI x1), none, none] [] σ Q := by
  refine aw_iload_n dX4_placeOf_0 rfl rfl ?_
  refine aw_istore_n (L' := [some (vR 4 (some x0)), some (vI x1), some (vI x1), none]) dX4_placeOf_1 rfl (by decide) rfl ?_
  refine aw_iconst (x := 0) dX4_placeOf_2 rfl ?_
  refine aw_istore_n (L' := [some (vR 4 (some x0)), some (vI x1), some (vI x1), some (vI 0)]) dX4_placeOf_3 rfl (by decide) rfl ?_
  exact aw_fgt (L' := [some (vR 4 (some x0)), some (vI x1), some (vI x1), some (vI 0)]) ⟨rfl, ⟨rfl, ⟨rfl, ⟨rfl, trivial⟩⟩⟩⟩ h
set_option maxRecDepth 4000 in
theorem bk_X4_placeOf_4 {g : GP} {l : Launch} {d : Nat} {σ : St} {Q : Option AV → St → Prop} {x0 : Nat} {x1 : Int} {x2 : Int} {x3 : Int}
    (h : ((2000 ≤ x3 → Q (some (vI (-1))) σ) ∧ (¬ 2000 ≤ x3 → ((x1 < 0 → Q (some (vI (-1))) σ) ∧ (¬ x1 < 0 → (((gI σ 401 x0 0) ≤ x1 → Q (some (vI (-1))) σ) ∧ (¬ (gI σ 401 x0 0) ≤ x1 → LC 4 σ x0 ∧ Bd x3 2000 ∧ (((gI σ 400 x0 x3.toNat) = (-1) → R32 (x3 + 1) ∧ AW g l d MX4_placeOf 4 [some (vR 4 (some x0)), some (vI x1), some (vI x2), some (vI (x3 + 1))] [] σ Q) ∧ (¬ (gI σ 400 x0 x3.toNat) = (-1) → ((¬ x2 = 0 → R32 (x2 + (-1)) ∧ R32 (x3 + 1) ∧ AW g l d MX4_placeOf 4 [some (vR 4 (some x0)), some (vI x1), some (vI (x2 + (-1))), some (vI (x3 + 1))] [] σ Q) ∧ (x2 = 0 → Q (some (vI x3)) σ))))))))))) :
    AW g l d MX4_placeOf 4 [some (vR 4 (some x0)), some (vI x1), some (vI x2), some (vI x3)] [] σ Q := by
  refine aw_iload_n dX4_placeOf_4 rfl rfl ?_
  refine aw_sipush (x := 2000) dX4_placeOf_5 rfl ?_
  refine aw_icmp_ge (tgt := 48) dX4_placeOf_8 (by decide) (fun k1 => ?_) (fun k1 => ?_)
  · replace h := h.1 k1
    refine aw_iconst (x := (-1)) dX4_placeOf_48 rfl ?_
    exact aw_ireturn dX4_placeOf_49 rfl h
  · replace h := h.2 k1
    refine aw_iload_n dX4_placeOf_11 rfl rfl ?_
    refine aw_if_lt (tgt := 48) dX4_placeOf_12 (by decide) (fun k2 => ?_) (fun k2 => ?_)
    · replace h := h.1 k2
      refine aw_iconst (x := (-1)) dX4_placeOf_48 rfl ?_
      exact aw_ireturn dX4_placeOf_49 rfl h
    · replace h := h.2 k2
      refine aw_iload_n dX4_placeOf_15 rfl rfl ?_
      refine aw_aload_n dX4_placeOf_16 rfl rfl ?_
      refine aw_getI' rfl fk_401 lf_X4_30 dX4_placeOf_17 ?_
      refine aw_icmp_ge (tgt := 48) dX4_placeOf_20 (by decide) (fun k3 => ?_) (fun k3 => ?_)
      · replace h := h.1 k3
        refine aw_iconst (x := (-1)) dX4_placeOf_48 rfl ?_
        exact aw_ireturn dX4_placeOf_49 rfl h
      · replace h := h.2 k3
        refine aw_aload_n dX4_placeOf_23 rfl rfl ?_
        obtain ⟨lc4, h⟩ := h
        refine aw_getA' rfl fk_400 (by decide) lf_X4_9 dX4_placeOf_24 (LC.ne lc4 rfl rfl) ?_
        refine aw_iload_n dX4_placeOf_27 rfl rfl ?_
        obtain ⟨⟨c5, c5x⟩, h⟩ := h
        refine aw_iaload (by decide) rfl dX4_placeOf_28 c5 (LC.lt lc4 rfl rfl c5x) ?_
        refine aw_iconst (x := (-1)) dX4_placeOf_29 rfl ?_
        refine aw_icmp_eq (tgt := 42) dX4_placeOf_30 (by decide) (fun k6 => ?_) (fun k6 => ?_)
        · replace h := h.1 k6
          obtain ⟨⟨c7, c7x⟩, h⟩ := h
          refine aw_iincc (L' := [some (vR 4 (some x0)), some (vI x1), some (vI x2), some (vI (x3 + 1))]) dX4_placeOf_42 rfl (by decide) rfl c7 c7x rfl ?_
          refine aw_goto (tgt := 4) dX4_placeOf_45 (by decide) ?_
          exact aw_fgt (L' := [some (vR 4 (some x0)), some (vI x1), some (vI x2), some (vI (x3 + 1))]) ⟨rfl, ⟨rfl, ⟨rfl, ⟨rfl, trivial⟩⟩⟩⟩ h
        · replace h := h.2 k6
          refine aw_iload_n dX4_placeOf_33 rfl rfl ?_
          refine aw_if_ne (tgt := 39) dX4_placeOf_34 (by decide) (fun k8 => ?_) (fun k8 => ?_)
          · replace h := h.1 k8
            obtain ⟨⟨c9, c9x⟩, h⟩ := h
            refine aw_iincc (L' := [some (vR 4 (some x0)), some (vI x1), some (vI (x2 + (-1))), some (vI x3)]) dX4_placeOf_39 rfl (by decide) rfl c9 c9x rfl ?_
            obtain ⟨⟨c10, c10x⟩, h⟩ := h
            refine aw_iincc (L' := [some (vR 4 (some x0)), some (vI x1), some (vI (x2 + (-1))), some (vI (x3 + 1))]) dX4_placeOf_42 rfl (by decide) rfl c10 c10x rfl ?_
            refine aw_goto (tgt := 4) dX4_placeOf_45 (by decide) ?_
            exact aw_fgt (L' := [some (vR 4 (some x0)), some (vI x1), some (vI (x2 + (-1))), some (vI (x3 + 1))]) ⟨rfl, ⟨rfl, ⟨rfl, ⟨rfl, trivial⟩⟩⟩⟩ h
          · replace h := h.2 k8
            refine aw_iload_n dX4_placeOf_37 rfl rfl ?_
            exact aw_ireturn dX4_placeOf_38 rfl h
set_option maxRecDepth 4000 in
theorem bk_X4_wipe_0 {g : GP} {l : Launch} {d : Nat} {σ : St} {Q : Option AV → St → Prop} {x0 : Nat}
    (h : LC 4 σ x0 ∧ ACv g l d MJ7_fill_53178 [vA 400 x0, vI (-1)] σ (fun σ2 => Q none (sI (sI σ2 401 x0 0 0) 405 x0 0 0))) :
    AW g l (d + 1) MX4_wipe 0 [some (vR 4 (some x0))] [] σ Q := by
  refine aw_aload_n dX4_wipe_0 rfl rfl ?_
  obtain ⟨lc1, h⟩ := h
  refine aw_getA' rfl fk_400 (by decide) lf_X4_9 dX4_wipe_1 (LC.ne lc1 rfl rfl) ?_
  refine aw_iconst (x := (-1)) dX4_wipe_4 rfl ?_
  refine aw_invSv (M := MX4_wipe) [vA 400 x0, vI (-1)] mo_J7_fill_53178 rfl lm_X4_24 lt_J7_fill_53178 dX4_wipe_5 rfl (Nat.le_of_ble_eq_true rfl) (ACv.mono (fun σ2 h => ?_) h)
  refine aw_aload_n dX4_wipe_8 rfl rfl ?_
  refine aw_iconst (x := 0) dX4_wipe_9 rfl ?_
  refine aw_putI' rfl fk_401 (Or.inl rfl) lf_X4_30 dX4_wipe_10 ?_
  refine aw_aload_n dX4_wipe_13 rfl rfl ?_
  refine aw_iconst (x := 0) dX4_wipe_14 rfl ?_
  refine aw_putI' rfl fk_405 (Or.inl rfl) lf_X4_34 dX4_wipe_15 ?_
  exact aw_ret h rfl dX4_wipe_18
set_option maxRecDepth 4000 in
theorem bk_X9_addToken_0 {g : GP} {l : Launch} {d : Nat} {σ : St} {Q : Option AV → St → Prop} {x0 : Nat} {x1 : Int} {x2 : Int} {x3 : Int64}
    (h : ((3000 < (gI σ 905 x0 0) → Q none σ) ∧ (¬ 3000 < (gI σ 905 x0 0) → LC 9 σ x0 ∧ Bd (gI σ 905 x0 0) 3001 ∧ R32 ((gI σ 905 x0 0) + 1) ∧ Q none (sI (sJ (sI (sI σ 902 x0 (gI σ 905 x0 0).toNat x1) 903 x0 (gI σ 905 x0 0).toNat x2) 904 x0 (gI σ 905 x0 0).toNat x3) 905 x0 0 ((gI σ 905 x0 0) + 1))))) :
    AW g l d MX9_addToken 0 [some (vR 9 (some x0)), some (vI x1), some (vI x2), some (vJ x3), none] [] σ Q := by
  refine aw_aload_n dX9_addToken_0 rfl rfl ?_
  refine aw_getI' rfl fk_905 lf_X9_48 dX9_addToken_1 ?_
  refine aw_sipush (x := 3000) dX9_addToken_4 rfl ?_
  refine aw_icmp_gt (tgt := 50) dX9_addToken_7 (by decide) (fun k1 => ?_) (fun k1 => ?_)
  · replace h := h.1 k1
    exact aw_ret h rfl dX9_addToken_50
  · replace h := h.2 k1
    refine aw_aload_n dX9_addToken_10 rfl rfl ?_
    obtain ⟨lc2, h⟩ := h
    refine aw_getA' rfl fk_902 (by decide) lf_X9_15 dX9_addToken_11 (LC.ne lc2 rfl rfl) ?_
    refine aw_aload_n dX9_addToken_14 rfl rfl ?_
    refine aw_getI' rfl fk_905 lf_X9_48 dX9_addToken_15 ?_
    refine aw_iload_n dX9_addToken_18 rfl rfl ?_
    obtain ⟨⟨c3, c3x⟩, h⟩ := h
    refine aw_iastore (by decide) rfl dX9_addToken_19 c3 (LC.lt lc2 rfl rfl c3x) ?_
    refine aw_aload_n dX9_addToken_20 rfl rfl ?_
    refine aw_getA' rfl fk_903 (by decide) lf_X9_18 dX9_addToken_21 (LC.ne lc2 rfl rfl) ?_
    refine aw_aload_n dX9_addToken_24 rfl rfl ?_
    refine aw_getIe (v := gI σ 905 x0 0) rfl fk_905 lf_X9_48 dX9_addToken_25 rfl ?_
    refine aw_iload_n dX9_addToken_28 rfl rfl ?_
    refine aw_iastore (by decide) rfl dX9_addToken_29 c3 (LC.lt lc2 rfl rfl c3x) ?_
    refine aw_aload_n dX9_addToken_30 rfl rfl ?_
    refine aw_getA' rfl fk_904 (by decide) lf_X9_21 dX9_addToken_31 (LC.ne lc2 rfl rfl) ?_
    refine aw_aload_n dX9_addToken_34 rfl rfl ?_
    refine aw_getIe (v := gI σ 905 x0 0) rfl fk_905 lf_X9_48 dX9_addToken_35 rfl ?_
    refine aw_lload_n dX9_addToken_38 rfl rfl ?_
    refine aw_lastore (by decide) rfl dX9_addToken_39 c3 (LC.lt lc2 rfl rfl c3x) ?_
    refine aw_aload_n dX9_addToken_40 rfl rfl ?_
    refine aw_dup dX9_addToken_41 rfl ?_
    refine aw_getIe (v := gI σ 905 x0 0) rfl fk_905 lf_X9_48 dX9_addToken_42 rfl ?_
    refine aw_iconst (x := 1) dX9_addToken_45 rfl ?_
    obtain ⟨⟨c4, c4x⟩, h⟩ := h
    refine aw_iaddc dX9_addToken_46 c4 c4x ?_
    refine aw_putI' rfl fk_905 (Or.inl rfl) lf_X9_48 dX9_addToken_47 ?_
    exact aw_ret h rfl dX9_addToken_50
set_option maxRecDepth 4000 in
theorem bk_X9_addWord_0 {g : GP} {l : Launch} {d : Nat} {σ : St} {Q : Option AV → St → Prop} {x0 : Nat} {x1 : Int} {x2 : Int}
    (h : R32 (x2 - x1) ∧ (((x2 - x1) ≤ 8 → AW g l (d + 1) MX9_addWord 21 [some (vR 9 (some x0)), some (vI x1), some (vI x2), some (vJ 0), none, some (vI x1)] [] σ Q) ∧ (¬ (x2 - x1) ≤ 8 → ACv g l d MX9_addToken [vR 9 (some x0), vI 1, vI x1, vJ 0] σ (fun σ3 => Q none σ3)))) :
    AW g l (d + 1) MX9_addWord 0 [some (vR 9 (some x0)), some (vI x1), some (vI x2), none, none, none] [] σ Q := by
  refine aw_iload_n dX9_addWord_0 rfl rfl ?_
  refine aw_iload_n dX9_addWord_1 rfl rfl ?_
  obtain ⟨⟨c1, c1x⟩, h⟩ := h
  refine aw_isubc dX9_addWord_2 c1 c1x ?_
  refine aw_bipush (x := 8) dX9_addWord_3 rfl ?_
  refine aw_icmp_le (tgt := 16) dX9_addWord_5 (by decide) (fun k2 => ?_) (fun k2 => ?_)
  · replace h := h.1 k2
    refine aw_lconst (x := 0) dX9_addWord_16 rfl ?_
    refine aw_lstore_n (L' := [some (vR 9 (some x0)), some (vI x1), some (vI x2), some (vJ 0), none, none]) dX9_addWord_17 rfl (by decide) rfl ?_
    refine aw_iload_n dX9_addWord_18 rfl rfl ?_
    refine aw_istore (L' := [some (vR 9 (some x0)), some (vI x1), some (vI x2), some (vJ 0), none, some (vI x1)]) dX9_addWord_19 (by decide) rfl ?_
    exact aw_fgt (L' := [some (vR 9 (some x0)), some (vI x1), some (vI x2), some (vJ 0), none, some (vI x1)]) ⟨rfl, ⟨rfl, ⟨rfl, ⟨rfl, ⟨rfl, trivial⟩⟩⟩⟩⟩ h
  · replace h := h.2 k2
    refine aw_aload_n dX9_addWord_8 rfl rfl ?_
    refine aw_iconst (x := 1) dX9_addWord_9 rfl ?_
    refine aw_iload_n dX9_addWord_10 rfl rfl ?_
    refine aw_lconst (x := 0) dX9_addWord_11 rfl ?_
    refine aw_invVv (M := MX9_addWord) (ci := 9) [vI 1, vI x1, vJ 0] rfl mo_X9_addToken rfl lm_X9_72 li_X9_addToken ls_X9_addToken (by decide +kernel) dX9_addWord_12 rfl (Nat.le_of_ble_eq_true rfl) (ACv.mono (fun σ3 h => ?_) h)
    exact aw_ret h rfl dX9_addWord_15
set_option maxRecDepth 4000 in
theorem bk_X9_addWord_21 {g : GP} {l : Launch} {d : Nat} {σ : St} {Q : Option AV → St → Prop} {x0 : Nat} {x1 : Int} {x2 : Int} {x3 : Int64} {x5 : Int}
    (h : ((x2 ≤ x5 → ACi g l d MX9_typeIn [vR 9 (some x0), vI x1, vI x2] σ (fun v3 σ2 => ((v3 = (-1) → ACi g l d MX9_keywordOf [vR 9 (some x0), vJ x3] σ2 (fun v6 σ5 => ACv g l d MX9_addToken [vR 9 (some x0), vI v6, vI x1, vJ x3] σ5 (fun σ7 => Q none σ7))) ∧ (¬ v3 = (-1) → ACv g l d MX9_addToken [vR 9 (some x0), vI 4, vI x1, vJ (i2j v3)] σ2 (fun σ8 => Q none σ8))))) ∧ (¬ x2 ≤ x5 → LC 9 σ x0 ∧ Bd x5 3000 ∧ R32 (x5 - x1) ∧ R32 (8 * (x5 - x1)) ∧ R32 (x5 + 1) ∧ AW g l (d + 1) MX9_addWord 21 [some (vR 9 (some x0)), some (vI x1), some (vI x2), some (vJ (x3 ||| (j_shl (i2j (gI σ 900 x0 x5.toNat)) (8 * (x5 - x1))))), none, some (vI (x5 + 1))] [] σ Q))) :
    AW g l (d + 1) MX9_addWord 21 [some (vR 9 (some x0)), some (vI x1), some (vI x2), some (vJ x3), none, some (vI x5)] [] σ Q := by
  refine aw_iload dX9_addWord_21 rfl ?_
  refine aw_iload_n dX9_addWord_23 rfl rfl ?_
  refine aw_icmp_ge (tgt := 52) dX9_addWord_24 (by decide) (fun k1 => ?_) (fun k1 => ?_)
  · replace h := h.1 k1
    refine aw_aload_n dX9_addWord_52 rfl rfl ?_
    refine aw_iload_n dX9_addWord_53 rfl rfl ?_
    refine aw_iload_n dX9_addWord_54 rfl rfl ?_
    refine aw_invVi (M := MX9_addWord) (ci := 9) [vI x1, vI x2] rfl mo_X9_typeIn rfl lm_X9_87 li_X9_typeIn ls_X9_typeIn (by decide +kernel) dX9_addWord_55 rfl (Nat.le_of_ble_eq_true rfl) (ACi.mono (fun v3 σ2 h => ?_) h)
    refine aw_istore (L' := [some (vR 9 (some x0)), some (vI x1), some (vI x2), some (vJ x3), none, some (vI v3)]) dX9_addWord_58 (by decide) rfl ?_
    refine aw_iload dX9_addWord_60 rfl ?_
    refine aw_iconst (x := (-1)) dX9_addWord_62 rfl ?_
    refine aw_icmp_eq (tgt := 78) dX9_addWord_63 (by decide) (fun k4 => ?_) (fun k4 => ?_)
    · replace h := h.1 k4
      refine aw_aload_n dX9_addWord_78 rfl rfl ?_
      refine aw_aload_n dX9_addWord_79 rfl rfl ?_
      refine aw_lload_n dX9_addWord_80 rfl rfl ?_
      refine aw_invVi (M := MX9_addWord) (ci := 9) [vJ x3] rfl mo_X9_keywordOf rfl lm_X9_90 li_X9_keywordOf ls_X9_keywordOf (by decide +kernel) dX9_addWord_81 rfl (Nat.le_of_ble_eq_true rfl) (ACi.mono (fun v6 σ5 h => ?_) h)
      refine aw_iload_n dX9_addWord_84 rfl rfl ?_
      refine aw_lload_n dX9_addWord_85 rfl rfl ?_
      refine aw_invVv (M := MX9_addWord) (ci := 9) [vI v6, vI x1, vJ x3] rfl mo_X9_addToken rfl lm_X9_72 li_X9_addToken ls_X9_addToken (by decide +kernel) dX9_addWord_86 rfl (Nat.le_of_ble_eq_true rfl) (ACv.mono (fun σ7 h => ?_) h)
      exact aw_ret h rfl dX9_addWord_89
    · replace h := h.2 k4
      refine aw_aload_n dX9_addWord_66 rfl rfl ?_
      refine aw_iconst (x := 4) dX9_addWord_67 rfl ?_
      refine aw_iload_n dX9_addWord_68 rfl rfl ?_
      refine aw_iload dX9_addWord_69 rfl ?_
      refine aw_i2l dX9_addWord_71 ?_
      refine aw_invVv (M := MX9_addWord) (ci := 9) [vI 4, vI x1, vJ (i2j v3)] rfl mo_X9_addToken rfl lm_X9_72 li_X9_addToken ls_X9_addToken (by decide +kernel) dX9_addWord_72 rfl (Nat.le_of_ble_eq_true rfl) (ACv.mono (fun σ8 h => ?_) h)
      refine aw_goto (tgt := 89) dX9_addWord_75 (by decide) ?_
      exact aw_ret h rfl dX9_addWord_89
  · replace h := h.2 k1
    refine aw_lload_n dX9_addWord_27 rfl rfl ?_
    refine aw_aload_n dX9_addWord_28 rfl rfl ?_
    obtain ⟨lc9, h⟩ := h
    refine aw_getA' rfl fk_900 (by decide) lf_X9_9 dX9_addWord_29 (LC.ne lc9 rfl rfl) ?_
    refine aw_iload dX9_addWord_32 rfl ?_
    obtain ⟨⟨c10, c10x⟩, h⟩ := h
    refine aw_iaload (by decide) rfl dX9_addWord_34 c10 (LC.lt lc9 rfl rfl c10x) ?_
    refine aw_i2l dX9_addWord_35 ?_
    refine aw_bipush (x := 8) dX9_addWord_36 rfl ?_
    refine aw_iload dX9_addWord_38 rfl ?_
    refine aw_iload_n dX9_addWord_40 rfl rfl ?_
    obtain ⟨⟨c11, c11x⟩, h⟩ := h
    refine aw_isubc dX9_addWord_41 c11 c11x ?_
    obtain ⟨⟨c12, c12x⟩, h⟩ := h
    refine aw_imulc dX9_addWord_42 c12 c12x ?_
    refine aw_lshl dX9_addWord_43 ?_
    refine aw_lor dX9_addWord_44 ?_
    refine aw_lstore_n (L' := [some (vR 9 (some x0)), some (vI x1), some (vI x2), some (vJ (x3 ||| (j_shl (i2j (gI σ 900 x0 x5.toNat)) (8 * (x5 - x1))))), none, some (vI x5)]) dX9_addWord_45 rfl (by decide) rfl ?_
    obtain ⟨⟨c13, c13x⟩, h⟩ := h
    refine aw_iincc (L' := [some (vR 9 (some x0)), some (vI x1), some (vI x2), some (vJ (x3 ||| (j_shl (i2j (gI σ 900 x0 x5.toNat)) (8 * (x5 - x1))))), none, some (vI (x5 + 1))]) dX9_addWord_46 rfl (by decide) rfl c13 c13x rfl ?_
    refine aw_goto (tgt := 21) dX9_addWord_49 (by decide) ?_
    exact aw_fgt (L' := [some (vR 9 (some x0)), some (vI x1), some (vI x2), some (vJ (x3 ||| (j_shl (i2j (gI σ 900 x0 x5.toNat)) (8 * (x5 - x1))))), none, some (vI (x5 + 1))]) ⟨rfl, ⟨rfl, ⟨rfl, ⟨rfl, ⟨rfl, trivial⟩⟩⟩⟩⟩ h
set_option maxRecDepth 4000 in
theorem bk_X9_append_0 {g : GP} {l : Launch} {d : Nat} {σ : St} {Q : Option AV → St → Prop} {x0 : Nat} {x1 : Int64} {x3 : Int}
    (h : R32 (x3 - 1) ∧ AW g l (d + 1) MX9_append 5 [some (vR 9 (some x0)), some (vJ x1), none, none, some (vI (x3 - 1))] [] σ Q) :
    AW g l (d + 1) MX9_append 0 [some (vR 9 (some x0)), some (vJ x1), none, some (vI x3), none] [] σ Q := by
  refine aw_iload_n dX9_append_0 rfl rfl ?_
  refine aw_iconst (x := 1) dX9_append_1 rfl ?_
  obtain ⟨⟨c1, c1x⟩, h⟩ := h
  refine aw_isubc dX9_append_2 c1 c1x ?_
  refine aw_istore (L' := [some (vR 9 (some x0)), some (vJ x1), none, some (vI x3), some (vI (x3 - 1))]) dX9_append_3 (by decide) rfl ?_
  exact aw_fgt (L' := [some (vR 9 (some x0)), some (vJ x1), none, none, some (vI (x3 - 1))]) ⟨rfl, ⟨rfl, ⟨rfl, trivial⟩⟩⟩ h
set_option maxRecDepth 4000 in
theorem bk_X9_append_5 {g : GP} {l : Launch} {d : Nat} {σ : St} {Q : Option AV → St → Prop} {x0 : Nat} {x1 : Int64} {x4 : Int}
    (h : ((x4 < 0 → Q none σ) ∧ (¬ x4 < 0 → ((3000 ≤ (gI σ 901 x0 0) → Q none σ) ∧ (¬ 3000 ≤ (gI σ 901 x0 0) → LC 9 σ x0 ∧ ACi g l d MX11_byteOf [vJ x1, vI x4] σ (fun v5 σ4 => LC 9 σ4 x0 ∧ Bd (gI σ 901 x0 0) 3000 ∧ R32 ((gI σ4 901 x0 0) + 1) ∧ R32 (x4 + (-1)) ∧ AW g l (d + 1) MX9_append 5 [some (vR 9 (some x0)), some (vJ x1), none, none, some (vI (x4 + (-1)))] [] (sI (sI σ4 900 x0 (gI σ 901 x0 0).toNat v5) 901 x0 0 ((gI σ4 901 x0 0) + 1)) Q)))))) :
    AW g l (d + 1) MX9_append 5 [some (vR 9 (some x0)), some (vJ x1), none, none, some (vI x4)] [] σ Q := by
  refine aw_iload dX9_append_5 rfl ?_
  refine aw_if_lt (tgt := 51) dX9_append_7 (by decide) (fun k1 => ?_) (fun k1 => ?_)
  · replace h := h.1 k1
    exact aw_ret h rfl dX9_append_51
  · replace h := h.2 k1
    refine aw_aload_n dX9_append_10 rfl rfl ?_
    refine aw_getI' rfl fk_901 lf_X9_40 dX9_append_11 ?_
    refine aw_sipush (x := 3000) dX9_append_14 rfl ?_
    refine aw_icmp_ge (tgt := 51) dX9_append_17 (by decide) (fun k2 => ?_) (fun k2 => ?_)
    · replace h := h.1 k2
      exact aw_ret h rfl dX9_append_51
    · replace h := h.2 k2
      refine aw_aload_n dX9_append_20 rfl rfl ?_
      obtain ⟨lc3, h⟩ := h
      refine aw_getA' rfl fk_900 (by decide) lf_X9_9 dX9_append_21 (LC.ne lc3 rfl rfl) ?_
      refine aw_aload_n dX9_append_24 rfl rfl ?_
      refine aw_getI' rfl fk_901 lf_X9_40 dX9_append_25 ?_
      refine aw_lload_n dX9_append_28 rfl rfl ?_
      refine aw_iload dX9_append_29 rfl ?_
      refine aw_invSNi (M := MX9_append) [vJ x1, vI x4] mo_X11_byteOf rfl lm_X9_44 lt_X11_byteOf dX9_append_31 rfl (Nat.le_of_ble_eq_true rfl) (ACi.mono (fun v5 σ4 h => ?_) h)
      obtain ⟨lc6, h⟩ := h
      obtain ⟨⟨c7, c7x⟩, h⟩ := h
      refine aw_iastore (by decide) rfl dX9_append_34 c7 (LC.lt lc6 rfl rfl c7x) ?_
      refine aw_aload_n dX9_append_35 rfl rfl ?_
      refine aw_dup dX9_append_36 rfl ?_
      refine aw_getIe (v := gI σ4 901 x0 0) rfl fk_901 lf_X9_40 dX9_append_37 rfl ?_
      refine aw_iconst (x := 1) dX9_append_40 rfl ?_
      obtain ⟨⟨c8, c8x⟩, h⟩ := h
      refine aw_iaddc dX9_append_41 c8 c8x ?_
      refine aw_putI' rfl fk_901 (Or.inl rfl) lf_X9_40 dX9_append_42 ?_
      obtain ⟨⟨c9, c9x⟩, h⟩ := h
      refine aw_iincc (L' := [some (vR 9 (some x0)), some (vJ x1), none, none, some (vI (x4 + (-1)))]) dX9_append_45 rfl (by decide) rfl c9 c9x rfl ?_
      refine aw_goto (tgt := 5) dX9_append_48 (by decide) ?_
      exact aw_fgt (L' := [some (vR 9 (some x0)), some (vJ x1), none, none, some (vI (x4 + (-1)))]) ⟨rfl, ⟨rfl, ⟨rfl, trivial⟩⟩⟩ h
set_option maxRecDepth 4000 in
theorem bk_X9_isDigit_0 {g : GP} {l : Launch} {d : Nat} {σ : St} {Q : Option AV → St → Prop} {x0 : Int}
    (h : ((x0 < 48 → Q (some (vI 0)) σ) ∧ (¬ x0 < 48 → ((57 < x0 → Q (some (vI 0)) σ) ∧ (¬ 57 < x0 → Q (some (vI 1)) σ))))) :
    AW g l d MX9_isDigit 0 [some (vI x0)] [] σ Q := by
  refine aw_iload_n dX9_isDigit_0 rfl rfl ?_
  refine aw_bipush (x := 48) dX9_isDigit_1 rfl ?_
  refine aw_icmp_lt (tgt := 16) dX9_isDigit_3 (by decide) (fun k1 => ?_) (fun k1 => ?_)
  · replace h := h.1 k1
    refine aw_iconst (x := 0) dX9_isDigit_16 rfl ?_
    exact aw_zreturn dX9_isDigit_17 rfl (Or.inl rfl) h
  · replace h := h.2 k1
    refine aw_iload_n dX9_isDigit_6 rfl rfl ?_
    refine aw_bipush (x := 57) dX9_isDigit_7 rfl ?_
    refine aw_icmp_gt (tgt := 16) dX9_isDigit_9 (by decide) (fun k2 => ?_) (fun k2 => ?_)
    · replace h := h.1 k2
      refine aw_iconst (x := 0) dX9_isDigit_16 rfl ?_
      exact aw_zreturn dX9_isDigit_17 rfl (Or.inl rfl) h
    · replace h := h.2 k2
      refine aw_iconst (x := 1) dX9_isDigit_12 rfl ?_
      refine aw_goto (tgt := 17) dX9_isDigit_13 (by decide) ?_
      exact aw_zreturn dX9_isDigit_17 rfl (Or.inr rfl) h
set_option maxRecDepth 4000 in
theorem bk_X9_isSmall_0 {g : GP} {l : Launch} {d : Nat} {σ : St} {Q : Option AV → St → Prop} {x0 : Int}
    (h : ((x0 < 97 → Q (some (vI 0)) σ) ∧ (¬ x0 < 97 → ((122 < x0 → Q (some (vI 0)) σ) ∧ (¬ 122 < x0 → Q (some (vI 1)) σ))))) :
    AW g l d MX9_isSmall 0 [some (vI x0)] [] σ Q := by
  refine aw_iload_n dX9_isSmall_0 rfl rfl ?_
  refine aw_bipush (x := 97) dX9_isSmall_1 rfl ?_
  refine aw_icmp_lt (tgt := 16) dX9_isSmall_3 (by decide) (fun k1 => ?_) (fun k1 => ?_)
  · replace h := h.1 k1
    refine aw_iconst (x := 0) dX9_isSmall_16 rfl ?_
    exact aw_zreturn dX9_isSmall_17 rfl (Or.inl rfl) h
  · replace h := h.2 k1
    refine aw_iload_n dX9_isSmall_6 rfl rfl ?_
    refine aw_bipush (x := 122) dX9_isSmall_7 rfl ?_
    refine aw_icmp_gt (tgt := 16) dX9_isSmall_9 (by decide) (fun k2 => ?_) (fun k2 => ?_)
    · replace h := h.1 k2
      refine aw_iconst (x := 0) dX9_isSmall_16 rfl ?_
      exact aw_zreturn dX9_isSmall_17 rfl (Or.inl rfl) h
    · replace h := h.2 k2
      refine aw_iconst (x := 1) dX9_isSmall_12 rfl ?_
      refine aw_goto (tgt := 17) dX9_isSmall_13 (by decide) ?_
      exact aw_zreturn dX9_isSmall_17 rfl (Or.inr rfl) h
set_option maxRecDepth 4000 in
theorem bk_X9_keywordOf_0 {g : GP} {l : Launch} {d : Nat} {σ : St} {Q : Option AV → St → Prop} {x0 : Nat} {x1 : Int64}
    (h : AW g l d MX9_keywordOf 2 [some (vR 9 (some x0)), some (vJ x1), none, some (vI 0)] [] σ Q) :
    AW g l d MX9_keywordOf 0 [some (vR 9 (some x0)), some (vJ x1), none, none] [] σ Q := by
  refine aw_iconst (x := 0) dX9_keywordOf_0 rfl ?_
  refine aw_istore_n (L' := [some (vR 9 (some x0)), some (vJ x1), none, some (vI 0)]) dX9_keywordOf_1 rfl (by decide) rfl ?_
  exact aw_fgt (L' := [some (vR 9 (some x0)), some (vJ x1), none, some (vI 0)]) ⟨rfl, ⟨rfl, ⟨rfl, trivial⟩⟩⟩ h
set_option maxRecDepth 4000 in
theorem bk_X9_keywordOf_2 {g : GP} {l : Launch} {d : Nat} {σ : St} {Q : Option AV → St → Prop} {x0 : Nat} {x1 : Int64} {x3 : Int}
    (h : ((27 ≤ x3 → Q (some (vI 2)) σ) ∧ (¬ 27 ≤ x3 → LC 9 σ x0 ∧ Bd x3 27 ∧ ((¬ (gJ σ 906 x0 x3.toNat) = x1 → R32 (x3 + 1) ∧ AW g l d MX9_keywordOf 2 [some (vR 9 (some x0)), some (vJ x1), none, some (vI (x3 + 1))] [] σ Q) ∧ ((gJ σ 906 x0 x3.toNat) = x1 → R32 (200 + x3) ∧ Q (some (vI (200 + x3))) σ))))) :
    AW g l d MX9_keywordOf 2 [some (vR 9 (some x0)), some (vJ x1), none, some (vI x3)] [] σ Q := by
  refine aw_iload_n dX9_keywordOf_2 rfl rfl ?_
  refine aw_bipush (x := 27) dX9_keywordOf_3 rfl ?_
  refine aw_icmp_ge (tgt := 31) dX9_keywordOf_5 (by decide) (fun k1 => ?_) (fun k1 => ?_)
  · replace h := h.1 k1
    refine aw_iconst (x := 2) dX9_keywordOf_31 rfl ?_
    exact aw_ireturn dX9_keywordOf_32 rfl h
  · replace h := h.2 k1
    refine aw_aload_n dX9_keywordOf_8 rfl rfl ?_
    obtain ⟨lc2, h⟩ := h
    refine aw_getA' rfl fk_906 (by decide) lf_X9_25 dX9_keywordOf_9 (LC.ne lc2 rfl rfl) ?_
    refine aw_iload_n dX9_keywordOf_12 rfl rfl ?_
    obtain ⟨⟨c3, c3x⟩, h⟩ := h
    refine aw_laload (by decide) rfl dX9_keywordOf_13 c3 (LC.lt lc2 rfl rfl c3x) ?_
    refine aw_lload_n dX9_keywordOf_14 rfl rfl ?_
    refine aw_lcmp_ne (M := MX9_keywordOf) (tgt := 25) dX9_keywordOf_15 dX9_keywordOf_16 (by decide) (fun k4 => ?_) (fun k4 => ?_)
    · replace h := h.1 k4
      obtain ⟨⟨c5, c5x⟩, h⟩ := h
      refine aw_iincc (L' := [some (vR 9 (some x0)), some (vJ x1), none, some (vI (x3 + 1))]) dX9_keywordOf_25 rfl (by decide) rfl c5 c5x rfl ?_
      refine aw_goto (tgt := 2) dX9_keywordOf_28 (by decide) ?_
      exact aw_fgt (L' := [some (vR 9 (some x0)), some (vJ x1), none, some (vI (x3 + 1))]) ⟨rfl, ⟨rfl, ⟨rfl, trivial⟩⟩⟩ h
    · replace h := h.2 k4
      refine aw_sipush (x := 200) dX9_keywordOf_19 rfl ?_
      refine aw_iload_n dX9_keywordOf_22 rfl rfl ?_
      obtain ⟨⟨c6, c6x⟩, h⟩ := h
      refine aw_iaddc dX9_keywordOf_23 c6 c6x ?_
      exact aw_ireturn dX9_keywordOf_24 rfl h
set_option maxRecDepth 4000 in
theorem bk_X9_numberIn_0 {g : GP} {l : Launch} {d : Nat} {σ : St} {Q : Option AV → St → Prop} {x0 : Nat} {x1 : Int} {x2 : Int}
    (h : R32 (x2 - x1) ∧ (((x2 - x1) ≤ 2 → AW g l (d + 1) MX9_numberIn 36 [some (vR 9 (some x0)), some (vI x1), some (vI x2), none, none, none, none, none, none, none] [vI 0] σ Q) ∧ (¬ (x2 - x1) ≤ 2 → LC 9 σ x0 ∧ Bd x1 3000 ∧ ((¬ (gI σ 900 x0 x1.toNat) = 48 → AW g l (d + 1) MX9_numberIn 36 [some (vR 9 (some x0)), some (vI x1), some (vI x2), none, none, none, none, none, none, none] [vI 0] σ Q) ∧ ((gI σ 900 x0 x1.toNat) = 48 → R32 (x1 + 1) ∧ Bd (x1 + 1) 3000 ∧ ((¬ (gI σ 900 x0 (x1 + 1).toNat) = 120 → AW g l (d + 1) MX9_numberIn 36 [some (vR 9 (some x0)), some (vI x1), some (vI x2), none, none, none, none, none, none, none] [vI 0] σ Q) ∧ ((gI σ 900 x0 (x1 + 1).toNat) = 120 → AW g l (d + 1) MX9_numberIn 36 [some (vR 9 (some x0)), some (vI x1), some (vI x2), none, none, none, none, none, none, none] [vI 1] σ Q))))))) :
    AW g l (d + 1) MX9_numberIn 0 [some (vR 9 (some x0)), some (vI x1), some (vI x2), none, none, none, none, none, none, none] [] σ Q := by
  refine aw_iload_n dX9_numberIn_0 rfl rfl ?_
  refine aw_iload_n dX9_numberIn_1 rfl rfl ?_
  obtain ⟨⟨c1, c1x⟩, h⟩ := h
  refine aw_isubc dX9_numberIn_2 c1 c1x ?_
  refine aw_iconst (x := 2) dX9_numberIn_3 rfl ?_
  refine aw_icmp_le (tgt := 35) dX9_numberIn_4 (by decide) (fun k2 => ?_) (fun k2 => ?_)
  · replace h := h.1 k2
    refine aw_iconst (x := 0) dX9_numberIn_35 rfl ?_
    exact aw_fgt (L' := [some (vR 9 (some x0)), some (vI x1), some (vI x2), none, none, none, none, none, none, none]) ⟨rfl, ⟨rfl, ⟨rfl, trivial⟩⟩⟩ h
  · replace h := h.2 k2
    refine aw_aload_n dX9_numberIn_7 rfl rfl ?_
    obtain ⟨lc3, h⟩ := h
    refine aw_getA' rfl fk_900 (by decide) lf_X9_9 dX9_numberIn_8 (LC.ne lc3 rfl rfl) ?_
    refine aw_iload_n dX9_numberIn_11 rfl rfl ?_
    obtain ⟨⟨c4, c4x⟩, h⟩ := h
    refine aw_iaload (by decide) rfl dX9_numberIn_12 c4 (LC.lt lc3 rfl rfl c4x) ?_
    refine aw_bipush (x := 48) dX9_numberIn_13 rfl ?_
    refine aw_icmp_ne (tgt := 35) dX9_numberIn_15 (by decide) (fun k5 => ?_) (fun k5 => ?_)
    · replace h := h.1 k5
      refine aw_iconst (x := 0) dX9_numberIn_35 rfl ?_
      exact aw_fgt (L' := [some (vR 9 (some x0)), some (vI x1), some (vI x2), none, none, none, none, none, none, none]) ⟨rfl, ⟨rfl, ⟨rfl, trivial⟩⟩⟩ h
    · replace h := h.2 k5
      refine aw_aload_n dX9_numberIn_18 rfl rfl ?_
      refine aw_getA' rfl fk_900 (by decide) lf_X9_9 dX9_numberIn_19 (LC.ne lc3 rfl rfl) ?_
      refine aw_iload_n dX9_numberIn_22 rfl rfl ?_
      refine aw_iconst (x := 1) dX9_numberIn_23 rfl ?_
      obtain ⟨⟨c6, c6x⟩, h⟩ := h
      refine aw_iaddc dX9_numberIn_24 c6 c6x ?_
      obtain ⟨⟨c7, c7x⟩, h⟩ := h
      refine aw_iaload (by decide) rfl dX9_numberIn_25 c7 (LC.lt lc3 rfl rfl c7x) ?_
      refine aw_bipush (x := 120) dX9_numberIn_26 rfl ?_
      refine aw_icmp_ne (tgt := 35) dX9_numberIn_28 (by decide) (fun k8 => ?_) (fun k8 => ?_)
      · replace h := h.1 k8
        refine aw_iconst (x := 0) dX9_numberIn_35 rfl ?_
        exact aw_fgt (L' := [some (vR 9 (some x0)), some (vI x1), some (vI x2), none, none, none, none, none, none, none]) ⟨rfl, ⟨rfl, ⟨rfl, trivial⟩⟩⟩ h
      · replace h := h.2 k8
        refine aw_iconst (x := 1) dX9_numberIn_31 rfl ?_
        refine aw_goto (tgt := 36) dX9_numberIn_32 (by decide) ?_
        exact aw_fgt (L' := [some (vR 9 (some x0)), some (vI x1), some (vI x2), none, none, none, none, none, none, none]) ⟨rfl, ⟨rfl, ⟨rfl, trivial⟩⟩⟩ h
set_option maxRecDepth 4000 in
theorem bk_X9_numberIn_36 {g : GP} {l : Launch} {d : Nat} {σ : St} {Q : Option AV → St → Prop} {x0 : Nat} {x1 : Int} {x2 : Int} {y0 : Int}
    (h : ((y0 = 0 → AW g l (d + 1) MX9_numberIn 61 [some (vR 9 (some x0)), none, some (vI x2), some (vI y0), some (vI x1), none, none, none, none, none] [vI 10] σ Q) ∧ (¬ y0 = 0 → R32 (x1 + 2) ∧ AW g l (d + 1) MX9_numberIn 61 [some (vR 9 (some x0)), none, some (vI x2), some (vI y0), some (vI (x1 + 2)), none, none, none, none, none] [vI 16] σ Q))) :
    AW g l (d + 1) MX9_numberIn 36 [some (vR 9 (some x0)), some (vI x1), some (vI x2), none, none, none, none, none, none, none] [vI y0] σ Q := by
  refine aw_istore_n (L' := [some (vR 9 (some x0)), some (vI x1), some (vI x2), some (vI y0), none, none, none, none, none, none]) dX9_numberIn_36 rfl (by decide) rfl ?_
  refine aw_iload_n dX9_numberIn_37 rfl rfl ?_
  refine aw_if_eq (tgt := 47) dX9_numberIn_38 (by decide) (fun k1 => ?_) (fun k1 => ?_)
  · replace h := h.1 k1
    refine aw_iload_n dX9_numberIn_47 rfl rfl ?_
    refine aw_istore (L' := [some (vR 9 (some x0)), some (vI x1), some (vI x2), some (vI y0), some (vI x1), none, none, none, none, none]) dX9_numberIn_48 (by decide) rfl ?_
    refine aw_iload_n dX9_numberIn_50 rfl rfl ?_
    refine aw_if_eq (tgt := 59) dX9_numberIn_51 (by decide) (fun _ => ?_) (fun q => absurd k1 q)
    refine aw_bipush (x := 10) dX9_numberIn_59 rfl ?_
    exact aw_fgt (L' := [some (vR 9 (some x0)), none, some (vI x2), some (vI y0), some (vI x1), none, none, none, none, none]) ⟨rfl, ⟨rfl, ⟨rfl, ⟨rfl, trivial⟩⟩⟩⟩ h
  · replace h := h.2 k1
    refine aw_iload_n dX9_numberIn_41 rfl rfl ?_
    refine aw_iconst (x := 2) dX9_numberIn_42 rfl ?_
    obtain ⟨⟨c2, c2x⟩, h⟩ := h
    refine aw_iaddc dX9_numberIn_43 c2 c2x ?_
    refine aw_goto (tgt := 48) dX9_numberIn_44 (by decide) ?_
    refine aw_istore (L' := [some (vR 9 (some x0)), some (vI x1), some (vI x2), some (vI y0), some (vI (x1 + 2)), none, none, none, none, none]) dX9_numberIn_48 (by decide) rfl ?_
    refine aw_iload_n dX9_numberIn_50 rfl rfl ?_
    refine aw_if_eq (tgt := 59) dX9_numberIn_51 (by decide) (fun q => absurd q k1) (fun _ => ?_)
    refine aw_bipush (x := 16) dX9_numberIn_54 rfl ?_
    refine aw_goto (tgt := 61) dX9_numberIn_56 (by decide) ?_
    exact aw_fgt (L' := [some (vR 9 (some x0)), none, some (vI x2), some (vI y0), some (vI (x1 + 2)), none, none, none, none, none]) ⟨rfl, ⟨rfl, ⟨rfl, ⟨rfl, trivial⟩⟩⟩⟩ h
set_option maxRecDepth 4000 in
theorem bk_X9_numberIn_61 {g : GP} {l : Launch} {d : Nat} {σ : St} {Q : Option AV → St → Prop} {x0 : Nat} {x2 : Int} {x3 : Int} {x4 : Int} {y0 : Int}
    (h : R32 (x2 - x4) ∧ ((x3 = 0 → (((x2 - x4) ≤ 9 → AW g l (d + 1) MX9_numberIn 92 [some (vR 9 (some x0)), none, some (vI x2), none, none, some (vI y0), some (vJ 0), none, some (vI x4), none] [] σ Q) ∧ (¬ (x2 - x4) ≤ 9 → Q (some (vJ (-1))) σ))) ∧ (¬ x3 = 0 → (((x2 - x4) ≤ 8 → AW g l (d + 1) MX9_numberIn 92 [some (vR 9 (some x0)), none, some (vI x2), none, none, some (vI y0), some (vJ 0), none, some (vI x4), none] [] σ Q) ∧ (¬ (x2 - x4) ≤ 8 → Q (some (vJ (-1))) σ))))) :
    AW g l (d + 1) MX9_numberIn 61 [some (vR 9 (some x0)), none, some (vI x2), some (vI x3), some (vI x4), none, none, none, none, none] [vI y0] σ Q := by
  refine aw_istore (L' := [some (vR 9 (some x0)), none, some (vI x2), some (vI x3), some (vI x4), some (vI y0), none, none, none, none]) dX9_numberIn_61 (by decide) rfl ?_
  refine aw_iload_n dX9_numberIn_63 rfl rfl ?_
  refine aw_iload dX9_numberIn_64 rfl ?_
  obtain ⟨⟨c1, c1x⟩, h⟩ := h
  refine aw_isubc dX9_numberIn_66 c1 c1x ?_
  refine aw_iload_n dX9_numberIn_67 rfl rfl ?_
  refine aw_if_eq (tgt := 76) dX9_numberIn_68 (by decide) (fun k2 => ?_) (fun k2 => ?_)
  · replace h := h.1 k2
    refine aw_bipush (x := 9) dX9_numberIn_76 rfl ?_
    refine aw_icmp_le (tgt := 85) dX9_numberIn_78 (by decide) (fun k3 => ?_) (fun k3 => ?_)
    · replace h := h.1 k3
      refine aw_lconst (x := 0) dX9_numberIn_85 rfl ?_
      refine aw_lstore (L' := [some (vR 9 (some x0)), none, some (vI x2), some (vI x3), some (vI x4), some (vI y0), some (vJ 0), none, none, none]) dX9_numberIn_86 (by decide) rfl ?_
      refine aw_iload dX9_numberIn_88 rfl ?_
      refine aw_istore (L' := [some (vR 9 (some x0)), none, some (vI x2), some (vI x3), some (vI x4), some (vI y0), some (vJ 0), none, some (vI x4), none]) dX9_numberIn_90 (by decide) rfl ?_
      exact aw_fgt (L' := [some (vR 9 (some x0)), none, some (vI x2), none, none, some (vI y0), some (vJ 0), none, some (vI x4), none]) ⟨rfl, ⟨rfl, ⟨rfl, ⟨rfl, ⟨rfl, trivial⟩⟩⟩⟩⟩ h
    · replace h := h.2 k3
      refine aw_ldc2 lk_X9_70 dX9_numberIn_81 ?_
      exact aw_lreturn dX9_numberIn_84 rfl h
  · replace h := h.2 k2
    refine aw_bipush (x := 8) dX9_numberIn_71 rfl ?_
    refine aw_goto (tgt := 78) dX9_numberIn_73 (by decide) ?_
    refine aw_icmp_le (tgt := 85) dX9_numberIn_78 (by decide) (fun k4 => ?_) (fun k4 => ?_)
    · replace h := h.1 k4
      refine aw_lconst (x := 0) dX9_numberIn_85 rfl ?_
      refine aw_lstore (L' := [some (vR 9 (some x0)), none, some (vI x2), some (vI x3), some (vI x4), some (vI y0), some (vJ 0), none, none, none]) dX9_numberIn_86 (by decide) rfl ?_
      refine aw_iload dX9_numberIn_88 rfl ?_
      refine aw_istore (L' := [some (vR 9 (some x0)), none, some (vI x2), some (vI x3), some (vI x4), some (vI y0), some (vJ 0), none, some (vI x4), none]) dX9_numberIn_90 (by decide) rfl ?_
      exact aw_fgt (L' := [some (vR 9 (some x0)), none, some (vI x2), none, none, some (vI y0), some (vJ 0), none, some (vI x4), none]) ⟨rfl, ⟨rfl, ⟨rfl, ⟨rfl, ⟨rfl, trivial⟩⟩⟩⟩⟩ h
    · replace h := h.2 k4
      refine aw_ldc2 lk_X9_70 dX9_numberIn_81 ?_
      exact aw_lreturn dX9_numberIn_84 rfl h
set_option maxRecDepth 4000 in
theorem bk_X9_numberIn_92 {g : GP} {l : Launch} {d : Nat} {σ : St} {Q : Option AV → St → Prop} {x0 : Nat} {x2 : Int} {x5 : Int} {x6 : Int64} {x8 : Int}
    (h : ((x2 ≤ x8 → Q (some (vJ x6)) σ) ∧ (¬ x2 ≤ x8 → LC 9 σ x0 ∧ Bd x8 3000 ∧ ACi g l d MX9_isDigit [vI (gI σ 900 x0 x8.toNat)] σ (fun v5 σ4 => ((v5 = 0 → LC 9 σ4 x0 ∧ R32 ((gI σ4 900 x0 x8.toNat) - 97) ∧ R32 (((gI σ4 900 x0 x8.toNat) - 97) + 10) ∧ AW g l (d + 1) MX9_numberIn 137 [some (vR 9 (some x0)), none, some (vI x2), none, none, some (vI x5), some (vJ x6), none, some (vI x8), none] [vI (((gI σ4 900 x0 x8.toNat) - 97) + 10)] σ4 Q) ∧ (¬ v5 = 0 → LC 9 σ4 x0 ∧ R32 ((gI σ4 900 x0 x8.toNat) - 48) ∧ AW g l (d + 1) MX9_numberIn 137 [some (vR 9 (some x0)), none, some (vI x2), none, none, some (vI x5), some (vJ x6), none, some (vI x8), none] [vI ((gI σ4 900 x0 x8.toNat) - 48)] σ4 Q)))))) :
    AW g l (d + 1) MX9_numberIn 92 [some (vR 9 (some x0)), none, some (vI x2), none, none, some (vI x5), some (vJ x6), none, some (vI x8), none] [] σ Q := by
  refine aw_iload dX9_numberIn_92 rfl ?_
  refine aw_iload_n dX9_numberIn_94 rfl rfl ?_
  refine aw_icmp_ge (tgt := 168) dX9_numberIn_95 (by decide) (fun k1 => ?_) (fun k1 => ?_)
  · replace h := h.1 k1
    refine aw_lload dX9_numberIn_168 rfl ?_
    exact aw_lreturn dX9_numberIn_170 rfl h
  · replace h := h.2 k1
    refine aw_aload_n dX9_numberIn_98 rfl rfl ?_
    obtain ⟨lc2, h⟩ := h
    refine aw_getA' rfl fk_900 (by decide) lf_X9_9 dX9_numberIn_99 (LC.ne lc2 rfl rfl) ?_
    refine aw_iload dX9_numberIn_102 rfl ?_
    obtain ⟨⟨c3, c3x⟩, h⟩ := h
    refine aw_iaload (by decide) rfl dX9_numberIn_104 c3 (LC.lt lc2 rfl rfl c3x) ?_
    refine aw_invSi (M := MX9_numberIn) [vI (gI σ 900 x0 x8.toNat)] mo_X9_isDigit rfl lm_X9_63 lt_X9_isDigit dX9_numberIn_105 rfl (Nat.le_of_ble_eq_true rfl) (ACi.mono (fun v5 σ4 h => ?_) h)
    refine aw_if_eq (tgt := 124) dX9_numberIn_108 (by decide) (fun k6 => ?_) (fun k6 => ?_)
    · replace h := h.1 k6
      refine aw_aload_n dX9_numberIn_124 rfl rfl ?_
      obtain ⟨lc7, h⟩ := h
      refine aw_getA' rfl fk_900 (by decide) lf_X9_9 dX9_numberIn_125 (LC.ne lc7 rfl rfl) ?_
      refine aw_iload dX9_numberIn_128 rfl ?_
      refine aw_iaload (by decide) rfl dX9_numberIn_130 c3 (LC.lt lc7 rfl rfl c3x) ?_
      refine aw_bipush (x := 97) dX9_numberIn_131 rfl ?_
      obtain ⟨⟨c8, c8x⟩, h⟩ := h
      refine aw_isubc dX9_numberIn_133 c8 c8x ?_
      refine aw_bipush (x := 10) dX9_numberIn_134 rfl ?_
      obtain ⟨⟨c9, c9x⟩, h⟩ := h
      refine aw_iaddc dX9_numberIn_136 c9 c9x ?_
      exact aw_fgt (L' := [some (vR 9 (some x0)), none, some (vI x2), none, none, some (vI x5), some (vJ x6), none, some (vI x8), none]) ⟨rfl, ⟨rfl, ⟨rfl, ⟨rfl, ⟨rfl, trivial⟩⟩⟩⟩⟩ h
    · replace h := h.2 k6
      refine aw_aload_n dX9_numberIn_111 rfl rfl ?_
      obtain ⟨lc10, h⟩ := h
      refine aw_getA' rfl fk_900 (by decide) lf_X9_9 dX9_numberIn_112 (LC.ne lc10 rfl rfl) ?_
      refine aw_iload dX9_numberIn_115 rfl ?_
      refine aw_iaload (by decide) rfl dX9_numberIn_117 c3 (LC.lt lc10 rfl rfl c3x) ?_
      refine aw_bipush (x := 48) dX9_numberIn_118 rfl ?_
      obtain ⟨⟨c11, c11x⟩, h⟩ := h
      refine aw_isubc dX9_numberIn_120 c11 c11x ?_
      refine aw_goto (tgt := 137) dX9_numberIn_121 (by decide) ?_
      exact aw_fgt (L' := [some (vR 9 (some x0)), none, some (vI x2), none, none, some (vI x5), some (vJ x6), none, some (vI x8), none]) ⟨rfl, ⟨rfl, ⟨rfl, ⟨rfl, ⟨rfl, trivial⟩⟩⟩⟩⟩ h
set_option maxRecDepth 4000 in
theorem bk_X9_numberIn_137 {g : GP} {l : Launch} {d : Nat} {σ : St} {Q : Option AV → St → Prop} {x0 : Nat} {x2 : Int} {x5 : Int} {x6 : Int64} {x8 : Int} {y0 : Int}
    (h : ((y0 < x5 → R32 (x8 + 1) ∧ AW g l (d + 1) MX9_numberIn 92 [some (vR 9 (some x0)), none, some (vI x2), none, none, some (vI x5), some (vJ ((x6 * (i2j x5)) + (i2j y0))), none, some (vI (x8 + 1)), none] [] σ Q) ∧ (¬ y0 < x5 → Q (some (vJ (-1))) σ))) :
    AW g l (d + 1) MX9_numberIn 137 [some (vR 9 (some x0)), none, some (vI x2), none, none, some (vI x5), some (vJ x6), none, some (vI x8), none] [vI y0] σ Q := by
  refine aw_istore (L' := [some (vR 9 (some x0)), none, some (vI x2), none, none, some (vI x5), some (vJ x6), none, some (vI x8), some (vI y0)]) dX9_numberIn_137 (by decide) rfl ?_
  refine aw_iload dX9_numberIn_139 rfl ?_
  refine aw_iload dX9_numberIn_141 rfl ?_
  refine aw_icmp_lt (tgt := 150) dX9_numberIn_143 (by decide) (fun k1 => ?_) (fun k1 => ?_)
  · replace h := h.1 k1
    refine aw_lload dX9_numberIn_150 rfl ?_
    refine aw_iload dX9_numberIn_152 rfl ?_
    refine aw_i2l dX9_numberIn_154 ?_
    refine aw_lmul dX9_numberIn_155 ?_
    refine aw_iload dX9_numberIn_156 rfl ?_
    refine aw_i2l dX9_numberIn_158 ?_
    refine aw_ladd dX9_numberIn_159 ?_
    refine aw_lstore (L' := [some (vR 9 (some x0)), none, some (vI x2), none, none, some (vI x5), some (vJ ((x6 * (i2j x5)) + (i2j y0))), none, some (vI x8), some (vI y0)]) dX9_numberIn_160 (by decide) rfl ?_
    obtain ⟨⟨c2, c2x⟩, h⟩ := h
    refine aw_iincc (L' := [some (vR 9 (some x0)), none, some (vI x2), none, none, some (vI x5), some (vJ ((x6 * (i2j x5)) + (i2j y0))), none, some (vI (x8 + 1)), some (vI y0)]) dX9_numberIn_162 rfl (by decide) rfl c2 c2x rfl ?_
    refine aw_goto (tgt := 92) dX9_numberIn_165 (by decide) ?_
    exact aw_fgt (L' := [some (vR 9 (some x0)), none, some (vI x2), none, none, some (vI x5), some (vJ ((x6 * (i2j x5)) + (i2j y0))), none, some (vI (x8 + 1)), none]) ⟨rfl, ⟨rfl, ⟨rfl, ⟨rfl, ⟨rfl, trivial⟩⟩⟩⟩⟩ h
  · replace h := h.2 k1
    refine aw_ldc2 lk_X9_70 dX9_numberIn_146 ?_
    exact aw_lreturn dX9_numberIn_149 rfl h
set_option maxRecDepth 4000 in
theorem bk_X9_rowEnd_0 {g : GP} {l : Launch} {d : Nat} {σ : St} {Q : Option AV → St → Prop} {x0 : Nat} {x1 : Int}
    (h : AW g l (d + 1) MX9_rowEnd 2 [some (vR 9 (some x0)), none, some (vI x1)] [] σ Q) :
    AW g l (d + 1) MX9_rowEnd 0 [some (vR 9 (some x0)), some (vI x1), none] [] σ Q := by
  refine aw_iload_n dX9_rowEnd_0 rfl rfl ?_
  refine aw_istore_n (L' := [some (vR 9 (some x0)), some (vI x1), some (vI x1)]) dX9_rowEnd_1 rfl (by decide) rfl ?_
  exact aw_fgt (L' := [some (vR 9 (some x0)), none, some (vI x1)]) ⟨rfl, ⟨rfl, trivial⟩⟩ h
set_option maxRecDepth 4000 in
theorem bk_X9_rowEnd_2 {g : GP} {l : Launch} {d : Nat} {σ : St} {Q : Option AV → St → Prop} {x0 : Nat} {x2 : Int}
    (h : (((gI σ 901 x0 0) ≤ x2 → Q (some (vI x2)) σ) ∧ (¬ (gI σ 901 x0 0) ≤ x2 → LC 9 σ x0 ∧ Bd x2 3000 ∧ ACi g l d MX9_isSmall [vI (gI σ 900 x0 x2.toNat)] σ (fun v5 σ4 => ((¬ v5 = 0 → R32 (x2 + 1) ∧ AW g l (d + 1) MX9_rowEnd 2 [some (vR 9 (some x0)), none, some (vI (x2 + 1))] [] σ4 Q) ∧ (v5 = 0 → LC 9 σ4 x0 ∧ ACi g l d MX9_isDigit [vI (gI σ4 900 x0 x2.toNat)] σ4 (fun v10 σ9 => ((v10 = 0 → Q (some (vI x2)) σ9) ∧ (¬ v10 = 0 → R32 (x2 + 1) ∧ AW g l (d + 1) MX9_rowEnd 2 [some (vR 9 (some x0)), none, some (vI (x2 + 1))] [] σ9 Q))))))))) :
    AW g l (d + 1) MX9_rowEnd 2 [some (vR 9 (some x0)), none, some (vI x2)] [] σ Q := by
  refine aw_iload_n dX9_rowEnd_2 rfl rfl ?_
  refine aw_aload_n dX9_rowEnd_3 rfl rfl ?_
  refine aw_getI' rfl fk_901 lf_X9_40 dX9_rowEnd_4 ?_
  refine aw_icmp_ge (tgt := 40) dX9_rowEnd_7 (by decide) (fun k1 => ?_) (fun k1 => ?_)
  · replace h := h.1 k1
    refine aw_iload_n dX9_rowEnd_40 rfl rfl ?_
    exact aw_ireturn dX9_rowEnd_41 rfl h
  · replace h := h.2 k1
    refine aw_aload_n dX9_rowEnd_10 rfl rfl ?_
    obtain ⟨lc2, h⟩ := h
    refine aw_getA' rfl fk_900 (by decide) lf_X9_9 dX9_rowEnd_11 (LC.ne lc2 rfl rfl) ?_
    refine aw_iload_n dX9_rowEnd_14 rfl rfl ?_
    obtain ⟨⟨c3, c3x⟩, h⟩ := h
    refine aw_iaload (by decide) rfl dX9_rowEnd_15 c3 (LC.lt lc2 rfl rfl c3x) ?_
    refine aw_invSi (M := MX9_rowEnd) [vI (gI σ 900 x0 x2.toNat)] mo_X9_isSmall rfl lm_X9_51 lt_X9_isSmall dX9_rowEnd_16 rfl (Nat.le_of_ble_eq_true rfl) (ACi.mono (fun v5 σ4 h => ?_) h)
    refine aw_if_ne (tgt := 34) dX9_rowEnd_19 (by decide) (fun k6 => ?_) (fun k6 => ?_)
    · replace h := h.1 k6
      obtain ⟨⟨c7, c7x⟩, h⟩ := h
      refine aw_iincc (L' := [some (vR 9 (some x0)), none, some (vI (x2 + 1))]) dX9_rowEnd_34 rfl (by decide) rfl c7 c7x rfl ?_
      refine aw_goto (tgt := 2) dX9_rowEnd_37 (by decide) ?_
      exact aw_fgt (L' := [some (vR 9 (some x0)), none, some (vI (x2 + 1))]) ⟨rfl, ⟨rfl, trivial⟩⟩ h
    · replace h := h.2 k6
      refine aw_aload_n dX9_rowEnd_22 rfl rfl ?_
      obtain ⟨lc8, h⟩ := h
      refine aw_getA' rfl fk_900 (by decide) lf_X9_9 dX9_rowEnd_23 (LC.ne lc8 rfl rfl) ?_
      refine aw_iload_n dX9_rowEnd_26 rfl rfl ?_
      refine aw_iaload (by decide) rfl dX9_rowEnd_27 c3 (LC.lt lc8 rfl rfl c3x) ?_
      refine aw_invSi (M := MX9_rowEnd) [vI (gI σ4 900 x0 x2.toNat)] mo_X9_isDigit rfl lm_X9_63 lt_X9_isDigit dX9_rowEnd_28 rfl (Nat.le_of_ble_eq_true rfl) (ACi.mono (fun v10 σ9 h => ?_) h)
      refine aw_if_eq (tgt := 40) dX9_rowEnd_31 (by decide) (fun k11 => ?_) (fun k11 => ?_)
      · replace h := h.1 k11
        refine aw_iload_n dX9_rowEnd_40 rfl rfl ?_
        exact aw_ireturn dX9_rowEnd_41 rfl h
      · replace h := h.2 k11
        obtain ⟨⟨c12, c12x⟩, h⟩ := h
        refine aw_iincc (L' := [some (vR 9 (some x0)), none, some (vI (x2 + 1))]) dX9_rowEnd_34 rfl (by decide) rfl c12 c12x rfl ?_
        refine aw_goto (tgt := 2) dX9_rowEnd_37 (by decide) ?_
        exact aw_fgt (L' := [some (vR 9 (some x0)), none, some (vI (x2 + 1))]) ⟨rfl, ⟨rfl, trivial⟩⟩ h
set_option maxRecDepth 4000 in
theorem bk_X9_typeIn_0 {g : GP} {l : Launch} {d : Nat} {σ : St} {Q : Option AV → St → Prop} {x0 : Nat} {x1 : Int} {x2 : Int}
    (h : LC 9 σ x0 ∧ Bd x1 3000 ∧ R32 (x2 - x1) ∧ ((¬ (x2 - x1) = 3 → AW g l d MX9_typeIn 32 [some (vR 9 (some x0)), some (vI x1), some (vI x2), some (vI (gI σ 900 x0 x1.toNat)), none, none] [vI 0] σ Q) ∧ ((x2 - x1) = 3 → R32 (x2 - 1) ∧ Bd (x2 - 1) 3000 ∧ ((¬ (gI σ 900 x0 (x2 - 1).toNat) = 98 → AW g l d MX9_typeIn 32 [some (vR 9 (some x0)), some (vI x1), some (vI x2), some (vI (gI σ 900 x0 x1.toNat)), none, none] [vI 0] σ Q) ∧ ((gI σ 900 x0 (x2 - 1).toNat) = 98 → AW g l d MX9_typeIn 32 [some (vR 9 (some x0)), some (vI x1), some (vI x2), some (vI (gI σ 900 x0 x1.toNat)), none, none] [vI 1] σ Q))))) :
    AW g l d MX9_typeIn 0 [some (vR 9 (some x0)), some (vI x1), some (vI x2), none, none, none] [] σ Q := by
  refine aw_aload_n dX9_typeIn_0 rfl rfl ?_
  obtain ⟨lc1, h⟩ := h
  refine aw_getA' rfl fk_900 (by decide) lf_X9_9 dX9_typeIn_1 (LC.ne lc1 rfl rfl) ?_
  refine aw_iload_n dX9_typeIn_4 rfl rfl ?_
  obtain ⟨⟨c2, c2x⟩, h⟩ := h
  refine aw_iaload (by decide) rfl dX9_typeIn_5 c2 (LC.lt lc1 rfl rfl c2x) ?_
  refine aw_istore_n (L' := [some (vR 9 (some x0)), some (vI x1), some (vI x2), some (vI (gI σ 900 x0 x1.toNat)), none, none]) dX9_typeIn_6 rfl (by decide) rfl ?_
  refine aw_iload_n dX9_typeIn_7 rfl rfl ?_
  refine aw_iload_n dX9_typeIn_8 rfl rfl ?_
  obtain ⟨⟨c3, c3x⟩, h⟩ := h
  refine aw_isubc dX9_typeIn_9 c3 c3x ?_
  refine aw_iconst (x := 3) dX9_typeIn_10 rfl ?_
  refine aw_icmp_ne (tgt := 31) dX9_typeIn_11 (by decide) (fun k4 => ?_) (fun k4 => ?_)
  · replace h := h.1 k4
    refine aw_iconst (x := 0) dX9_typeIn_31 rfl ?_
    exact aw_fgt (L' := [some (vR 9 (some x0)), some (vI x1), some (vI x2), some (vI (gI σ 900 x0 x1.toNat)), none, none]) ⟨rfl, ⟨rfl, ⟨rfl, ⟨rfl, trivial⟩⟩⟩⟩ h
  · replace h := h.2 k4
    refine aw_aload_n dX9_typeIn_14 rfl rfl ?_
    refine aw_getA' rfl fk_900 (by decide) lf_X9_9 dX9_typeIn_15 (LC.ne lc1 rfl rfl) ?_
    refine aw_iload_n dX9_typeIn_18 rfl rfl ?_
    refine aw_iconst (x := 1) dX9_typeIn_19 rfl ?_
    obtain ⟨⟨c5, c5x⟩, h⟩ := h
    refine aw_isubc dX9_typeIn_20 c5 c5x ?_
    obtain ⟨⟨c6, c6x⟩, h⟩ := h
    refine aw_iaload (by decide) rfl dX9_typeIn_21 c6 (LC.lt lc1 rfl rfl c6x) ?_
    refine aw_bipush (x := 98) dX9_typeIn_22 rfl ?_
    refine aw_icmp_ne (tgt := 31) dX9_typeIn_24 (by decide) (fun k7 => ?_) (fun k7 => ?_)
    · replace h := h.1 k7
      refine aw_iconst (x := 0) dX9_typeIn_31 rfl ?_
      exact aw_fgt (L' := [some (vR 9 (some x0)), some (vI x1), some (vI x2), some (vI (gI σ 900 x0 x1.toNat)), none, none]) ⟨rfl, ⟨rfl, ⟨rfl, ⟨rfl, trivial⟩⟩⟩⟩ h
    · replace h := h.2 k7
      refine aw_iconst (x := 1) dX9_typeIn_27 rfl ?_
      refine aw_goto (tgt := 32) dX9_typeIn_28 (by decide) ?_
      exact aw_fgt (L' := [some (vR 9 (some x0)), some (vI x1), some (vI x2), some (vI (gI σ 900 x0 x1.toNat)), none, none]) ⟨rfl, ⟨rfl, ⟨rfl, ⟨rfl, trivial⟩⟩⟩⟩ h
set_option maxRecDepth 4000 in
theorem bk_X9_typeIn_32 {g : GP} {l : Launch} {d : Nat} {σ : St} {Q : Option AV → St → Prop} {x0 : Nat} {x1 : Int} {x2 : Int} {x3 : Int} {y0 : Int}
    (h : ((x3 = 117 → R32 (x2 - x1) ∧ (((x2 - x1) = 2 → AW g l d MX9_typeIn 60 [some (vR 9 (some x0)), some (vI x1), none, some (vI x3), some (vI y0), none] [] σ Q) ∧ (¬ (x2 - x1) = 2 → ((¬ y0 = 0 → AW g l d MX9_typeIn 60 [some (vR 9 (some x0)), some (vI x1), none, some (vI x3), some (vI y0), none] [] σ Q) ∧ (y0 = 0 → Q (some (vI (-1))) σ))))) ∧ (¬ x3 = 117 → ((¬ x3 = 115 → Q (some (vI (-1))) σ) ∧ (x3 = 115 → R32 (x2 - x1) ∧ (((x2 - x1) = 2 → AW g l d MX9_typeIn 60 [some (vR 9 (some x0)), some (vI x1), none, some (vI x3), some (vI y0), none] [] σ Q) ∧ (¬ (x2 - x1) = 2 → ((¬ y0 = 0 → AW g l d MX9_typeIn 60 [some (vR 9 (some x0)), some (vI x1), none, some (vI x3), some (vI y0), none] [] σ Q) ∧ (y0 = 0 → Q (some (vI (-1))) σ))))))))) :
    AW g l d MX9_typeIn 32 [some (vR 9 (some x0)), some (vI x1), some (vI x2), some (vI x3), none, none] [vI y0] σ Q := by
  refine aw_istore (L' := [some (vR 9 (some x0)), some (vI x1), some (vI x2), some (vI x3), some (vI y0), none]) dX9_typeIn_32 (by decide) rfl ?_
  refine aw_iload_n dX9_typeIn_34 rfl rfl ?_
  refine aw_bipush (x := 117) dX9_typeIn_35 rfl ?_
  refine aw_icmp_eq (tgt := 46) dX9_typeIn_37 (by decide) (fun k1 => ?_) (fun k1 => ?_)
  · replace h := h.1 k1
    refine aw_iload_n dX9_typeIn_46 rfl rfl ?_
    refine aw_iload_n dX9_typeIn_47 rfl rfl ?_
    obtain ⟨⟨c2, c2x⟩, h⟩ := h
    refine aw_isubc dX9_typeIn_48 c2 c2x ?_
    refine aw_iconst (x := 2) dX9_typeIn_49 rfl ?_
    refine aw_icmp_eq (tgt := 60) dX9_typeIn_50 (by decide) (fun k3 => ?_) (fun k3 => ?_)
    · replace h := h.1 k3
      exact aw_fgt (L' := [some (vR 9 (some x0)), some (vI x1), none, some (vI x3), some (vI y0), none]) ⟨rfl, ⟨rfl, ⟨rfl, ⟨rfl, trivial⟩⟩⟩⟩ h
    · replace h := h.2 k3
      refine aw_iload dX9_typeIn_53 rfl ?_
      refine aw_if_ne (tgt := 60) dX9_typeIn_55 (by decide) (fun k4 => ?_) (fun k4 => ?_)
      · replace h := h.1 k4
        exact aw_fgt (L' := [some (vR 9 (some x0)), some (vI x1), none, some (vI x3), some (vI y0), none]) ⟨rfl, ⟨rfl, ⟨rfl, ⟨rfl, trivial⟩⟩⟩⟩ h
      · replace h := h.2 k4
        refine aw_iconst (x := (-1)) dX9_typeIn_58 rfl ?_
        exact aw_ireturn dX9_typeIn_59 rfl h
  · replace h := h.2 k1
    refine aw_iload_n dX9_typeIn_40 rfl rfl ?_
    refine aw_bipush (x := 115) dX9_typeIn_41 rfl ?_
    refine aw_icmp_ne (tgt := 58) dX9_typeIn_43 (by decide) (fun k5 => ?_) (fun k5 => ?_)
    · replace h := h.1 k5
      refine aw_iconst (x := (-1)) dX9_typeIn_58 rfl ?_
      exact aw_ireturn dX9_typeIn_59 rfl h
    · replace h := h.2 k5
      refine aw_iload_n dX9_typeIn_46 rfl rfl ?_
      refine aw_iload_n dX9_typeIn_47 rfl rfl ?_
      obtain ⟨⟨c6, c6x⟩, h⟩ := h
      refine aw_isubc dX9_typeIn_48 c6 c6x ?_
      refine aw_iconst (x := 2) dX9_typeIn_49 rfl ?_
      refine aw_icmp_eq (tgt := 60) dX9_typeIn_50 (by decide) (fun k7 => ?_) (fun k7 => ?_)
      · replace h := h.1 k7
        exact aw_fgt (L' := [some (vR 9 (some x0)), some (vI x1), none, some (vI x3), some (vI y0), none]) ⟨rfl, ⟨rfl, ⟨rfl, ⟨rfl, trivial⟩⟩⟩⟩ h
      · replace h := h.2 k7
        refine aw_iload dX9_typeIn_53 rfl ?_
        refine aw_if_ne (tgt := 60) dX9_typeIn_55 (by decide) (fun k8 => ?_) (fun k8 => ?_)
        · replace h := h.1 k8
          exact aw_fgt (L' := [some (vR 9 (some x0)), some (vI x1), none, some (vI x3), some (vI y0), none]) ⟨rfl, ⟨rfl, ⟨rfl, ⟨rfl, trivial⟩⟩⟩⟩ h
        · replace h := h.2 k8
          refine aw_iconst (x := (-1)) dX9_typeIn_58 rfl ?_
          exact aw_ireturn dX9_typeIn_59 rfl h
set_option maxRecDepth 4000 in
theorem bk_X9_typeIn_60 {g : GP} {l : Launch} {d : Nat} {σ : St} {Q : Option AV → St → Prop} {x0 : Nat} {x1 : Int} {x3 : Int} {x4 : Int}
    (h : LC 9 σ x0 ∧ R32 (x1 + 1) ∧ Bd (x1 + 1) 3000 ∧ R32 ((gI σ 900 x0 (x1 + 1).toNat) - 48) ∧ ∀ z5 : Int, z5 = (gI σ 900 x0 (x1 + 1).toNat) - 48 → ((z5 < 1 → Q (some (vI (-1))) σ) ∧ (¬ z5 < 1 → ((z5 ≤ 8 → ((¬ x3 = 115 → ((x4 = 0 → Q (some (vI (i_or (i_or z5 0) 0))) σ) ∧ (¬ x4 = 0 → Q (some (vI (i_or (i_or z5 0) 32))) σ))) ∧ (x3 = 115 → ((x4 = 0 → Q (some (vI (i_or (i_or z5 16) 0))) σ) ∧ (¬ x4 = 0 → Q (some (vI (i_or (i_or z5 16) 32))) σ))))) ∧ (¬ z5 ≤ 8 → Q (some (vI (-1))) σ))))) :
    AW g l d MX9_typeIn 60 [some (vR 9 (some x0)), some (vI x1), none, some (vI x3), some (vI x4), none] [] σ Q := by
  refine aw_aload_n dX9_typeIn_60 rfl rfl ?_
  obtain ⟨lc1, h⟩ := h
  refine aw_getA' rfl fk_900 (by decide) lf_X9_9 dX9_typeIn_61 (LC.ne lc1 rfl rfl) ?_
  refine aw_iload_n dX9_typeIn_64 rfl rfl ?_
  refine aw_iconst (x := 1) dX9_typeIn_65 rfl ?_
  obtain ⟨⟨c2, c2x⟩, h⟩ := h
  refine aw_iaddc dX9_typeIn_66 c2 c2x ?_
  obtain ⟨⟨c3, c3x⟩, h⟩ := h
  refine aw_iaload (by decide) rfl dX9_typeIn_67 c3 (LC.lt lc1 rfl rfl c3x) ?_
  refine aw_bipush (x := 48) dX9_typeIn_68 rfl ?_
  obtain ⟨⟨c4, c4x⟩, h⟩ := h
  refine aw_isubc dX9_typeIn_70 c4 c4x ?_
  refine aw_istore (L' := [some (vR 9 (some x0)), some (vI x1), none, some (vI x3), some (vI x4), some (vI ((gI σ 900 x0 (x1 + 1).toNat) - 48))]) dX9_typeIn_71 (by decide) rfl ?_
  obtain ⟨z5, hz5⟩ : ∃ z : Int, z = (gI σ 900 x0 (x1 + 1).toNat) - 48 := ⟨_, rfl⟩
  rw [← hz5]
  replace h := h z5 hz5
  refine aw_iload dX9_typeIn_73 rfl ?_
  refine aw_iconst (x := 1) dX9_typeIn_75 rfl ?_
  refine aw_icmp_lt (tgt := 86) dX9_typeIn_76 (by decide) (fun k6 => ?_) (fun k6 => ?_)
  · replace h := h.1 k6
    refine aw_iconst (x := (-1)) dX9_typeIn_86 rfl ?_
    exact aw_ireturn dX9_typeIn_87 rfl h
  · replace h := h.2 k6
    refine aw_iload dX9_typeIn_79 rfl ?_
    refine aw_bipush (x := 8) dX9_typeIn_81 rfl ?_
    refine aw_icmp_le (tgt := 88) dX9_typeIn_83 (by decide) (fun k7 => ?_) (fun k7 => ?_)
    · replace h := h.1 k7
      refine aw_iload dX9_typeIn_88 rfl ?_
      refine aw_iload_n dX9_typeIn_90 rfl rfl ?_
      refine aw_bipush (x := 115) dX9_typeIn_91 rfl ?_
      refine aw_icmp_ne (tgt := 101) dX9_typeIn_93 (by decide) (fun k8 => ?_) (fun k8 => ?_)
      · replace h := h.1 k8
        refine aw_iconst (x := 0) dX9_typeIn_101 rfl ?_
        refine aw_ior dX9_typeIn_102 ?_
        refine aw_iload dX9_typeIn_103 rfl ?_
        refine aw_if_eq (tgt := 113) dX9_typeIn_105 (by decide) (fun k9 => ?_) (fun k9 => ?_)
        · replace h := h.1 k9
          refine aw_iconst (x := 0) dX9_typeIn_113 rfl ?_
          refine aw_ior dX9_typeIn_114 ?_
          exact aw_ireturn dX9_typeIn_115 rfl h
        · replace h := h.2 k9
          refine aw_bipush (x := 32) dX9_typeIn_108 rfl ?_
          refine aw_goto (tgt := 114) dX9_typeIn_110 (by decide) ?_
          refine aw_ior dX9_typeIn_114 ?_
          exact aw_ireturn dX9_typeIn_115 rfl h
      · replace h := h.2 k8
        refine aw_bipush (x := 16) dX9_typeIn_96 rfl ?_
        refine aw_goto (tgt := 102) dX9_typeIn_98 (by decide) ?_
        refine aw_ior dX9_typeIn_102 ?_
        refine aw_iload dX9_typeIn_103 rfl ?_
        refine aw_if_eq (tgt := 113) dX9_typeIn_105 (by decide) (fun k10 => ?_) (fun k10 => ?_)
        · replace h := h.1 k10
          refine aw_iconst (x := 0) dX9_typeIn_113 rfl ?_
          refine aw_ior dX9_typeIn_114 ?_
          exact aw_ireturn dX9_typeIn_115 rfl h
        · replace h := h.2 k10
          refine aw_bipush (x := 32) dX9_typeIn_108 rfl ?_
          refine aw_goto (tgt := 114) dX9_typeIn_110 (by decide) ?_
          refine aw_ior dX9_typeIn_114 ?_
          exact aw_ireturn dX9_typeIn_115 rfl h
    · replace h := h.2 k7
      refine aw_iconst (x := (-1)) dX9_typeIn_86 rfl ?_
      exact aw_ireturn dX9_typeIn_87 rfl h
set_option maxRecDepth 4000 in
theorem bk_X10_init_0 {g : GP} {l : Launch} {d : Nat} {σ : St} {Q : Option AV → St → Prop} {x0 : Nat}
    (h : (gL σ 1003 x0 = 0 ∧ hs σ + 1 ≤ gB g + 600000 ∧ sl σ + 400 ≤ 7302250) ∧ Q none (sArr σ 1003 x0 400)) :
    AW g l (d + 1) MX10_init 0 [some (vR 10 (some x0))] [] σ Q := by
  refine aw_aload_n dX10_init_0 rfl rfl ?_
  refine aw_objInit (M := MX10_init) lm_X10_3 loi_i loi_c dX10_init_1 (Nat.le_of_ble_eq_true rfl) ?_
  refine aw_aload_n dX10_init_4 rfl rfl ?_
  refine aw_sipush (x := 400) dX10_init_5 rfl ?_
  obtain ⟨⟨h0, h1, h2⟩, h⟩ := h
  refine aw_mkArrR (M := MX10_init) (n := 400) fk_1003 (by decide +kernel) lc_X10_9 lo_X5 ⟨rfl, rfl⟩ lf_X10_11 dX10_init_8 dX10_init_11 rfl (by decide) (by decide) h0 h1 h2 ?_
  exact aw_ret h rfl dX10_init_14
set_option maxRecDepth 4000 in
theorem bk_X10_addNode_0 {g : GP} {l : Launch} {d : Nat} {σ : St} {Q : Option AV → St → Prop} {x0 : Nat} {x1 : Option Nat} {x2 : Int} {x3 : Int} {x4 : Int64} {x6 : Option Nat}
    (h : (((gI σ 1004 x0 0) < 400 → LC 10 σ x0 ∧ Bd (gI σ 1004 x0 0) 400 ∧ ((gR σ 1003 x0 (gI σ 1004 x0 0).toNat = none → (hs σ + 1 ≤ gB g + 600000 ∧ sl σ + 17 ≤ 7302250) ∧ ACv g l d MX5_init [vR 5 (some (hs σ)), vI (gI (sNew σ 17) 1004 x0 0)] (sNew σ 17) (fun σ6 => LC 10 σ6 x0 ∧ AW g l (d + 1) MX10_addNode 49 [some (vR 10 (some x0)), some (vR 5 x1), some (vI x2), some (vI x3), some (vJ x4), none, some (vR 2 x6), none] [] (sR σ6 1003 x0 (gI σ 1004 x0 0).toNat (some (hs σ))) Q)) ∧ (∀ r4, gR σ 1003 x0 (gI σ 1004 x0 0).toNat = some r4 → AW g l (d + 1) MX10_addNode 49 [some (vR 10 (some x0)), some (vR 5 x1), some (vI x2), some (vI x3), some (vJ x4), none, some (vR 2 x6), none] [] σ Q))) ∧ (¬ (gI σ 1004 x0 0) < 400 → Q (some (vR 5 none)) (sI σ 1005 x0 0 1)))) :
    AW g l (d + 1) MX10_addNode 0 [some (vR 10 (some x0)), some (vR 5 x1), some (vI x2), some (vI x3), some (vJ x4), none, some (vR 2 x6), none] [] σ Q := by
  refine aw_aload_n dX10_addNode_0 rfl rfl ?_
  refine aw_getI' rfl fk_1004 lf_X10_36 dX10_addNode_1 ?_
  refine aw_sipush (x := 400) dX10_addNode_4 rfl ?_
  refine aw_icmp_lt (tgt := 17) dX10_addNode_7 (by decide) (fun k1 => ?_) (fun k1 => ?_)
  · replace h := h.1 k1
    refine aw_aload_n dX10_addNode_17 rfl rfl ?_
    obtain ⟨lc2, h⟩ := h
    refine aw_getA' rfl fk_1003 (by decide) lf_X10_11 dX10_addNode_18 (LC.ne lc2 rfl rfl) ?_
    refine aw_aload_n dX10_addNode_21 rfl rfl ?_
    refine aw_getI' rfl fk_1004 lf_X10_36 dX10_addNode_22 ?_
    obtain ⟨⟨c3, c3x⟩, h⟩ := h
    refine aw_aaload (ci := 5) (by decide) rfl (by decide +kernel) dX10_addNode_25 c3 (LC.lt lc2 rfl rfl c3x) ?_
    refine aw_ifnonnull (tgt := 49) dX10_addNode_26 (by decide) (fun r4 e5 => ?_) (fun hc => ?_)
    · replace h := h.2 r4 e5
      exact aw_fgt (L' := [some (vR 10 (some x0)), some (vR 5 x1), some (vI x2), some (vI x3), some (vJ x4), none, some (vR 2 x6), none]) ⟨rfl, ⟨rfl, ⟨rfl, ⟨rfl, ⟨rfl, ⟨rfl, trivial⟩⟩⟩⟩⟩⟩ h
    · replace h := h.1 hc
      refine aw_aload_n dX10_addNode_29 rfl rfl ?_
      refine aw_getA' rfl fk_1003 (by decide) lf_X10_11 dX10_addNode_30 (LC.ne lc2 rfl rfl) ?_
      refine aw_aload_n dX10_addNode_33 rfl rfl ?_
      refine aw_getI' rfl fk_1004 lf_X10_36 dX10_addNode_34 ?_
      obtain ⟨⟨h1, h2⟩, h⟩ := h
      refine aw_new (M := MX10_addNode) (ci := 5) rfl lc_X10_9 ln_X5 lz_X5 dX10_addNode_37 h1 h2 ?_
      refine aw_dup dX10_addNode_40 rfl ?_
      refine aw_aload_n dX10_addNode_41 rfl rfl ?_
      refine aw_getI' rfl fk_1004 lf_X10_36 dX10_addNode_42 ?_
      refine aw_invIv (M := MX10_addNode) [vI (gI (sNew σ 17) 1004 x0 0)] mo_X5_init rfl ⟨rfl, rfl⟩ lm_X10_106 li_X5_init dX10_addNode_45 rfl (Nat.le_of_ble_eq_true rfl) (ACv.mono (fun σ6 h => ?_) h)
      obtain ⟨lc7, h⟩ := h
      refine aw_aastore' rfl (by decide) rfl (by decide +kernel) (by decide +kernel) dX10_addNode_48 c3 (LC.lt lc7 rfl rfl c3x) ?_
      exact aw_fgt (L' := [some (vR 10 (some x0)), some (vR 5 x1), some (vI x2), some (vI x3), some (vJ x4), none, some (vR 2 x6), none]) ⟨rfl, ⟨rfl, ⟨rfl, ⟨rfl, ⟨rfl, ⟨rfl, trivial⟩⟩⟩⟩⟩⟩ h
  · replace h := h.2 k1
    refine aw_aload_n dX10_addNode_10 rfl rfl ?_
    refine aw_iconst (x := 1) dX10_addNode_11 rfl ?_
    refine aw_putZ' rfl fk_1005 (Or.inl rfl) lf_X10_39 dX10_addNode_12 (Or.inr rfl) ?_
    refine aw_null 5 dX10_addNode_15 ?_
    exact aw_areturn dX10_addNode_16 rfl h
set_option maxRecDepth 4000 in
theorem bk_X10_addNode_49 {g : GP} {l : Launch} {d : Nat} {σ : St} {Q : Option AV → St → Prop} {x0 : Nat} {x1 : Option Nat} {x2 : Int} {x3 : Int} {x4 : Int64} {x6 : Option Nat}
    (h : LC 10 σ x0 ∧ Bd (gI σ 1004 x0 0) 400 ∧ R32 ((gI σ 1004 x0 0) + 1) ∧ ∃ r4, gR σ 1003 x0 (gI σ 1004 x0 0).toNat = some r4 ∧ ACv g l d MX5_begin [vR 5 (some r4), vR 5 x1, vI x2, vI x3, vJ x4, vR 2 x6] (sI σ 1004 x0 0 ((gI σ 1004 x0 0) + 1)) (fun σ6 => ((x1 = none → Q (some (vR 5 (gR σ 1003 x0 (gI σ 1004 x0 0).toNat))) σ6) ∧ (∀ r7, x1 = some r7 → ACv g l d MX5_addKid [vR 5 (some r7), vR 5 (gR σ 1003 x0 (gI σ 1004 x0 0).toNat)] σ6 (fun σ9 => Q (some (vR 5 (gR σ 1003 x0 (gI σ 1004 x0 0).toNat))) σ9))))) :
    AW g l (d + 1) MX10_addNode 49 [some (vR 10 (some x0)), some (vR 5 x1), some (vI x2), some (vI x3), some (vJ x4), none, some (vR 2 x6), none] [] σ Q := by
  refine aw_aload_n dX10_addNode_49 rfl rfl ?_
  obtain ⟨lc1, h⟩ := h
  refine aw_getA' rfl fk_1003 (by decide) lf_X10_11 dX10_addNode_50 (LC.ne lc1 rfl rfl) ?_
  refine aw_aload_n dX10_addNode_53 rfl rfl ?_
  refine aw_getI' rfl fk_1004 lf_X10_36 dX10_addNode_54 ?_
  obtain ⟨⟨c2, c2x⟩, h⟩ := h
  refine aw_aaload (ci := 5) (by decide) rfl (by decide +kernel) dX10_addNode_57 c2 (LC.lt lc1 rfl rfl c2x) ?_
  refine aw_astore (L' := [some (vR 10 (some x0)), some (vR 5 x1), some (vI x2), some (vI x3), some (vJ x4), none, some (vR 2 x6), some (vR 5 (gR σ 1003 x0 (gI σ 1004 x0 0).toNat))]) dX10_addNode_58 (by decide) rfl ?_
  refine aw_aload_n dX10_addNode_60 rfl rfl ?_
  refine aw_dup dX10_addNode_61 rfl ?_
  refine aw_getI' rfl fk_1004 lf_X10_36 dX10_addNode_62 ?_
  refine aw_iconst (x := 1) dX10_addNode_65 rfl ?_
  obtain ⟨⟨c3, c3x⟩, h⟩ := h
  refine aw_iaddc dX10_addNode_66 c3 c3x ?_
  refine aw_putI' rfl fk_1004 (Or.inl rfl) lf_X10_36 dX10_addNode_67 ?_
  refine aw_aload dX10_addNode_70 rfl ?_
  refine aw_aload_n dX10_addNode_72 rfl rfl ?_
  refine aw_iload_n dX10_addNode_73 rfl rfl ?_
  refine aw_iload_n dX10_addNode_74 rfl rfl ?_
  refine aw_lload dX10_addNode_75 rfl ?_
  refine aw_aload dX10_addNode_77 rfl ?_
  obtain ⟨r4, e5, h⟩ := h
  refine aw_invVv (M := MX10_addNode) (ci := 5) [vR 5 x1, vI x2, vI x3, vJ x4, vR 2 x6] e5 mo_X5_begin rfl lm_X10_109 li_X5_begin ls_X5_begin (by decide +kernel) dX10_addNode_79 rfl (Nat.le_of_ble_eq_true rfl) (ACv.mono (fun σ6 h => ?_) h)
  refine aw_aload_n dX10_addNode_82 rfl rfl ?_
  refine aw_ifnull (tgt := 92) dX10_addNode_83 (by decide) (fun hc => ?_) (fun r7 e8 => ?_)
  · replace h := h.1 hc
    refine aw_aload dX10_addNode_92 rfl ?_
    exact aw_areturn dX10_addNode_94 rfl h
  · replace h := h.2 r7 e8
    refine aw_aload_n dX10_addNode_86 rfl rfl ?_
    refine aw_aload dX10_addNode_87 rfl ?_
    refine aw_invVv (M := MX10_addNode) (ci := 5) [vR 5 (gR σ 1003 x0 (gI σ 1004 x0 0).toNat)] e8 mo_X5_addKid rfl lm_X10_113 li_X5_addKid ls_X5_addKid (by decide +kernel) dX10_addNode_89 rfl (Nat.le_of_ble_eq_true rfl) (ACv.mono (fun σ9 h => ?_) h)
    refine aw_aload dX10_addNode_92 rfl ?_
    exact aw_areturn dX10_addNode_94 rfl h
set_option maxRecDepth 4000 in
theorem bk_X10_addStruct_0 {g : GP} {l : Launch} {d : Nat} {σ : St} {Q : Option AV → St → Prop} {x0 : Nat} {x1 : Option Nat} {x2 : Int} {x3 : Int} {x4 : Int}
    (h : ∃ r1, gR σ 1006 x0 0 = some r1 ∧ LC 1 σ r1 ∧ Bd x2 20 ∧ ∃ r5, gR σ 100 r1 x2.toNat = some r5 ∧ ACr g l d MX10_addNode 5 [vR 10 (some x0), vR 5 x1, vI 0, vI x3, vJ (gJ σ 800 r5 0), vR 2 none] σ (fun v8 σ7 => ((v8 = none → Q (some (vI x3)) σ7) ∧ (∀ r9, v8 = some r9 → ACv g l d MX10_layStruct [vR 10 (some x0), vR 5 v8, vI x2, vI x4] σ7 (fun σ11 => Q (some (vI (gI σ11 503 r9 0))) σ11))))) :
    AW g l (d + 1) MX10_addStruct 0 [some (vR 10 (some x0)), some (vR 5 x1), some (vI x2), some (vI x3), some (vI x4), none] [] σ Q := by
  refine aw_aload_n dX10_addStruct_0 rfl rfl ?_
  refine aw_aload_n dX10_addStruct_1 rfl rfl ?_
  refine aw_iconst (x := 0) dX10_addStruct_2 rfl ?_
  refine aw_iload_n dX10_addStruct_3 rfl rfl ?_
  refine aw_aload_n dX10_addStruct_4 rfl rfl ?_
  refine aw_getR' (ci := 1) rfl fk_1006 (by decide +kernel) lf_X10_28 dX10_addStruct_5 ?_
  obtain ⟨r1, e2, h⟩ := h
  obtain ⟨lc3, h⟩ := h
  refine aw_getA' e2 fk_100 (by decide) lf_X10_117 dX10_addStruct_8 (LC.ne lc3 rfl rfl) ?_
  refine aw_iload_n dX10_addStruct_11 rfl rfl ?_
  obtain ⟨⟨c4, c4x⟩, h⟩ := h
  refine aw_aaload (ci := 8) (by decide) rfl (by decide +kernel) dX10_addStruct_12 c4 (LC.lt lc3 rfl rfl c4x) ?_
  obtain ⟨r5, e6, h⟩ := h
  refine aw_getJ' e6 fk_800 lf_X10_123 dX10_addStruct_13 ?_
  refine aw_null 2 dX10_addStruct_16 ?_
  refine aw_invVr (M := MX10_addStruct) (ci := 10) [vR 5 x1, vI 0, vI x3, vJ (gJ σ 800 r5 0), vR 2 none] rfl mo_X10_addNode rfl lm_X10_129 li_X10_addNode ls_X10_addNode (by decide +kernel) dX10_addStruct_17 rfl (Nat.le_of_ble_eq_true rfl) (ACr.mono (fun v8 σ7 h => ?_) h)
  refine aw_astore (L' := [some (vR 10 (some x0)), some (vR 5 x1), some (vI x2), some (vI x3), some (vI x4), some (vR 5 v8)]) dX10_addStruct_20 (by decide) rfl ?_
  refine aw_aload dX10_addStruct_22 rfl ?_
  refine aw_ifnonnull (tgt := 29) dX10_addStruct_24 (by decide) (fun r9 e10 => ?_) (fun hc => ?_)
  · replace h := h.2 r9 e10
    refine aw_aload_n dX10_addStruct_29 rfl rfl ?_
    refine aw_aload dX10_addStruct_30 rfl ?_
    refine aw_iload_n dX10_addStruct_32 rfl rfl ?_
    refine aw_iload dX10_addStruct_33 rfl ?_
    refine aw_invVv (M := MX10_addStruct) (ci := 10) [vR 5 v8, vI x2, vI x4] rfl mo_X10_layStruct rfl lm_X10_133 li_X10_layStruct ls_X10_layStruct (by decide +kernel) dX10_addStruct_35 rfl (Nat.le_of_ble_eq_true rfl) (ACv.mono (fun σ11 h => ?_) h)
    refine aw_aload dX10_addStruct_38 rfl ?_
    refine aw_getI' e10 fk_503 lf_X10_70 dX10_addStruct_40 ?_
    exact aw_ireturn dX10_addStruct_43 rfl h
  · replace h := h.1 hc
    refine aw_iload_n dX10_addStruct_27 rfl rfl ?_
    exact aw_ireturn dX10_addStruct_28 rfl h
set_option maxRecDepth 4000 in
theorem bk_X10_amount_0 {g : GP} {l : Launch} {d : Nat} {σ : St} {Q : Option AV → St → Prop} {x0 : Nat} {x1 : Option Nat} {x2 : Option Nat} {x3 : Int}
    (h : ∃ r1, gR σ 1006 x0 0 = some r1 ∧ ∃ r3, x2 = some r3 ∧ ∃ r5, x1 = some r5 ∧ ∃ r7, gR σ 1007 x0 0 = some r7 ∧ ACj g l d MX7_work [vR 7 (some r7), vR 0 (gR σ 110 r1 0), vI (gI σ 209 r3 0), vR 5 (gR σ 507 r5 0), vI (gI σ 502 r5 0), vR 3 (gR σ 1000 x0 0)] σ (fun v10 σ9 => ∃ r11, gR σ9 1007 x0 0 = some r11 ∧ (((gI σ9 700 r11 0) = 0 → ((v10.toInt < (0 : Int64).toInt → Q (some (vI (-1))) (sI σ9 504 r5 0 5)) ∧ (¬ v10.toInt < (0 : Int64).toInt → ((v10.toInt ≤ (i2j x3).toInt → Q (some (vI (j2i v10))) σ9) ∧ (¬ v10.toInt ≤ (i2j x3).toInt → Q (some (vI (-1))) (sI σ9 504 r5 0 5)))))) ∧ (¬ (gI σ9 700 r11 0) = 0 → Q (some (vI (-1))) (sI σ9 504 r5 0 6))))) :
    AW g l (d + 1) MX10_amount 0 [some (vR 10 (some x0)), some (vR 5 x1), some (vR 2 x2), some (vI x3), none, none] [] σ Q := by
  refine aw_aload_n dX10_amount_0 rfl rfl ?_
  refine aw_getR' (ci := 7) rfl fk_1007 (by decide +kernel) lf_X10_32 dX10_amount_1 ?_
  refine aw_aload_n dX10_amount_4 rfl rfl ?_
  refine aw_getR' (ci := 1) rfl fk_1006 (by decide +kernel) lf_X10_28 dX10_amount_5 ?_
  obtain ⟨r1, e2, h⟩ := h
  refine aw_getR' (ci := 0) e2 fk_110 (by decide +kernel) lf_X10_156 dX10_amount_8 ?_
  refine aw_aload_n dX10_amount_11 rfl rfl ?_
  obtain ⟨r3, e4, h⟩ := h
  refine aw_getI' e4 fk_209 lf_X10_184 dX10_amount_12 ?_
  refine aw_aload_n dX10_amount_15 rfl rfl ?_
  obtain ⟨r5, e6, h⟩ := h
  refine aw_getR' (ci := 5) e6 fk_507 (by decide +kernel) lf_X10_82 dX10_amount_16 ?_
  refine aw_aload_n dX10_amount_19 rfl rfl ?_
  refine aw_getI' e6 fk_502 lf_X10_67 dX10_amount_20 ?_
  refine aw_aload_n dX10_amount_23 rfl rfl ?_
  refine aw_getR' (ci := 3) rfl fk_1000 (by decide +kernel) lf_X10_17 dX10_amount_24 ?_
  obtain ⟨r7, e8, h⟩ := h
  refine aw_invVj (M := MX10_amount) (ci := 7) [vR 0 (gR σ 110 r1 0), vI (gI σ 209 r3 0), vR 5 (gR σ 507 r5 0), vI (gI σ 502 r5 0), vR 3 (gR σ 1000 x0 0)] e8 mo_X7_work rfl lm_X10_160 li_X7_work ls_X7_work (by decide +kernel) dX10_amount_27 rfl (Nat.le_of_ble_eq_true rfl) (ACj.mono (fun v10 σ9 h => ?_) h)
  refine aw_lstore (L' := [some (vR 10 (some x0)), some (vR 5 x1), some (vR 2 x2), some (vI x3), some (vJ v10), none]) dX10_amount_30 (by decide) rfl ?_
  refine aw_aload_n dX10_amount_32 rfl rfl ?_
  refine aw_getR' (ci := 7) rfl fk_1007 (by decide +kernel) lf_X10_32 dX10_amount_33 ?_
  obtain ⟨r11, e12, h⟩ := h
  refine aw_getZ' e12 fk_700 lf_X10_166 dX10_amount_36 ?_
  refine aw_if_eq (tgt := 50) dX10_amount_39 (by decide) (fun k13 => ?_) (fun k13 => ?_)
  · replace h := h.1 k13
    refine aw_lload dX10_amount_50 rfl ?_
    refine aw_lconst (x := 0) dX10_amount_52 rfl ?_
    refine aw_lcmp_lt (M := MX10_amount) (tgt := 65) dX10_amount_53 dX10_amount_54 (by decide) (fun k14 => ?_) (fun k14 => ?_)
    · replace h := h.1 k14
      refine aw_aload_n dX10_amount_65 rfl rfl ?_
      refine aw_iconst (x := 5) dX10_amount_66 rfl ?_
      refine aw_putI' e6 fk_504 (Or.inl rfl) lf_X10_47 dX10_amount_67 ?_
      refine aw_iconst (x := (-1)) dX10_amount_70 rfl ?_
      exact aw_ireturn dX10_amount_71 rfl h
    · replace h := h.2 k14
      refine aw_lload dX10_amount_57 rfl ?_
      refine aw_iload_n dX10_amount_59 rfl rfl ?_
      refine aw_i2l dX10_amount_60 ?_
      refine aw_lcmp_le (M := MX10_amount) (tgt := 72) dX10_amount_61 dX10_amount_62 (by decide) (fun k15 => ?_) (fun k15 => ?_)
      · replace h := h.1 k15
        refine aw_lload dX10_amount_72 rfl ?_
        refine aw_l2i dX10_amount_74 ?_
        exact aw_ireturn dX10_amount_75 rfl h
      · replace h := h.2 k15
        refine aw_aload_n dX10_amount_65 rfl rfl ?_
        refine aw_iconst (x := 5) dX10_amount_66 rfl ?_
        refine aw_putI' e6 fk_504 (Or.inl rfl) lf_X10_47 dX10_amount_67 ?_
        refine aw_iconst (x := (-1)) dX10_amount_70 rfl ?_
        exact aw_ireturn dX10_amount_71 rfl h
  · replace h := h.2 k13
    refine aw_aload_n dX10_amount_42 rfl rfl ?_
    refine aw_bipush (x := 6) dX10_amount_43 rfl ?_
    refine aw_putI' e6 fk_504 (Or.inl rfl) lf_X10_47 dX10_amount_45 ?_
    refine aw_iconst (x := (-1)) dX10_amount_48 rfl ?_
    exact aw_ireturn dX10_amount_49 rfl h
set_option maxRecDepth 4000 in
theorem bk_X10_cover_0 {g : GP} {l : Launch} {d : Nat} {σ : St} {Q : Option AV → St → Prop} {x0 : Nat} {x1 : Option Nat} {x2 : Int}
    (h : ∃ r1, gR σ 1000 x0 0 = some r1 ∧ ∃ r3, x1 = some r3 ∧ R32 ((gI σ 304 r1 0) - (gI σ 502 r3 0)) ∧ ((x2 ≤ ((gI σ 304 r1 0) - (gI σ 502 r3 0)) → R32 ((gI σ 502 r3 0) + x2) ∧ Q (some (vI 1)) (sI σ 503 r3 0 ((gI σ 502 r3 0) + x2))) ∧ (¬ x2 ≤ ((gI σ 304 r1 0) - (gI σ 502 r3 0)) → Q (some (vI 0)) (sI σ 504 r3 0 1)))) :
    AW g l d MX10_cover 0 [some (vR 10 (some x0)), some (vR 5 x1), some (vI x2)] [] σ Q := by
  refine aw_iload_n dX10_cover_0 rfl rfl ?_
  refine aw_aload_n dX10_cover_1 rfl rfl ?_
  refine aw_getR' (ci := 3) rfl fk_1000 (by decide +kernel) lf_X10_17 dX10_cover_2 ?_
  obtain ⟨r1, e2, h⟩ := h
  refine aw_getI' e2 fk_304 lf_X10_73 dX10_cover_5 ?_
  refine aw_aload_n dX10_cover_8 rfl rfl ?_
  obtain ⟨r3, e4, h⟩ := h
  refine aw_getI' e4 fk_502 lf_X10_67 dX10_cover_9 ?_
  obtain ⟨⟨c5, c5x⟩, h⟩ := h
  refine aw_isubc dX10_cover_12 c5 c5x ?_
  refine aw_icmp_le (tgt := 23) dX10_cover_13 (by decide) (fun k6 => ?_) (fun k6 => ?_)
  · replace h := h.1 k6
    refine aw_aload_n dX10_cover_23 rfl rfl ?_
    refine aw_aload_n dX10_cover_24 rfl rfl ?_
    refine aw_getI' e4 fk_502 lf_X10_67 dX10_cover_25 ?_
    refine aw_iload_n dX10_cover_28 rfl rfl ?_
    obtain ⟨⟨c7, c7x⟩, h⟩ := h
    refine aw_iaddc dX10_cover_29 c7 c7x ?_
    refine aw_putI' e4 fk_503 (Or.inl rfl) lf_X10_70 dX10_cover_30 ?_
    refine aw_iconst (x := 1) dX10_cover_33 rfl ?_
    exact aw_zreturn dX10_cover_34 rfl (Or.inr rfl) h
  · replace h := h.2 k6
    refine aw_aload_n dX10_cover_16 rfl rfl ?_
    refine aw_iconst (x := 1) dX10_cover_17 rfl ?_
    refine aw_putI' e4 fk_504 (Or.inl rfl) lf_X10_47 dX10_cover_18 ?_
    refine aw_iconst (x := 0) dX10_cover_21 rfl ?_
    exact aw_zreturn dX10_cover_22 rfl (Or.inl rfl) h
set_option maxRecDepth 4000 in
theorem bk_X10_deepestOver_0 {g : GP} {l : Launch} {d : Nat} {σ : St} {Q : Option AV → St → Prop} {x0 : Nat} {x1 : Int}
    (h : AW g l (d + 1) MX10_deepestOver 4 [some (vR 10 (some x0)), some (vI x1), some (vI (-1)), some (vI 0)] [] σ Q) :
    AW g l (d + 1) MX10_deepestOver 0 [some (vR 10 (some x0)), some (vI x1), none, none] [] σ Q := by
  refine aw_iconst (x := (-1)) dX10_deepestOver_0 rfl ?_
  refine aw_istore_n (L' := [some (vR 10 (some x0)), some (vI x1), some (vI (-1)), none]) dX10_deepestOver_1 rfl (by decide) rfl ?_
  refine aw_iconst (x := 0) dX10_deepestOver_2 rfl ?_
  refine aw_istore_n (L' := [some (vR 10 (some x0)), some (vI x1), some (vI (-1)), some (vI 0)]) dX10_deepestOver_3 rfl (by decide) rfl ?_
  exact aw_fgt (L' := [some (vR 10 (some x0)), some (vI x1), some (vI (-1)), some (vI 0)]) ⟨rfl, ⟨rfl, ⟨rfl, ⟨rfl, trivial⟩⟩⟩⟩ h
set_option maxRecDepth 4000 in
theorem bk_X10_deepestOver_4 {g : GP} {l : Launch} {d : Nat} {σ : St} {Q : Option AV → St → Prop} {x0 : Nat} {x1 : Int} {x2 : Int} {x3 : Int}
    (h : (((gI σ 1004 x0 0) ≤ x3 → Q (some (vI x2)) σ) ∧ (¬ (gI σ 1004 x0 0) ≤ x3 → LC 10 σ x0 ∧ Bd x3 400 ∧ ∃ r4, gR σ 1003 x0 x3.toNat = some r4 ∧ ACi g l d MX5_covers [vR 5 (some r4), vI x1] σ (fun v7 σ6 => ((v7 = 0 → R32 (x3 + 1) ∧ AW g l (d + 1) MX10_deepestOver 4 [some (vR 10 (some x0)), some (vI x1), some (vI x2), some (vI (x3 + 1))] [] σ6 Q) ∧ (¬ v7 = 0 → ((x2 = (-1) → R32 (x3 + 1) ∧ AW g l (d + 1) MX10_deepestOver 4 [some (vR 10 (some x0)), some (vI x1), some (vI x3), some (vI (x3 + 1))] [] σ6 Q) ∧ (¬ x2 = (-1) → LC 10 σ6 x0 ∧ ∃ r13, gR σ6 1003 x0 x3.toNat = some r13 ∧ Bd x2 400 ∧ ∃ r16, gR σ6 1003 x0 x2.toNat = some r16 ∧ (((gI σ6 512 r13 0) ≤ (gI σ6 512 r16 0) → R32 (x3 + 1) ∧ AW g l (d + 1) MX10_deepestOver 4 [some (vR 10 (some x0)), some (vI x1), some (vI x2), some (vI (x3 + 1))] [] σ6 Q) ∧ (¬ (gI σ6 512 r13 0) ≤ (gI σ6 512 r16 0) → R32 (x3 + 1) ∧ AW g l (d + 1) MX10_deepestOver 4 [some (vR 10 (some x0)), some (vI x1), some (vI x3), some (vI (x3 + 1))] [] σ6 Q)))))))))) :
    AW g l (d + 1) MX10_deepestOver 4 [some (vR 10 (some x0)), some (vI x1), some (vI x2), some (vI x3)] [] σ Q := by
  refine aw_iload_n dX10_deepestOver_4 rfl rfl ?_
  refine aw_aload_n dX10_deepestOver_5 rfl rfl ?_
  refine aw_getI' rfl fk_1004 lf_X10_36 dX10_deepestOver_6 ?_
  refine aw_icmp_ge (tgt := 59) dX10_deepestOver_9 (by decide) (fun k1 => ?_) (fun k1 => ?_)
  · replace h := h.1 k1
    refine aw_iload_n dX10_deepestOver_59 rfl rfl ?_
    exact aw_ireturn dX10_deepestOver_60 rfl h
  · replace h := h.2 k1
    refine aw_aload_n dX10_deepestOver_12 rfl rfl ?_
    obtain ⟨lc2, h⟩ := h
    refine aw_getA' rfl fk_1003 (by decide) lf_X10_11 dX10_deepestOver_13 (LC.ne lc2 rfl rfl) ?_
    refine aw_iload_n dX10_deepestOver_16 rfl rfl ?_
    obtain ⟨⟨c3, c3x⟩, h⟩ := h
    refine aw_aaload (ci := 5) (by decide) rfl (by decide +kernel) dX10_deepestOver_17 c3 (LC.lt lc2 rfl rfl c3x) ?_
    refine aw_iload_n dX10_deepestOver_18 rfl rfl ?_
    obtain ⟨r4, e5, h⟩ := h
    refine aw_invVi (M := MX10_deepestOver) (ci := 5) [vI x1] e5 mo_X5_covers rfl lm_X10_50 li_X5_covers ls_X5_covers (by decide +kernel) dX10_deepestOver_19 rfl (Nat.le_of_ble_eq_true rfl) (ACi.mono (fun v7 σ6 h => ?_) h)
    refine aw_if_eq (tgt := 53) dX10_deepestOver_22 (by decide) (fun k8 => ?_) (fun k8 => ?_)
    · replace h := h.1 k8
      obtain ⟨⟨c9, c9x⟩, h⟩ := h
      refine aw_iincc (L' := [some (vR 10 (some x0)), some (vI x1), some (vI x2), some (vI (x3 + 1))]) dX10_deepestOver_53 rfl (by decide) rfl c9 c9x rfl ?_
      refine aw_goto (tgt := 4) dX10_deepestOver_56 (by decide) ?_
      exact aw_fgt (L' := [some (vR 10 (some x0)), some (vI x1), some (vI x2), some (vI (x3 + 1))]) ⟨rfl, ⟨rfl, ⟨rfl, ⟨rfl, trivial⟩⟩⟩⟩ h
    · replace h := h.2 k8
      refine aw_iload_n dX10_deepestOver_25 rfl rfl ?_
      refine aw_iconst (x := (-1)) dX10_deepestOver_26 rfl ?_
      refine aw_icmp_eq (tgt := 51) dX10_deepestOver_27 (by decide) (fun k10 => ?_) (fun k10 => ?_)
      · replace h := h.1 k10
        refine aw_iload_n dX10_deepestOver_51 rfl rfl ?_
        refine aw_istore_n (L' := [some (vR 10 (some x0)), some (vI x1), some (vI x3), some (vI x3)]) dX10_deepestOver_52 rfl (by decide) rfl ?_
        obtain ⟨⟨c11, c11x⟩, h⟩ := h
        refine aw_iincc (L' := [some (vR 10 (some x0)), some (vI x1), some (vI x3), some (vI (x3 + 1))]) dX10_deepestOver_53 rfl (by decide) rfl c11 c11x rfl ?_
        refine aw_goto (tgt := 4) dX10_deepestOver_56 (by decide) ?_
        exact aw_fgt (L' := [some (vR 10 (some x0)), some (vI x1), some (vI x3), some (vI (x3 + 1))]) ⟨rfl, ⟨rfl, ⟨rfl, ⟨rfl, trivial⟩⟩⟩⟩ h
      · replace h := h.2 k10
        refine aw_aload_n dX10_deepestOver_30 rfl rfl ?_
        obtain ⟨lc12, h⟩ := h
        refine aw_getA' rfl fk_1003 (by decide) lf_X10_11 dX10_deepestOver_31 (LC.ne lc12 rfl rfl) ?_
        refine aw_iload_n dX10_deepestOver_34 rfl rfl ?_
        refine aw_aaload (ci := 5) (by decide) rfl (by decide +kernel) dX10_deepestOver_35 c3 (LC.lt lc12 rfl rfl c3x) ?_
        obtain ⟨r13, e14, h⟩ := h
        refine aw_getI' e14 fk_512 lf_X10_54 dX10_deepestOver_36 ?_
        refine aw_aload_n dX10_deepestOver_39 rfl rfl ?_
        refine aw_getA' rfl fk_1003 (by decide) lf_X10_11 dX10_deepestOver_40 (LC.ne lc12 rfl rfl) ?_
        refine aw_iload_n dX10_deepestOver_43 rfl rfl ?_
        obtain ⟨⟨c15, c15x⟩, h⟩ := h
        refine aw_aaload (ci := 5) (by decide) rfl (by decide +kernel) dX10_deepestOver_44 c15 (LC.lt lc12 rfl rfl c15x) ?_
        obtain ⟨r16, e17, h⟩ := h
        refine aw_getI' e17 fk_512 lf_X10_54 dX10_deepestOver_45 ?_
        refine aw_icmp_le (tgt := 53) dX10_deepestOver_48 (by decide) (fun k18 => ?_) (fun k18 => ?_)
        · replace h := h.1 k18
          obtain ⟨⟨c19, c19x⟩, h⟩ := h
          refine aw_iincc (L' := [some (vR 10 (some x0)), some (vI x1), some (vI x2), some (vI (x3 + 1))]) dX10_deepestOver_53 rfl (by decide) rfl c19 c19x rfl ?_
          refine aw_goto (tgt := 4) dX10_deepestOver_56 (by decide) ?_
          exact aw_fgt (L' := [some (vR 10 (some x0)), some (vI x1), some (vI x2), some (vI (x3 + 1))]) ⟨rfl, ⟨rfl, ⟨rfl, ⟨rfl, trivial⟩⟩⟩⟩ h
        · replace h := h.2 k18
          refine aw_iload_n dX10_deepestOver_51 rfl rfl ?_
          refine aw_istore_n (L' := [some (vR 10 (some x0)), some (vI x1), some (vI x3), some (vI x3)]) dX10_deepestOver_52 rfl (by decide) rfl ?_
          obtain ⟨⟨c20, c20x⟩, h⟩ := h
          refine aw_iincc (L' := [some (vR 10 (some x0)), some (vI x1), some (vI x3), some (vI (x3 + 1))]) dX10_deepestOver_53 rfl (by decide) rfl c20 c20x rfl ?_
          refine aw_goto (tgt := 4) dX10_deepestOver_56 (by decide) ?_
          exact aw_fgt (L' := [some (vR 10 (some x0)), some (vI x1), some (vI x3), some (vI (x3 + 1))]) ⟨rfl, ⟨rfl, ⟨rfl, ⟨rfl, trivial⟩⟩⟩⟩ h
set_option maxRecDepth 4000 in
theorem bk_X10_due_0 {g : GP} {l : Launch} {d : Nat} {σ : St} {Q : Option AV → St → Prop} {x0 : Nat} {x1 : Option Nat}
    (h : ∃ r1, x1 = some r1 ∧ ∃ r3, gR σ 513 r1 0 = some r3 ∧ AW g l (d + 1) MX10_due 18 [some (vR 10 (some x0)), some (vR 5 x1), some (vJ 0), none, some (vI (j2i (gJ σ 211 r3 0))), some (vI (gI σ 1008 x0 0)), none] [] σ Q) :
    AW g l (d + 1) MX10_due 0 [some (vR 10 (some x0)), some (vR 5 x1), none, none, none, none, none] [] σ Q := by
  refine aw_lconst (x := 0) dX10_due_0 rfl ?_
  refine aw_lstore_n (L' := [some (vR 10 (some x0)), some (vR 5 x1), some (vJ 0), none, none, none, none]) dX10_due_1 rfl (by decide) rfl ?_
  refine aw_aload_n dX10_due_2 rfl rfl ?_
  obtain ⟨r1, e2, h⟩ := h
  refine aw_getR' (ci := 2) e2 fk_513 (by decide +kernel) lf_X10_78 dX10_due_3 ?_
  obtain ⟨r3, e4, h⟩ := h
  refine aw_getJ' e4 fk_211 lf_X10_269 dX10_due_6 ?_
  refine aw_l2i dX10_due_9 ?_
  refine aw_istore (L' := [some (vR 10 (some x0)), some (vR 5 x1), some (vJ 0), none, some (vI (j2i (gJ σ 211 r3 0))), none, none]) dX10_due_10 (by decide) rfl ?_
  refine aw_aload_n dX10_due_12 rfl rfl ?_
  refine aw_getI' rfl fk_1008 lf_X10_299 dX10_due_13 ?_
  refine aw_istore (L' := [some (vR 10 (some x0)), some (vR 5 x1), some (vJ 0), none, some (vI (j2i (gJ σ 211 r3 0))), some (vI (gI σ 1008 x0 0)), none]) dX10_due_16 (by decide) rfl ?_
  exact aw_fgt (L' := [some (vR 10 (some x0)), some (vR 5 x1), some (vJ 0), none, some (vI (j2i (gJ σ 211 r3 0))), some (vI (gI σ 1008 x0 0)), none]) ⟨rfl, ⟨rfl, ⟨rfl, ⟨rfl, ⟨rfl, trivial⟩⟩⟩⟩⟩ h
set_option maxRecDepth 4000 in
theorem bk_X10_due_18 {g : GP} {l : Launch} {d : Nat} {σ : St} {Q : Option AV → St → Prop} {x0 : Nat} {x1 : Option Nat} {x2 : Int64} {x4 : Int} {x5 : Int}
    (h : (((gI σ 1009 x0 0) ≤ x5 → ((¬ x4 = 219 → Q (some (vJ x2)) σ) ∧ (x4 = 219 → Q (some (vJ (((-1) : Int64) - x2))) σ))) ∧ (¬ (gI σ 1009 x0 0) ≤ x5 → ∃ r3, x1 = some r3 ∧ ACi g l d MX5_covers [vR 5 (some r3), vI x5] σ (fun v6 σ5 => ((¬ v6 = 0 → R32 (x5 + 1) ∧ AW g l (d + 1) MX10_due 18 [some (vR 10 (some x0)), some (vR 5 x1), some (vJ x2), none, some (vI x4), some (vI (x5 + 1)), none] [] σ5 Q) ∧ (v6 = 0 → ∃ r9, gR σ5 1000 x0 0 = some r9 ∧ ACi g l d MX3_has [vR 3 (some r9), vI x5] σ5 (fun v12 σ11 => ((¬ x4 = 218 → ((¬ x4 = 220 → R32 (x5 + 1) ∧ AW g l (d + 1) MX10_due 18 [some (vR 10 (some x0)), some (vR 5 x1), some (vJ (x2 + (i2j v12))), none, some (vI x4), some (vI (x5 + 1)), none] [] σ11 Q) ∧ (x4 = 220 → R32 (x5 + 1) ∧ AW g l (d + 1) MX10_due 18 [some (vR 10 (some x0)), some (vR 5 x1), some (vJ ((x2 * (31 : Int64)) + (i2j v12))), none, some (vI x4), some (vI (x5 + 1)), none] [] σ11 Q))) ∧ (x4 = 218 → R32 (x5 + 1) ∧ AW g l (d + 1) MX10_due 18 [some (vR 10 (some x0)), some (vR 5 x1), some (vJ (x2 ^^^ (i2j v12))), none, some (vI x4), some (vI (x5 + 1)), none] [] σ11 Q))))))))) :
    AW g l (d + 1) MX10_due 18 [some (vR 10 (some x0)), some (vR 5 x1), some (vJ x2), none, some (vI x4), some (vI x5), none] [] σ Q := by
  refine aw_iload dX10_due_18 rfl ?_
  refine aw_aload_n dX10_due_20 rfl rfl ?_
  refine aw_getI' rfl fk_1009 lf_X10_302 dX10_due_21 ?_
  refine aw_icmp_ge (tgt := 95) dX10_due_24 (by decide) (fun k1 => ?_) (fun k1 => ?_)
  · replace h := h.1 k1
    refine aw_iload dX10_due_95 rfl ?_
    refine aw_sipush (x := 219) dX10_due_97 rfl ?_
    refine aw_icmp_ne (tgt := 111) dX10_due_100 (by decide) (fun k2 => ?_) (fun k2 => ?_)
    · replace h := h.1 k2
      refine aw_lload_n dX10_due_111 rfl rfl ?_
      exact aw_lreturn dX10_due_112 rfl h
    · replace h := h.2 k2
      refine aw_ldc2 lk_X10_287 dX10_due_103 ?_
      refine aw_lload_n dX10_due_106 rfl rfl ?_
      refine aw_lsub dX10_due_107 ?_
      refine aw_goto (tgt := 112) dX10_due_108 (by decide) ?_
      exact aw_lreturn dX10_due_112 rfl h
  · replace h := h.2 k1
    refine aw_aload_n dX10_due_27 rfl rfl ?_
    refine aw_iload dX10_due_28 rfl ?_
    obtain ⟨r3, e4, h⟩ := h
    refine aw_invVi (M := MX10_due) (ci := 5) [vI x5] e4 mo_X5_covers rfl lm_X10_50 li_X5_covers ls_X5_covers (by decide +kernel) dX10_due_30 rfl (Nat.le_of_ble_eq_true rfl) (ACi.mono (fun v6 σ5 h => ?_) h)
    refine aw_if_ne (tgt := 89) dX10_due_33 (by decide) (fun k7 => ?_) (fun k7 => ?_)
    · replace h := h.1 k7
      obtain ⟨⟨c8, c8x⟩, h⟩ := h
      refine aw_iincc (L' := [some (vR 10 (some x0)), some (vR 5 x1), some (vJ x2), none, some (vI x4), some (vI (x5 + 1)), none]) dX10_due_89 rfl (by decide) rfl c8 c8x rfl ?_
      refine aw_goto (tgt := 18) dX10_due_92 (by decide) ?_
      exact aw_fgt (L' := [some (vR 10 (some x0)), some (vR 5 x1), some (vJ x2), none, some (vI x4), some (vI (x5 + 1)), none]) ⟨rfl, ⟨rfl, ⟨rfl, ⟨rfl, ⟨rfl, trivial⟩⟩⟩⟩⟩ h
    · replace h := h.2 k7
      refine aw_aload_n dX10_due_36 rfl rfl ?_
      refine aw_getR' (ci := 3) rfl fk_1000 (by decide +kernel) lf_X10_17 dX10_due_37 ?_
      refine aw_iload dX10_due_40 rfl ?_
      obtain ⟨r9, e10, h⟩ := h
      refine aw_invVi (M := MX10_due) (ci := 3) [vI x5] e10 mo_X3_has rfl lm_X10_289 li_X3_has ls_X3_has (by decide +kernel) dX10_due_42 rfl (Nat.le_of_ble_eq_true rfl) (ACi.mono (fun v12 σ11 h => ?_) h)
      refine aw_istore (L' := [some (vR 10 (some x0)), some (vR 5 x1), some (vJ x2), none, some (vI x4), some (vI x5), some (vI v12)]) dX10_due_45 (by decide) rfl ?_
      refine aw_iload dX10_due_47 rfl ?_
      refine aw_sipush (x := 218) dX10_due_49 rfl ?_
      refine aw_icmp_ne (tgt := 63) dX10_due_52 (by decide) (fun k13 => ?_) (fun k13 => ?_)
      · replace h := h.1 k13
        refine aw_iload dX10_due_63 rfl ?_
        refine aw_sipush (x := 220) dX10_due_65 rfl ?_
        refine aw_icmp_ne (tgt := 83) dX10_due_68 (by decide) (fun k14 => ?_) (fun k14 => ?_)
        · replace h := h.1 k14
          refine aw_lload_n dX10_due_83 rfl rfl ?_
          refine aw_iload dX10_due_84 rfl ?_
          refine aw_i2l dX10_due_86 ?_
          refine aw_ladd dX10_due_87 ?_
          refine aw_lstore_n (L' := [some (vR 10 (some x0)), some (vR 5 x1), some (vJ (x2 + (i2j v12))), none, some (vI x4), some (vI x5), some (vI v12)]) dX10_due_88 rfl (by decide) rfl ?_
          obtain ⟨⟨c15, c15x⟩, h⟩ := h
          refine aw_iincc (L' := [some (vR 10 (some x0)), some (vR 5 x1), some (vJ (x2 + (i2j v12))), none, some (vI x4), some (vI (x5 + 1)), some (vI v12)]) dX10_due_89 rfl (by decide) rfl c15 c15x rfl ?_
          refine aw_goto (tgt := 18) dX10_due_92 (by decide) ?_
          exact aw_fgt (L' := [some (vR 10 (some x0)), some (vR 5 x1), some (vJ (x2 + (i2j v12))), none, some (vI x4), some (vI (x5 + 1)), none]) ⟨rfl, ⟨rfl, ⟨rfl, ⟨rfl, ⟨rfl, trivial⟩⟩⟩⟩⟩ h
        · replace h := h.2 k14
          refine aw_lload_n dX10_due_71 rfl rfl ?_
          refine aw_ldc2 lk_X10_305 dX10_due_72 ?_
          refine aw_lmul dX10_due_75 ?_
          refine aw_iload dX10_due_76 rfl ?_
          refine aw_i2l dX10_due_78 ?_
          refine aw_ladd dX10_due_79 ?_
          refine aw_goto (tgt := 88) dX10_due_80 (by decide) ?_
          refine aw_lstore_n (L' := [some (vR 10 (some x0)), some (vR 5 x1), some (vJ ((x2 * (31 : Int64)) + (i2j v12))), none, some (vI x4), some (vI x5), some (vI v12)]) dX10_due_88 rfl (by decide) rfl ?_
          obtain ⟨⟨c16, c16x⟩, h⟩ := h
          refine aw_iincc (L' := [some (vR 10 (some x0)), some (vR 5 x1), some (vJ ((x2 * (31 : Int64)) + (i2j v12))), none, some (vI x4), some (vI (x5 + 1)), some (vI v12)]) dX10_due_89 rfl (by decide) rfl c16 c16x rfl ?_
          refine aw_goto (tgt := 18) dX10_due_92 (by decide) ?_
          exact aw_fgt (L' := [some (vR 10 (some x0)), some (vR 5 x1), some (vJ ((x2 * (31 : Int64)) + (i2j v12))), none, some (vI x4), some (vI (x5 + 1)), none]) ⟨rfl, ⟨rfl, ⟨rfl, ⟨rfl, ⟨rfl, trivial⟩⟩⟩⟩⟩ h
      · replace h := h.2 k13
        refine aw_lload_n dX10_due_55 rfl rfl ?_
        refine aw_iload dX10_due_56 rfl ?_
        refine aw_i2l dX10_due_58 ?_
        refine aw_lxor dX10_due_59 ?_
        refine aw_goto (tgt := 88) dX10_due_60 (by decide) ?_
        refine aw_lstore_n (L' := [some (vR 10 (some x0)), some (vR 5 x1), some (vJ (x2 ^^^ (i2j v12))), none, some (vI x4), some (vI x5), some (vI v12)]) dX10_due_88 rfl (by decide) rfl ?_
        obtain ⟨⟨c17, c17x⟩, h⟩ := h
        refine aw_iincc (L' := [some (vR 10 (some x0)), some (vR 5 x1), some (vJ (x2 ^^^ (i2j v12))), none, some (vI x4), some (vI (x5 + 1)), some (vI v12)]) dX10_due_89 rfl (by decide) rfl c17 c17x rfl ?_
        refine aw_goto (tgt := 18) dX10_due_92 (by decide) ?_
        exact aw_fgt (L' := [some (vR 10 (some x0)), some (vR 5 x1), some (vJ (x2 ^^^ (i2j v12))), none, some (vI x4), some (vI (x5 + 1)), none]) ⟨rfl, ⟨rfl, ⟨rfl, ⟨rfl, ⟨rfl, trivial⟩⟩⟩⟩⟩ h
set_option maxRecDepth 4000 in
theorem bk_X10_faultCount_0 {g : GP} {l : Launch} {d : Nat} {σ : St} {Q : Option AV → St → Prop} {x0 : Nat}
    (h : AW g l d MX10_faultCount 4 [some (vR 10 (some x0)), some (vI 0), some (vI 0)] [] σ Q) :
    AW g l d MX10_faultCount 0 [some (vR 10 (some x0)), none, none] [] σ Q := by
  refine aw_iconst (x := 0) dX10_faultCount_0 rfl ?_
  refine aw_istore_n (L' := [some (vR 10 (some x0)), some (vI 0), none]) dX10_faultCount_1 rfl (by decide) rfl ?_
  refine aw_iconst (x := 0) dX10_faultCount_2 rfl ?_
  refine aw_istore_n (L' := [some (vR 10 (some x0)), some (vI 0), some (vI 0)]) dX10_faultCount_3 rfl (by decide) rfl ?_
  exact aw_fgt (L' := [some (vR 10 (some x0)), some (vI 0), some (vI 0)]) ⟨rfl, ⟨rfl, ⟨rfl, trivial⟩⟩⟩ h
set_option maxRecDepth 4000 in
theorem bk_X10_faultCount_4 {g : GP} {l : Launch} {d : Nat} {σ : St} {Q : Option AV → St → Prop} {x0 : Nat} {x1 : Int} {x2 : Int}
    (h : (((gI σ 1004 x0 0) ≤ x2 → Q (some (vI x1)) σ) ∧ (¬ (gI σ 1004 x0 0) ≤ x2 → LC 10 σ x0 ∧ Bd x2 400 ∧ ∃ r4, gR σ 1003 x0 x2.toNat = some r4 ∧ ((¬ (gI σ 504 r4 0) = 0 → R32 (x1 + 1) ∧ R32 (x2 + 1) ∧ AW g l d MX10_faultCount 4 [some (vR 10 (some x0)), some (vI (x1 + 1)), some (vI (x2 + 1))] [] σ Q) ∧ ((gI σ 504 r4 0) = 0 → R32 (x1 + 0) ∧ R32 (x2 + 1) ∧ AW g l d MX10_faultCount 4 [some (vR 10 (some x0)), some (vI (x1 + 0)), some (vI (x2 + 1))] [] σ Q))))) :
    AW g l d MX10_faultCount 4 [some (vR 10 (some x0)), some (vI x1), some (vI x2)] [] σ Q := by
  refine aw_iload_n dX10_faultCount_4 rfl rfl ?_
  refine aw_aload_n dX10_faultCount_5 rfl rfl ?_
  refine aw_getI' rfl fk_1004 lf_X10_36 dX10_faultCount_6 ?_
  refine aw_icmp_ge (tgt := 38) dX10_faultCount_9 (by decide) (fun k1 => ?_) (fun k1 => ?_)
  · replace h := h.1 k1
    refine aw_iload_n dX10_faultCount_38 rfl rfl ?_
    exact aw_ireturn dX10_faultCount_39 rfl h
  · replace h := h.2 k1
    refine aw_iload_n dX10_faultCount_12 rfl rfl ?_
    refine aw_aload_n dX10_faultCount_13 rfl rfl ?_
    obtain ⟨lc2, h⟩ := h
    refine aw_getA' rfl fk_1003 (by decide) lf_X10_11 dX10_faultCount_14 (LC.ne lc2 rfl rfl) ?_
    refine aw_iload_n dX10_faultCount_17 rfl rfl ?_
    obtain ⟨⟨c3, c3x⟩, h⟩ := h
    refine aw_aaload (ci := 5) (by decide) rfl (by decide +kernel) dX10_faultCount_18 c3 (LC.lt lc2 rfl rfl c3x) ?_
    obtain ⟨r4, e5, h⟩ := h
    refine aw_getI' e5 fk_504 lf_X10_47 dX10_faultCount_19 ?_
    refine aw_if_ne (tgt := 29) dX10_faultCount_22 (by decide) (fun k6 => ?_) (fun k6 => ?_)
    · replace h := h.1 k6
      refine aw_iconst (x := 1) dX10_faultCount_29 rfl ?_
      obtain ⟨⟨c7, c7x⟩, h⟩ := h
      refine aw_iaddc dX10_faultCount_30 c7 c7x ?_
      refine aw_istore_n (L' := [some (vR 10 (some x0)), some (vI (x1 + 1)), some (vI x2)]) dX10_faultCount_31 rfl (by decide) rfl ?_
      obtain ⟨⟨c8, c8x⟩, h⟩ := h
      refine aw_iincc (L' := [some (vR 10 (some x0)), some (vI (x1 + 1)), some (vI (x2 + 1))]) dX10_faultCount_32 rfl (by decide) rfl c8 c8x rfl ?_
      refine aw_goto (tgt := 4) dX10_faultCount_35 (by decide) ?_
      exact aw_fgt (L' := [some (vR 10 (some x0)), some (vI (x1 + 1)), some (vI (x2 + 1))]) ⟨rfl, ⟨rfl, ⟨rfl, trivial⟩⟩⟩ h
    · replace h := h.2 k6
      refine aw_iconst (x := 0) dX10_faultCount_25 rfl ?_
      refine aw_goto (tgt := 30) dX10_faultCount_26 (by decide) ?_
      obtain ⟨⟨c9, c9x⟩, h⟩ := h
      refine aw_iaddc dX10_faultCount_30 c9 c9x ?_
      refine aw_istore_n (L' := [some (vR 10 (some x0)), some (vI (x1 + 0)), some (vI x2)]) dX10_faultCount_31 rfl (by decide) rfl ?_
      obtain ⟨⟨c10, c10x⟩, h⟩ := h
      refine aw_iincc (L' := [some (vR 10 (some x0)), some (vI (x1 + 0)), some (vI (x2 + 1))]) dX10_faultCount_32 rfl (by decide) rfl c10 c10x rfl ?_
      refine aw_goto (tgt := 4) dX10_faultCount_35 (by decide) ?_
      exact aw_fgt (L' := [some (vR 10 (some x0)), some (vI (x1 + 0)), some (vI (x2 + 1))]) ⟨rfl, ⟨rfl, ⟨rfl, trivial⟩⟩⟩ h
set_option maxRecDepth 4000 in
theorem bk_X10_fillingAmount_0 {g : GP} {l : Launch} {d : Nat} {σ : St} {Q : Option AV → St → Prop} {x0 : Nat} {x1 : Option Nat} {x2 : Option Nat}
    (h : ∃ r1, x2 = some r1 ∧ ((¬ (gI σ 206 r1 0) = (-1) → ∃ r4, gR σ 1006 x0 0 = some r4 ∧ ACi g l d MX1_sizeOf [vR 1 (some r4), vI (gI σ 206 r1 0)] σ (fun v7 σ6 => AW g l (d + 1) MX10_fillingAmount 26 [some (vR 10 (some x0)), some (vR 5 x1), none, none] [vI v7] σ6 Q)) ∧ ((gI σ 206 r1 0) = (-1) → AW g l (d + 1) MX10_fillingAmount 26 [some (vR 10 (some x0)), some (vR 5 x1), none, none] [vI (gI σ 203 r1 0)] σ Q))) :
    AW g l (d + 1) MX10_fillingAmount 0 [some (vR 10 (some x0)), some (vR 5 x1), some (vR 2 x2), none] [] σ Q := by
  refine aw_aload_n dX10_fillingAmount_0 rfl rfl ?_
  obtain ⟨r1, e2, h⟩ := h
  refine aw_getI' e2 fk_206 lf_X10_173 dX10_fillingAmount_1 ?_
  refine aw_iconst (x := (-1)) dX10_fillingAmount_4 rfl ?_
  refine aw_icmp_ne (tgt := 15) dX10_fillingAmount_5 (by decide) (fun k3 => ?_) (fun k3 => ?_)
  · replace h := h.1 k3
    refine aw_aload_n dX10_fillingAmount_15 rfl rfl ?_
    refine aw_getR' (ci := 1) rfl fk_1006 (by decide +kernel) lf_X10_28 dX10_fillingAmount_16 ?_
    refine aw_aload_n dX10_fillingAmount_19 rfl rfl ?_
    refine aw_getI' e2 fk_206 lf_X10_173 dX10_fillingAmount_20 ?_
    obtain ⟨r4, e5, h⟩ := h
    refine aw_invVi (M := MX10_fillingAmount) (ci := 1) [vI (gI σ 206 r1 0)] e5 mo_X1_sizeOf rfl lm_X10_225 li_X1_sizeOf ls_X1_sizeOf (by decide +kernel) dX10_fillingAmount_23 rfl (Nat.le_of_ble_eq_true rfl) (ACi.mono (fun v7 σ6 h => ?_) h)
    exact aw_fgt (L' := [some (vR 10 (some x0)), some (vR 5 x1), none, none]) ⟨rfl, ⟨rfl, trivial⟩⟩ h
  · replace h := h.2 k3
    refine aw_aload_n dX10_fillingAmount_8 rfl rfl ?_
    refine aw_getI' e2 fk_203 lf_X10_90 dX10_fillingAmount_9 ?_
    refine aw_goto (tgt := 26) dX10_fillingAmount_12 (by decide) ?_
    exact aw_fgt (L' := [some (vR 10 (some x0)), some (vR 5 x1), none, none]) ⟨rfl, ⟨rfl, trivial⟩⟩ h
set_option maxRecDepth 4000 in
theorem bk_X10_fillingAmount_26 {g : GP} {l : Launch} {d : Nat} {σ : St} {Q : Option AV → St → Prop} {x0 : Nat} {x1 : Option Nat} {y0 : Int}
    (h : ((0 < y0 → ∃ r2, gR σ 1000 x0 0 = some r2 ∧ ∃ r4, x1 = some r4 ∧ R32 ((gI σ 304 r2 0) - (gI σ 502 r4 0)) ∧ ¬ y0 = 0 ∧ ACi g l d MJ9_min_7cf53 [vI 200, vI (i_div ((gI σ 304 r2 0) - (gI σ 502 r4 0)) y0)] σ (fun v8 σ7 => Q (some (vI v8)) σ7)) ∧ (¬ 0 < y0 → Q (some (vI 0)) σ))) :
    AW g l (d + 1) MX10_fillingAmount 26 [some (vR 10 (some x0)), some (vR 5 x1), none, none] [vI y0] σ Q := by
  refine aw_istore_n (L' := [some (vR 10 (some x0)), some (vR 5 x1), none, some (vI y0)]) dX10_fillingAmount_26 rfl (by decide) rfl ?_
  refine aw_iload_n dX10_fillingAmount_27 rfl rfl ?_
  refine aw_if_gt (tgt := 35) dX10_fillingAmount_28 (by decide) (fun k1 => ?_) (fun k1 => ?_)
  · replace h := h.1 k1
    refine aw_sipush (x := 200) dX10_fillingAmount_35 rfl ?_
    refine aw_aload_n dX10_fillingAmount_38 rfl rfl ?_
    refine aw_getR' (ci := 3) rfl fk_1000 (by decide +kernel) lf_X10_17 dX10_fillingAmount_39 ?_
    obtain ⟨r2, e3, h⟩ := h
    refine aw_getI' e3 fk_304 lf_X10_73 dX10_fillingAmount_42 ?_
    refine aw_aload_n dX10_fillingAmount_45 rfl rfl ?_
    obtain ⟨r4, e5, h⟩ := h
    refine aw_getI' e5 fk_502 lf_X10_67 dX10_fillingAmount_46 ?_
    obtain ⟨⟨c6, c6x⟩, h⟩ := h
    refine aw_isubc dX10_fillingAmount_49 c6 c6x ?_
    refine aw_iload_n dX10_fillingAmount_50 rfl rfl ?_
    obtain ⟨h0, h⟩ := h
    refine aw_idiv dX10_fillingAmount_51 h0 ?_
    refine aw_invSi (M := MX10_fillingAmount) [vI 200, vI (i_div ((gI σ 304 r2 0) - (gI σ 502 r4 0)) y0)] mo_J9_min_7cf53 rfl lm_X10_229 lt_J9_min_7cf53 dX10_fillingAmount_52 rfl (Nat.le_of_ble_eq_true rfl) (ACi.mono (fun v8 σ7 h => ?_) h)
    exact aw_ireturn dX10_fillingAmount_55 rfl h
  · replace h := h.2 k1
    refine aw_iconst (x := 0) dX10_fillingAmount_31 rfl ?_
    refine aw_goto (tgt := 55) dX10_fillingAmount_32 (by decide) ?_
    exact aw_ireturn dX10_fillingAmount_55 rfl h
set_option maxRecDepth 4000 in
theorem bk_X10_firstFault_0 {g : GP} {l : Launch} {d : Nat} {σ : St} {Q : Option AV → St → Prop} {x0 : Nat}
    (h : AW g l d MX10_firstFault 2 [some (vR 10 (some x0)), some (vI 0)] [] σ Q) :
    AW g l d MX10_firstFault 0 [some (vR 10 (some x0)), none] [] σ Q := by
  refine aw_iconst (x := 0) dX10_firstFault_0 rfl ?_
  refine aw_istore_n (L' := [some (vR 10 (some x0)), some (vI 0)]) dX10_firstFault_1 rfl (by decide) rfl ?_
  exact aw_fgt (L' := [some (vR 10 (some x0)), some (vI 0)]) ⟨rfl, ⟨rfl, trivial⟩⟩ h
set_option maxRecDepth 4000 in
theorem bk_X10_firstFault_2 {g : GP} {l : Launch} {d : Nat} {σ : St} {Q : Option AV → St → Prop} {x0 : Nat} {x1 : Int}
    (h : (((gI σ 1004 x0 0) ≤ x1 → Q (some (vI (-1))) σ) ∧ (¬ (gI σ 1004 x0 0) ≤ x1 → LC 10 σ x0 ∧ Bd x1 400 ∧ ∃ r4, gR σ 1003 x0 x1.toNat = some r4 ∧ (((gI σ 504 r4 0) = 0 → R32 (x1 + 1) ∧ AW g l d MX10_firstFault 2 [some (vR 10 (some x0)), some (vI (x1 + 1))] [] σ Q) ∧ (¬ (gI σ 504 r4 0) = 0 → Q (some (vI x1)) σ))))) :
    AW g l d MX10_firstFault 2 [some (vR 10 (some x0)), some (vI x1)] [] σ Q := by
  refine aw_iload_n dX10_firstFault_2 rfl rfl ?_
  refine aw_aload_n dX10_firstFault_3 rfl rfl ?_
  refine aw_getI' rfl fk_1004 lf_X10_36 dX10_firstFault_4 ?_
  refine aw_icmp_ge (tgt := 30) dX10_firstFault_7 (by decide) (fun k1 => ?_) (fun k1 => ?_)
  · replace h := h.1 k1
    refine aw_iconst (x := (-1)) dX10_firstFault_30 rfl ?_
    exact aw_ireturn dX10_firstFault_31 rfl h
  · replace h := h.2 k1
    refine aw_aload_n dX10_firstFault_10 rfl rfl ?_
    obtain ⟨lc2, h⟩ := h
    refine aw_getA' rfl fk_1003 (by decide) lf_X10_11 dX10_firstFault_11 (LC.ne lc2 rfl rfl) ?_
    refine aw_iload_n dX10_firstFault_14 rfl rfl ?_
    obtain ⟨⟨c3, c3x⟩, h⟩ := h
    refine aw_aaload (ci := 5) (by decide) rfl (by decide +kernel) dX10_firstFault_15 c3 (LC.lt lc2 rfl rfl c3x) ?_
    obtain ⟨r4, e5, h⟩ := h
    refine aw_getI' e5 fk_504 lf_X10_47 dX10_firstFault_16 ?_
    refine aw_if_eq (tgt := 24) dX10_firstFault_19 (by decide) (fun k6 => ?_) (fun k6 => ?_)
    · replace h := h.1 k6
      obtain ⟨⟨c7, c7x⟩, h⟩ := h
      refine aw_iincc (L' := [some (vR 10 (some x0)), some (vI (x1 + 1))]) dX10_firstFault_24 rfl (by decide) rfl c7 c7x rfl ?_
      refine aw_goto (tgt := 2) dX10_firstFault_27 (by decide) ?_
      exact aw_fgt (L' := [some (vR 10 (some x0)), some (vI (x1 + 1))]) ⟨rfl, ⟨rfl, trivial⟩⟩ h
    · replace h := h.2 k6
      refine aw_iload_n dX10_firstFault_22 rfl rfl ?_
      exact aw_ireturn dX10_firstFault_23 rfl h
set_option maxRecDepth 4000 in
theorem bk_X10_isAbove_0 {g : GP} {l : Launch} {d : Nat} {σ : St} {Q : Option AV → St → Prop} {x0 : Option Nat} {x1 : Int} {x2 : Int}
    (h : ∃ r1, x0 = some r1 ∧ AW g l d MX10_isAbove 5 [none, some (vI x1), some (vI x2), some (vR 5 (gR σ 507 r1 0))] [] σ Q) :
    AW g l d MX10_isAbove 0 [some (vR 5 x0), some (vI x1), some (vI x2), none] [] σ Q := by
  refine aw_aload_n dX10_isAbove_0 rfl rfl ?_
  obtain ⟨r1, e2, h⟩ := h
  refine aw_getR' (ci := 5) e2 fk_507 (by decide +kernel) lf_X10_82 dX10_isAbove_1 ?_
  refine aw_astore_n (L' := [some (vR 5 x0), some (vI x1), some (vI x2), some (vR 5 (gR σ 507 r1 0))]) dX10_isAbove_4 rfl (by decide) rfl ?_
  exact aw_fgt (L' := [none, some (vI x1), some (vI x2), some (vR 5 (gR σ 507 r1 0))]) ⟨rfl, ⟨rfl, ⟨rfl, trivial⟩⟩⟩ h
set_option maxRecDepth 4000 in
theorem bk_X10_isAbove_5 {g : GP} {l : Launch} {d : Nat} {σ : St} {Q : Option AV → St → Prop} {x1 : Int} {x2 : Int} {x3 : Option Nat}
    (h : ((x3 = none → Q (some (vI 0)) σ) ∧ (∀ r1, x3 = some r1 → ((¬ (gI σ 501 r1 0) = 0 → AW g l d MX10_isAbove 5 [none, some (vI x1), some (vI x2), some (vR 5 (gR σ 507 r1 0))] [] σ Q) ∧ ((gI σ 501 r1 0) = 0 → ((¬ (gI σ 514 r1 0) = x1 → AW g l d MX10_isAbove 5 [none, some (vI x1), some (vI x2), some (vR 5 (gR σ 507 r1 0))] [] σ Q) ∧ ((gI σ 514 r1 0) = x1 → ((¬ (gI σ 502 r1 0) = x2 → AW g l d MX10_isAbove 5 [none, some (vI x1), some (vI x2), some (vR 5 (gR σ 507 r1 0))] [] σ Q) ∧ ((gI σ 502 r1 0) = x2 → Q (some (vI 1)) σ))))))))) :
    AW g l d MX10_isAbove 5 [none, some (vI x1), some (vI x2), some (vR 5 x3)] [] σ Q := by
  refine aw_aload_n dX10_isAbove_5 rfl rfl ?_
  refine aw_ifnull (tgt := 42) dX10_isAbove_6 (by decide) (fun hc => ?_) (fun r1 e2 => ?_)
  · replace h := h.1 hc
    refine aw_iconst (x := 0) dX10_isAbove_42 rfl ?_
    exact aw_zreturn dX10_isAbove_43 rfl (Or.inl rfl) h
  · replace h := h.2 r1 e2
    refine aw_aload_n dX10_isAbove_9 rfl rfl ?_
    refine aw_getI' e2 fk_501 lf_X10_286 dX10_isAbove_10 ?_
    refine aw_if_ne (tgt := 34) dX10_isAbove_13 (by decide) (fun k3 => ?_) (fun k3 => ?_)
    · replace h := h.1 k3
      refine aw_aload_n dX10_isAbove_34 rfl rfl ?_
      refine aw_getR' (ci := 5) e2 fk_507 (by decide +kernel) lf_X10_82 dX10_isAbove_35 ?_
      refine aw_astore_n (L' := [none, some (vI x1), some (vI x2), some (vR 5 (gR σ 507 r1 0))]) dX10_isAbove_38 rfl (by decide) rfl ?_
      refine aw_goto (tgt := 5) dX10_isAbove_39 (by decide) ?_
      exact aw_fgt (L' := [none, some (vI x1), some (vI x2), some (vR 5 (gR σ 507 r1 0))]) ⟨rfl, ⟨rfl, ⟨rfl, trivial⟩⟩⟩ h
    · replace h := h.2 k3
      refine aw_aload_n dX10_isAbove_16 rfl rfl ?_
      refine aw_getI' e2 fk_514 lf_X10_137 dX10_isAbove_17 ?_
      refine aw_iload_n dX10_isAbove_20 rfl rfl ?_
      refine aw_icmp_ne (tgt := 34) dX10_isAbove_21 (by decide) (fun k4 => ?_) (fun k4 => ?_)
      · replace h := h.1 k4
        refine aw_aload_n dX10_isAbove_34 rfl rfl ?_
        refine aw_getR' (ci := 5) e2 fk_507 (by decide +kernel) lf_X10_82 dX10_isAbove_35 ?_
        refine aw_astore_n (L' := [none, some (vI x1), some (vI x2), some (vR 5 (gR σ 507 r1 0))]) dX10_isAbove_38 rfl (by decide) rfl ?_
        refine aw_goto (tgt := 5) dX10_isAbove_39 (by decide) ?_
        exact aw_fgt (L' := [none, some (vI x1), some (vI x2), some (vR 5 (gR σ 507 r1 0))]) ⟨rfl, ⟨rfl, ⟨rfl, trivial⟩⟩⟩ h
      · replace h := h.2 k4
        refine aw_aload_n dX10_isAbove_24 rfl rfl ?_
        refine aw_getI' e2 fk_502 lf_X10_67 dX10_isAbove_25 ?_
        refine aw_iload_n dX10_isAbove_28 rfl rfl ?_
        refine aw_icmp_ne (tgt := 34) dX10_isAbove_29 (by decide) (fun k5 => ?_) (fun k5 => ?_)
        · replace h := h.1 k5
          refine aw_aload_n dX10_isAbove_34 rfl rfl ?_
          refine aw_getR' (ci := 5) e2 fk_507 (by decide +kernel) lf_X10_82 dX10_isAbove_35 ?_
          refine aw_astore_n (L' := [none, some (vI x1), some (vI x2), some (vR 5 (gR σ 507 r1 0))]) dX10_isAbove_38 rfl (by decide) rfl ?_
          refine aw_goto (tgt := 5) dX10_isAbove_39 (by decide) ?_
          exact aw_fgt (L' := [none, some (vI x1), some (vI x2), some (vR 5 (gR σ 507 r1 0))]) ⟨rfl, ⟨rfl, ⟨rfl, trivial⟩⟩⟩ h
        · replace h := h.2 k5
          refine aw_iconst (x := 1) dX10_isAbove_32 rfl ?_
          exact aw_zreturn dX10_isAbove_33 rfl (Or.inr rfl) h
set_option maxRecDepth 4000 in
theorem bk_X10_isThere_0 {g : GP} {l : Launch} {d : Nat} {σ : St} {Q : Option AV → St → Prop} {x0 : Nat} {x1 : Option Nat} {x2 : Option Nat}
    (h : ∃ r1, x1 = some r1 ∧ ((¬ (gI σ 208 r1 0) = (-1) → ∃ r4, gR σ 1006 x0 0 = some r4 ∧ ∃ r6, x2 = some r6 ∧ ∃ r8, gR σ 1007 x0 0 = some r8 ∧ ACj g l d MX7_work [vR 7 (some r8), vR 0 (gR σ 110 r4 0), vI (gI σ 208 r1 0), vR 5 x2, vI (gI σ 503 r6 0), vR 3 (gR σ 1000 x0 0)] σ (fun v11 σ10 => ∃ r12, gR σ10 1007 x0 0 = some r12 ∧ (((gI σ10 700 r12 0) = 0 → AW g l (d + 1) MX10_isThere 61 [some (vR 10 (some x0)), none, none, some (vJ v11), none] [] σ10 Q) ∧ (¬ (gI σ10 700 r12 0) = 0 → ((¬ (gI σ10 504 r6 0) = 0 → AW g l (d + 1) MX10_isThere 61 [some (vR 10 (some x0)), none, none, some (vJ v11), none] [] σ10 Q) ∧ ((gI σ10 504 r6 0) = 0 → AW g l (d + 1) MX10_isThere 61 [some (vR 10 (some x0)), none, none, some (vJ v11), none] [] (sI σ10 504 r6 0 6) Q)))))) ∧ ((gI σ 208 r1 0) = (-1) → Q (some (vI 1)) σ))) :
    AW g l (d + 1) MX10_isThere 0 [some (vR 10 (some x0)), some (vR 2 x1), some (vR 5 x2), none, none] [] σ Q := by
  refine aw_aload_n dX10_isThere_0 rfl rfl ?_
  obtain ⟨r1, e2, h⟩ := h
  refine aw_getI' e2 fk_208 lf_X10_153 dX10_isThere_1 ?_
  refine aw_iconst (x := (-1)) dX10_isThere_4 rfl ?_
  refine aw_icmp_ne (tgt := 10) dX10_isThere_5 (by decide) (fun k3 => ?_) (fun k3 => ?_)
  · replace h := h.1 k3
    refine aw_aload_n dX10_isThere_10 rfl rfl ?_
    refine aw_getR' (ci := 7) rfl fk_1007 (by decide +kernel) lf_X10_32 dX10_isThere_11 ?_
    refine aw_aload_n dX10_isThere_14 rfl rfl ?_
    refine aw_getR' (ci := 1) rfl fk_1006 (by decide +kernel) lf_X10_28 dX10_isThere_15 ?_
    obtain ⟨r4, e5, h⟩ := h
    refine aw_getR' (ci := 0) e5 fk_110 (by decide +kernel) lf_X10_156 dX10_isThere_18 ?_
    refine aw_aload_n dX10_isThere_21 rfl rfl ?_
    refine aw_getI' e2 fk_208 lf_X10_153 dX10_isThere_22 ?_
    refine aw_aload_n dX10_isThere_25 rfl rfl ?_
    refine aw_aload_n dX10_isThere_26 rfl rfl ?_
    obtain ⟨r6, e7, h⟩ := h
    refine aw_getI' e7 fk_503 lf_X10_70 dX10_isThere_27 ?_
    refine aw_aload_n dX10_isThere_30 rfl rfl ?_
    refine aw_getR' (ci := 3) rfl fk_1000 (by decide +kernel) lf_X10_17 dX10_isThere_31 ?_
    obtain ⟨r8, e9, h⟩ := h
    refine aw_invVj (M := MX10_isThere) (ci := 7) [vR 0 (gR σ 110 r4 0), vI (gI σ 208 r1 0), vR 5 x2, vI (gI σ 503 r6 0), vR 3 (gR σ 1000 x0 0)] e9 mo_X7_work rfl lm_X10_160 li_X7_work ls_X7_work (by decide +kernel) dX10_isThere_34 rfl (Nat.le_of_ble_eq_true rfl) (ACj.mono (fun v11 σ10 h => ?_) h)
    refine aw_lstore_n (L' := [some (vR 10 (some x0)), some (vR 2 x1), some (vR 5 x2), some (vJ v11), none]) dX10_isThere_37 rfl (by decide) rfl ?_
    refine aw_aload_n dX10_isThere_38 rfl rfl ?_
    refine aw_getR' (ci := 7) rfl fk_1007 (by decide +kernel) lf_X10_32 dX10_isThere_39 ?_
    obtain ⟨r12, e13, h⟩ := h
    refine aw_getZ' e13 fk_700 lf_X10_166 dX10_isThere_42 ?_
    refine aw_if_eq (tgt := 61) dX10_isThere_45 (by decide) (fun k14 => ?_) (fun k14 => ?_)
    · replace h := h.1 k14
      exact aw_fgt (L' := [some (vR 10 (some x0)), none, none, some (vJ v11), none]) ⟨rfl, ⟨rfl, trivial⟩⟩ h
    · replace h := h.2 k14
      refine aw_aload_n dX10_isThere_48 rfl rfl ?_
      refine aw_getI' e7 fk_504 lf_X10_47 dX10_isThere_49 ?_
      refine aw_if_ne (tgt := 61) dX10_isThere_52 (by decide) (fun k15 => ?_) (fun k15 => ?_)
      · replace h := h.1 k15
        exact aw_fgt (L' := [some (vR 10 (some x0)), none, none, some (vJ v11), none]) ⟨rfl, ⟨rfl, trivial⟩⟩ h
      · replace h := h.2 k15
        refine aw_aload_n dX10_isThere_55 rfl rfl ?_
        refine aw_bipush (x := 6) dX10_isThere_56 rfl ?_
        refine aw_putI' e7 fk_504 (Or.inl rfl) lf_X10_47 dX10_isThere_58 ?_
        exact aw_fgt (L' := [some (vR 10 (some x0)), none, none, some (vJ v11), none]) ⟨rfl, ⟨rfl, trivial⟩⟩ h
  · replace h := h.2 k3
    refine aw_iconst (x := 1) dX10_isThere_8 rfl ?_
    exact aw_zreturn dX10_isThere_9 rfl (Or.inr rfl) h
set_option maxRecDepth 4000 in
theorem bk_X10_isThere_61 {g : GP} {l : Launch} {d : Nat} {σ : St} {Q : Option AV → St → Prop} {x0 : Nat} {x3 : Int64}
    (h : ∃ r1, gR σ 1007 x0 0 = some r1 ∧ ((¬ (gI σ 700 r1 0) = 0 → Q (some (vI 0)) σ) ∧ ((gI σ 700 r1 0) = 0 → ((x3 = (0 : Int64) → Q (some (vI 0)) σ) ∧ (¬ x3 = (0 : Int64) → Q (some (vI 1)) σ))))) :
    AW g l (d + 1) MX10_isThere 61 [some (vR 10 (some x0)), none, none, some (vJ x3), none] [] σ Q := by
  refine aw_aload_n dX10_isThere_61 rfl rfl ?_
  refine aw_getR' (ci := 7) rfl fk_1007 (by decide +kernel) lf_X10_32 dX10_isThere_62 ?_
  obtain ⟨r1, e2, h⟩ := h
  refine aw_getZ' e2 fk_700 lf_X10_166 dX10_isThere_65 ?_
  refine aw_if_ne (tgt := 81) dX10_isThere_68 (by decide) (fun k3 => ?_) (fun k3 => ?_)
  · replace h := h.1 k3
    refine aw_iconst (x := 0) dX10_isThere_81 rfl ?_
    exact aw_zreturn dX10_isThere_82 rfl (Or.inl rfl) h
  · replace h := h.2 k3
    refine aw_lload_n dX10_isThere_71 rfl rfl ?_
    refine aw_lconst (x := 0) dX10_isThere_72 rfl ?_
    refine aw_lcmp_eq (M := MX10_isThere) (tgt := 81) dX10_isThere_73 dX10_isThere_74 (by decide) (fun k4 => ?_) (fun k4 => ?_)
    · replace h := h.1 k4
      refine aw_iconst (x := 0) dX10_isThere_81 rfl ?_
      exact aw_zreturn dX10_isThere_82 rfl (Or.inl rfl) h
    · replace h := h.2 k4
      refine aw_iconst (x := 1) dX10_isThere_77 rfl ?_
      refine aw_goto (tgt := 82) dX10_isThere_78 (by decide) ?_
      exact aw_zreturn dX10_isThere_82 rfl (Or.inr rfl) h
set_option maxRecDepth 4000 in
theorem bk_X10_layAll_0 {g : GP} {l : Launch} {d : Nat} {σ : St} {Q : Option AV → St → Prop} {x0 : Nat} {x1 : Option Nat} {x2 : Int} {x3 : Int} {x4 : Option Nat} {x5 : Option Nat}
    (h : ACi g l d MX10_addStruct [vR 10 (some x0), vR 5 none, vI x2, vI x3, vI 1] (sI (sI (sR (sR (sI (sI (sR σ 1000 x0 0 x1) 1001 x0 0 x2) 1002 x0 0 x3) 1006 x0 0 x4) 1007 x0 0 x5) 1004 x0 0 0) 1005 x0 0 0) (fun v2 σ1 => Q none σ1)) :
    AW g l (d + 1) MX10_layAll 0 [some (vR 10 (some x0)), some (vR 3 x1), some (vI x2), some (vI x3), some (vR 1 x4), some (vR 7 x5)] [] σ Q := by
  refine aw_aload_n dX10_layAll_0 rfl rfl ?_
  refine aw_aload_n dX10_layAll_1 rfl rfl ?_
  refine aw_putR' rfl fk_1000 (by decide +kernel) (Or.inl rfl) lf_X10_17 dX10_layAll_2 ?_
  refine aw_aload_n dX10_layAll_5 rfl rfl ?_
  refine aw_iload_n dX10_layAll_6 rfl rfl ?_
  refine aw_putI' rfl fk_1001 (Or.inl rfl) lf_X10_21 dX10_layAll_7 ?_
  refine aw_aload_n dX10_layAll_10 rfl rfl ?_
  refine aw_iload_n dX10_layAll_11 rfl rfl ?_
  refine aw_putI' rfl fk_1002 (Or.inl rfl) lf_X10_25 dX10_layAll_12 ?_
  refine aw_aload_n dX10_layAll_15 rfl rfl ?_
  refine aw_aload dX10_layAll_16 rfl ?_
  refine aw_putR' rfl fk_1006 (by decide +kernel) (Or.inl rfl) lf_X10_28 dX10_layAll_18 ?_
  refine aw_aload_n dX10_layAll_21 rfl rfl ?_
  refine aw_aload dX10_layAll_22 rfl ?_
  refine aw_putR' rfl fk_1007 (by decide +kernel) (Or.inl rfl) lf_X10_32 dX10_layAll_24 ?_
  refine aw_aload_n dX10_layAll_27 rfl rfl ?_
  refine aw_iconst (x := 0) dX10_layAll_28 rfl ?_
  refine aw_putI' rfl fk_1004 (Or.inl rfl) lf_X10_36 dX10_layAll_29 ?_
  refine aw_aload_n dX10_layAll_32 rfl rfl ?_
  refine aw_iconst (x := 0) dX10_layAll_33 rfl ?_
  refine aw_putZ' rfl fk_1005 (Or.inl rfl) lf_X10_39 dX10_layAll_34 (Or.inl rfl) ?_
  refine aw_aload_n dX10_layAll_37 rfl rfl ?_
  refine aw_null 5 dX10_layAll_38 ?_
  refine aw_iload_n dX10_layAll_39 rfl rfl ?_
  refine aw_iload_n dX10_layAll_40 rfl rfl ?_
  refine aw_iconst (x := 1) dX10_layAll_41 rfl ?_
  refine aw_invVi (M := MX10_layAll) (ci := 10) [vR 5 none, vI x2, vI x3, vI 1] rfl mo_X10_addStruct rfl lm_X10_43 li_X10_addStruct ls_X10_addStruct (by decide +kernel) dX10_layAll_42 rfl (Nat.le_of_ble_eq_true rfl) (ACi.mono (fun v2 σ1 h => ?_) h)
  refine aw_pop dX10_layAll_45 rfl ?_
  exact aw_ret h rfl dX10_layAll_46
set_option maxRecDepth 4000 in
theorem bk_X10_layArray_0 {g : GP} {l : Launch} {d : Nat} {σ : St} {Q : Option AV → St → Prop} {x0 : Nat} {x1 : Option Nat} {x2 : Option Nat} {x3 : Int}
    (h : ∃ r1, x2 = some r1 ∧ ((¬ (gI σ 209 r1 0) = (-1) → ACi g l d MX10_amount [vR 10 (some x0), vR 5 x1, vR 2 x2, vI 200] σ (fun v5 σ4 => AW g l (d + 1) MX10_layArray 34 [some (vR 10 (some x0)), some (vR 5 x1), some (vR 2 x2), some (vI x3), some (vI v5), some (vI 1), some (vI 0), none] [] σ4 Q)) ∧ ((gI σ 209 r1 0) = (-1) → ACi g l d MX10_fillingAmount [vR 10 (some x0), vR 5 x1, vR 2 x2] σ (fun v7 σ6 => AW g l (d + 1) MX10_layArray 34 [some (vR 10 (some x0)), some (vR 5 x1), some (vR 2 x2), some (vI x3), some (vI v7), some (vI 1), some (vI 0), none] [] σ6 Q)))) :
    AW g l (d + 1) MX10_layArray 0 [some (vR 10 (some x0)), some (vR 5 x1), some (vR 2 x2), some (vI x3), none, none, none, none] [] σ Q := by
  refine aw_aload_n dX10_layArray_0 rfl rfl ?_
  obtain ⟨r1, e2, h⟩ := h
  refine aw_getI' e2 fk_209 lf_X10_184 dX10_layArray_1 ?_
  refine aw_iconst (x := (-1)) dX10_layArray_4 rfl ?_
  refine aw_icmp_ne (tgt := 17) dX10_layArray_5 (by decide) (fun k3 => ?_) (fun k3 => ?_)
  · replace h := h.1 k3
    refine aw_aload_n dX10_layArray_17 rfl rfl ?_
    refine aw_aload_n dX10_layArray_18 rfl rfl ?_
    refine aw_aload_n dX10_layArray_19 rfl rfl ?_
    refine aw_sipush (x := 200) dX10_layArray_20 rfl ?_
    refine aw_invVi (M := MX10_layArray) (ci := 10) [vR 5 x1, vR 2 x2, vI 200] rfl mo_X10_amount rfl lm_X10_239 li_X10_amount ls_X10_amount (by decide +kernel) dX10_layArray_23 rfl (Nat.le_of_ble_eq_true rfl) (ACi.mono (fun v5 σ4 h => ?_) h)
    refine aw_istore (L' := [some (vR 10 (some x0)), some (vR 5 x1), some (vR 2 x2), some (vI x3), some (vI v5), none, none, none]) dX10_layArray_26 (by decide) rfl ?_
    refine aw_iconst (x := 1) dX10_layArray_28 rfl ?_
    refine aw_istore (L' := [some (vR 10 (some x0)), some (vR 5 x1), some (vR 2 x2), some (vI x3), some (vI v5), some (vI 1), none, none]) dX10_layArray_29 (by decide) rfl ?_
    refine aw_iconst (x := 0) dX10_layArray_31 rfl ?_
    refine aw_istore (L' := [some (vR 10 (some x0)), some (vR 5 x1), some (vR 2 x2), some (vI x3), some (vI v5), some (vI 1), some (vI 0), none]) dX10_layArray_32 (by decide) rfl ?_
    exact aw_fgt (L' := [some (vR 10 (some x0)), some (vR 5 x1), some (vR 2 x2), some (vI x3), some (vI v5), some (vI 1), some (vI 0), none]) ⟨rfl, ⟨rfl, ⟨rfl, ⟨rfl, ⟨rfl, ⟨rfl, ⟨rfl, trivial⟩⟩⟩⟩⟩⟩⟩ h
  · replace h := h.2 k3
    refine aw_aload_n dX10_layArray_8 rfl rfl ?_
    refine aw_aload_n dX10_layArray_9 rfl rfl ?_
    refine aw_aload_n dX10_layArray_10 rfl rfl ?_
    refine aw_invVi (M := MX10_layArray) (ci := 10) [vR 5 x1, vR 2 x2] rfl mo_X10_fillingAmount rfl lm_X10_235 li_X10_fillingAmount ls_X10_fillingAmount (by decide +kernel) dX10_layArray_11 rfl (Nat.le_of_ble_eq_true rfl) (ACi.mono (fun v7 σ6 h => ?_) h)
    refine aw_goto (tgt := 26) dX10_layArray_14 (by decide) ?_
    refine aw_istore (L' := [some (vR 10 (some x0)), some (vR 5 x1), some (vR 2 x2), some (vI x3), some (vI v7), none, none, none]) dX10_layArray_26 (by decide) rfl ?_
    refine aw_iconst (x := 1) dX10_layArray_28 rfl ?_
    refine aw_istore (L' := [some (vR 10 (some x0)), some (vR 5 x1), some (vR 2 x2), some (vI x3), some (vI v7), some (vI 1), none, none]) dX10_layArray_29 (by decide) rfl ?_
    refine aw_iconst (x := 0) dX10_layArray_31 rfl ?_
    refine aw_istore (L' := [some (vR 10 (some x0)), some (vR 5 x1), some (vR 2 x2), some (vI x3), some (vI v7), some (vI 1), some (vI 0), none]) dX10_layArray_32 (by decide) rfl ?_
    exact aw_fgt (L' := [some (vR 10 (some x0)), some (vR 5 x1), some (vR 2 x2), some (vI x3), some (vI v7), some (vI 1), some (vI 0), none]) ⟨rfl, ⟨rfl, ⟨rfl, ⟨rfl, ⟨rfl, ⟨rfl, ⟨rfl, trivial⟩⟩⟩⟩⟩⟩⟩ h
set_option maxRecDepth 4000 in
theorem bk_X10_layArray_34 {g : GP} {l : Launch} {d : Nat} {σ : St} {Q : Option AV → St → Prop} {x0 : Nat} {x1 : Option Nat} {x2 : Option Nat} {x3 : Int} {x4 : Int} {x5 : Int} {x6 : Int}
    (h : ((x4 ≤ x6 → ((x5 = 0 ∨ x5 = 1) ∧ Q (some (vI x5)) σ)) ∧ (¬ x4 ≤ x6 → ((x5 = 0 → ((x5 = 0 ∨ x5 = 1) ∧ Q (some (vI x5)) σ)) ∧ (¬ x5 = 0 → ((¬ (gI σ 1005 x0 0) = 0 → ((x5 = 0 ∨ x5 = 1) ∧ Q (some (vI x5)) σ)) ∧ ((gI σ 1005 x0 0) = 0 → ∃ r4, x2 = some r4 ∧ (((gI σ 206 r4 0) = (-1) → ∃ r7, x1 = some r7 ∧ ACr g l d MX10_addNode 5 [vR 10 (some x0), vR 5 x1, vI 1, vI (gI σ 503 r7 0), vJ 0, vR 2 x2] σ (fun v10 σ9 => ((v10 = none → AW g l (d + 1) MX10_layArray 121 [some (vR 10 (some x0)), some (vR 5 x1), some (vR 2 x2), some (vI x3), some (vI x4), none, some (vI x6), some (vR 5 v10)] [vI 0] σ9 Q) ∧ (∀ r11, v10 = some r11 → ACi g l d MX10_cover [vR 10 (some x0), vR 5 v10, vI (gI σ9 203 r4 0)] σ9 (fun v14 σ13 => ((v14 = 0 → AW g l (d + 1) MX10_layArray 121 [some (vR 10 (some x0)), some (vR 5 x1), some (vR 2 x2), some (vI x3), some (vI x4), none, some (vI x6), some (vR 5 v10)] [vI 0] σ13 Q) ∧ (¬ v14 = 0 → AW g l (d + 1) MX10_layArray 121 [some (vR 10 (some x0)), some (vR 5 x1), some (vR 2 x2), some (vI x3), some (vI x4), none, some (vI x6), some (vR 5 v10)] [vI 1] σ13 Q))))))) ∧ (¬ (gI σ 206 r4 0) = (-1) → ∃ r16, x1 = some r16 ∧ R32 (x3 + 1) ∧ ACi g l d MX10_addStruct [vR 10 (some x0), vR 5 x1, vI (gI σ 206 r4 0), vI (gI σ 503 r16 0), vI (x3 + 1)] σ (fun v20 σ19 => R32 (x6 + 1) ∧ AW g l (d + 1) MX10_layArray 34 [some (vR 10 (some x0)), some (vR 5 x1), some (vR 2 x2), some (vI x3), some (vI x4), some (vI x5), some (vI (x6 + 1)), none] [] (sI σ19 503 r16 0 v20) Q)))))))))) :
    AW g l (d + 1) MX10_layArray 34 [some (vR 10 (some x0)), some (vR 5 x1), some (vR 2 x2), some (vI x3), some (vI x4), some (vI x5), some (vI x6), none] [] σ Q := by
  refine aw_iload dX10_layArray_34 rfl ?_
  refine aw_iload dX10_layArray_36 rfl ?_
  refine aw_icmp_ge (tgt := 150) dX10_layArray_38 (by decide) (fun k1 => ?_) (fun k1 => ?_)
  · replace h := h.1 k1
    refine aw_iload dX10_layArray_150 rfl ?_
    exact aw_zreturn dX10_layArray_152 rfl h.1 h.2
  · replace h := h.2 k1
    refine aw_iload dX10_layArray_41 rfl ?_
    refine aw_if_eq (tgt := 150) dX10_layArray_43 (by decide) (fun k2 => ?_) (fun k2 => ?_)
    · replace h := h.1 k2
      refine aw_iload dX10_layArray_150 rfl ?_
      exact aw_zreturn dX10_layArray_152 rfl h.1 h.2
    · replace h := h.2 k2
      refine aw_aload_n dX10_layArray_46 rfl rfl ?_
      refine aw_getZ' rfl fk_1005 lf_X10_39 dX10_layArray_47 ?_
      refine aw_if_ne (tgt := 150) dX10_layArray_50 (by decide) (fun k3 => ?_) (fun k3 => ?_)
      · replace h := h.1 k3
        refine aw_iload dX10_layArray_150 rfl ?_
        exact aw_zreturn dX10_layArray_152 rfl h.1 h.2
      · replace h := h.2 k3
        refine aw_aload_n dX10_layArray_53 rfl rfl ?_
        obtain ⟨r4, e5, h⟩ := h
        refine aw_getI' e5 fk_206 lf_X10_173 dX10_layArray_54 ?_
        refine aw_iconst (x := (-1)) dX10_layArray_57 rfl ?_
        refine aw_icmp_eq (tgt := 84) dX10_layArray_58 (by decide) (fun k6 => ?_) (fun k6 => ?_)
        · replace h := h.1 k6
          refine aw_aload_n dX10_layArray_84 rfl rfl ?_
          refine aw_aload_n dX10_layArray_85 rfl rfl ?_
          refine aw_iconst (x := 1) dX10_layArray_86 rfl ?_
          refine aw_aload_n dX10_layArray_87 rfl rfl ?_
          obtain ⟨r7, e8, h⟩ := h
          refine aw_getI' e8 fk_503 lf_X10_70 dX10_layArray_88 ?_
          refine aw_lconst (x := 0) dX10_layArray_91 rfl ?_
          refine aw_aload_n dX10_layArray_92 rfl rfl ?_
          refine aw_invVr (M := MX10_layArray) (ci := 10) [vR 5 x1, vI 1, vI (gI σ 503 r7 0), vJ 0, vR 2 x2] rfl mo_X10_addNode rfl lm_X10_129 li_X10_addNode ls_X10_addNode (by decide +kernel) dX10_layArray_93 rfl (Nat.le_of_ble_eq_true rfl) (ACr.mono (fun v10 σ9 h => ?_) h)
          refine aw_astore (L' := [some (vR 10 (some x0)), some (vR 5 x1), some (vR 2 x2), some (vI x3), some (vI x4), some (vI x5), some (vI x6), some (vR 5 v10)]) dX10_layArray_96 (by decide) rfl ?_
          refine aw_aload dX10_layArray_98 rfl ?_
          refine aw_ifnull (tgt := 120) dX10_layArray_100 (by decide) (fun hc => ?_) (fun r11 e12 => ?_)
          · replace h := h.1 hc
            refine aw_iconst (x := 0) dX10_layArray_120 rfl ?_
            exact aw_fgt (L' := [some (vR 10 (some x0)), some (vR 5 x1), some (vR 2 x2), some (vI x3), some (vI x4), none, some (vI x6), some (vR 5 v10)]) ⟨rfl, ⟨rfl, ⟨rfl, ⟨rfl, ⟨rfl, ⟨rfl, ⟨rfl, trivial⟩⟩⟩⟩⟩⟩⟩ h
          · replace h := h.2 r11 e12
            refine aw_aload_n dX10_layArray_103 rfl rfl ?_
            refine aw_aload dX10_layArray_104 rfl ?_
            refine aw_aload_n dX10_layArray_106 rfl rfl ?_
            refine aw_getI' e5 fk_203 lf_X10_90 dX10_layArray_107 ?_
            refine aw_invVi (M := MX10_layArray) (ci := 10) [vR 5 v10, vI (gI σ9 203 r4 0)] rfl mo_X10_cover rfl lm_X10_204 li_X10_cover ls_X10_cover (by decide +kernel) dX10_layArray_110 rfl (Nat.le_of_ble_eq_true rfl) (ACi.mono (fun v14 σ13 h => ?_) h)
            refine aw_if_eq (tgt := 120) dX10_layArray_113 (by decide) (fun k15 => ?_) (fun k15 => ?_)
            · replace h := h.1 k15
              refine aw_iconst (x := 0) dX10_layArray_120 rfl ?_
              exact aw_fgt (L' := [some (vR 10 (some x0)), some (vR 5 x1), some (vR 2 x2), some (vI x3), some (vI x4), none, some (vI x6), some (vR 5 v10)]) ⟨rfl, ⟨rfl, ⟨rfl, ⟨rfl, ⟨rfl, ⟨rfl, ⟨rfl, trivial⟩⟩⟩⟩⟩⟩⟩ h
            · replace h := h.2 k15
              refine aw_iconst (x := 1) dX10_layArray_116 rfl ?_
              refine aw_goto (tgt := 121) dX10_layArray_117 (by decide) ?_
              exact aw_fgt (L' := [some (vR 10 (some x0)), some (vR 5 x1), some (vR 2 x2), some (vI x3), some (vI x4), none, some (vI x6), some (vR 5 v10)]) ⟨rfl, ⟨rfl, ⟨rfl, ⟨rfl, ⟨rfl, ⟨rfl, ⟨rfl, trivial⟩⟩⟩⟩⟩⟩⟩ h
        · replace h := h.2 k6
          refine aw_aload_n dX10_layArray_61 rfl rfl ?_
          refine aw_aload_n dX10_layArray_62 rfl rfl ?_
          refine aw_aload_n dX10_layArray_63 rfl rfl ?_
          refine aw_aload_n dX10_layArray_64 rfl rfl ?_
          refine aw_getI' e5 fk_206 lf_X10_173 dX10_layArray_65 ?_
          refine aw_aload_n dX10_layArray_68 rfl rfl ?_
          obtain ⟨r16, e17, h⟩ := h
          refine aw_getI' e17 fk_503 lf_X10_70 dX10_layArray_69 ?_
          refine aw_iload_n dX10_layArray_72 rfl rfl ?_
          refine aw_iconst (x := 1) dX10_layArray_73 rfl ?_
          obtain ⟨⟨c18, c18x⟩, h⟩ := h
          refine aw_iaddc dX10_layArray_74 c18 c18x ?_
          refine aw_invVi (M := MX10_layArray) (ci := 10) [vR 5 x1, vI (gI σ 206 r4 0), vI (gI σ 503 r16 0), vI (x3 + 1)] rfl mo_X10_addStruct rfl lm_X10_43 li_X10_addStruct ls_X10_addStruct (by decide +kernel) dX10_layArray_75 rfl (Nat.le_of_ble_eq_true rfl) (ACi.mono (fun v20 σ19 h => ?_) h)
          refine aw_putI' e17 fk_503 (Or.inl rfl) lf_X10_70 dX10_layArray_78 ?_
          refine aw_goto (tgt := 144) dX10_layArray_81 (by decide) ?_
          obtain ⟨⟨c21, c21x⟩, h⟩ := h
          refine aw_iincc (L' := [some (vR 10 (some x0)), some (vR 5 x1), some (vR 2 x2), some (vI x3), some (vI x4), some (vI x5), some (vI (x6 + 1)), none]) dX10_layArray_144 rfl (by decide) rfl c21 c21x rfl ?_
          refine aw_goto (tgt := 34) dX10_layArray_147 (by decide) ?_
          exact aw_fgt (L' := [some (vR 10 (some x0)), some (vR 5 x1), some (vR 2 x2), some (vI x3), some (vI x4), some (vI x5), some (vI (x6 + 1)), none]) ⟨rfl, ⟨rfl, ⟨rfl, ⟨rfl, ⟨rfl, ⟨rfl, ⟨rfl, trivial⟩⟩⟩⟩⟩⟩⟩ h
set_option maxRecDepth 4000 in
theorem bk_X10_layArray_121 {g : GP} {l : Launch} {d : Nat} {σ : St} {Q : Option AV → St → Prop} {x0 : Nat} {x1 : Option Nat} {x2 : Option Nat} {x3 : Int} {x4 : Int} {x6 : Int} {x7 : Option Nat} {y0 : Int}
    (h : ((x7 = none → ∃ r3, x1 = some r3 ∧ R32 (x6 + 1) ∧ AW g l (d + 1) MX10_layArray 34 [some (vR 10 (some x0)), some (vR 5 x1), some (vR 2 x2), some (vI x3), some (vI x4), some (vI y0), some (vI (x6 + 1)), none] [] (sI σ 503 r3 0 (gI σ 503 r3 0)) Q) ∧ (∀ r1, x7 = some r1 → ∃ r6, x1 = some r6 ∧ R32 (x6 + 1) ∧ AW g l (d + 1) MX10_layArray 34 [some (vR 10 (some x0)), some (vR 5 x1), some (vR 2 x2), some (vI x3), some (vI x4), some (vI y0), some (vI (x6 + 1)), none] [] (sI σ 503 r6 0 (gI σ 503 r1 0)) Q))) :
    AW g l (d + 1) MX10_layArray 121 [some (vR 10 (some x0)), some (vR 5 x1), some (vR 2 x2), some (vI x3), some (vI x4), none, some (vI x6), some (vR 5 x7)] [vI y0] σ Q := by
  refine aw_istore (L' := [some (vR 10 (some x0)), some (vR 5 x1), some (vR 2 x2), some (vI x3), some (vI x4), some (vI y0), some (vI x6), some (vR 5 x7)]) dX10_layArray_121 (by decide) rfl ?_
  refine aw_aload_n dX10_layArray_123 rfl rfl ?_
  refine aw_aload dX10_layArray_124 rfl ?_
  refine aw_ifnonnull (tgt := 136) dX10_layArray_126 (by decide) (fun r1 e2 => ?_) (fun hc => ?_)
  · replace h := h.2 r1 e2
    refine aw_aload dX10_layArray_136 rfl ?_
    refine aw_getI' e2 fk_503 lf_X10_70 dX10_layArray_138 ?_
    obtain ⟨r6, e7, h⟩ := h
    refine aw_putI' e7 fk_503 (Or.inl rfl) lf_X10_70 dX10_layArray_141 ?_
    obtain ⟨⟨c8, c8x⟩, h⟩ := h
    refine aw_iincc (L' := [some (vR 10 (some x0)), some (vR 5 x1), some (vR 2 x2), some (vI x3), some (vI x4), some (vI y0), some (vI (x6 + 1)), some (vR 5 x7)]) dX10_layArray_144 rfl (by decide) rfl c8 c8x rfl ?_
    refine aw_goto (tgt := 34) dX10_layArray_147 (by decide) ?_
    exact aw_fgt (L' := [some (vR 10 (some x0)), some (vR 5 x1), some (vR 2 x2), some (vI x3), some (vI x4), some (vI y0), some (vI (x6 + 1)), none]) ⟨rfl, ⟨rfl, ⟨rfl, ⟨rfl, ⟨rfl, ⟨rfl, ⟨rfl, trivial⟩⟩⟩⟩⟩⟩⟩ h
  · replace h := h.1 hc
    refine aw_aload_n dX10_layArray_129 rfl rfl ?_
    obtain ⟨r3, e4, h⟩ := h
    refine aw_getI' e4 fk_503 lf_X10_70 dX10_layArray_130 ?_
    refine aw_goto (tgt := 141) dX10_layArray_133 (by decide) ?_
    refine aw_putI' e4 fk_503 (Or.inl rfl) lf_X10_70 dX10_layArray_141 ?_
    obtain ⟨⟨c5, c5x⟩, h⟩ := h
    refine aw_iincc (L' := [some (vR 10 (some x0)), some (vR 5 x1), some (vR 2 x2), some (vI x3), some (vI x4), some (vI y0), some (vI (x6 + 1)), some (vR 5 x7)]) dX10_layArray_144 rfl (by decide) rfl c5 c5x rfl ?_
    refine aw_goto (tgt := 34) dX10_layArray_147 (by decide) ?_
    exact aw_fgt (L' := [some (vR 10 (some x0)), some (vR 5 x1), some (vR 2 x2), some (vI x3), some (vI x4), some (vI y0), some (vI (x6 + 1)), none]) ⟨rfl, ⟨rfl, ⟨rfl, ⟨rfl, ⟨rfl, ⟨rfl, ⟨rfl, trivial⟩⟩⟩⟩⟩⟩⟩ h
set_option maxRecDepth 4000 in
theorem bk_X10_layBits_0 {g : GP} {l : Launch} {d : Nat} {σ : St} {Q : Option AV → St → Prop} {x0 : Nat} {x1 : Option Nat} {x2 : Option Nat}
    (h : ∃ r1, x2 = some r1 ∧ ACi g l d MX10_cover [vR 10 (some x0), vR 5 x1, vI (gI σ 203 r1 0)] σ (fun v4 σ3 => ((¬ v4 = 0 → AW g l (d + 1) MX10_layBits 19 [some (vR 10 (some x0)), some (vR 5 x1), some (vR 2 x2), some (vI (gI σ3 213 r1 0)), none] [] σ3 Q) ∧ (v4 = 0 → Q (some (vI 0)) σ3)))) :
    AW g l (d + 1) MX10_layBits 0 [some (vR 10 (some x0)), some (vR 5 x1), some (vR 2 x2), none, none] [] σ Q := by
  refine aw_aload_n dX10_layBits_0 rfl rfl ?_
  refine aw_aload_n dX10_layBits_1 rfl rfl ?_
  refine aw_aload_n dX10_layBits_2 rfl rfl ?_
  obtain ⟨r1, e2, h⟩ := h
  refine aw_getI' e2 fk_203 lf_X10_90 dX10_layBits_3 ?_
  refine aw_invVi (M := MX10_layBits) (ci := 10) [vR 5 x1, vI (gI σ 203 r1 0)] rfl mo_X10_cover rfl lm_X10_204 li_X10_cover ls_X10_cover (by decide +kernel) dX10_layBits_6 rfl (Nat.le_of_ble_eq_true rfl) (ACi.mono (fun v4 σ3 h => ?_) h)
  refine aw_if_ne (tgt := 14) dX10_layBits_9 (by decide) (fun k5 => ?_) (fun k5 => ?_)
  · replace h := h.1 k5
    refine aw_aload_n dX10_layBits_14 rfl rfl ?_
    refine aw_getI' e2 fk_213 lf_X10_243 dX10_layBits_15 ?_
    refine aw_istore_n (L' := [some (vR 10 (some x0)), some (vR 5 x1), some (vR 2 x2), some (vI (gI σ3 213 r1 0)), none]) dX10_layBits_18 rfl (by decide) rfl ?_
    exact aw_fgt (L' := [some (vR 10 (some x0)), some (vR 5 x1), some (vR 2 x2), some (vI (gI σ3 213 r1 0)), none]) ⟨rfl, ⟨rfl, ⟨rfl, ⟨rfl, trivial⟩⟩⟩⟩ h
  · replace h := h.2 k5
    refine aw_iconst (x := 0) dX10_layBits_12 rfl ?_
    exact aw_zreturn dX10_layBits_13 rfl (Or.inl rfl) h
set_option maxRecDepth 4000 in
theorem bk_X10_layBits_19 {g : GP} {l : Launch} {d : Nat} {σ : St} {Q : Option AV → St → Prop} {x0 : Nat} {x1 : Option Nat} {x2 : Option Nat} {x3 : Int}
    (h : ∃ r1, x2 = some r1 ∧ R32 ((gI σ 213 r1 0) + (gI σ 214 r1 0)) ∧ ((((gI σ 213 r1 0) + (gI σ 214 r1 0)) ≤ x3 → Q (some (vI 1)) σ) ∧ (¬ ((gI σ 213 r1 0) + (gI σ 214 r1 0)) ≤ x3 → ((¬ (gI σ 1005 x0 0) = 0 → Q (some (vI 1)) σ) ∧ ((gI σ 1005 x0 0) = 0 → ∃ r6, x1 = some r6 ∧ ∃ r8, gR σ 1006 x0 0 = some r8 ∧ LC 1 σ r8 ∧ Bd x3 3000 ∧ ACr g l d MX10_addNode 5 [vR 10 (some x0), vR 5 x1, vI 4, vI (gI σ 502 r6 0), vJ (gJ σ 106 r8 x3.toNat), vR 2 x2] σ (fun v13 σ12 => ((v13 = none → R32 (x3 + 1) ∧ AW g l (d + 1) MX10_layBits 19 [some (vR 10 (some x0)), some (vR 5 x1), some (vR 2 x2), some (vI (x3 + 1)), none] [] σ12 Q) ∧ (∀ r14, v13 = some r14 → ∃ r17, gR σ12 1006 x0 0 = some r17 ∧ LC 1 σ12 r17 ∧ R32 (x3 + 1) ∧ AW g l (d + 1) MX10_layBits 19 [some (vR 10 (some x0)), some (vR 5 x1), some (vR 2 x2), some (vI (x3 + 1)), none] [] (sI (sI (sI σ12 503 r14 0 (gI σ12 503 r6 0)) 515 r14 0 (gI σ12 108 r17 x3.toNat)) 516 r14 0 (j2i (gJ σ12 107 r17 x3.toNat))) Q)))))))) :
    AW g l (d + 1) MX10_layBits 19 [some (vR 10 (some x0)), some (vR 5 x1), some (vR 2 x2), some (vI x3), none] [] σ Q := by
  refine aw_iload_n dX10_layBits_19 rfl rfl ?_
  refine aw_aload_n dX10_layBits_20 rfl rfl ?_
  obtain ⟨r1, e2, h⟩ := h
  refine aw_getI' e2 fk_213 lf_X10_243 dX10_layBits_21 ?_
  refine aw_aload_n dX10_layBits_24 rfl rfl ?_
  refine aw_getI' e2 fk_214 lf_X10_246 dX10_layBits_25 ?_
  obtain ⟨⟨c3, c3x⟩, h⟩ := h
  refine aw_iaddc dX10_layBits_28 c3 c3x ?_
  refine aw_icmp_ge (tgt := 110) dX10_layBits_29 (by decide) (fun k4 => ?_) (fun k4 => ?_)
  · replace h := h.1 k4
    refine aw_iconst (x := 1) dX10_layBits_110 rfl ?_
    exact aw_zreturn dX10_layBits_111 rfl (Or.inr rfl) h
  · replace h := h.2 k4
    refine aw_aload_n dX10_layBits_32 rfl rfl ?_
    refine aw_getZ' rfl fk_1005 lf_X10_39 dX10_layBits_33 ?_
    refine aw_if_ne (tgt := 110) dX10_layBits_36 (by decide) (fun k5 => ?_) (fun k5 => ?_)
    · replace h := h.1 k5
      refine aw_iconst (x := 1) dX10_layBits_110 rfl ?_
      exact aw_zreturn dX10_layBits_111 rfl (Or.inr rfl) h
    · replace h := h.2 k5
      refine aw_aload_n dX10_layBits_39 rfl rfl ?_
      refine aw_aload_n dX10_layBits_40 rfl rfl ?_
      refine aw_iconst (x := 4) dX10_layBits_41 rfl ?_
      refine aw_aload_n dX10_layBits_42 rfl rfl ?_
      obtain ⟨r6, e7, h⟩ := h
      refine aw_getI' e7 fk_502 lf_X10_67 dX10_layBits_43 ?_
      refine aw_aload_n dX10_layBits_46 rfl rfl ?_
      refine aw_getR' (ci := 1) rfl fk_1006 (by decide +kernel) lf_X10_28 dX10_layBits_47 ?_
      obtain ⟨r8, e9, h⟩ := h
      obtain ⟨lc10, h⟩ := h
      refine aw_getA' e9 fk_106 (by decide) lf_X10_249 dX10_layBits_50 (LC.ne lc10 rfl rfl) ?_
      refine aw_iload_n dX10_layBits_53 rfl rfl ?_
      obtain ⟨⟨c11, c11x⟩, h⟩ := h
      refine aw_laload (by decide) rfl dX10_layBits_54 c11 (LC.lt lc10 rfl rfl c11x) ?_
      refine aw_aload_n dX10_layBits_55 rfl rfl ?_
      refine aw_invVr (M := MX10_layBits) (ci := 10) [vR 5 x1, vI 4, vI (gI σ 502 r6 0), vJ (gJ σ 106 r8 x3.toNat), vR 2 x2] rfl mo_X10_addNode rfl lm_X10_129 li_X10_addNode ls_X10_addNode (by decide +kernel) dX10_layBits_56 rfl (Nat.le_of_ble_eq_true rfl) (ACr.mono (fun v13 σ12 h => ?_) h)
      refine aw_astore (L' := [some (vR 10 (some x0)), some (vR 5 x1), some (vR 2 x2), some (vI x3), some (vR 5 v13)]) dX10_layBits_59 (by decide) rfl ?_
      refine aw_aload dX10_layBits_61 rfl ?_
      refine aw_ifnull (tgt := 104) dX10_layBits_63 (by decide) (fun hc => ?_) (fun r14 e15 => ?_)
      · replace h := h.1 hc
        obtain ⟨⟨c16, c16x⟩, h⟩ := h
        refine aw_iincc (L' := [some (vR 10 (some x0)), some (vR 5 x1), some (vR 2 x2), some (vI (x3 + 1)), some (vR 5 v13)]) dX10_layBits_104 rfl (by decide) rfl c16 c16x rfl ?_
        refine aw_goto (tgt := 19) dX10_layBits_107 (by decide) ?_
        exact aw_fgt (L' := [some (vR 10 (some x0)), some (vR 5 x1), some (vR 2 x2), some (vI (x3 + 1)), none]) ⟨rfl, ⟨rfl, ⟨rfl, ⟨rfl, trivial⟩⟩⟩⟩ h
      · replace h := h.2 r14 e15
        refine aw_aload dX10_layBits_66 rfl ?_
        refine aw_aload_n dX10_layBits_68 rfl rfl ?_
        refine aw_getI' e7 fk_503 lf_X10_70 dX10_layBits_69 ?_
        refine aw_putI' e15 fk_503 (Or.inl rfl) lf_X10_70 dX10_layBits_72 ?_
        refine aw_aload dX10_layBits_75 rfl ?_
        refine aw_aload_n dX10_layBits_77 rfl rfl ?_
        refine aw_getRe (ci := 1) (v := gR σ12 1006 x0 0) rfl fk_1006 (by decide +kernel) lf_X10_28 dX10_layBits_78 rfl ?_
        obtain ⟨r17, e18, h⟩ := h
        obtain ⟨lc19, h⟩ := h
        refine aw_getA' e18 fk_108 (by decide) lf_X10_253 dX10_layBits_81 (LC.ne lc19 rfl rfl) ?_
        refine aw_iload_n dX10_layBits_84 rfl rfl ?_
        refine aw_ialoade (v := gI σ12 108 r17 x3.toNat) (by decide) rfl dX10_layBits_85 c11 (LC.lt lc19 rfl rfl c11x) rfl ?_
        refine aw_putI' e15 fk_515 (Or.inl rfl) lf_X10_257 dX10_layBits_86 ?_
        refine aw_aload dX10_layBits_89 rfl ?_
        refine aw_aload_n dX10_layBits_91 rfl rfl ?_
        refine aw_getRe (ci := 1) (v := gR σ12 1006 x0 0) rfl fk_1006 (by decide +kernel) lf_X10_28 dX10_layBits_92 rfl ?_
        refine aw_getA' e18 fk_107 (by decide) lf_X10_260 dX10_layBits_95 (LC.ne lc19 rfl rfl) ?_
        refine aw_iload_n dX10_layBits_98 rfl rfl ?_
        refine aw_laloade (v := gJ σ12 107 r17 x3.toNat) (by decide) rfl dX10_layBits_99 c11 (LC.lt lc19 rfl rfl c11x) rfl ?_
        refine aw_l2i dX10_layBits_100 ?_
        refine aw_putI' e15 fk_516 (Or.inl rfl) lf_X10_263 dX10_layBits_101 ?_
        obtain ⟨⟨c20, c20x⟩, h⟩ := h
        refine aw_iincc (L' := [some (vR 10 (some x0)), some (vR 5 x1), some (vR 2 x2), some (vI (x3 + 1)), some (vR 5 v13)]) dX10_layBits_104 rfl (by decide) rfl c20 c20x rfl ?_
        refine aw_goto (tgt := 19) dX10_layBits_107 (by decide) ?_
        exact aw_fgt (L' := [some (vR 10 (some x0)), some (vR 5 x1), some (vR 2 x2), some (vI (x3 + 1)), none]) ⟨rfl, ⟨rfl, ⟨rfl, ⟨rfl, trivial⟩⟩⟩⟩ h
set_option maxRecDepth 4000 in
theorem bk_X10_layField_0 {g : GP} {l : Launch} {d : Nat} {σ : St} {Q : Option AV → St → Prop} {x0 : Nat} {x1 : Option Nat} {x2 : Option Nat} {x3 : Int}
    (h : ∃ r1, x2 = some r1 ∧ ∃ r3, x1 = some r3 ∧ ACr g l d MX10_addNode 5 [vR 10 (some x0), vR 5 x1, vI (gI σ 201 r1 0), vI (gI σ 503 r3 0), vJ (gJ σ 202 r1 0), vR 2 x2] σ (fun v6 σ5 => ((v6 = none → Q (some (vI 0)) σ5) ∧ (∀ r7, v6 = some r7 → (((gI σ5 201 r1 0) = 0 → R32 (x3 + 1) ∧ ACv g l d MX10_layStruct [vR 10 (some x0), vR 5 v6, vI (gI σ5 206 r1 0), vI (x3 + 1)] σ5 (fun σ10 => Q (some (vI 1)) (sI σ10 503 r3 0 (gI σ10 503 r7 0)))) ∧ ((gI σ5 201 r1 0) = 1 → ACi g l d MX10_layWhole [vR 10 (some x0), vR 5 v6, vR 2 x2] σ5 (fun v12 σ11 => ((v12 = 0 ∨ v12 = 1) ∧ Q (some (vI v12)) (sI σ11 503 r3 0 (gI σ11 503 r7 0))))) ∧ ((gI σ5 201 r1 0) = 2 → ACi g l d MX10_layArray [vR 10 (some x0), vR 5 v6, vR 2 x2, vI x3] σ5 (fun v14 σ13 => ((v14 = 0 ∨ v14 = 1) ∧ Q (some (vI v14)) (sI σ13 503 r3 0 (gI σ13 503 r7 0))))) ∧ ((gI σ5 201 r1 0) = 3 → ACi g l d MX10_layBits [vR 10 (some x0), vR 5 v6, vR 2 x2] σ5 (fun v16 σ15 => ((v16 = 0 ∨ v16 = 1) ∧ Q (some (vI v16)) (sI σ15 503 r3 0 (gI σ15 503 r7 0))))) ∧ ((gI σ5 201 r1 0) = 4 → AW g l (d + 1) MX10_layField 234 [some (vR 10 (some x0)), some (vR 5 x1), some (vR 2 x2), none, some (vR 5 v6), none] [] σ5 Q) ∧ ((gI σ5 201 r1 0) = 5 → ((¬ (gI σ5 209 r1 0) = (-1) → ACi g l d MX10_layText [vR 10 (some x0), vR 5 v6, vR 2 x2] σ5 (fun v19 σ18 => ((v19 = 0 ∨ v19 = 1) ∧ Q (some (vI v19)) (sI σ18 503 r3 0 (gI σ18 503 r7 0))))) ∧ ((gI σ5 209 r1 0) = (-1) → ACi g l d MX10_layUntil [vR 10 (some x0), vR 5 v6, vR 2 x2] σ5 (fun v21 σ20 => ((v21 = 0 ∨ v21 = 1) ∧ Q (some (vI v21)) (sI σ20 503 r3 0 (gI σ20 503 r7 0))))))) ∧ ((gI σ5 201 r1 0) = 6 → ACv g l d MX10_layUnion [vR 10 (some x0), vR 5 v6, vR 2 x2, vI x3] σ5 (fun σ22 => Q (some (vI 1)) (sI σ22 503 r3 0 (gI σ22 503 r7 0)))) ∧ ((gI σ5 201 r1 0) = 7 → ACi g l d MX10_layPointer [vR 10 (some x0), vR 5 v6, vR 2 x2, vI x3] σ5 (fun v24 σ23 => ((v24 = 0 ∨ v24 = 1) ∧ Q (some (vI v24)) (sI σ23 503 r3 0 (gI σ23 503 r7 0))))) ∧ ((gI σ5 201 r1 0) = 8 → R32 ((gI σ5 502 r7 0) - (gI σ5 502 r3 0)) ∧ ACj g l d MX2_padding [vR 2 (some r1), vJ (i2j ((gI σ5 502 r7 0) - (gI σ5 502 r3 0)))] σ5 (fun v27 σ26 => ACi g l d MX10_cover [vR 10 (some x0), vR 5 v6, vI (j2i v27)] σ26 (fun v29 σ28 => ((v29 = 0 ∨ v29 = 1) ∧ Q (some (vI v29)) (sI σ28 503 r3 0 (gI σ28 503 r7 0)))))) ∧ ((gI σ5 201 r1 0) = 9 → ACi g l d MX10_layMagic [vR 10 (some x0), vR 5 v6, vR 2 x2] σ5 (fun v31 σ30 => ((v31 = 0 ∨ v31 = 1) ∧ Q (some (vI v31)) (sI σ30 503 r3 0 (gI σ30 503 r7 0))))) ∧ ((gI σ5 201 r1 0) < 0 ∨ 9 < (gI σ5 201 r1 0) → AW g l (d + 1) MX10_layField 234 [some (vR 10 (some x0)), some (vR 5 x1), some (vR 2 x2), none, some (vR 5 v6), none] [] σ5 Q)))))) :
    AW g l (d + 1) MX10_layField 0 [some (vR 10 (some x0)), some (vR 5 x1), some (vR 2 x2), some (vI x3), none, none] [] σ Q := by
  refine aw_aload_n dX10_layField_0 rfl rfl ?_
  refine aw_aload_n dX10_layField_1 rfl rfl ?_
  refine aw_aload_n dX10_layField_2 rfl rfl ?_
  obtain ⟨r1, e2, h⟩ := h
  refine aw_getI' e2 fk_201 lf_X10_169 dX10_layField_3 ?_
  refine aw_aload_n dX10_layField_6 rfl rfl ?_
  obtain ⟨r3, e4, h⟩ := h
  refine aw_getI' e4 fk_503 lf_X10_70 dX10_layField_7 ?_
  refine aw_aload_n dX10_layField_10 rfl rfl ?_
  refine aw_getJ' e2 fk_202 lf_X10_172 dX10_layField_11 ?_
  refine aw_aload_n dX10_layField_14 rfl rfl ?_
  refine aw_invVr (M := MX10_layField) (ci := 10) [vR 5 x1, vI (gI σ 201 r1 0), vI (gI σ 503 r3 0), vJ (gJ σ 202 r1 0), vR 2 x2] rfl mo_X10_addNode rfl lm_X10_129 li_X10_addNode ls_X10_addNode (by decide +kernel) dX10_layField_15 rfl (Nat.le_of_ble_eq_true rfl) (ACr.mono (fun v6 σ5 h => ?_) h)
  refine aw_astore (L' := [some (vR 10 (some x0)), some (vR 5 x1), some (vR 2 x2), some (vI x3), some (vR 5 v6), none]) dX10_layField_18 (by decide) rfl ?_
  refine aw_aload dX10_layField_20 rfl ?_
  refine aw_ifnonnull (tgt := 27) dX10_layField_22 (by decide) (fun r7 e8 => ?_) (fun hc => ?_)
  · replace h := h.2 r7 e8
    refine aw_iconst (x := 1) dX10_layField_27 rfl ?_
    refine aw_istore (L' := [some (vR 10 (some x0)), some (vR 5 x1), some (vR 2 x2), some (vI x3), some (vR 5 v6), some (vI 1)]) dX10_layField_28 (by decide) rfl ?_
    refine aw_aload_n dX10_layField_30 rfl rfl ?_
    refine aw_getI' e2 fk_201 lf_X10_169 dX10_layField_31 ?_
    obtain ⟨h0, h1, h2, h3, h4, h5, h6, h7, h8, h9, hd⟩ := h
    refine aw_table (M := MX10_layField) (dt := 234) [88, 104, 116, 129, 234, 141, 171, 182, 195, 222] dX10_layField_34 (by decide) (by decide) (by decide) ⟨fun hc => ?_, fun hc => ?_, fun hc => ?_, fun hc => ?_, fun hc => ?_, fun hc => ?_, fun hc => ?_, fun hc => ?_, fun hc => ?_, fun hc => ?_, trivial⟩ (fun hc => ?_)
    · have h := h0 hc; clear h0 h1 h2 h3 h4 h5 h6 h7 h8 h9 hd
      refine aw_aload_n dX10_layField_88 rfl rfl ?_
      refine aw_aload dX10_layField_89 rfl ?_
      refine aw_aload_n dX10_layField_91 rfl rfl ?_
      refine aw_getI' e2 fk_206 lf_X10_173 dX10_layField_92 ?_
      refine aw_iload_n dX10_layField_95 rfl rfl ?_
      refine aw_iconst (x := 1) dX10_layField_96 rfl ?_
      obtain ⟨⟨c9, c9x⟩, h⟩ := h
      refine aw_iaddc dX10_layField_97 c9 c9x ?_
      refine aw_invVv (M := MX10_layField) (ci := 10) [vR 5 v6, vI (gI σ5 206 r1 0), vI (x3 + 1)] rfl mo_X10_layStruct rfl lm_X10_133 li_X10_layStruct ls_X10_layStruct (by decide +kernel) dX10_layField_98 rfl (Nat.le_of_ble_eq_true rfl) (ACv.mono (fun σ10 h => ?_) h)
      refine aw_goto (tgt := 243) dX10_layField_101 (by decide) ?_
      refine aw_aload_n dX10_layField_243 rfl rfl ?_
      refine aw_aload dX10_layField_244 rfl ?_
      refine aw_getI' e8 fk_503 lf_X10_70 dX10_layField_246 ?_
      refine aw_putI' e4 fk_503 (Or.inl rfl) lf_X10_70 dX10_layField_249 ?_
      refine aw_iload dX10_layField_252 rfl ?_
      exact aw_zreturn dX10_layField_254 rfl (Or.inr rfl) h
    · have h := h1 hc; clear h0 h1 h2 h3 h4 h5 h6 h7 h8 h9 hd
      refine aw_aload_n dX10_layField_104 rfl rfl ?_
      refine aw_aload dX10_layField_105 rfl ?_
      refine aw_aload_n dX10_layField_107 rfl rfl ?_
      refine aw_invVi (M := MX10_layField) (ci := 10) [vR 5 v6, vR 2 x2] rfl mo_X10_layWhole rfl lm_X10_174 li_X10_layWhole ls_X10_layWhole (by decide +kernel) dX10_layField_108 rfl (Nat.le_of_ble_eq_true rfl) (ACi.mono (fun v12 σ11 h => ?_) h)
      refine aw_istore (L' := [some (vR 10 (some x0)), some (vR 5 x1), some (vR 2 x2), some (vI x3), some (vR 5 v6), some (vI v12)]) dX10_layField_111 (by decide) rfl ?_
      refine aw_goto (tgt := 243) dX10_layField_113 (by decide) ?_
      refine aw_aload_n dX10_layField_243 rfl rfl ?_
      refine aw_aload dX10_layField_244 rfl ?_
      refine aw_getI' e8 fk_503 lf_X10_70 dX10_layField_246 ?_
      refine aw_putI' e4 fk_503 (Or.inl rfl) lf_X10_70 dX10_layField_249 ?_
      refine aw_iload dX10_layField_252 rfl ?_
      exact aw_zreturn dX10_layField_254 rfl h.1 h.2
    · have h := h2 hc; clear h0 h1 h2 h3 h4 h5 h6 h7 h8 h9 hd
      refine aw_aload_n dX10_layField_116 rfl rfl ?_
      refine aw_aload dX10_layField_117 rfl ?_
      refine aw_aload_n dX10_layField_119 rfl rfl ?_
      refine aw_iload_n dX10_layField_120 rfl rfl ?_
      refine aw_invVi (M := MX10_layField) (ci := 10) [vR 5 v6, vR 2 x2, vI x3] rfl mo_X10_layArray rfl lm_X10_178 li_X10_layArray ls_X10_layArray (by decide +kernel) dX10_layField_121 rfl (Nat.le_of_ble_eq_true rfl) (ACi.mono (fun v14 σ13 h => ?_) h)
      refine aw_istore (L' := [some (vR 10 (some x0)), some (vR 5 x1), some (vR 2 x2), some (vI x3), some (vR 5 v6), some (vI v14)]) dX10_layField_124 (by decide) rfl ?_
      refine aw_goto (tgt := 243) dX10_layField_126 (by decide) ?_
      refine aw_aload_n dX10_layField_243 rfl rfl ?_
      refine aw_aload dX10_layField_244 rfl ?_
      refine aw_getI' e8 fk_503 lf_X10_70 dX10_layField_246 ?_
      refine aw_putI' e4 fk_503 (Or.inl rfl) lf_X10_70 dX10_layField_249 ?_
      refine aw_iload dX10_layField_252 rfl ?_
      exact aw_zreturn dX10_layField_254 rfl h.1 h.2
    · have h := h3 hc; clear h0 h1 h2 h3 h4 h5 h6 h7 h8 h9 hd
      refine aw_aload_n dX10_layField_129 rfl rfl ?_
      refine aw_aload dX10_layField_130 rfl ?_
      refine aw_aload_n dX10_layField_132 rfl rfl ?_
      refine aw_invVi (M := MX10_layField) (ci := 10) [vR 5 v6, vR 2 x2] rfl mo_X10_layBits rfl lm_X10_181 li_X10_layBits ls_X10_layBits (by decide +kernel) dX10_layField_133 rfl (Nat.le_of_ble_eq_true rfl) (ACi.mono (fun v16 σ15 h => ?_) h)
      refine aw_istore (L' := [some (vR 10 (some x0)), some (vR 5 x1), some (vR 2 x2), some (vI x3), some (vR 5 v6), some (vI v16)]) dX10_layField_136 (by decide) rfl ?_
      refine aw_goto (tgt := 243) dX10_layField_138 (by decide) ?_
      refine aw_aload_n dX10_layField_243 rfl rfl ?_
      refine aw_aload dX10_layField_244 rfl ?_
      refine aw_getI' e8 fk_503 lf_X10_70 dX10_layField_246 ?_
      refine aw_putI' e4 fk_503 (Or.inl rfl) lf_X10_70 dX10_layField_249 ?_
      refine aw_iload dX10_layField_252 rfl ?_
      exact aw_zreturn dX10_layField_254 rfl h.1 h.2
    · have h := h4 hc; clear h0 h1 h2 h3 h4 h5 h6 h7 h8 h9 hd
      exact aw_fgt (L' := [some (vR 10 (some x0)), some (vR 5 x1), some (vR 2 x2), none, some (vR 5 v6), none]) ⟨rfl, ⟨rfl, ⟨rfl, ⟨rfl, trivial⟩⟩⟩⟩ h
    · have h := h5 hc; clear h0 h1 h2 h3 h4 h5 h6 h7 h8 h9 hd
      refine aw_aload_n dX10_layField_141 rfl rfl ?_
      refine aw_getI' e2 fk_209 lf_X10_184 dX10_layField_142 ?_
      refine aw_iconst (x := (-1)) dX10_layField_145 rfl ?_
      refine aw_icmp_ne (tgt := 159) dX10_layField_146 (by decide) (fun k17 => ?_) (fun k17 => ?_)
      · replace h := h.1 k17
        refine aw_aload_n dX10_layField_159 rfl rfl ?_
        refine aw_aload dX10_layField_160 rfl ?_
        refine aw_aload_n dX10_layField_162 rfl rfl ?_
        refine aw_invVi (M := MX10_layField) (ci := 10) [vR 5 v6, vR 2 x2] rfl mo_X10_layText rfl lm_X10_190 li_X10_layText ls_X10_layText (by decide +kernel) dX10_layField_163 rfl (Nat.le_of_ble_eq_true rfl) (ACi.mono (fun v19 σ18 h => ?_) h)
        refine aw_istore (L' := [some (vR 10 (some x0)), some (vR 5 x1), some (vR 2 x2), some (vI x3), some (vR 5 v6), some (vI v19)]) dX10_layField_166 (by decide) rfl ?_
        refine aw_goto (tgt := 243) dX10_layField_168 (by decide) ?_
        refine aw_aload_n dX10_layField_243 rfl rfl ?_
        refine aw_aload dX10_layField_244 rfl ?_
        refine aw_getI' e8 fk_503 lf_X10_70 dX10_layField_246 ?_
        refine aw_putI' e4 fk_503 (Or.inl rfl) lf_X10_70 dX10_layField_249 ?_
        refine aw_iload dX10_layField_252 rfl ?_
        exact aw_zreturn dX10_layField_254 rfl h.1 h.2
      · replace h := h.2 k17
        refine aw_aload_n dX10_layField_149 rfl rfl ?_
        refine aw_aload dX10_layField_150 rfl ?_
        refine aw_aload_n dX10_layField_152 rfl rfl ?_
        refine aw_invVi (M := MX10_layField) (ci := 10) [vR 5 v6, vR 2 x2] rfl mo_X10_layUntil rfl lm_X10_187 li_X10_layUntil ls_X10_layUntil (by decide +kernel) dX10_layField_153 rfl (Nat.le_of_ble_eq_true rfl) (ACi.mono (fun v21 σ20 h => ?_) h)
        refine aw_goto (tgt := 166) dX10_layField_156 (by decide) ?_
        refine aw_istore (L' := [some (vR 10 (some x0)), some (vR 5 x1), some (vR 2 x2), some (vI x3), some (vR 5 v6), some (vI v21)]) dX10_layField_166 (by decide) rfl ?_
        refine aw_goto (tgt := 243) dX10_layField_168 (by decide) ?_
        refine aw_aload_n dX10_layField_243 rfl rfl ?_
        refine aw_aload dX10_layField_244 rfl ?_
        refine aw_getI' e8 fk_503 lf_X10_70 dX10_layField_246 ?_
        refine aw_putI' e4 fk_503 (Or.inl rfl) lf_X10_70 dX10_layField_249 ?_
        refine aw_iload dX10_layField_252 rfl ?_
        exact aw_zreturn dX10_layField_254 rfl h.1 h.2
    · have h := h6 hc; clear h0 h1 h2 h3 h4 h5 h6 h7 h8 h9 hd
      refine aw_aload_n dX10_layField_171 rfl rfl ?_
      refine aw_aload dX10_layField_172 rfl ?_
      refine aw_aload_n dX10_layField_174 rfl rfl ?_
      refine aw_iload_n dX10_layField_175 rfl rfl ?_
      refine aw_invVv (M := MX10_layField) (ci := 10) [vR 5 v6, vR 2 x2, vI x3] rfl mo_X10_layUnion rfl lm_X10_193 li_X10_layUnion ls_X10_layUnion (by decide +kernel) dX10_layField_176 rfl (Nat.le_of_ble_eq_true rfl) (ACv.mono (fun σ22 h => ?_) h)
      refine aw_goto (tgt := 243) dX10_layField_179 (by decide) ?_
      refine aw_aload_n dX10_layField_243 rfl rfl ?_
      refine aw_aload dX10_layField_244 rfl ?_
      refine aw_getI' e8 fk_503 lf_X10_70 dX10_layField_246 ?_
      refine aw_putI' e4 fk_503 (Or.inl rfl) lf_X10_70 dX10_layField_249 ?_
      refine aw_iload dX10_layField_252 rfl ?_
      exact aw_zreturn dX10_layField_254 rfl (Or.inr rfl) h
    · have h := h7 hc; clear h0 h1 h2 h3 h4 h5 h6 h7 h8 h9 hd
      refine aw_aload_n dX10_layField_182 rfl rfl ?_
      refine aw_aload dX10_layField_183 rfl ?_
      refine aw_aload_n dX10_layField_185 rfl rfl ?_
      refine aw_iload_n dX10_layField_186 rfl rfl ?_
      refine aw_invVi (M := MX10_layField) (ci := 10) [vR 5 v6, vR 2 x2, vI x3] rfl mo_X10_layPointer rfl lm_X10_197 li_X10_layPointer ls_X10_layPointer (by decide +kernel) dX10_layField_187 rfl (Nat.le_of_ble_eq_true rfl) (ACi.mono (fun v24 σ23 h => ?_) h)
      refine aw_istore (L' := [some (vR 10 (some x0)), some (vR 5 x1), some (vR 2 x2), some (vI x3), some (vR 5 v6), some (vI v24)]) dX10_layField_190 (by decide) rfl ?_
      refine aw_goto (tgt := 243) dX10_layField_192 (by decide) ?_
      refine aw_aload_n dX10_layField_243 rfl rfl ?_
      refine aw_aload dX10_layField_244 rfl ?_
      refine aw_getI' e8 fk_503 lf_X10_70 dX10_layField_246 ?_
      refine aw_putI' e4 fk_503 (Or.inl rfl) lf_X10_70 dX10_layField_249 ?_
      refine aw_iload dX10_layField_252 rfl ?_
      exact aw_zreturn dX10_layField_254 rfl h.1 h.2
    · have h := h8 hc; clear h0 h1 h2 h3 h4 h5 h6 h7 h8 h9 hd
      refine aw_aload_n dX10_layField_195 rfl rfl ?_
      refine aw_aload dX10_layField_196 rfl ?_
      refine aw_aload_n dX10_layField_198 rfl rfl ?_
      refine aw_aload dX10_layField_199 rfl ?_
      refine aw_getI' e8 fk_502 lf_X10_67 dX10_layField_201 ?_
      refine aw_aload_n dX10_layField_204 rfl rfl ?_
      refine aw_getI' e4 fk_502 lf_X10_67 dX10_layField_205 ?_
      obtain ⟨⟨c25, c25x⟩, h⟩ := h
      refine aw_isubc dX10_layField_208 c25 c25x ?_
      refine aw_i2l dX10_layField_209 ?_
      refine aw_invVj (M := MX10_layField) (ci := 2) [vJ (i2j ((gI σ5 502 r7 0) - (gI σ5 502 r3 0)))] e2 mo_X2_padding rfl lm_X10_200 li_X2_padding ls_X2_padding (by decide +kernel) dX10_layField_210 rfl (Nat.le_of_ble_eq_true rfl) (ACj.mono (fun v27 σ26 h => ?_) h)
      refine aw_l2i dX10_layField_213 ?_
      refine aw_invVi (M := MX10_layField) (ci := 10) [vR 5 v6, vI (j2i v27)] rfl mo_X10_cover rfl lm_X10_204 li_X10_cover ls_X10_cover (by decide +kernel) dX10_layField_214 rfl (Nat.le_of_ble_eq_true rfl) (ACi.mono (fun v29 σ28 h => ?_) h)
      refine aw_istore (L' := [some (vR 10 (some x0)), some (vR 5 x1), some (vR 2 x2), some (vI x3), some (vR 5 v6), some (vI v29)]) dX10_layField_217 (by decide) rfl ?_
      refine aw_goto (tgt := 243) dX10_layField_219 (by decide) ?_
      refine aw_aload_n dX10_layField_243 rfl rfl ?_
      refine aw_aload dX10_layField_244 rfl ?_
      refine aw_getI' e8 fk_503 lf_X10_70 dX10_layField_246 ?_
      refine aw_putI' e4 fk_503 (Or.inl rfl) lf_X10_70 dX10_layField_249 ?_
      refine aw_iload dX10_layField_252 rfl ?_
      exact aw_zreturn dX10_layField_254 rfl h.1 h.2
    · have h := h9 hc; clear h0 h1 h2 h3 h4 h5 h6 h7 h8 h9 hd
      refine aw_aload_n dX10_layField_222 rfl rfl ?_
      refine aw_aload dX10_layField_223 rfl ?_
      refine aw_aload_n dX10_layField_225 rfl rfl ?_
      refine aw_invVi (M := MX10_layField) (ci := 10) [vR 5 v6, vR 2 x2] rfl mo_X10_layMagic rfl lm_X10_208 li_X10_layMagic ls_X10_layMagic (by decide +kernel) dX10_layField_226 rfl (Nat.le_of_ble_eq_true rfl) (ACi.mono (fun v31 σ30 h => ?_) h)
      refine aw_istore (L' := [some (vR 10 (some x0)), some (vR 5 x1), some (vR 2 x2), some (vI x3), some (vR 5 v6), some (vI v31)]) dX10_layField_229 (by decide) rfl ?_
      refine aw_goto (tgt := 243) dX10_layField_231 (by decide) ?_
      refine aw_aload_n dX10_layField_243 rfl rfl ?_
      refine aw_aload dX10_layField_244 rfl ?_
      refine aw_getI' e8 fk_503 lf_X10_70 dX10_layField_246 ?_
      refine aw_putI' e4 fk_503 (Or.inl rfl) lf_X10_70 dX10_layField_249 ?_
      refine aw_iload dX10_layField_252 rfl ?_
      exact aw_zreturn dX10_layField_254 rfl h.1 h.2
    · have h := hd hc; clear h0 h1 h2 h3 h4 h5 h6 h7 h8 h9 hd
      exact aw_fgt (L' := [some (vR 10 (some x0)), some (vR 5 x1), some (vR 2 x2), none, some (vR 5 v6), none]) ⟨rfl, ⟨rfl, ⟨rfl, ⟨rfl, trivial⟩⟩⟩⟩ h
  · replace h := h.1 hc
    refine aw_iconst (x := 0) dX10_layField_25 rfl ?_
    exact aw_zreturn dX10_layField_26 rfl (Or.inl rfl) h
set_option maxRecDepth 4000 in
theorem bk_X10_layField_234 {g : GP} {l : Launch} {d : Nat} {σ : St} {Q : Option AV → St → Prop} {x0 : Nat} {x1 : Option Nat} {x2 : Option Nat} {x4 : Option Nat}
    (h : ACi g l d MX10_laySum [vR 10 (some x0), vR 5 x4, vR 2 x2] σ (fun v2 σ1 => ∃ r3, x4 = some r3 ∧ ∃ r5, x1 = some r5 ∧ ((v2 = 0 ∨ v2 = 1) ∧ Q (some (vI v2)) (sI σ1 503 r5 0 (gI σ1 503 r3 0))))) :
    AW g l (d + 1) MX10_layField 234 [some (vR 10 (some x0)), some (vR 5 x1), some (vR 2 x2), none, some (vR 5 x4), none] [] σ Q := by
  refine aw_aload_n dX10_layField_234 rfl rfl ?_
  refine aw_aload dX10_layField_235 rfl ?_
  refine aw_aload_n dX10_layField_237 rfl rfl ?_
  refine aw_invVi (M := MX10_layField) (ci := 10) [vR 5 x4, vR 2 x2] rfl mo_X10_laySum rfl lm_X10_211 li_X10_laySum ls_X10_laySum (by decide +kernel) dX10_layField_238 rfl (Nat.le_of_ble_eq_true rfl) (ACi.mono (fun v2 σ1 h => ?_) h)
  refine aw_istore (L' := [some (vR 10 (some x0)), some (vR 5 x1), some (vR 2 x2), none, some (vR 5 x4), some (vI v2)]) dX10_layField_241 (by decide) rfl ?_
  refine aw_aload_n dX10_layField_243 rfl rfl ?_
  refine aw_aload dX10_layField_244 rfl ?_
  obtain ⟨r3, e4, h⟩ := h
  refine aw_getI' e4 fk_503 lf_X10_70 dX10_layField_246 ?_
  obtain ⟨r5, e6, h⟩ := h
  refine aw_putI' e6 fk_503 (Or.inl rfl) lf_X10_70 dX10_layField_249 ?_
  refine aw_iload dX10_layField_252 rfl ?_
  exact aw_zreturn dX10_layField_254 rfl h.1 h.2
set_option maxRecDepth 4000 in
theorem bk_X10_layMagic_0 {g : GP} {l : Launch} {d : Nat} {σ : St} {Q : Option AV → St → Prop} {x0 : Nat} {x1 : Option Nat} {x2 : Option Nat}
    (h : ∃ r1, x2 = some r1 ∧ ACi g l d MX10_cover [vR 10 (some x0), vR 5 x1, vI (gI σ 214 r1 0)] σ (fun v4 σ3 => ((¬ v4 = 0 → AW g l (d + 1) MX10_layMagic 16 [some (vR 10 (some x0)), some (vR 5 x1), some (vR 2 x2), some (vI 0), none, none] [] σ3 Q) ∧ (v4 = 0 → Q (some (vI 0)) σ3)))) :
    AW g l (d + 1) MX10_layMagic 0 [some (vR 10 (some x0)), some (vR 5 x1), some (vR 2 x2), none, none, none] [] σ Q := by
  refine aw_aload_n dX10_layMagic_0 rfl rfl ?_
  refine aw_aload_n dX10_layMagic_1 rfl rfl ?_
  refine aw_aload_n dX10_layMagic_2 rfl rfl ?_
  obtain ⟨r1, e2, h⟩ := h
  refine aw_getI' e2 fk_214 lf_X10_246 dX10_layMagic_3 ?_
  refine aw_invVi (M := MX10_layMagic) (ci := 10) [vR 5 x1, vI (gI σ 214 r1 0)] rfl mo_X10_cover rfl lm_X10_204 li_X10_cover ls_X10_cover (by decide +kernel) dX10_layMagic_6 rfl (Nat.le_of_ble_eq_true rfl) (ACi.mono (fun v4 σ3 h => ?_) h)
  refine aw_if_ne (tgt := 14) dX10_layMagic_9 (by decide) (fun k5 => ?_) (fun k5 => ?_)
  · replace h := h.1 k5
    refine aw_iconst (x := 0) dX10_layMagic_14 rfl ?_
    refine aw_istore_n (L' := [some (vR 10 (some x0)), some (vR 5 x1), some (vR 2 x2), some (vI 0), none, none]) dX10_layMagic_15 rfl (by decide) rfl ?_
    exact aw_fgt (L' := [some (vR 10 (some x0)), some (vR 5 x1), some (vR 2 x2), some (vI 0), none, none]) ⟨rfl, ⟨rfl, ⟨rfl, ⟨rfl, trivial⟩⟩⟩⟩ h
  · replace h := h.2 k5
    refine aw_iconst (x := 0) dX10_layMagic_12 rfl ?_
    exact aw_zreturn dX10_layMagic_13 rfl (Or.inl rfl) h
set_option maxRecDepth 4000 in
theorem bk_X10_layMagic_16 {g : GP} {l : Launch} {d : Nat} {σ : St} {Q : Option AV → St → Prop} {x0 : Nat} {x1 : Option Nat} {x2 : Option Nat} {x3 : Int}
    (h : ∃ r1, x2 = some r1 ∧ (((gI σ 214 r1 0) ≤ x3 → Q (some (vI 1)) σ) ∧ (¬ (gI σ 214 r1 0) ≤ x3 → ∃ r4, gR σ 1006 x0 0 = some r4 ∧ LC 1 σ r4 ∧ R32 ((gI σ 213 r1 0) + x3) ∧ Bd ((gI σ 213 r1 0) + x3) 3000 ∧ (((gJ σ 107 r4 ((gI σ 213 r1 0) + x3).toNat) = ((-1) : Int64) → R32 (x3 + 1) ∧ AW g l (d + 1) MX10_layMagic 16 [some (vR 10 (some x0)), some (vR 5 x1), some (vR 2 x2), some (vI (x3 + 1)), none, none] [] σ Q) ∧ (¬ (gJ σ 107 r4 ((gI σ 213 r1 0) + x3).toNat) = ((-1) : Int64) → ∃ r11, x1 = some r11 ∧ R32 ((gI σ 502 r11 0) + x3) ∧ ∃ r14, gR σ 1000 x0 0 = some r14 ∧ ACi g l d MX3_has [vR 3 (some r14), vI ((gI σ 502 r11 0) + x3)] σ (fun v17 σ16 => (((gJ σ 107 r4 ((gI σ 213 r1 0) + x3).toNat) = (i2j v17) → R32 (x3 + 1) ∧ AW g l (d + 1) MX10_layMagic 16 [some (vR 10 (some x0)), some (vR 5 x1), some (vR 2 x2), some (vI (x3 + 1)), none, none] [] σ16 Q) ∧ (¬ (gJ σ 107 r4 ((gI σ 213 r1 0) + x3).toNat) = (i2j v17) → R32 (x3 + 1) ∧ AW g l (d + 1) MX10_layMagic 16 [some (vR 10 (some x0)), some (vR 5 x1), some (vR 2 x2), some (vI (x3 + 1)), none, none] [] (sI σ16 504 r11 0 2) Q)))))))) :
    AW g l (d + 1) MX10_layMagic 16 [some (vR 10 (some x0)), some (vR 5 x1), some (vR 2 x2), some (vI x3), none, none] [] σ Q := by
  refine aw_iload_n dX10_layMagic_16 rfl rfl ?_
  refine aw_aload_n dX10_layMagic_17 rfl rfl ?_
  obtain ⟨r1, e2, h⟩ := h
  refine aw_getI' e2 fk_214 lf_X10_246 dX10_layMagic_18 ?_
  refine aw_icmp_ge (tgt := 80) dX10_layMagic_21 (by decide) (fun k3 => ?_) (fun k3 => ?_)
  · replace h := h.1 k3
    refine aw_iconst (x := 1) dX10_layMagic_80 rfl ?_
    exact aw_zreturn dX10_layMagic_81 rfl (Or.inr rfl) h
  · replace h := h.2 k3
    refine aw_aload_n dX10_layMagic_24 rfl rfl ?_
    refine aw_getR' (ci := 1) rfl fk_1006 (by decide +kernel) lf_X10_28 dX10_layMagic_25 ?_
    obtain ⟨r4, e5, h⟩ := h
    obtain ⟨lc6, h⟩ := h
    refine aw_getA' e5 fk_107 (by decide) lf_X10_260 dX10_layMagic_28 (LC.ne lc6 rfl rfl) ?_
    refine aw_aload_n dX10_layMagic_31 rfl rfl ?_
    refine aw_getI' e2 fk_213 lf_X10_243 dX10_layMagic_32 ?_
    refine aw_iload_n dX10_layMagic_35 rfl rfl ?_
    obtain ⟨⟨c7, c7x⟩, h⟩ := h
    refine aw_iaddc dX10_layMagic_36 c7 c7x ?_
    obtain ⟨⟨c8, c8x⟩, h⟩ := h
    refine aw_laload (by decide) rfl dX10_layMagic_37 c8 (LC.lt lc6 rfl rfl c8x) ?_
    refine aw_lstore (L' := [some (vR 10 (some x0)), some (vR 5 x1), some (vR 2 x2), some (vI x3), some (vJ (gJ σ 107 r4 ((gI σ 213 r1 0) + x3).toNat)), none]) dX10_layMagic_38 (by decide) rfl ?_
    refine aw_lload dX10_layMagic_40 rfl ?_
    refine aw_ldc2 lk_X10_287 dX10_layMagic_42 ?_
    refine aw_lcmp_eq (M := MX10_layMagic) (tgt := 74) dX10_layMagic_45 dX10_layMagic_46 (by decide) (fun k9 => ?_) (fun k9 => ?_)
    · replace h := h.1 k9
      obtain ⟨⟨c10, c10x⟩, h⟩ := h
      refine aw_iincc (L' := [some (vR 10 (some x0)), some (vR 5 x1), some (vR 2 x2), some (vI (x3 + 1)), some (vJ (gJ σ 107 r4 ((gI σ 213 r1 0) + x3).toNat)), none]) dX10_layMagic_74 rfl (by decide) rfl c10 c10x rfl ?_
      refine aw_goto (tgt := 16) dX10_layMagic_77 (by decide) ?_
      exact aw_fgt (L' := [some (vR 10 (some x0)), some (vR 5 x1), some (vR 2 x2), some (vI (x3 + 1)), none, none]) ⟨rfl, ⟨rfl, ⟨rfl, ⟨rfl, trivial⟩⟩⟩⟩ h
    · replace h := h.2 k9
      refine aw_lload dX10_layMagic_49 rfl ?_
      refine aw_aload_n dX10_layMagic_51 rfl rfl ?_
      refine aw_getR' (ci := 3) rfl fk_1000 (by decide +kernel) lf_X10_17 dX10_layMagic_52 ?_
      refine aw_aload_n dX10_layMagic_55 rfl rfl ?_
      obtain ⟨r11, e12, h⟩ := h
      refine aw_getI' e12 fk_502 lf_X10_67 dX10_layMagic_56 ?_
      refine aw_iload_n dX10_layMagic_59 rfl rfl ?_
      obtain ⟨⟨c13, c13x⟩, h⟩ := h
      refine aw_iaddc dX10_layMagic_60 c13 c13x ?_
      obtain ⟨r14, e15, h⟩ := h
      refine aw_invVi (M := MX10_layMagic) (ci := 3) [vI ((gI σ 502 r11 0) + x3)] e15 mo_X3_has rfl lm_X10_289 li_X3_has ls_X3_has (by decide +kernel) dX10_layMagic_61 rfl (Nat.le_of_ble_eq_true rfl) (ACi.mono (fun v17 σ16 h => ?_) h)
      refine aw_i2l dX10_layMagic_64 ?_
      refine aw_lcmp_eq (M := MX10_layMagic) (tgt := 74) dX10_layMagic_65 dX10_layMagic_66 (by decide) (fun k18 => ?_) (fun k18 => ?_)
      · replace h := h.1 k18
        obtain ⟨⟨c19, c19x⟩, h⟩ := h
        refine aw_iincc (L' := [some (vR 10 (some x0)), some (vR 5 x1), some (vR 2 x2), some (vI (x3 + 1)), some (vJ (gJ σ 107 r4 ((gI σ 213 r1 0) + x3).toNat)), none]) dX10_layMagic_74 rfl (by decide) rfl c19 c19x rfl ?_
        refine aw_goto (tgt := 16) dX10_layMagic_77 (by decide) ?_
        exact aw_fgt (L' := [some (vR 10 (some x0)), some (vR 5 x1), some (vR 2 x2), some (vI (x3 + 1)), none, none]) ⟨rfl, ⟨rfl, ⟨rfl, ⟨rfl, trivial⟩⟩⟩⟩ h
      · replace h := h.2 k18
        refine aw_aload_n dX10_layMagic_69 rfl rfl ?_
        refine aw_iconst (x := 2) dX10_layMagic_70 rfl ?_
        refine aw_putI' e12 fk_504 (Or.inl rfl) lf_X10_47 dX10_layMagic_71 ?_
        obtain ⟨⟨c20, c20x⟩, h⟩ := h
        refine aw_iincc (L' := [some (vR 10 (some x0)), some (vR 5 x1), some (vR 2 x2), some (vI (x3 + 1)), some (vJ (gJ σ 107 r4 ((gI σ 213 r1 0) + x3).toNat)), none]) dX10_layMagic_74 rfl (by decide) rfl c20 c20x rfl ?_
        refine aw_goto (tgt := 16) dX10_layMagic_77 (by decide) ?_
        exact aw_fgt (L' := [some (vR 10 (some x0)), some (vR 5 x1), some (vR 2 x2), some (vI (x3 + 1)), none, none]) ⟨rfl, ⟨rfl, ⟨rfl, ⟨rfl, trivial⟩⟩⟩⟩ h
set_option maxRecDepth 4000 in
theorem bk_X10_layPointer_0 {g : GP} {l : Launch} {d : Nat} {σ : St} {Q : Option AV → St → Prop} {x0 : Nat} {x1 : Option Nat} {x2 : Option Nat} {x3 : Int}
    (h : ∃ r1, x2 = some r1 ∧ ACi g l d MX10_cover [vR 10 (some x0), vR 5 x1, vI (gI σ 203 r1 0)] σ (fun v4 σ3 => ((¬ v4 = 0 → ∃ r6, x1 = some r6 ∧ ACj g l d MX5_reading [vR 5 (some r6), vR 3 (gR σ3 1000 x0 0)] σ3 (fun v9 σ8 => (((gI σ8 209 r1 0) = (-1) → AW g l (d + 1) MX10_layPointer 90 [some (vR 10 (some x0)), some (vR 5 x1), some (vR 2 x2), some (vI x3), some (vJ (v9 * (gJ σ8 211 r1 0))), none] [] σ8 Q) ∧ (¬ (gI σ8 209 r1 0) = (-1) → ∃ r11, gR σ8 1006 x0 0 = some r11 ∧ ∃ r13, gR σ8 1007 x0 0 = some r13 ∧ ACj g l d MX7_work [vR 7 (some r13), vR 0 (gR σ8 110 r11 0), vI (gI σ8 209 r1 0), vR 5 (gR σ8 507 r6 0), vI (gI σ8 502 r6 0), vR 3 (gR σ8 1000 x0 0)] σ8 (fun v16 σ15 => ∃ r17, gR σ15 1007 x0 0 = some r17 ∧ (((gI σ15 700 r17 0) = 0 → AW g l (d + 1) MX10_layPointer 90 [some (vR 10 (some x0)), some (vR 5 x1), some (vR 2 x2), some (vI x3), some (vJ ((v9 * (gJ σ8 211 r1 0)) + v16)), none] [] σ15 Q) ∧ (¬ (gI σ15 700 r17 0) = 0 → Q (some (vI 1)) (sI σ15 504 r6 0 6)))))))) ∧ (v4 = 0 → Q (some (vI 0)) σ3)))) :
    AW g l (d + 1) MX10_layPointer 0 [some (vR 10 (some x0)), some (vR 5 x1), some (vR 2 x2), some (vI x3), none, none] [] σ Q := by
  refine aw_aload_n dX10_layPointer_0 rfl rfl ?_
  refine aw_aload_n dX10_layPointer_1 rfl rfl ?_
  refine aw_aload_n dX10_layPointer_2 rfl rfl ?_
  obtain ⟨r1, e2, h⟩ := h
  refine aw_getI' e2 fk_203 lf_X10_90 dX10_layPointer_3 ?_
  refine aw_invVi (M := MX10_layPointer) (ci := 10) [vR 5 x1, vI (gI σ 203 r1 0)] rfl mo_X10_cover rfl lm_X10_204 li_X10_cover ls_X10_cover (by decide +kernel) dX10_layPointer_6 rfl (Nat.le_of_ble_eq_true rfl) (ACi.mono (fun v4 σ3 h => ?_) h)
  refine aw_if_ne (tgt := 14) dX10_layPointer_9 (by decide) (fun k5 => ?_) (fun k5 => ?_)
  · replace h := h.1 k5
    refine aw_aload_n dX10_layPointer_14 rfl rfl ?_
    refine aw_aload_n dX10_layPointer_15 rfl rfl ?_
    refine aw_getR' (ci := 3) rfl fk_1000 (by decide +kernel) lf_X10_17 dX10_layPointer_16 ?_
    obtain ⟨r6, e7, h⟩ := h
    refine aw_invVj (M := MX10_layPointer) (ci := 5) [vR 3 (gR σ3 1000 x0 0)] e7 mo_X5_reading rfl lm_X10_217 li_X5_reading ls_X5_reading (by decide +kernel) dX10_layPointer_19 rfl (Nat.le_of_ble_eq_true rfl) (ACj.mono (fun v9 σ8 h => ?_) h)
    refine aw_aload_n dX10_layPointer_22 rfl rfl ?_
    refine aw_getJ' e2 fk_211 lf_X10_269 dX10_layPointer_23 ?_
    refine aw_lmul dX10_layPointer_26 ?_
    refine aw_lstore (L' := [some (vR 10 (some x0)), some (vR 5 x1), some (vR 2 x2), some (vI x3), some (vJ (v9 * (gJ σ8 211 r1 0))), none]) dX10_layPointer_27 (by decide) rfl ?_
    refine aw_aload_n dX10_layPointer_29 rfl rfl ?_
    refine aw_getI' e2 fk_209 lf_X10_184 dX10_layPointer_30 ?_
    refine aw_iconst (x := (-1)) dX10_layPointer_33 rfl ?_
    refine aw_icmp_eq (tgt := 90) dX10_layPointer_34 (by decide) (fun k10 => ?_) (fun k10 => ?_)
    · replace h := h.1 k10
      exact aw_fgt (L' := [some (vR 10 (some x0)), some (vR 5 x1), some (vR 2 x2), some (vI x3), some (vJ (v9 * (gJ σ8 211 r1 0))), none]) ⟨rfl, ⟨rfl, ⟨rfl, ⟨rfl, ⟨rfl, trivial⟩⟩⟩⟩⟩ h
    · replace h := h.2 k10
      refine aw_lload dX10_layPointer_37 rfl ?_
      refine aw_aload_n dX10_layPointer_39 rfl rfl ?_
      refine aw_getR' (ci := 7) rfl fk_1007 (by decide +kernel) lf_X10_32 dX10_layPointer_40 ?_
      refine aw_aload_n dX10_layPointer_43 rfl rfl ?_
      refine aw_getR' (ci := 1) rfl fk_1006 (by decide +kernel) lf_X10_28 dX10_layPointer_44 ?_
      obtain ⟨r11, e12, h⟩ := h
      refine aw_getR' (ci := 0) e12 fk_110 (by decide +kernel) lf_X10_156 dX10_layPointer_47 ?_
      refine aw_aload_n dX10_layPointer_50 rfl rfl ?_
      refine aw_getI' e2 fk_209 lf_X10_184 dX10_layPointer_51 ?_
      refine aw_aload_n dX10_layPointer_54 rfl rfl ?_
      refine aw_getR' (ci := 5) e7 fk_507 (by decide +kernel) lf_X10_82 dX10_layPointer_55 ?_
      refine aw_aload_n dX10_layPointer_58 rfl rfl ?_
      refine aw_getI' e7 fk_502 lf_X10_67 dX10_layPointer_59 ?_
      refine aw_aload_n dX10_layPointer_62 rfl rfl ?_
      refine aw_getR' (ci := 3) rfl fk_1000 (by decide +kernel) lf_X10_17 dX10_layPointer_63 ?_
      obtain ⟨r13, e14, h⟩ := h
      refine aw_invVj (M := MX10_layPointer) (ci := 7) [vR 0 (gR σ8 110 r11 0), vI (gI σ8 209 r1 0), vR 5 (gR σ8 507 r6 0), vI (gI σ8 502 r6 0), vR 3 (gR σ8 1000 x0 0)] e14 mo_X7_work rfl lm_X10_160 li_X7_work ls_X7_work (by decide +kernel) dX10_layPointer_66 rfl (Nat.le_of_ble_eq_true rfl) (ACj.mono (fun v16 σ15 h => ?_) h)
      refine aw_ladd dX10_layPointer_69 ?_
      refine aw_lstore (L' := [some (vR 10 (some x0)), some (vR 5 x1), some (vR 2 x2), some (vI x3), some (vJ ((v9 * (gJ σ8 211 r1 0)) + v16)), none]) dX10_layPointer_70 (by decide) rfl ?_
      refine aw_aload_n dX10_layPointer_72 rfl rfl ?_
      refine aw_getR' (ci := 7) rfl fk_1007 (by decide +kernel) lf_X10_32 dX10_layPointer_73 ?_
      obtain ⟨r17, e18, h⟩ := h
      refine aw_getZ' e18 fk_700 lf_X10_166 dX10_layPointer_76 ?_
      refine aw_if_eq (tgt := 90) dX10_layPointer_79 (by decide) (fun k19 => ?_) (fun k19 => ?_)
      · replace h := h.1 k19
        exact aw_fgt (L' := [some (vR 10 (some x0)), some (vR 5 x1), some (vR 2 x2), some (vI x3), some (vJ ((v9 * (gJ σ8 211 r1 0)) + v16)), none]) ⟨rfl, ⟨rfl, ⟨rfl, ⟨rfl, ⟨rfl, trivial⟩⟩⟩⟩⟩ h
      · replace h := h.2 k19
        refine aw_aload_n dX10_layPointer_82 rfl rfl ?_
        refine aw_bipush (x := 6) dX10_layPointer_83 rfl ?_
        refine aw_putI' e7 fk_504 (Or.inl rfl) lf_X10_47 dX10_layPointer_85 ?_
        refine aw_iconst (x := 1) dX10_layPointer_88 rfl ?_
        exact aw_zreturn dX10_layPointer_89 rfl (Or.inr rfl) h
  · replace h := h.2 k5
    refine aw_iconst (x := 0) dX10_layPointer_12 rfl ?_
    exact aw_zreturn dX10_layPointer_13 rfl (Or.inl rfl) h
set_option maxRecDepth 4000 in
theorem bk_X10_layPointer_90 {g : GP} {l : Launch} {d : Nat} {σ : St} {Q : Option AV → St → Prop} {x0 : Nat} {x1 : Option Nat} {x2 : Option Nat} {x3 : Int} {x4 : Int64}
    (h : ((x4.toInt < (0 : Int64).toInt → ∃ r2, x1 = some r2 ∧ Q (some (vI 1)) (sI σ 504 r2 0 8)) ∧ (¬ x4.toInt < (0 : Int64).toInt → ∃ r4, gR σ 1000 x0 0 = some r4 ∧ ((x4.toInt < (i2j (gI σ 304 r4 0)).toInt → ∃ r7, x2 = some r7 ∧ ACi g l d MX10_isAbove [vR 5 x1, vI (gI σ 206 r7 0), vI (j2i x4)] σ (fun v10 σ9 => ((v10 = 0 → R32 (x3 + 1) ∧ ACi g l d MX10_addStruct [vR 10 (some x0), vR 5 x1, vI (gI σ9 206 r7 0), vI (j2i x4), vI (x3 + 1)] σ9 (fun v14 σ13 => Q (some (vI 1)) σ13)) ∧ (¬ v10 = 0 → ∃ r15, x1 = some r15 ∧ Q (some (vI 1)) (sI σ9 505 r15 0 1))))) ∧ (¬ x4.toInt < (i2j (gI σ 304 r4 0)).toInt → ∃ r17, x1 = some r17 ∧ Q (some (vI 1)) (sI σ 504 r17 0 8)))))) :
    AW g l (d + 1) MX10_layPointer 90 [some (vR 10 (some x0)), some (vR 5 x1), some (vR 2 x2), some (vI x3), some (vJ x4), none] [] σ Q := by
  refine aw_lload dX10_layPointer_90 rfl ?_
  refine aw_lconst (x := 0) dX10_layPointer_92 rfl ?_
  refine aw_lcmp_lt (M := MX10_layPointer) (tgt := 111) dX10_layPointer_93 dX10_layPointer_94 (by decide) (fun k1 => ?_) (fun k1 => ?_)
  · replace h := h.1 k1
    refine aw_aload_n dX10_layPointer_111 rfl rfl ?_
    refine aw_bipush (x := 8) dX10_layPointer_112 rfl ?_
    obtain ⟨r2, e3, h⟩ := h
    refine aw_putI' e3 fk_504 (Or.inl rfl) lf_X10_47 dX10_layPointer_114 ?_
    refine aw_goto (tgt := 158) dX10_layPointer_117 (by decide) ?_
    refine aw_iconst (x := 1) dX10_layPointer_158 rfl ?_
    exact aw_zreturn dX10_layPointer_159 rfl (Or.inr rfl) h
  · replace h := h.2 k1
    refine aw_lload dX10_layPointer_97 rfl ?_
    refine aw_aload_n dX10_layPointer_99 rfl rfl ?_
    refine aw_getR' (ci := 3) rfl fk_1000 (by decide +kernel) lf_X10_17 dX10_layPointer_100 ?_
    obtain ⟨r4, e5, h⟩ := h
    refine aw_getI' e5 fk_304 lf_X10_73 dX10_layPointer_103 ?_
    refine aw_i2l dX10_layPointer_106 ?_
    refine aw_lcmp_lt (M := MX10_layPointer) (tgt := 120) dX10_layPointer_107 dX10_layPointer_108 (by decide) (fun k6 => ?_) (fun k6 => ?_)
    · replace h := h.1 k6
      refine aw_aload_n dX10_layPointer_120 rfl rfl ?_
      refine aw_aload_n dX10_layPointer_121 rfl rfl ?_
      obtain ⟨r7, e8, h⟩ := h
      refine aw_getI' e8 fk_206 lf_X10_173 dX10_layPointer_122 ?_
      refine aw_lload dX10_layPointer_125 rfl ?_
      refine aw_l2i dX10_layPointer_127 ?_
      refine aw_invSi (M := MX10_layPointer) [vR 5 x1, vI (gI σ 206 r7 0), vI (j2i x4)] mo_X10_isAbove rfl lm_X10_279 lt_X10_isAbove dX10_layPointer_128 rfl (Nat.le_of_ble_eq_true rfl) (ACi.mono (fun v10 σ9 h => ?_) h)
      refine aw_if_eq (tgt := 142) dX10_layPointer_131 (by decide) (fun k11 => ?_) (fun k11 => ?_)
      · replace h := h.1 k11
        refine aw_aload_n dX10_layPointer_142 rfl rfl ?_
        refine aw_aload_n dX10_layPointer_143 rfl rfl ?_
        refine aw_aload_n dX10_layPointer_144 rfl rfl ?_
        refine aw_getI' e8 fk_206 lf_X10_173 dX10_layPointer_145 ?_
        refine aw_lload dX10_layPointer_148 rfl ?_
        refine aw_l2i dX10_layPointer_150 ?_
        refine aw_iload_n dX10_layPointer_151 rfl rfl ?_
        refine aw_iconst (x := 1) dX10_layPointer_152 rfl ?_
        obtain ⟨⟨c12, c12x⟩, h⟩ := h
        refine aw_iaddc dX10_layPointer_153 c12 c12x ?_
        refine aw_invVi (M := MX10_layPointer) (ci := 10) [vR 5 x1, vI (gI σ9 206 r7 0), vI (j2i x4), vI (x3 + 1)] rfl mo_X10_addStruct rfl lm_X10_43 li_X10_addStruct ls_X10_addStruct (by decide +kernel) dX10_layPointer_154 rfl (Nat.le_of_ble_eq_true rfl) (ACi.mono (fun v14 σ13 h => ?_) h)
        refine aw_pop dX10_layPointer_157 rfl ?_
        refine aw_iconst (x := 1) dX10_layPointer_158 rfl ?_
        exact aw_zreturn dX10_layPointer_159 rfl (Or.inr rfl) h
      · replace h := h.2 k11
        refine aw_aload_n dX10_layPointer_134 rfl rfl ?_
        refine aw_iconst (x := 1) dX10_layPointer_135 rfl ?_
        obtain ⟨r15, e16, h⟩ := h
        refine aw_putZ' e16 fk_505 (Or.inl rfl) lf_X10_283 dX10_layPointer_136 (Or.inr rfl) ?_
        refine aw_goto (tgt := 158) dX10_layPointer_139 (by decide) ?_
        refine aw_iconst (x := 1) dX10_layPointer_158 rfl ?_
        exact aw_zreturn dX10_layPointer_159 rfl (Or.inr rfl) h
    · replace h := h.2 k6
      refine aw_aload_n dX10_layPointer_111 rfl rfl ?_
      refine aw_bipush (x := 8) dX10_layPointer_112 rfl ?_
      obtain ⟨r17, e18, h⟩ := h
      refine aw_putI' e18 fk_504 (Or.inl rfl) lf_X10_47 dX10_layPointer_114 ?_
      refine aw_goto (tgt := 158) dX10_layPointer_117 (by decide) ?_
      refine aw_iconst (x := 1) dX10_layPointer_158 rfl ?_
      exact aw_zreturn dX10_layPointer_159 rfl (Or.inr rfl) h
set_option maxRecDepth 4000 in
theorem bk_X10_layStruct_0 {g : GP} {l : Launch} {d : Nat} {σ : St} {Q : Option AV → St → Prop} {x0 : Nat} {x1 : Option Nat} {x2 : Int} {x3 : Int}
    (h : ∃ r1, x1 = some r1 ∧ ((x3 ≤ 20 → ∃ r4, gR σ 1006 x0 0 = some r4 ∧ LC 1 σ r4 ∧ Bd x2 20 ∧ AW g l (d + 1) MX10_layStruct 35 [some (vR 10 (some x0)), some (vR 5 x1), none, some (vI x3), some (vR 8 (gR σ 100 r4 x2.toNat)), some (vI 1), some (vI 0), none] [] (sI σ 514 r1 0 x2) Q) ∧ (¬ x3 ≤ 20 → Q none (sI (sI σ 514 r1 0 x2) 504 r1 0 9)))) :
    AW g l (d + 1) MX10_layStruct 0 [some (vR 10 (some x0)), some (vR 5 x1), some (vI x2), some (vI x3), none, none, none, none] [] σ Q := by
  refine aw_aload_n dX10_layStruct_0 rfl rfl ?_
  refine aw_iload_n dX10_layStruct_1 rfl rfl ?_
  obtain ⟨r1, e2, h⟩ := h
  refine aw_putI' e2 fk_514 (Or.inl rfl) lf_X10_137 dX10_layStruct_2 ?_
  refine aw_iload_n dX10_layStruct_5 rfl rfl ?_
  refine aw_bipush (x := 20) dX10_layStruct_6 rfl ?_
  refine aw_icmp_le (tgt := 18) dX10_layStruct_8 (by decide) (fun k3 => ?_) (fun k3 => ?_)
  · replace h := h.1 k3
    refine aw_aload_n dX10_layStruct_18 rfl rfl ?_
    refine aw_getRe (ci := 1) (v := gR σ 1006 x0 0) rfl fk_1006 (by decide +kernel) lf_X10_28 dX10_layStruct_19 rfl ?_
    obtain ⟨r4, e5, h⟩ := h
    obtain ⟨lc6, h⟩ := h
    refine aw_getA' e5 fk_100 (by decide) lf_X10_117 dX10_layStruct_22 (LC.ne lc6 rfl rfl) ?_
    refine aw_iload_n dX10_layStruct_25 rfl rfl ?_
    obtain ⟨⟨c7, c7x⟩, h⟩ := h
    refine aw_aaloade (ci := 8) (v := gR σ 100 r4 x2.toNat) (by decide) rfl (by decide +kernel) dX10_layStruct_26 c7 (LC.lt lc6 rfl rfl c7x) rfl ?_
    refine aw_astore (L' := [some (vR 10 (some x0)), some (vR 5 x1), some (vI x2), some (vI x3), some (vR 8 (gR σ 100 r4 x2.toNat)), none, none, none]) dX10_layStruct_27 (by decide) rfl ?_
    refine aw_iconst (x := 1) dX10_layStruct_29 rfl ?_
    refine aw_istore (L' := [some (vR 10 (some x0)), some (vR 5 x1), some (vI x2), some (vI x3), some (vR 8 (gR σ 100 r4 x2.toNat)), some (vI 1), none, none]) dX10_layStruct_30 (by decide) rfl ?_
    refine aw_iconst (x := 0) dX10_layStruct_32 rfl ?_
    refine aw_istore (L' := [some (vR 10 (some x0)), some (vR 5 x1), some (vI x2), some (vI x3), some (vR 8 (gR σ 100 r4 x2.toNat)), some (vI 1), some (vI 0), none]) dX10_layStruct_33 (by decide) rfl ?_
    exact aw_fgt (L' := [some (vR 10 (some x0)), some (vR 5 x1), none, some (vI x3), some (vR 8 (gR σ 100 r4 x2.toNat)), some (vI 1), some (vI 0), none]) ⟨rfl, ⟨rfl, ⟨rfl, ⟨rfl, ⟨rfl, ⟨rfl, trivial⟩⟩⟩⟩⟩⟩ h
  · replace h := h.2 k3
    refine aw_aload_n dX10_layStruct_11 rfl rfl ?_
    refine aw_bipush (x := 9) dX10_layStruct_12 rfl ?_
    refine aw_putI' e2 fk_504 (Or.inl rfl) lf_X10_47 dX10_layStruct_14 ?_
    exact aw_ret h rfl dX10_layStruct_17
set_option maxRecDepth 4000 in
theorem bk_X10_layStruct_35 {g : GP} {l : Launch} {d : Nat} {σ : St} {Q : Option AV → St → Prop} {x0 : Nat} {x1 : Option Nat} {x3 : Int} {x4 : Option Nat} {x5 : Int} {x6 : Int}
    (h : ∃ r1, x4 = some r1 ∧ (((gI σ 802 r1 0) ≤ x6 → Q none σ) ∧ (¬ (gI σ 802 r1 0) ≤ x6 → ((x5 = 0 → Q none σ) ∧ (¬ x5 = 0 → ((¬ (gI σ 1005 x0 0) = 0 → Q none σ) ∧ ((gI σ 1005 x0 0) = 0 → LC 8 σ r1 ∧ Bd x6 14 ∧ ACi g l d MX10_isThere [vR 10 (some x0), vR 2 (gR σ 801 r1 x6.toNat), vR 5 x1] σ (fun v9 σ8 => ((v9 = 0 → R32 (x6 + 1) ∧ AW g l (d + 1) MX10_layStruct 35 [some (vR 10 (some x0)), some (vR 5 x1), none, some (vI x3), some (vR 8 x4), some (vI x5), some (vI (x6 + 1)), none] [] σ8 Q) ∧ (¬ v9 = 0 → ACi g l d MX10_layField [vR 10 (some x0), vR 5 x1, vR 2 (gR σ 801 r1 x6.toNat), vI x3] σ8 (fun v13 σ12 => R32 (x6 + 1) ∧ AW g l (d + 1) MX10_layStruct 35 [some (vR 10 (some x0)), some (vR 5 x1), none, some (vI x3), some (vR 8 x4), some (vI v13), some (vI (x6 + 1)), none] [] σ12 Q))))))))))) :
    AW g l (d + 1) MX10_layStruct 35 [some (vR 10 (some x0)), some (vR 5 x1), none, some (vI x3), some (vR 8 x4), some (vI x5), some (vI x6), none] [] σ Q := by
  refine aw_iload dX10_layStruct_35 rfl ?_
  refine aw_aload dX10_layStruct_37 rfl ?_
  obtain ⟨r1, e2, h⟩ := h
  refine aw_getI' e2 fk_802 lf_X10_138 dX10_layStruct_39 ?_
  refine aw_icmp_ge (tgt := 93) dX10_layStruct_42 (by decide) (fun k3 => ?_) (fun k3 => ?_)
  · replace h := h.1 k3
    exact aw_ret h rfl dX10_layStruct_93
  · replace h := h.2 k3
    refine aw_iload dX10_layStruct_45 rfl ?_
    refine aw_if_eq (tgt := 93) dX10_layStruct_47 (by decide) (fun k4 => ?_) (fun k4 => ?_)
    · replace h := h.1 k4
      exact aw_ret h rfl dX10_layStruct_93
    · replace h := h.2 k4
      refine aw_aload_n dX10_layStruct_50 rfl rfl ?_
      refine aw_getZ' rfl fk_1005 lf_X10_39 dX10_layStruct_51 ?_
      refine aw_if_ne (tgt := 93) dX10_layStruct_54 (by decide) (fun k5 => ?_) (fun k5 => ?_)
      · replace h := h.1 k5
        exact aw_ret h rfl dX10_layStruct_93
      · replace h := h.2 k5
        refine aw_aload dX10_layStruct_57 rfl ?_
        obtain ⟨lc6, h⟩ := h
        refine aw_getA' e2 fk_801 (by decide) lf_X10_141 dX10_layStruct_59 (LC.ne lc6 rfl rfl) ?_
        refine aw_iload dX10_layStruct_62 rfl ?_
        obtain ⟨⟨c7, c7x⟩, h⟩ := h
        refine aw_aaload (ci := 2) (by decide) rfl (by decide +kernel) dX10_layStruct_64 c7 (LC.lt lc6 rfl rfl c7x) ?_
        refine aw_astore (L' := [some (vR 10 (some x0)), some (vR 5 x1), none, some (vI x3), some (vR 8 x4), some (vI x5), some (vI x6), some (vR 2 (gR σ 801 r1 x6.toNat))]) dX10_layStruct_65 (by decide) rfl ?_
        refine aw_aload_n dX10_layStruct_67 rfl rfl ?_
        refine aw_aload dX10_layStruct_68 rfl ?_
        refine aw_aload_n dX10_layStruct_70 rfl rfl ?_
        refine aw_invVi (M := MX10_layStruct) (ci := 10) [vR 2 (gR σ 801 r1 x6.toNat), vR 5 x1] rfl mo_X10_isThere rfl lm_X10_145 li_X10_isThere ls_X10_isThere (by decide +kernel) dX10_layStruct_71 rfl (Nat.le_of_ble_eq_true rfl) (ACi.mono (fun v9 σ8 h => ?_) h)
        refine aw_if_eq (tgt := 87) dX10_layStruct_74 (by decide) (fun k10 => ?_) (fun k10 => ?_)
        · replace h := h.1 k10
          obtain ⟨⟨c11, c11x⟩, h⟩ := h
          refine aw_iincc (L' := [some (vR 10 (some x0)), some (vR 5 x1), none, some (vI x3), some (vR 8 x4), some (vI x5), some (vI (x6 + 1)), some (vR 2 (gR σ 801 r1 x6.toNat))]) dX10_layStruct_87 rfl (by decide) rfl c11 c11x rfl ?_
          refine aw_goto (tgt := 35) dX10_layStruct_90 (by decide) ?_
          exact aw_fgt (L' := [some (vR 10 (some x0)), some (vR 5 x1), none, some (vI x3), some (vR 8 x4), some (vI x5), some (vI (x6 + 1)), none]) ⟨rfl, ⟨rfl, ⟨rfl, ⟨rfl, ⟨rfl, ⟨rfl, trivial⟩⟩⟩⟩⟩⟩ h
        · replace h := h.2 k10
          refine aw_aload_n dX10_layStruct_77 rfl rfl ?_
          refine aw_aload_n dX10_layStruct_78 rfl rfl ?_
          refine aw_aload dX10_layStruct_79 rfl ?_
          refine aw_iload_n dX10_layStruct_81 rfl rfl ?_
          refine aw_invVi (M := MX10_layStruct) (ci := 10) [vR 5 x1, vR 2 (gR σ 801 r1 x6.toNat), vI x3] rfl mo_X10_layField rfl lm_X10_149 li_X10_layField ls_X10_layField (by decide +kernel) dX10_layStruct_82 rfl (Nat.le_of_ble_eq_true rfl) (ACi.mono (fun v13 σ12 h => ?_) h)
          refine aw_istore (L' := [some (vR 10 (some x0)), some (vR 5 x1), none, some (vI x3), some (vR 8 x4), some (vI v13), some (vI x6), some (vR 2 (gR σ 801 r1 x6.toNat))]) dX10_layStruct_85 (by decide) rfl ?_
          obtain ⟨⟨c14, c14x⟩, h⟩ := h
          refine aw_iincc (L' := [some (vR 10 (some x0)), some (vR 5 x1), none, some (vI x3), some (vR 8 x4), some (vI v13), some (vI (x6 + 1)), some (vR 2 (gR σ 801 r1 x6.toNat))]) dX10_layStruct_87 rfl (by decide) rfl c14 c14x rfl ?_
          refine aw_goto (tgt := 35) dX10_layStruct_90 (by decide) ?_
          exact aw_fgt (L' := [some (vR 10 (some x0)), some (vR 5 x1), none, some (vI x3), some (vR 8 x4), some (vI v13), some (vI (x6 + 1)), none]) ⟨rfl, ⟨rfl, ⟨rfl, ⟨rfl, ⟨rfl, ⟨rfl, trivial⟩⟩⟩⟩⟩⟩ h
set_option maxRecDepth 4000 in
theorem bk_X10_laySum_0 {g : GP} {l : Launch} {d : Nat} {σ : St} {Q : Option AV → St → Prop} {x0 : Nat} {x1 : Option Nat} {x2 : Option Nat}
    (h : ∃ r1, x2 = some r1 ∧ ACi g l d MX10_cover [vR 10 (some x0), vR 5 x1, vI (gI σ 203 r1 0)] σ (fun v4 σ3 => ((¬ v4 = 0 → ACi g l d MX10_rangeFault [vR 10 (some x0), vR 5 x1] σ3 (fun v7 σ6 => ∃ r8, x1 = some r8 ∧ ((¬ v7 = 0 → Q (some (vI 1)) (sI σ6 504 r8 0 v7)) ∧ (v7 = 0 → ACj g l d MX5_reading [vR 5 (some r8), vR 3 (gR σ6 1000 x0 0)] (sI σ6 504 r8 0 v7) (fun v12 σ11 => ACj g l d MX10_due [vR 10 (some x0), vR 5 x1] σ11 (fun v14 σ13 => R32 (8 * (gI σ13 203 r1 0)) ∧ ACj g l d MX11_lowBits [vI (8 * (gI σ13 203 r1 0))] σ13 (fun v17 σ16 => ((((v12 ^^^ v14) &&& v17) = (0 : Int64) → Q (some (vI 1)) σ16) ∧ (¬ ((v12 ^^^ v14) &&& v17) = (0 : Int64) → Q (some (vI 1)) (sI σ16 504 r8 0 3)))))))))) ∧ (v4 = 0 → Q (some (vI 0)) σ3)))) :
    AW g l (d + 1) MX10_laySum 0 [some (vR 10 (some x0)), some (vR 5 x1), some (vR 2 x2)] [] σ Q := by
  refine aw_aload_n dX10_laySum_0 rfl rfl ?_
  refine aw_aload_n dX10_laySum_1 rfl rfl ?_
  refine aw_aload_n dX10_laySum_2 rfl rfl ?_
  obtain ⟨r1, e2, h⟩ := h
  refine aw_getI' e2 fk_203 lf_X10_90 dX10_laySum_3 ?_
  refine aw_invVi (M := MX10_laySum) (ci := 10) [vR 5 x1, vI (gI σ 203 r1 0)] rfl mo_X10_cover rfl lm_X10_204 li_X10_cover ls_X10_cover (by decide +kernel) dX10_laySum_6 rfl (Nat.le_of_ble_eq_true rfl) (ACi.mono (fun v4 σ3 h => ?_) h)
  refine aw_if_ne (tgt := 14) dX10_laySum_9 (by decide) (fun k5 => ?_) (fun k5 => ?_)
  · replace h := h.1 k5
    refine aw_aload_n dX10_laySum_14 rfl rfl ?_
    refine aw_aload_n dX10_laySum_15 rfl rfl ?_
    refine aw_aload_n dX10_laySum_16 rfl rfl ?_
    refine aw_invVi (M := MX10_laySum) (ci := 10) [vR 5 x1] rfl mo_X10_rangeFault rfl lm_X10_86 li_X10_rangeFault ls_X10_rangeFault (by decide +kernel) dX10_laySum_17 rfl (Nat.le_of_ble_eq_true rfl) (ACi.mono (fun v7 σ6 h => ?_) h)
    obtain ⟨r8, e9, h⟩ := h
    refine aw_putI' e9 fk_504 (Or.inl rfl) lf_X10_47 dX10_laySum_20 ?_
    refine aw_aload_n dX10_laySum_23 rfl rfl ?_
    refine aw_getIe (v := v7) e9 fk_504 lf_X10_47 dX10_laySum_24 (gI_slf σ6 504 r8 0 v7) ?_
    refine aw_if_ne (tgt := 65) dX10_laySum_27 (by decide) (fun k10 => ?_) (fun k10 => ?_)
    · replace h := h.1 k10
      refine aw_iconst (x := 1) dX10_laySum_65 rfl ?_
      exact aw_zreturn dX10_laySum_66 rfl (Or.inr rfl) h
    · replace h := h.2 k10
      refine aw_aload_n dX10_laySum_30 rfl rfl ?_
      refine aw_aload_n dX10_laySum_31 rfl rfl ?_
      refine aw_getRe (ci := 3) (v := gR σ6 1000 x0 0) rfl fk_1000 (by decide +kernel) lf_X10_17 dX10_laySum_32 rfl ?_
      refine aw_invVj (M := MX10_laySum) (ci := 5) [vR 3 (gR σ6 1000 x0 0)] e9 mo_X5_reading rfl lm_X10_217 li_X5_reading ls_X5_reading (by decide +kernel) dX10_laySum_35 rfl (Nat.le_of_ble_eq_true rfl) (ACj.mono (fun v12 σ11 h => ?_) h)
      refine aw_aload_n dX10_laySum_38 rfl rfl ?_
      refine aw_aload_n dX10_laySum_39 rfl rfl ?_
      refine aw_invVj (M := MX10_laySum) (ci := 10) [vR 5 x1] rfl mo_X10_due rfl lm_X10_95 li_X10_due ls_X10_due (by decide +kernel) dX10_laySum_40 rfl (Nat.le_of_ble_eq_true rfl) (ACj.mono (fun v14 σ13 h => ?_) h)
      refine aw_lxor dX10_laySum_43 ?_
      refine aw_bipush (x := 8) dX10_laySum_44 rfl ?_
      refine aw_aload_n dX10_laySum_46 rfl rfl ?_
      refine aw_getI' e2 fk_203 lf_X10_90 dX10_laySum_47 ?_
      obtain ⟨⟨c15, c15x⟩, h⟩ := h
      refine aw_imulc dX10_laySum_50 c15 c15x ?_
      refine aw_invSNj (M := MX10_laySum) [vI (8 * (gI σ13 203 r1 0))] mo_X11_lowBits rfl lm_X10_292 lt_X11_lowBits dX10_laySum_51 rfl (Nat.le_of_ble_eq_true rfl) (ACj.mono (fun v17 σ16 h => ?_) h)
      refine aw_land dX10_laySum_54 ?_
      refine aw_lconst (x := 0) dX10_laySum_55 rfl ?_
      refine aw_lcmp_eq (M := MX10_laySum) (tgt := 65) dX10_laySum_56 dX10_laySum_57 (by decide) (fun k18 => ?_) (fun k18 => ?_)
      · replace h := h.1 k18
        refine aw_iconst (x := 1) dX10_laySum_65 rfl ?_
        exact aw_zreturn dX10_laySum_66 rfl (Or.inr rfl) h
      · replace h := h.2 k18
        refine aw_aload_n dX10_laySum_60 rfl rfl ?_
        refine aw_iconst (x := 3) dX10_laySum_61 rfl ?_
        refine aw_putI' e9 fk_504 (Or.inl rfl) lf_X10_47 dX10_laySum_62 ?_
        refine aw_iconst (x := 1) dX10_laySum_65 rfl ?_
        exact aw_zreturn dX10_laySum_66 rfl (Or.inr rfl) h
  · replace h := h.2 k5
    refine aw_iconst (x := 0) dX10_laySum_12 rfl ?_
    exact aw_zreturn dX10_laySum_13 rfl (Or.inl rfl) h
set_option maxRecDepth 4000 in
theorem bk_X10_layText_0 {g : GP} {l : Launch} {d : Nat} {σ : St} {Q : Option AV → St → Prop} {x0 : Nat} {x1 : Option Nat} {x2 : Option Nat}
    (h : ACi g l d MX10_amount [vR 10 (some x0), vR 5 x1, vR 2 x2, vI 2000] σ (fun v2 σ1 => ((v2 = (-1) → Q (some (vI 1)) σ1) ∧ (¬ v2 = (-1) → ACi g l d MX10_cover [vR 10 (some x0), vR 5 x1, vI v2] σ1 (fun v5 σ4 => ((v5 = 0 → Q (some (vI 0)) σ4) ∧ (¬ v5 = 0 → Q (some (vI 1)) σ4))))))) :
    AW g l (d + 1) MX10_layText 0 [some (vR 10 (some x0)), some (vR 5 x1), some (vR 2 x2), none] [] σ Q := by
  refine aw_aload_n dX10_layText_0 rfl rfl ?_
  refine aw_aload_n dX10_layText_1 rfl rfl ?_
  refine aw_aload_n dX10_layText_2 rfl rfl ?_
  refine aw_sipush (x := 2000) dX10_layText_3 rfl ?_
  refine aw_invVi (M := MX10_layText) (ci := 10) [vR 5 x1, vR 2 x2, vI 2000] rfl mo_X10_amount rfl lm_X10_239 li_X10_amount ls_X10_amount (by decide +kernel) dX10_layText_6 rfl (Nat.le_of_ble_eq_true rfl) (ACi.mono (fun v2 σ1 h => ?_) h)
  refine aw_istore_n (L' := [some (vR 10 (some x0)), some (vR 5 x1), some (vR 2 x2), some (vI v2)]) dX10_layText_9 rfl (by decide) rfl ?_
  refine aw_iload_n dX10_layText_10 rfl rfl ?_
  refine aw_iconst (x := (-1)) dX10_layText_11 rfl ?_
  refine aw_icmp_eq (tgt := 24) dX10_layText_12 (by decide) (fun k3 => ?_) (fun k3 => ?_)
  · replace h := h.1 k3
    refine aw_iconst (x := 1) dX10_layText_24 rfl ?_
    refine aw_goto (tgt := 29) dX10_layText_25 (by decide) ?_
    exact aw_zreturn dX10_layText_29 rfl (Or.inr rfl) h
  · replace h := h.2 k3
    refine aw_aload_n dX10_layText_15 rfl rfl ?_
    refine aw_aload_n dX10_layText_16 rfl rfl ?_
    refine aw_iload_n dX10_layText_17 rfl rfl ?_
    refine aw_invVi (M := MX10_layText) (ci := 10) [vR 5 x1, vI v2] rfl mo_X10_cover rfl lm_X10_204 li_X10_cover ls_X10_cover (by decide +kernel) dX10_layText_18 rfl (Nat.le_of_ble_eq_true rfl) (ACi.mono (fun v5 σ4 h => ?_) h)
    refine aw_if_eq (tgt := 28) dX10_layText_21 (by decide) (fun k6 => ?_) (fun k6 => ?_)
    · replace h := h.1 k6
      refine aw_iconst (x := 0) dX10_layText_28 rfl ?_
      exact aw_zreturn dX10_layText_29 rfl (Or.inl rfl) h
    · replace h := h.2 k6
      refine aw_iconst (x := 1) dX10_layText_24 rfl ?_
      refine aw_goto (tgt := 29) dX10_layText_25 (by decide) ?_
      exact aw_zreturn dX10_layText_29 rfl (Or.inr rfl) h
set_option maxRecDepth 4000 in
theorem bk_X10_layUnion_0 {g : GP} {l : Launch} {d : Nat} {σ : St} {Q : Option AV → St → Prop} {x0 : Nat} {x1 : Option Nat} {x2 : Option Nat} {x3 : Int}
    (h : ∃ r1, gR σ 1006 x0 0 = some r1 ∧ ∃ r3, x2 = some r3 ∧ ∃ r5, x1 = some r5 ∧ ∃ r7, gR σ 1007 x0 0 = some r7 ∧ ACj g l d MX7_work [vR 7 (some r7), vR 0 (gR σ 110 r1 0), vI (gI σ 209 r3 0), vR 5 (gR σ 507 r5 0), vI (gI σ 502 r5 0), vR 3 (gR σ 1000 x0 0)] σ (fun v10 σ9 => ∃ r11, gR σ9 1007 x0 0 = some r11 ∧ (((gI σ9 700 r11 0) = 0 → ∃ r14, gR σ9 1006 x0 0 = some r14 ∧ ACi g l d MX1_entryWith [vR 1 (some r14), vI (gI σ9 213 r3 0), vI (gI σ9 214 r3 0), vJ v10] σ9 (fun v17 σ16 => ((¬ v17 = (-1) → ∃ r19, gR σ16 1006 x0 0 = some r19 ∧ LC 1 σ16 r19 ∧ Bd v17 3000 ∧ AW g l (d + 1) MX10_layUnion 91 [some (vR 10 (some x0)), some (vR 5 x1), none, some (vI x3), none, none, none, none] [vI (gI σ16 108 r19 v17.toNat)] σ16 Q) ∧ (v17 = (-1) → AW g l (d + 1) MX10_layUnion 91 [some (vR 10 (some x0)), some (vR 5 x1), none, some (vI x3), none, none, none, none] [vI (gI σ16 212 r3 0)] σ16 Q)))) ∧ (¬ (gI σ9 700 r11 0) = 0 → Q none (sI σ9 504 r5 0 6))))) :
    AW g l (d + 1) MX10_layUnion 0 [some (vR 10 (some x0)), some (vR 5 x1), some (vR 2 x2), some (vI x3), none, none, none, none] [] σ Q := by
  refine aw_aload_n dX10_layUnion_0 rfl rfl ?_
  refine aw_getR' (ci := 7) rfl fk_1007 (by decide +kernel) lf_X10_32 dX10_layUnion_1 ?_
  refine aw_aload_n dX10_layUnion_4 rfl rfl ?_
  refine aw_getR' (ci := 1) rfl fk_1006 (by decide +kernel) lf_X10_28 dX10_layUnion_5 ?_
  obtain ⟨r1, e2, h⟩ := h
  refine aw_getR' (ci := 0) e2 fk_110 (by decide +kernel) lf_X10_156 dX10_layUnion_8 ?_
  refine aw_aload_n dX10_layUnion_11 rfl rfl ?_
  obtain ⟨r3, e4, h⟩ := h
  refine aw_getI' e4 fk_209 lf_X10_184 dX10_layUnion_12 ?_
  refine aw_aload_n dX10_layUnion_15 rfl rfl ?_
  obtain ⟨r5, e6, h⟩ := h
  refine aw_getR' (ci := 5) e6 fk_507 (by decide +kernel) lf_X10_82 dX10_layUnion_16 ?_
  refine aw_aload_n dX10_layUnion_19 rfl rfl ?_
  refine aw_getI' e6 fk_502 lf_X10_67 dX10_layUnion_20 ?_
  refine aw_aload_n dX10_layUnion_23 rfl rfl ?_
  refine aw_getR' (ci := 3) rfl fk_1000 (by decide +kernel) lf_X10_17 dX10_layUnion_24 ?_
  obtain ⟨r7, e8, h⟩ := h
  refine aw_invVj (M := MX10_layUnion) (ci := 7) [vR 0 (gR σ 110 r1 0), vI (gI σ 209 r3 0), vR 5 (gR σ 507 r5 0), vI (gI σ 502 r5 0), vR 3 (gR σ 1000 x0 0)] e8 mo_X7_work rfl lm_X10_160 li_X7_work ls_X7_work (by decide +kernel) dX10_layUnion_27 rfl (Nat.le_of_ble_eq_true rfl) (ACj.mono (fun v10 σ9 h => ?_) h)
  refine aw_lstore (L' := [some (vR 10 (some x0)), some (vR 5 x1), some (vR 2 x2), some (vI x3), some (vJ v10), none, none, none]) dX10_layUnion_30 (by decide) rfl ?_
  refine aw_aload_n dX10_layUnion_32 rfl rfl ?_
  refine aw_getR' (ci := 7) rfl fk_1007 (by decide +kernel) lf_X10_32 dX10_layUnion_33 ?_
  obtain ⟨r11, e12, h⟩ := h
  refine aw_getZ' e12 fk_700 lf_X10_166 dX10_layUnion_36 ?_
  refine aw_if_eq (tgt := 49) dX10_layUnion_39 (by decide) (fun k13 => ?_) (fun k13 => ?_)
  · replace h := h.1 k13
    refine aw_aload_n dX10_layUnion_49 rfl rfl ?_
    refine aw_getR' (ci := 1) rfl fk_1006 (by decide +kernel) lf_X10_28 dX10_layUnion_50 ?_
    refine aw_aload_n dX10_layUnion_53 rfl rfl ?_
    refine aw_getI' e4 fk_213 lf_X10_243 dX10_layUnion_54 ?_
    refine aw_aload_n dX10_layUnion_57 rfl rfl ?_
    refine aw_getI' e4 fk_214 lf_X10_246 dX10_layUnion_58 ?_
    refine aw_lload dX10_layUnion_61 rfl ?_
    obtain ⟨r14, e15, h⟩ := h
    refine aw_invVi (M := MX10_layUnion) (ci := 1) [vI (gI σ9 213 r3 0), vI (gI σ9 214 r3 0), vJ v10] e15 mo_X1_entryWith rfl lm_X10_272 li_X1_entryWith ls_X1_entryWith (by decide +kernel) dX10_layUnion_63 rfl (Nat.le_of_ble_eq_true rfl) (ACi.mono (fun v17 σ16 h => ?_) h)
    refine aw_istore (L' := [some (vR 10 (some x0)), some (vR 5 x1), some (vR 2 x2), some (vI x3), some (vJ v10), none, some (vI v17), none]) dX10_layUnion_66 (by decide) rfl ?_
    refine aw_iload dX10_layUnion_68 rfl ?_
    refine aw_iconst (x := (-1)) dX10_layUnion_70 rfl ?_
    refine aw_icmp_ne (tgt := 81) dX10_layUnion_71 (by decide) (fun k18 => ?_) (fun k18 => ?_)
    · replace h := h.1 k18
      refine aw_aload_n dX10_layUnion_81 rfl rfl ?_
      refine aw_getR' (ci := 1) rfl fk_1006 (by decide +kernel) lf_X10_28 dX10_layUnion_82 ?_
      obtain ⟨r19, e20, h⟩ := h
      obtain ⟨lc21, h⟩ := h
      refine aw_getA' e20 fk_108 (by decide) lf_X10_253 dX10_layUnion_85 (LC.ne lc21 rfl rfl) ?_
      refine aw_iload dX10_layUnion_88 rfl ?_
      obtain ⟨⟨c22, c22x⟩, h⟩ := h
      refine aw_iaload (by decide) rfl dX10_layUnion_90 c22 (LC.lt lc21 rfl rfl c22x) ?_
      exact aw_fgt (L' := [some (vR 10 (some x0)), some (vR 5 x1), none, some (vI x3), none, none, none, none]) ⟨rfl, ⟨rfl, ⟨rfl, trivial⟩⟩⟩ h
    · replace h := h.2 k18
      refine aw_aload_n dX10_layUnion_74 rfl rfl ?_
      refine aw_getI' e4 fk_212 lf_X10_276 dX10_layUnion_75 ?_
      refine aw_goto (tgt := 91) dX10_layUnion_78 (by decide) ?_
      exact aw_fgt (L' := [some (vR 10 (some x0)), some (vR 5 x1), none, some (vI x3), none, none, none, none]) ⟨rfl, ⟨rfl, ⟨rfl, trivial⟩⟩⟩ h
  · replace h := h.2 k13
    refine aw_aload_n dX10_layUnion_42 rfl rfl ?_
    refine aw_bipush (x := 6) dX10_layUnion_43 rfl ?_
    refine aw_putI' e6 fk_504 (Or.inl rfl) lf_X10_47 dX10_layUnion_45 ?_
    exact aw_ret h rfl dX10_layUnion_48
set_option maxRecDepth 4000 in
theorem bk_X10_layUnion_91 {g : GP} {l : Launch} {d : Nat} {σ : St} {Q : Option AV → St → Prop} {x0 : Nat} {x1 : Option Nat} {x3 : Int} {y0 : Int}
    (h : ((¬ y0 = (-1) → ∃ r2, x1 = some r2 ∧ R32 (x3 + 1) ∧ ACi g l d MX10_addStruct [vR 10 (some x0), vR 5 x1, vI y0, vI (gI σ 502 r2 0), vI (x3 + 1)] σ (fun v6 σ5 => Q none (sI σ5 503 r2 0 v6))) ∧ (y0 = (-1) → ∃ r7, x1 = some r7 ∧ Q none (sI σ 504 r7 0 7)))) :
    AW g l (d + 1) MX10_layUnion 91 [some (vR 10 (some x0)), some (vR 5 x1), none, some (vI x3), none, none, none, none] [vI y0] σ Q := by
  refine aw_istore (L' := [some (vR 10 (some x0)), some (vR 5 x1), none, some (vI x3), none, none, none, some (vI y0)]) dX10_layUnion_91 (by decide) rfl ?_
  refine aw_iload dX10_layUnion_93 rfl ?_
  refine aw_iconst (x := (-1)) dX10_layUnion_95 rfl ?_
  refine aw_icmp_ne (tgt := 108) dX10_layUnion_96 (by decide) (fun k1 => ?_) (fun k1 => ?_)
  · replace h := h.1 k1
    refine aw_aload_n dX10_layUnion_108 rfl rfl ?_
    refine aw_aload_n dX10_layUnion_109 rfl rfl ?_
    refine aw_aload_n dX10_layUnion_110 rfl rfl ?_
    refine aw_iload dX10_layUnion_111 rfl ?_
    refine aw_aload_n dX10_layUnion_113 rfl rfl ?_
    obtain ⟨r2, e3, h⟩ := h
    refine aw_getI' e3 fk_502 lf_X10_67 dX10_layUnion_114 ?_
    refine aw_iload_n dX10_layUnion_117 rfl rfl ?_
    refine aw_iconst (x := 1) dX10_layUnion_118 rfl ?_
    obtain ⟨⟨c4, c4x⟩, h⟩ := h
    refine aw_iaddc dX10_layUnion_119 c4 c4x ?_
    refine aw_invVi (M := MX10_layUnion) (ci := 10) [vR 5 x1, vI y0, vI (gI σ 502 r2 0), vI (x3 + 1)] rfl mo_X10_addStruct rfl lm_X10_43 li_X10_addStruct ls_X10_addStruct (by decide +kernel) dX10_layUnion_120 rfl (Nat.le_of_ble_eq_true rfl) (ACi.mono (fun v6 σ5 h => ?_) h)
    refine aw_putI' e3 fk_503 (Or.inl rfl) lf_X10_70 dX10_layUnion_123 ?_
    exact aw_ret h rfl dX10_layUnion_126
  · replace h := h.2 k1
    refine aw_aload_n dX10_layUnion_99 rfl rfl ?_
    refine aw_bipush (x := 7) dX10_layUnion_100 rfl ?_
    obtain ⟨r7, e8, h⟩ := h
    refine aw_putI' e8 fk_504 (Or.inl rfl) lf_X10_47 dX10_layUnion_102 ?_
    refine aw_goto (tgt := 126) dX10_layUnion_105 (by decide) ?_
    exact aw_ret h rfl dX10_layUnion_126
set_option maxRecDepth 4000 in
theorem bk_X10_layUntil_0 {g : GP} {l : Launch} {d : Nat} {σ : St} {Q : Option AV → St → Prop} {x0 : Nat} {x1 : Option Nat} {x2 : Option Nat}
    (h : ∃ r1, x1 = some r1 ∧ AW g l (d + 1) MX10_layUntil 5 [some (vR 10 (some x0)), some (vR 5 x1), some (vR 2 x2), some (vI (gI σ 502 r1 0))] [] σ Q) :
    AW g l (d + 1) MX10_layUntil 0 [some (vR 10 (some x0)), some (vR 5 x1), some (vR 2 x2), none] [] σ Q := by
  refine aw_aload_n dX10_layUntil_0 rfl rfl ?_
  obtain ⟨r1, e2, h⟩ := h
  refine aw_getI' e2 fk_502 lf_X10_67 dX10_layUntil_1 ?_
  refine aw_istore_n (L' := [some (vR 10 (some x0)), some (vR 5 x1), some (vR 2 x2), some (vI (gI σ 502 r1 0))]) dX10_layUntil_4 rfl (by decide) rfl ?_
  exact aw_fgt (L' := [some (vR 10 (some x0)), some (vR 5 x1), some (vR 2 x2), some (vI (gI σ 502 r1 0))]) ⟨rfl, ⟨rfl, ⟨rfl, ⟨rfl, trivial⟩⟩⟩⟩ h
set_option maxRecDepth 4000 in
theorem bk_X10_layUntil_5 {g : GP} {l : Launch} {d : Nat} {σ : St} {Q : Option AV → St → Prop} {x0 : Nat} {x1 : Option Nat} {x2 : Option Nat} {x3 : Int}
    (h : ∃ r1, gR σ 1000 x0 0 = some r1 ∧ (((gI σ 304 r1 0) ≤ x3 → AW g l (d + 1) MX10_layUntil 40 [some (vR 10 (some x0)), some (vR 5 x1), none, some (vI x3)] [] σ Q) ∧ (¬ (gI σ 304 r1 0) ≤ x3 → LC 3 σ r1 ∧ Bd x3 2000 ∧ ∃ r6, x2 = some r6 ∧ (((i2j (gI σ 301 r1 x3.toNat)) = (gJ σ 211 r6 0) → AW g l (d + 1) MX10_layUntil 40 [some (vR 10 (some x0)), some (vR 5 x1), none, some (vI x3)] [] σ Q) ∧ (¬ (i2j (gI σ 301 r1 x3.toNat)) = (gJ σ 211 r6 0) → R32 (x3 + 1) ∧ AW g l (d + 1) MX10_layUntil 5 [some (vR 10 (some x0)), some (vR 5 x1), some (vR 2 x2), some (vI (x3 + 1))] [] σ Q))))) :
    AW g l (d + 1) MX10_layUntil 5 [some (vR 10 (some x0)), some (vR 5 x1), some (vR 2 x2), some (vI x3)] [] σ Q := by
  refine aw_iload_n dX10_layUntil_5 rfl rfl ?_
  refine aw_aload_n dX10_layUntil_6 rfl rfl ?_
  refine aw_getR' (ci := 3) rfl fk_1000 (by decide +kernel) lf_X10_17 dX10_layUntil_7 ?_
  obtain ⟨r1, e2, h⟩ := h
  refine aw_getI' e2 fk_304 lf_X10_73 dX10_layUntil_10 ?_
  refine aw_icmp_ge (tgt := 40) dX10_layUntil_13 (by decide) (fun k3 => ?_) (fun k3 => ?_)
  · replace h := h.1 k3
    exact aw_fgt (L' := [some (vR 10 (some x0)), some (vR 5 x1), none, some (vI x3)]) ⟨rfl, ⟨rfl, ⟨rfl, trivial⟩⟩⟩ h
  · replace h := h.2 k3
    refine aw_aload_n dX10_layUntil_16 rfl rfl ?_
    refine aw_getR' (ci := 3) rfl fk_1000 (by decide +kernel) lf_X10_17 dX10_layUntil_17 ?_
    obtain ⟨lc4, h⟩ := h
    refine aw_getA' e2 fk_301 (by decide) lf_X10_266 dX10_layUntil_20 (LC.ne lc4 rfl rfl) ?_
    refine aw_iload_n dX10_layUntil_23 rfl rfl ?_
    obtain ⟨⟨c5, c5x⟩, h⟩ := h
    refine aw_iaload (by decide) rfl dX10_layUntil_24 c5 (LC.lt lc4 rfl rfl c5x) ?_
    refine aw_i2l dX10_layUntil_25 ?_
    refine aw_aload_n dX10_layUntil_26 rfl rfl ?_
    obtain ⟨r6, e7, h⟩ := h
    refine aw_getJ' e7 fk_211 lf_X10_269 dX10_layUntil_27 ?_
    refine aw_lcmp_eq (M := MX10_layUntil) (tgt := 40) dX10_layUntil_30 dX10_layUntil_31 (by decide) (fun k8 => ?_) (fun k8 => ?_)
    · replace h := h.1 k8
      exact aw_fgt (L' := [some (vR 10 (some x0)), some (vR 5 x1), none, some (vI x3)]) ⟨rfl, ⟨rfl, ⟨rfl, trivial⟩⟩⟩ h
    · replace h := h.2 k8
      obtain ⟨⟨c9, c9x⟩, h⟩ := h
      refine aw_iincc (L' := [some (vR 10 (some x0)), some (vR 5 x1), some (vR 2 x2), some (vI (x3 + 1))]) dX10_layUntil_34 rfl (by decide) rfl c9 c9x rfl ?_
      refine aw_goto (tgt := 5) dX10_layUntil_37 (by decide) ?_
      exact aw_fgt (L' := [some (vR 10 (some x0)), some (vR 5 x1), some (vR 2 x2), some (vI (x3 + 1))]) ⟨rfl, ⟨rfl, ⟨rfl, ⟨rfl, trivial⟩⟩⟩⟩ h
set_option maxRecDepth 4000 in
theorem bk_X10_layUntil_40 {g : GP} {l : Launch} {d : Nat} {σ : St} {Q : Option AV → St → Prop} {x0 : Nat} {x1 : Option Nat} {x3 : Int}
    (h : R32 (x3 + 1) ∧ ∃ r2, x1 = some r2 ∧ R32 ((x3 + 1) - (gI σ 502 r2 0)) ∧ ACi g l d MX10_cover [vR 10 (some x0), vR 5 x1, vI ((x3 + 1) - (gI σ 502 r2 0))] σ (fun v6 σ5 => ((v6 = 0 ∨ v6 = 1) ∧ Q (some (vI v6)) σ5))) :
    AW g l (d + 1) MX10_layUntil 40 [some (vR 10 (some x0)), some (vR 5 x1), none, some (vI x3)] [] σ Q := by
  refine aw_aload_n dX10_layUntil_40 rfl rfl ?_
  refine aw_aload_n dX10_layUntil_41 rfl rfl ?_
  refine aw_iload_n dX10_layUntil_42 rfl rfl ?_
  refine aw_iconst (x := 1) dX10_layUntil_43 rfl ?_
  obtain ⟨⟨c1, c1x⟩, h⟩ := h
  refine aw_iaddc dX10_layUntil_44 c1 c1x ?_
  refine aw_aload_n dX10_layUntil_45 rfl rfl ?_
  obtain ⟨r2, e3, h⟩ := h
  refine aw_getI' e3 fk_502 lf_X10_67 dX10_layUntil_46 ?_
  obtain ⟨⟨c4, c4x⟩, h⟩ := h
  refine aw_isubc dX10_layUntil_49 c4 c4x ?_
  refine aw_invVi (M := MX10_layUntil) (ci := 10) [vR 5 x1, vI ((x3 + 1) - (gI σ 502 r2 0))] rfl mo_X10_cover rfl lm_X10_204 li_X10_cover ls_X10_cover (by decide +kernel) dX10_layUntil_50 rfl (Nat.le_of_ble_eq_true rfl) (ACi.mono (fun v6 σ5 h => ?_) h)
  exact aw_zreturn dX10_layUntil_53 rfl h.1 h.2
set_option maxRecDepth 4000 in
theorem bk_X10_layWhole_0 {g : GP} {l : Launch} {d : Nat} {σ : St} {Q : Option AV → St → Prop} {x0 : Nat} {x1 : Option Nat} {x2 : Option Nat}
    (h : ∃ r1, x2 = some r1 ∧ ACi g l d MX10_cover [vR 10 (some x0), vR 5 x1, vI (gI σ 203 r1 0)] σ (fun v4 σ3 => ((¬ v4 = 0 → (((gI σ3 207 r1 0) = (-1) → Q (some (vI 1)) σ3) ∧ (¬ (gI σ3 207 r1 0) = (-1) → ∃ r7, x1 = some r7 ∧ ACj g l d MX5_reading [vR 5 (some r7), vR 3 (gR σ3 1000 x0 0)] σ3 (fun v10 σ9 => ∃ r11, gR σ3 1006 x0 0 = some r11 ∧ ACi g l d MX1_pairWith [vR 1 (some r11), vI (gI σ3 207 r1 0), vJ v10] σ9 (fun v14 σ13 => ((¬ v14 = (-1) → Q (some (vI 1)) σ13) ∧ (v14 = (-1) → Q (some (vI 1)) (sI σ13 504 r7 0 4)))))))) ∧ (v4 = 0 → Q (some (vI 0)) σ3)))) :
    AW g l (d + 1) MX10_layWhole 0 [some (vR 10 (some x0)), some (vR 5 x1), some (vR 2 x2)] [] σ Q := by
  refine aw_aload_n dX10_layWhole_0 rfl rfl ?_
  refine aw_aload_n dX10_layWhole_1 rfl rfl ?_
  refine aw_aload_n dX10_layWhole_2 rfl rfl ?_
  obtain ⟨r1, e2, h⟩ := h
  refine aw_getI' e2 fk_203 lf_X10_90 dX10_layWhole_3 ?_
  refine aw_invVi (M := MX10_layWhole) (ci := 10) [vR 5 x1, vI (gI σ 203 r1 0)] rfl mo_X10_cover rfl lm_X10_204 li_X10_cover ls_X10_cover (by decide +kernel) dX10_layWhole_6 rfl (Nat.le_of_ble_eq_true rfl) (ACi.mono (fun v4 σ3 h => ?_) h)
  refine aw_if_ne (tgt := 14) dX10_layWhole_9 (by decide) (fun k5 => ?_) (fun k5 => ?_)
  · replace h := h.1 k5
    refine aw_aload_n dX10_layWhole_14 rfl rfl ?_
    refine aw_getI' e2 fk_207 lf_X10_214 dX10_layWhole_15 ?_
    refine aw_iconst (x := (-1)) dX10_layWhole_18 rfl ?_
    refine aw_icmp_eq (tgt := 50) dX10_layWhole_19 (by decide) (fun k6 => ?_) (fun k6 => ?_)
    · replace h := h.1 k6
      refine aw_iconst (x := 1) dX10_layWhole_50 rfl ?_
      exact aw_zreturn dX10_layWhole_51 rfl (Or.inr rfl) h
    · replace h := h.2 k6
      refine aw_aload_n dX10_layWhole_22 rfl rfl ?_
      refine aw_getR' (ci := 1) rfl fk_1006 (by decide +kernel) lf_X10_28 dX10_layWhole_23 ?_
      refine aw_aload_n dX10_layWhole_26 rfl rfl ?_
      refine aw_getI' e2 fk_207 lf_X10_214 dX10_layWhole_27 ?_
      refine aw_aload_n dX10_layWhole_30 rfl rfl ?_
      refine aw_aload_n dX10_layWhole_31 rfl rfl ?_
      refine aw_getR' (ci := 3) rfl fk_1000 (by decide +kernel) lf_X10_17 dX10_layWhole_32 ?_
      obtain ⟨r7, e8, h⟩ := h
      refine aw_invVj (M := MX10_layWhole) (ci := 5) [vR 3 (gR σ3 1000 x0 0)] e8 mo_X5_reading rfl lm_X10_217 li_X5_reading ls_X5_reading (by decide +kernel) dX10_layWhole_35 rfl (Nat.le_of_ble_eq_true rfl) (ACj.mono (fun v10 σ9 h => ?_) h)
      obtain ⟨r11, e12, h⟩ := h
      refine aw_invVi (M := MX10_layWhole) (ci := 1) [vI (gI σ3 207 r1 0), vJ v10] e12 mo_X1_pairWith rfl lm_X10_221 li_X1_pairWith ls_X1_pairWith (by decide +kernel) dX10_layWhole_38 rfl (Nat.le_of_ble_eq_true rfl) (ACi.mono (fun v14 σ13 h => ?_) h)
      refine aw_iconst (x := (-1)) dX10_layWhole_41 rfl ?_
      refine aw_icmp_ne (tgt := 50) dX10_layWhole_42 (by decide) (fun k15 => ?_) (fun k15 => ?_)
      · replace h := h.1 k15
        refine aw_iconst (x := 1) dX10_layWhole_50 rfl ?_
        exact aw_zreturn dX10_layWhole_51 rfl (Or.inr rfl) h
      · replace h := h.2 k15
        refine aw_aload_n dX10_layWhole_45 rfl rfl ?_
        refine aw_iconst (x := 4) dX10_layWhole_46 rfl ?_
        refine aw_putI' e8 fk_504 (Or.inl rfl) lf_X10_47 dX10_layWhole_47 ?_
        refine aw_iconst (x := 1) dX10_layWhole_50 rfl ?_
        exact aw_zreturn dX10_layWhole_51 rfl (Or.inr rfl) h
  · replace h := h.2 k5
    refine aw_iconst (x := 0) dX10_layWhole_12 rfl ?_
    exact aw_zreturn dX10_layWhole_13 rfl (Or.inl rfl) h
set_option maxRecDepth 4000 in
theorem bk_X10_makeDue_0 {g : GP} {l : Launch} {d : Nat} {σ : St} {Q : Option AV → St → Prop} {x0 : Nat} {x1 : Option Nat}
    (h : ∃ r1, x1 = some r1 ∧ ((gR σ 513 r1 0 = none → Q (some (vI 0)) σ) ∧ (∀ r3, gR σ 513 r1 0 = some r3 → ((gR σ 507 r1 0 = none → Q (some (vI 0)) σ) ∧ (∀ r5, gR σ 507 r1 0 = some r5 → ACi g l d MX10_rangeFault [vR 10 (some x0), vR 5 x1] σ (fun v8 σ7 => ((v8 = 0 → ∃ r10, gR σ7 513 r1 0 = some r10 ∧ ACj g l d MX10_due [vR 10 (some x0), vR 5 x1] σ7 (fun v13 σ12 => ∃ r14, gR σ12 513 r1 0 = some r14 ∧ ∃ r16, gR σ7 1000 x0 0 = some r16 ∧ ACv g l d MX3_write [vR 3 (some r16), vI (gI σ7 502 r1 0), vI (gI σ7 203 r10 0), vJ v13, vI (gI σ12 205 r14 0)] σ12 (fun σ18 => ((¬ (gI σ18 504 r1 0) = 3 → Q (some (vI 1)) σ18) ∧ ((gI σ18 504 r1 0) = 3 → Q (some (vI 1)) (sI σ18 504 r1 0 0)))))) ∧ (¬ v8 = 0 → Q (some (vI 0)) σ7)))))))) :
    AW g l (d + 1) MX10_makeDue 0 [some (vR 10 (some x0)), some (vR 5 x1)] [] σ Q := by
  refine aw_aload_n dX10_makeDue_0 rfl rfl ?_
  obtain ⟨r1, e2, h⟩ := h
  refine aw_getR' (ci := 2) e2 fk_513 (by decide +kernel) lf_X10_78 dX10_makeDue_1 ?_
  refine aw_ifnull (tgt := 22) dX10_makeDue_4 (by decide) (fun hc => ?_) (fun r3 e4 => ?_)
  · replace h := h.1 hc
    refine aw_iconst (x := 0) dX10_makeDue_22 rfl ?_
    exact aw_zreturn dX10_makeDue_23 rfl (Or.inl rfl) h
  · replace h := h.2 r3 e4
    refine aw_aload_n dX10_makeDue_7 rfl rfl ?_
    refine aw_getR' (ci := 5) e2 fk_507 (by decide +kernel) lf_X10_82 dX10_makeDue_8 ?_
    refine aw_ifnull (tgt := 22) dX10_makeDue_11 (by decide) (fun hc => ?_) (fun r5 e6 => ?_)
    · replace h := h.1 hc
      refine aw_iconst (x := 0) dX10_makeDue_22 rfl ?_
      exact aw_zreturn dX10_makeDue_23 rfl (Or.inl rfl) h
    · replace h := h.2 r5 e6
      refine aw_aload_n dX10_makeDue_14 rfl rfl ?_
      refine aw_aload_n dX10_makeDue_15 rfl rfl ?_
      refine aw_invVi (M := MX10_makeDue) (ci := 10) [vR 5 x1] rfl mo_X10_rangeFault rfl lm_X10_86 li_X10_rangeFault ls_X10_rangeFault (by decide +kernel) dX10_makeDue_16 rfl (Nat.le_of_ble_eq_true rfl) (ACi.mono (fun v8 σ7 h => ?_) h)
      refine aw_if_eq (tgt := 24) dX10_makeDue_19 (by decide) (fun k9 => ?_) (fun k9 => ?_)
      · replace h := h.1 k9
        refine aw_aload_n dX10_makeDue_24 rfl rfl ?_
        refine aw_getR' (ci := 3) rfl fk_1000 (by decide +kernel) lf_X10_17 dX10_makeDue_25 ?_
        refine aw_aload_n dX10_makeDue_28 rfl rfl ?_
        refine aw_getI' e2 fk_502 lf_X10_67 dX10_makeDue_29 ?_
        refine aw_aload_n dX10_makeDue_32 rfl rfl ?_
        refine aw_getR' (ci := 2) e2 fk_513 (by decide +kernel) lf_X10_78 dX10_makeDue_33 ?_
        obtain ⟨r10, e11, h⟩ := h
        refine aw_getI' e11 fk_203 lf_X10_90 dX10_makeDue_36 ?_
        refine aw_aload_n dX10_makeDue_39 rfl rfl ?_
        refine aw_aload_n dX10_makeDue_40 rfl rfl ?_
        refine aw_invVj (M := MX10_makeDue) (ci := 10) [vR 5 x1] rfl mo_X10_due rfl lm_X10_95 li_X10_due ls_X10_due (by decide +kernel) dX10_makeDue_41 rfl (Nat.le_of_ble_eq_true rfl) (ACj.mono (fun v13 σ12 h => ?_) h)
        refine aw_aload_n dX10_makeDue_44 rfl rfl ?_
        refine aw_getR' (ci := 2) e2 fk_513 (by decide +kernel) lf_X10_78 dX10_makeDue_45 ?_
        obtain ⟨r14, e15, h⟩ := h
        refine aw_getZ' e15 fk_205 lf_X10_99 dX10_makeDue_48 ?_
        obtain ⟨r16, e17, h⟩ := h
        refine aw_invVv (M := MX10_makeDue) (ci := 3) [vI (gI σ7 502 r1 0), vI (gI σ7 203 r10 0), vJ v13, vI (gI σ12 205 r14 0)] e17 mo_X3_write rfl lm_X10_102 li_X3_write ls_X3_write (by decide +kernel) dX10_makeDue_51 rfl (Nat.le_of_ble_eq_true rfl) (ACv.mono (fun σ18 h => ?_) h)
        refine aw_aload_n dX10_makeDue_54 rfl rfl ?_
        refine aw_getI' e2 fk_504 lf_X10_47 dX10_makeDue_55 ?_
        refine aw_iconst (x := 3) dX10_makeDue_58 rfl ?_
        refine aw_icmp_ne (tgt := 67) dX10_makeDue_59 (by decide) (fun k19 => ?_) (fun k19 => ?_)
        · replace h := h.1 k19
          refine aw_iconst (x := 1) dX10_makeDue_67 rfl ?_
          exact aw_zreturn dX10_makeDue_68 rfl (Or.inr rfl) h
        · replace h := h.2 k19
          refine aw_aload_n dX10_makeDue_62 rfl rfl ?_
          refine aw_iconst (x := 0) dX10_makeDue_63 rfl ?_
          refine aw_putI' e2 fk_504 (Or.inl rfl) lf_X10_47 dX10_makeDue_64 ?_
          refine aw_iconst (x := 1) dX10_makeDue_67 rfl ?_
          exact aw_zreturn dX10_makeDue_68 rfl (Or.inr rfl) h
      · replace h := h.2 k9
        refine aw_iconst (x := 0) dX10_makeDue_22 rfl ?_
        exact aw_zreturn dX10_makeDue_23 rfl (Or.inl rfl) h
set_option maxRecDepth 4000 in
theorem bk_X10_markGaps_0 {g : GP} {l : Launch} {d : Nat} {σ : St} {Q : Option AV → St → Prop} {x0 : Nat} {x1 : Nat}
    (h : ACv g l d MJ7_fill_53178 [vA 1115 x1, vI 0] σ (fun σ1 => AW g l (d + 1) MX10_markGaps 7 [some (vR 10 (some x0)), some (vA 1115 x1), some (vI 0), none] [] σ1 Q)) :
    AW g l (d + 1) MX10_markGaps 0 [some (vR 10 (some x0)), some (vA 1115 x1), none, none] [] σ Q := by
  refine aw_aload_n dX10_markGaps_0 rfl rfl ?_
  refine aw_iconst (x := 0) dX10_markGaps_1 rfl ?_
  refine aw_invSv (M := MX10_markGaps) [vA 1115 x1, vI 0] mo_J7_fill_53178 rfl lm_X10_57 lt_J7_fill_53178 dX10_markGaps_2 rfl (Nat.le_of_ble_eq_true rfl) (ACv.mono (fun σ1 h => ?_) h)
  refine aw_iconst (x := 0) dX10_markGaps_5 rfl ?_
  refine aw_istore_n (L' := [some (vR 10 (some x0)), some (vA 1115 x1), some (vI 0), none]) dX10_markGaps_6 rfl (by decide) rfl ?_
  exact aw_fgt (L' := [some (vR 10 (some x0)), some (vA 1115 x1), some (vI 0), none]) ⟨rfl, ⟨rfl, ⟨rfl, trivial⟩⟩⟩ h
set_option maxRecDepth 4000 in
theorem bk_X10_markGaps_7 {g : GP} {l : Launch} {d : Nat} {σ : St} {Q : Option AV → St → Prop} {x0 : Nat} {x1 : Nat} {x2 : Int}
    (h : (((gI σ 1004 x0 0) ≤ x2 → AW g l (d + 1) MX10_markGaps 67 [some (vR 10 (some x0)), some (vA 1115 x1), some (vI 0), some (vI 0)] [] σ Q) ∧ (¬ (gI σ 1004 x0 0) ≤ x2 → LC 10 σ x0 ∧ Bd x2 400 ∧ ∃ r4, gR σ 1003 x0 x2.toNat = some r4 ∧ ACi g l d MX5_holdsOthers [vR 5 (some r4)] σ (fun v7 σ6 => ((¬ v7 = 0 → R32 (x2 + 1) ∧ AW g l (d + 1) MX10_markGaps 7 [some (vR 10 (some x0)), some (vA 1115 x1), some (vI (x2 + 1)), none] [] σ6 Q) ∧ (v7 = 0 → LC 10 σ6 x0 ∧ ∃ r11, gR σ6 1003 x0 x2.toNat = some r11 ∧ LC 11 σ6 x1 ∧ Bd (gI σ6 502 r11 0) 2001 ∧ R32 ((gI σ6 1115 x1 (gI σ6 502 r11 0).toNat) + 1) ∧ Bd (gI σ6 503 r11 0) 2001 ∧ R32 ((gI (sI σ6 1115 x1 (gI σ6 502 r11 0).toNat ((gI σ6 1115 x1 (gI σ6 502 r11 0).toNat) + 1)) 1115 x1 (gI σ6 503 r11 0).toNat) - 1) ∧ R32 (x2 + 1) ∧ AW g l (d + 1) MX10_markGaps 7 [some (vR 10 (some x0)), some (vA 1115 x1), some (vI (x2 + 1)), none] [] (sI (sI σ6 1115 x1 (gI σ6 502 r11 0).toNat ((gI σ6 1115 x1 (gI σ6 502 r11 0).toNat) + 1)) 1115 x1 (gI σ6 503 r11 0).toNat ((gI (sI σ6 1115 x1 (gI σ6 502 r11 0).toNat ((gI σ6 1115 x1 (gI σ6 502 r11 0).toNat) + 1)) 1115 x1 (gI σ6 503 r11 0).toNat) - 1)) Q)))))) :
    AW g l (d + 1) MX10_markGaps 7 [some (vR 10 (some x0)), some (vA 1115 x1), some (vI x2), none] [] σ Q := by
  refine aw_iload_n dX10_markGaps_7 rfl rfl ?_
  refine aw_aload_n dX10_markGaps_8 rfl rfl ?_
  refine aw_getI' rfl fk_1004 lf_X10_36 dX10_markGaps_9 ?_
  refine aw_icmp_ge (tgt := 63) dX10_markGaps_12 (by decide) (fun k1 => ?_) (fun k1 => ?_)
  · replace h := h.1 k1
    refine aw_iconst (x := 0) dX10_markGaps_63 rfl ?_
    refine aw_istore_n (L' := [some (vR 10 (some x0)), some (vA 1115 x1), some (vI 0), none]) dX10_markGaps_64 rfl (by decide) rfl ?_
    refine aw_iconst (x := 0) dX10_markGaps_65 rfl ?_
    refine aw_istore_n (L' := [some (vR 10 (some x0)), some (vA 1115 x1), some (vI 0), some (vI 0)]) dX10_markGaps_66 rfl (by decide) rfl ?_
    exact aw_fgt (L' := [some (vR 10 (some x0)), some (vA 1115 x1), some (vI 0), some (vI 0)]) ⟨rfl, ⟨rfl, ⟨rfl, ⟨rfl, trivial⟩⟩⟩⟩ h
  · replace h := h.2 k1
    refine aw_aload_n dX10_markGaps_15 rfl rfl ?_
    obtain ⟨lc2, h⟩ := h
    refine aw_getA' rfl fk_1003 (by decide) lf_X10_11 dX10_markGaps_16 (LC.ne lc2 rfl rfl) ?_
    refine aw_iload_n dX10_markGaps_19 rfl rfl ?_
    obtain ⟨⟨c3, c3x⟩, h⟩ := h
    refine aw_aaload (ci := 5) (by decide) rfl (by decide +kernel) dX10_markGaps_20 c3 (LC.lt lc2 rfl rfl c3x) ?_
    obtain ⟨r4, e5, h⟩ := h
    refine aw_invVi (M := MX10_markGaps) (ci := 5) [] e5 mo_X5_holdsOthers rfl lm_X10_63 li_X5_holdsOthers ls_X5_holdsOthers (by decide +kernel) dX10_markGaps_21 rfl (Nat.le_of_ble_eq_true rfl) (ACi.mono (fun v7 σ6 h => ?_) h)
    refine aw_if_ne (tgt := 57) dX10_markGaps_24 (by decide) (fun k8 => ?_) (fun k8 => ?_)
    · replace h := h.1 k8
      obtain ⟨⟨c9, c9x⟩, h⟩ := h
      refine aw_iincc (L' := [some (vR 10 (some x0)), some (vA 1115 x1), some (vI (x2 + 1)), none]) dX10_markGaps_57 rfl (by decide) rfl c9 c9x rfl ?_
      refine aw_goto (tgt := 7) dX10_markGaps_60 (by decide) ?_
      exact aw_fgt (L' := [some (vR 10 (some x0)), some (vA 1115 x1), some (vI (x2 + 1)), none]) ⟨rfl, ⟨rfl, ⟨rfl, trivial⟩⟩⟩ h
    · replace h := h.2 k8
      refine aw_aload_n dX10_markGaps_27 rfl rfl ?_
      refine aw_aload_n dX10_markGaps_28 rfl rfl ?_
      obtain ⟨lc10, h⟩ := h
      refine aw_getA' rfl fk_1003 (by decide) lf_X10_11 dX10_markGaps_29 (LC.ne lc10 rfl rfl) ?_
      refine aw_iload_n dX10_markGaps_32 rfl rfl ?_
      refine aw_aaload (ci := 5) (by decide) rfl (by decide +kernel) dX10_markGaps_33 c3 (LC.lt lc10 rfl rfl c3x) ?_
      obtain ⟨r11, e12, h⟩ := h
      refine aw_getI' e12 fk_502 lf_X10_67 dX10_markGaps_34 ?_
      refine aw_dup2 dX10_markGaps_37 rfl rfl ?_
      obtain ⟨lc13, h⟩ := h
      obtain ⟨⟨c14, c14x⟩, h⟩ := h
      refine aw_iaload (by decide) rfl dX10_markGaps_38 c14 (LC.lt lc13 rfl rfl c14x) ?_
      refine aw_iconst (x := 1) dX10_markGaps_39 rfl ?_
      obtain ⟨⟨c15, c15x⟩, h⟩ := h
      refine aw_iaddc dX10_markGaps_40 c15 c15x ?_
      refine aw_iastore (by decide) rfl dX10_markGaps_41 c14 (LC.lt lc13 rfl rfl c14x) ?_
      refine aw_aload_n dX10_markGaps_42 rfl rfl ?_
      refine aw_aload_n dX10_markGaps_43 rfl rfl ?_
      refine aw_getA' rfl fk_1003 (by decide) lf_X10_11 dX10_markGaps_44 (LC.ne lc10 rfl rfl) ?_
      refine aw_iload_n dX10_markGaps_47 rfl rfl ?_
      refine aw_aaloade (ci := 5) (v := gR σ6 1003 x0 x2.toNat) (by decide) rfl (by decide +kernel) dX10_markGaps_48 c3 (LC.lt lc10 rfl rfl c3x) rfl ?_
      refine aw_getIe (v := gI σ6 503 r11 0) e12 fk_503 lf_X10_70 dX10_markGaps_49 rfl ?_
      refine aw_dup2 dX10_markGaps_52 rfl rfl ?_
      obtain ⟨⟨c16, c16x⟩, h⟩ := h
      refine aw_iaload (by decide) rfl dX10_markGaps_53 c16 (LC.lt lc13 rfl rfl c16x) ?_
      refine aw_iconst (x := 1) dX10_markGaps_54 rfl ?_
      obtain ⟨⟨c17, c17x⟩, h⟩ := h
      refine aw_isubc dX10_markGaps_55 c17 c17x ?_
      refine aw_iastore (by decide) rfl dX10_markGaps_56 c16 (LC.lt lc13 rfl rfl c16x) ?_
      obtain ⟨⟨c18, c18x⟩, h⟩ := h
      refine aw_iincc (L' := [some (vR 10 (some x0)), some (vA 1115 x1), some (vI (x2 + 1)), none]) dX10_markGaps_57 rfl (by decide) rfl c18 c18x rfl ?_
      refine aw_goto (tgt := 7) dX10_markGaps_60 (by decide) ?_
      exact aw_fgt (L' := [some (vR 10 (some x0)), some (vA 1115 x1), some (vI (x2 + 1)), none]) ⟨rfl, ⟨rfl, ⟨rfl, trivial⟩⟩⟩ h
set_option maxRecDepth 4000 in
theorem bk_X10_markGaps_67 {g : GP} {l : Launch} {d : Nat} {σ : St} {Q : Option AV → St → Prop} {x0 : Nat} {x1 : Nat} {x2 : Int} {x3 : Int}
    (h : ∃ r1, gR σ 1000 x0 0 = some r1 ∧ (((gI σ 304 r1 0) ≤ x3 → Q none σ) ∧ (¬ (gI σ 304 r1 0) ≤ x3 → LC 11 σ x1 ∧ Bd x3 2001 ∧ R32 (x2 + (gI σ 1115 x1 x3.toNat)) ∧ ∀ z7 : Int, z7 = x2 + (gI σ 1115 x1 x3.toNat) → ((¬ z7 = 0 → R32 (x3 + 1) ∧ AW g l (d + 1) MX10_markGaps 67 [some (vR 10 (some x0)), some (vA 1115 x1), some (vI z7), some (vI (x3 + 1))] [] (sI σ 1115 x1 x3.toNat 0) Q) ∧ (z7 = 0 → R32 (x3 + 1) ∧ AW g l (d + 1) MX10_markGaps 67 [some (vR 10 (some x0)), some (vA 1115 x1), some (vI z7), some (vI (x3 + 1))] [] (sI σ 1115 x1 x3.toNat 1) Q))))) :
    AW g l (d + 1) MX10_markGaps 67 [some (vR 10 (some x0)), some (vA 1115 x1), some (vI x2), some (vI x3)] [] σ Q := by
  refine aw_iload_n dX10_markGaps_67 rfl rfl ?_
  refine aw_aload_n dX10_markGaps_68 rfl rfl ?_
  refine aw_getR' (ci := 3) rfl fk_1000 (by decide +kernel) lf_X10_17 dX10_markGaps_69 ?_
  obtain ⟨r1, e2, h⟩ := h
  refine aw_getI' e2 fk_304 lf_X10_73 dX10_markGaps_72 ?_
  refine aw_icmp_ge (tgt := 102) dX10_markGaps_75 (by decide) (fun k3 => ?_) (fun k3 => ?_)
  · replace h := h.1 k3
    exact aw_ret h rfl dX10_markGaps_102
  · replace h := h.2 k3
    refine aw_iload_n dX10_markGaps_78 rfl rfl ?_
    refine aw_aload_n dX10_markGaps_79 rfl rfl ?_
    refine aw_iload_n dX10_markGaps_80 rfl rfl ?_
    obtain ⟨lc4, h⟩ := h
    obtain ⟨⟨c5, c5x⟩, h⟩ := h
    refine aw_iaload (by decide) rfl dX10_markGaps_81 c5 (LC.lt lc4 rfl rfl c5x) ?_
    obtain ⟨⟨c6, c6x⟩, h⟩ := h
    refine aw_iaddc dX10_markGaps_82 c6 c6x ?_
    refine aw_istore_n (L' := [some (vR 10 (some x0)), some (vA 1115 x1), some (vI (x2 + (gI σ 1115 x1 x3.toNat))), some (vI x3)]) dX10_markGaps_83 rfl (by decide) rfl ?_
    obtain ⟨z7, hz7⟩ : ∃ z : Int, z = x2 + (gI σ 1115 x1 x3.toNat) := ⟨_, rfl⟩
    rw [← hz7]
    replace h := h z7 hz7
    refine aw_aload_n dX10_markGaps_84 rfl rfl ?_
    refine aw_iload_n dX10_markGaps_85 rfl rfl ?_
    refine aw_iload_n dX10_markGaps_86 rfl rfl ?_
    refine aw_if_ne (tgt := 94) dX10_markGaps_87 (by decide) (fun k8 => ?_) (fun k8 => ?_)
    · replace h := h.1 k8
      refine aw_iconst (x := 0) dX10_markGaps_94 rfl ?_
      refine aw_iastore (by decide) rfl dX10_markGaps_95 c5 (LC.lt lc4 rfl rfl c5x) ?_
      obtain ⟨⟨c9, c9x⟩, h⟩ := h
      refine aw_iincc (L' := [some (vR 10 (some x0)), some (vA 1115 x1), some (vI z7), some (vI (x3 + 1))]) dX10_markGaps_96 rfl (by decide) rfl c9 c9x rfl ?_
      refine aw_goto (tgt := 67) dX10_markGaps_99 (by decide) ?_
      exact aw_fgt (L' := [some (vR 10 (some x0)), some (vA 1115 x1), some (vI z7), some (vI (x3 + 1))]) ⟨rfl, ⟨rfl, ⟨rfl, ⟨rfl, trivial⟩⟩⟩⟩ h
    · replace h := h.2 k8
      refine aw_iconst (x := 1) dX10_markGaps_90 rfl ?_
      refine aw_goto (tgt := 95) dX10_markGaps_91 (by decide) ?_
      refine aw_iastore (by decide) rfl dX10_markGaps_95 c5 (LC.lt lc4 rfl rfl c5x) ?_
      obtain ⟨⟨c10, c10x⟩, h⟩ := h
      refine aw_iincc (L' := [some (vR 10 (some x0)), some (vA 1115 x1), some (vI z7), some (vI (x3 + 1))]) dX10_markGaps_96 rfl (by decide) rfl c10 c10x rfl ?_
      refine aw_goto (tgt := 67) dX10_markGaps_99 (by decide) ?_
      exact aw_fgt (L' := [some (vR 10 (some x0)), some (vA 1115 x1), some (vI z7), some (vI (x3 + 1))]) ⟨rfl, ⟨rfl, ⟨rfl, ⟨rfl, trivial⟩⟩⟩⟩ h
set_option maxRecDepth 4000 in
theorem bk_X10_rangeFault_0 {g : GP} {l : Launch} {d : Nat} {σ : St} {Q : Option AV → St → Prop} {x0 : Nat} {x1 : Option Nat}
    (h : ∃ r1, x1 = some r1 ∧ ∃ r3, gR σ 1006 x0 0 = some r3 ∧ ∃ r5, gR σ 513 r1 0 = some r5 ∧ ∃ r7, gR σ 1007 x0 0 = some r7 ∧ ACj g l d MX7_work [vR 7 (some r7), vR 0 (gR σ 110 r3 0), vI (gI σ 209 r5 0), vR 5 (gR σ 507 r1 0), vI (gI σ 502 r1 0), vR 3 (gR σ 1000 x0 0)] σ (fun v10 σ9 => ∃ r11, gR σ9 1007 x0 0 = some r11 ∧ ∃ r13, gR σ9 1006 x0 0 = some r13 ∧ ∃ r15, gR σ9 513 r1 0 = some r15 ∧ ACj g l d MX7_work [vR 7 (some r11), vR 0 (gR σ9 110 r13 0), vI (gI σ9 210 r15 0), vR 5 (gR σ 507 r1 0), vI (gI σ9 502 r1 0), vR 3 (gR σ9 1000 x0 0)] σ9 (fun v18 σ17 => ((¬ (gI σ9 700 r11 0) = 0 → Q (some (vI 6)) σ17) ∧ ((gI σ9 700 r11 0) = 0 → ∃ r20, gR σ17 1007 x0 0 = some r20 ∧ (((gI σ17 700 r20 0) = 0 → ((v10.toInt < (0 : Int64).toInt → Q (some (vI 5)) σ17) ∧ (¬ v10.toInt < (0 : Int64).toInt → ((v18.toInt < v10.toInt → Q (some (vI 5)) σ17) ∧ (¬ v18.toInt < v10.toInt → ∃ r25, gR σ17 1000 x0 0 = some r25 ∧ ∃ r27, gR σ 507 r1 0 = some r27 ∧ R32 ((gI σ17 304 r25 0) - (gI σ17 502 r27 0)) ∧ ((v18.toInt ≤ (i2j ((gI σ17 304 r25 0) - (gI σ17 502 r27 0))).toInt → R32 ((gI σ17 502 r27 0) + (j2i v10)) ∧ R32 ((gI σ17 502 r27 0) + (j2i v18)) ∧ Q (some (vI 0)) (sI (sI σ17 1008 x0 0 ((gI σ17 502 r27 0) + (j2i v10))) 1009 x0 0 ((gI σ17 502 r27 0) + (j2i v18)))) ∧ (¬ v18.toInt ≤ (i2j ((gI σ17 304 r25 0) - (gI σ17 502 r27 0))).toInt → Q (some (vI 5)) σ17))))))) ∧ (¬ (gI σ17 700 r20 0) = 0 → Q (some (vI 6)) σ17))))))) :
    AW g l (d + 1) MX10_rangeFault 0 [some (vR 10 (some x0)), some (vR 5 x1), none, none, none, none, none, none] [] σ Q := by
  refine aw_aload_n dX10_rangeFault_0 rfl rfl ?_
  obtain ⟨r1, e2, h⟩ := h
  refine aw_getR' (ci := 5) e2 fk_507 (by decide +kernel) lf_X10_82 dX10_rangeFault_1 ?_
  refine aw_astore_n (L' := [some (vR 10 (some x0)), some (vR 5 x1), some (vR 5 (gR σ 507 r1 0)), none, none, none, none, none]) dX10_rangeFault_4 rfl (by decide) rfl ?_
  refine aw_aload_n dX10_rangeFault_5 rfl rfl ?_
  refine aw_getR' (ci := 7) rfl fk_1007 (by decide +kernel) lf_X10_32 dX10_rangeFault_6 ?_
  refine aw_aload_n dX10_rangeFault_9 rfl rfl ?_
  refine aw_getR' (ci := 1) rfl fk_1006 (by decide +kernel) lf_X10_28 dX10_rangeFault_10 ?_
  obtain ⟨r3, e4, h⟩ := h
  refine aw_getR' (ci := 0) e4 fk_110 (by decide +kernel) lf_X10_156 dX10_rangeFault_13 ?_
  refine aw_aload_n dX10_rangeFault_16 rfl rfl ?_
  refine aw_getR' (ci := 2) e2 fk_513 (by decide +kernel) lf_X10_78 dX10_rangeFault_17 ?_
  obtain ⟨r5, e6, h⟩ := h
  refine aw_getI' e6 fk_209 lf_X10_184 dX10_rangeFault_20 ?_
  refine aw_aload_n dX10_rangeFault_23 rfl rfl ?_
  refine aw_aload_n dX10_rangeFault_24 rfl rfl ?_
  refine aw_getI' e2 fk_502 lf_X10_67 dX10_rangeFault_25 ?_
  refine aw_aload_n dX10_rangeFault_28 rfl rfl ?_
  refine aw_getR' (ci := 3) rfl fk_1000 (by decide +kernel) lf_X10_17 dX10_rangeFault_29 ?_
  obtain ⟨r7, e8, h⟩ := h
  refine aw_invVj (M := MX10_rangeFault) (ci := 7) [vR 0 (gR σ 110 r3 0), vI (gI σ 209 r5 0), vR 5 (gR σ 507 r1 0), vI (gI σ 502 r1 0), vR 3 (gR σ 1000 x0 0)] e8 mo_X7_work rfl lm_X10_160 li_X7_work ls_X7_work (by decide +kernel) dX10_rangeFault_32 rfl (Nat.le_of_ble_eq_true rfl) (ACj.mono (fun v10 σ9 h => ?_) h)
  refine aw_lstore_n (L' := [some (vR 10 (some x0)), some (vR 5 x1), some (vR 5 (gR σ 507 r1 0)), some (vJ v10), none, none, none, none]) dX10_rangeFault_35 rfl (by decide) rfl ?_
  refine aw_aload_n dX10_rangeFault_36 rfl rfl ?_
  refine aw_getR' (ci := 7) rfl fk_1007 (by decide +kernel) lf_X10_32 dX10_rangeFault_37 ?_
  obtain ⟨r11, e12, h⟩ := h
  refine aw_getZ' e12 fk_700 lf_X10_166 dX10_rangeFault_40 ?_
  refine aw_istore (L' := [some (vR 10 (some x0)), some (vR 5 x1), some (vR 5 (gR σ 507 r1 0)), some (vJ v10), none, some (vI (gI σ9 700 r11 0)), none, none]) dX10_rangeFault_43 (by decide) rfl ?_
  refine aw_aload_n dX10_rangeFault_45 rfl rfl ?_
  refine aw_getR' (ci := 7) rfl fk_1007 (by decide +kernel) lf_X10_32 dX10_rangeFault_46 ?_
  refine aw_aload_n dX10_rangeFault_49 rfl rfl ?_
  refine aw_getR' (ci := 1) rfl fk_1006 (by decide +kernel) lf_X10_28 dX10_rangeFault_50 ?_
  obtain ⟨r13, e14, h⟩ := h
  refine aw_getR' (ci := 0) e14 fk_110 (by decide +kernel) lf_X10_156 dX10_rangeFault_53 ?_
  refine aw_aload_n dX10_rangeFault_56 rfl rfl ?_
  refine aw_getR' (ci := 2) e2 fk_513 (by decide +kernel) lf_X10_78 dX10_rangeFault_57 ?_
  obtain ⟨r15, e16, h⟩ := h
  refine aw_getI' e16 fk_210 lf_X10_296 dX10_rangeFault_60 ?_
  refine aw_aload_n dX10_rangeFault_63 rfl rfl ?_
  refine aw_aload_n dX10_rangeFault_64 rfl rfl ?_
  refine aw_getI' e2 fk_502 lf_X10_67 dX10_rangeFault_65 ?_
  refine aw_aload_n dX10_rangeFault_68 rfl rfl ?_
  refine aw_getR' (ci := 3) rfl fk_1000 (by decide +kernel) lf_X10_17 dX10_rangeFault_69 ?_
  refine aw_invVj (M := MX10_rangeFault) (ci := 7) [vR 0 (gR σ9 110 r13 0), vI (gI σ9 210 r15 0), vR 5 (gR σ 507 r1 0), vI (gI σ9 502 r1 0), vR 3 (gR σ9 1000 x0 0)] e12 mo_X7_work rfl lm_X10_160 li_X7_work ls_X7_work (by decide +kernel) dX10_rangeFault_72 rfl (Nat.le_of_ble_eq_true rfl) (ACj.mono (fun v18 σ17 h => ?_) h)
  refine aw_lstore (L' := [some (vR 10 (some x0)), some (vR 5 x1), some (vR 5 (gR σ 507 r1 0)), some (vJ v10), none, some (vI (gI σ9 700 r11 0)), some (vJ v18), none]) dX10_rangeFault_75 (by decide) rfl ?_
  refine aw_iload dX10_rangeFault_77 rfl ?_
  refine aw_if_ne (tgt := 92) dX10_rangeFault_79 (by decide) (fun k19 => ?_) (fun k19 => ?_)
  · replace h := h.1 k19
    refine aw_bipush (x := 6) dX10_rangeFault_92 rfl ?_
    exact aw_ireturn dX10_rangeFault_94 rfl h
  · replace h := h.2 k19
    refine aw_aload_n dX10_rangeFault_82 rfl rfl ?_
    refine aw_getR' (ci := 7) rfl fk_1007 (by decide +kernel) lf_X10_32 dX10_rangeFault_83 ?_
    obtain ⟨r20, e21, h⟩ := h
    refine aw_getZ' e21 fk_700 lf_X10_166 dX10_rangeFault_86 ?_
    refine aw_if_eq (tgt := 95) dX10_rangeFault_89 (by decide) (fun k22 => ?_) (fun k22 => ?_)
    · replace h := h.1 k22
      refine aw_lload_n dX10_rangeFault_95 rfl rfl ?_
      refine aw_lconst (x := 0) dX10_rangeFault_96 rfl ?_
      refine aw_lcmp_lt (M := MX10_rangeFault) (tgt := 127) dX10_rangeFault_97 dX10_rangeFault_98 (by decide) (fun k23 => ?_) (fun k23 => ?_)
      · replace h := h.1 k23
        refine aw_iconst (x := 5) dX10_rangeFault_127 rfl ?_
        exact aw_ireturn dX10_rangeFault_128 rfl h
      · replace h := h.2 k23
        refine aw_lload dX10_rangeFault_101 rfl ?_
        refine aw_lload_n dX10_rangeFault_103 rfl rfl ?_
        refine aw_lcmp_lt (M := MX10_rangeFault) (tgt := 127) dX10_rangeFault_104 dX10_rangeFault_105 (by decide) (fun k24 => ?_) (fun k24 => ?_)
        · replace h := h.1 k24
          refine aw_iconst (x := 5) dX10_rangeFault_127 rfl ?_
          exact aw_ireturn dX10_rangeFault_128 rfl h
        · replace h := h.2 k24
          refine aw_lload dX10_rangeFault_108 rfl ?_
          refine aw_aload_n dX10_rangeFault_110 rfl rfl ?_
          refine aw_getR' (ci := 3) rfl fk_1000 (by decide +kernel) lf_X10_17 dX10_rangeFault_111 ?_
          obtain ⟨r25, e26, h⟩ := h
          refine aw_getI' e26 fk_304 lf_X10_73 dX10_rangeFault_114 ?_
          refine aw_aload_n dX10_rangeFault_117 rfl rfl ?_
          obtain ⟨r27, e28, h⟩ := h
          refine aw_getI' e28 fk_502 lf_X10_67 dX10_rangeFault_118 ?_
          obtain ⟨⟨c29, c29x⟩, h⟩ := h
          refine aw_isubc dX10_rangeFault_121 c29 c29x ?_
          refine aw_i2l dX10_rangeFault_122 ?_
          refine aw_lcmp_le (M := MX10_rangeFault) (tgt := 129) dX10_rangeFault_123 dX10_rangeFault_124 (by decide) (fun k30 => ?_) (fun k30 => ?_)
          · replace h := h.1 k30
            refine aw_aload_n dX10_rangeFault_129 rfl rfl ?_
            refine aw_aload_n dX10_rangeFault_130 rfl rfl ?_
            refine aw_getI' e28 fk_502 lf_X10_67 dX10_rangeFault_131 ?_
            refine aw_lload_n dX10_rangeFault_134 rfl rfl ?_
            refine aw_l2i dX10_rangeFault_135 ?_
            obtain ⟨⟨c31, c31x⟩, h⟩ := h
            refine aw_iaddc dX10_rangeFault_136 c31 c31x ?_
            refine aw_putI' rfl fk_1008 (Or.inl rfl) lf_X10_299 dX10_rangeFault_137 ?_
            refine aw_aload_n dX10_rangeFault_140 rfl rfl ?_
            refine aw_aload_n dX10_rangeFault_141 rfl rfl ?_
            refine aw_getIe (v := gI σ17 502 r27 0) e28 fk_502 lf_X10_67 dX10_rangeFault_142 rfl ?_
            refine aw_lload dX10_rangeFault_145 rfl ?_
            refine aw_l2i dX10_rangeFault_147 ?_
            obtain ⟨⟨c32, c32x⟩, h⟩ := h
            refine aw_iaddc dX10_rangeFault_148 c32 c32x ?_
            refine aw_putI' rfl fk_1009 (Or.inl rfl) lf_X10_302 dX10_rangeFault_149 ?_
            refine aw_iconst (x := 0) dX10_rangeFault_152 rfl ?_
            exact aw_ireturn dX10_rangeFault_153 rfl h
          · replace h := h.2 k30
            refine aw_iconst (x := 5) dX10_rangeFault_127 rfl ?_
            exact aw_ireturn dX10_rangeFault_128 rfl h
    · replace h := h.2 k22
      refine aw_bipush (x := 6) dX10_rangeFault_92 rfl ?_
      exact aw_ireturn dX10_rangeFault_94 rfl h
set_option maxRecDepth 4000 in
theorem bk_X1_init_0 {g : GP} {l : Launch} {d : Nat} {σ : St} {Q : Option AV → St → Prop} {x0 : Nat}
    (h : (gL σ 100 x0 = 0 ∧ hs σ + 1 ≤ gB g + 600000 ∧ sl σ + 20 ≤ 7302250) ∧ (gL (sArr σ 100 x0 20) 102 x0 = 0 ∧ hs (sArr σ 100 x0 20) + 1 ≤ gB g + 600000 ∧ sl (sArr σ 100 x0 20) + 8 ≤ 7302250) ∧ (gL (sArr (sArr σ 100 x0 20) 102 x0 8) 103 x0 = 0 ∧ hs (sArr (sArr σ 100 x0 20) 102 x0 8) + 1 ≤ gB g + 600000 ∧ sl (sArr (sArr σ 100 x0 20) 102 x0 8) + 8 ≤ 7302250) ∧ (gL (sArr (sArr (sArr σ 100 x0 20) 102 x0 8) 103 x0 8) 104 x0 = 0 ∧ hs (sArr (sArr (sArr σ 100 x0 20) 102 x0 8) 103 x0 8) + 1 ≤ gB g + 600000 ∧ sl (sArr (sArr (sArr σ 100 x0 20) 102 x0 8) 103 x0 8) + 8 ≤ 7302250) ∧ (gL (sArr (sArr (sArr (sArr σ 100 x0 20) 102 x0 8) 103 x0 8) 104 x0 8) 106 x0 = 0 ∧ hs (sArr (sArr (sArr (sArr σ 100 x0 20) 102 x0 8) 103 x0 8) 104 x0 8) + 1 ≤ gB g + 600000 ∧ sl (sArr (sArr (sArr (sArr σ 100 x0 20) 102 x0 8) 103 x0 8) 104 x0 8) + 3000 ≤ 7302250) ∧ (gL (sArr (sArr (sArr (sArr (sArr σ 100 x0 20) 102 x0 8) 103 x0 8) 104 x0 8) 106 x0 3000) 107 x0 = 0 ∧ hs (sArr (sArr (sArr (sArr (sArr σ 100 x0 20) 102 x0 8) 103 x0 8) 104 x0 8) 106 x0 3000) + 1 ≤ gB g + 600000 ∧ sl (sArr (sArr (sArr (sArr (sArr σ 100 x0 20) 102 x0 8) 103 x0 8) 104 x0 8) 106 x0 3000) + 3000 ≤ 7302250) ∧ (gL (sArr (sArr (sArr (sArr (sArr (sArr σ 100 x0 20) 102 x0 8) 103 x0 8) 104 x0 8) 106 x0 3000) 107 x0 3000) 108 x0 = 0 ∧ hs (sArr (sArr (sArr (sArr (sArr (sArr σ 100 x0 20) 102 x0 8) 103 x0 8) 104 x0 8) 106 x0 3000) 107 x0 3000) + 1 ≤ gB g + 600000 ∧ sl (sArr (sArr (sArr (sArr (sArr (sArr σ 100 x0 20) 102 x0 8) 103 x0 8) 104 x0 8) 106 x0 3000) 107 x0 3000) + 3000 ≤ 7302250) ∧ (hs (sArr (sArr (sArr (sArr (sArr (sArr (sArr σ 100 x0 20) 102 x0 8) 103 x0 8) 104 x0 8) 106 x0 3000) 107 x0 3000) 108 x0 3000) + 1 ≤ gB g + 600000 ∧ sl (sArr (sArr (sArr (sArr (sArr (sArr (sArr σ 100 x0 20) 102 x0 8) 103 x0 8) 104 x0 8) 106 x0 3000) 107 x0 3000) 108 x0 3000) + 3 ≤ 7302250) ∧ ACv g l d MX0_init [vR 0 (some (hs (sArr (sArr (sArr (sArr (sArr (sArr (sArr σ 100 x0 20) 102 x0 8) 103 x0 8) 104 x0 8) 106 x0 3000) 107 x0 3000) 108 x0 3000)))] (sNew (sArr (sArr (sArr (sArr (sArr (sArr (sArr σ 100 x0 20) 102 x0 8) 103 x0 8) 104 x0 8) 106 x0 3000) 107 x0 3000) 108 x0 3000) 3) (fun σ1 => AW g l (d + 1) MX1_init 77 [some (vR 1 (some x0)), some (vI 0)] [] (sR σ1 110 x0 0 (some (hs (sArr (sArr (sArr (sArr (sArr (sArr (sArr σ 100 x0 20) 102 x0 8) 103 x0 8) 104 x0 8) 106 x0 3000) 107 x0 3000) 108 x0 3000)))) Q)) :
    AW g l (d + 1) MX1_init 0 [some (vR 1 (some x0)), none] [] σ Q := by
  refine aw_aload_n dX1_init_0 rfl rfl ?_
  refine aw_objInit (M := MX1_init) lm_X1_3 loi_i loi_c dX1_init_1 (Nat.le_of_ble_eq_true rfl) ?_
  refine aw_aload_n dX1_init_4 rfl rfl ?_
  refine aw_bipush (x := 20) dX1_init_5 rfl ?_
  obtain ⟨⟨h0, h1, h2⟩, h⟩ := h
  refine aw_mkArrR (M := MX1_init) (n := 20) fk_100 (by decide +kernel) lc_X1_9 lo_X8 ⟨rfl, rfl⟩ lf_X1_11 dX1_init_7 dX1_init_10 rfl (by decide) (by decide) h0 h1 h2 ?_
  refine aw_aload_n dX1_init_13 rfl rfl ?_
  refine aw_bipush (x := 8) dX1_init_14 rfl ?_
  obtain ⟨⟨h0, h1, h2⟩, h⟩ := h
  refine aw_mkArr (M := MX1_init) (n := 8) fk_102 (by decide +kernel) rfl (fun _ _ h => h) la_long ⟨rfl, rfl⟩ lf_X1_17 dX1_init_16 dX1_init_18 rfl (by decide) (by decide) h0 h1 h2 ?_
  refine aw_aload_n dX1_init_21 rfl rfl ?_
  refine aw_bipush (x := 8) dX1_init_22 rfl ?_
  obtain ⟨⟨h0, h1, h2⟩, h⟩ := h
  refine aw_mkArr (M := MX1_init) (n := 8) fk_103 (by decide +kernel) rfl (fun _ _ h => h) la_int ⟨rfl, rfl⟩ lf_X1_21 dX1_init_24 dX1_init_26 rfl (by decide) (by decide) h0 h1 h2 ?_
  refine aw_aload_n dX1_init_29 rfl rfl ?_
  refine aw_bipush (x := 8) dX1_init_30 rfl ?_
  obtain ⟨⟨h0, h1, h2⟩, h⟩ := h
  refine aw_mkArr (M := MX1_init) (n := 8) fk_104 (by decide +kernel) rfl (fun _ _ h => h) la_int ⟨rfl, rfl⟩ lf_X1_25 dX1_init_32 dX1_init_34 rfl (by decide) (by decide) h0 h1 h2 ?_
  refine aw_aload_n dX1_init_37 rfl rfl ?_
  refine aw_sipush (x := 3000) dX1_init_38 rfl ?_
  obtain ⟨⟨h0, h1, h2⟩, h⟩ := h
  refine aw_mkArr (M := MX1_init) (n := 3000) fk_106 (by decide +kernel) rfl (fun _ _ h => h) la_long ⟨rfl, rfl⟩ lf_X1_28 dX1_init_41 dX1_init_43 rfl (by decide) (by decide) h0 h1 h2 ?_
  refine aw_aload_n dX1_init_46 rfl rfl ?_
  refine aw_sipush (x := 3000) dX1_init_47 rfl ?_
  obtain ⟨⟨h0, h1, h2⟩, h⟩ := h
  refine aw_mkArr (M := MX1_init) (n := 3000) fk_107 (by decide +kernel) rfl (fun _ _ h => h) la_long ⟨rfl, rfl⟩ lf_X1_31 dX1_init_50 dX1_init_52 rfl (by decide) (by decide) h0 h1 h2 ?_
  refine aw_aload_n dX1_init_55 rfl rfl ?_
  refine aw_sipush (x := 3000) dX1_init_56 rfl ?_
  obtain ⟨⟨h0, h1, h2⟩, h⟩ := h
  refine aw_mkArr (M := MX1_init) (n := 3000) fk_108 (by decide +kernel) rfl (fun _ _ h => h) la_int ⟨rfl, rfl⟩ lf_X1_34 dX1_init_59 dX1_init_61 rfl (by decide) (by decide) h0 h1 h2 ?_
  refine aw_aload_n dX1_init_64 rfl rfl ?_
  obtain ⟨⟨h1, h2⟩, h⟩ := h
  refine aw_new (M := MX1_init) (ci := 0) rfl lc_X1_37 ln_X0 lz_X0 dX1_init_65 h1 h2 ?_
  refine aw_dup dX1_init_68 rfl ?_
  refine aw_invINv (M := MX1_init) [] mo_X0_init rfl ⟨rfl, rfl⟩ lm_X1_39 li_X0_init dX1_init_69 rfl (Nat.le_of_ble_eq_true rfl) (ACv.mono (fun σ1 h => ?_) h)
  refine aw_putR' rfl fk_110 (by decide +kernel) (Or.inr ⟨rfl, rfl⟩) lf_X1_40 dX1_init_72 ?_
  refine aw_iconst (x := 0) dX1_init_75 rfl ?_
  refine aw_istore_n (L' := [some (vR 1 (some x0)), some (vI 0)]) dX1_init_76 rfl (by decide) rfl ?_
  exact aw_fgt (L' := [some (vR 1 (some x0)), some (vI 0)]) ⟨rfl, ⟨rfl, trivial⟩⟩ h
set_option maxRecDepth 4000 in
theorem bk_X1_init_77 {g : GP} {l : Launch} {d : Nat} {σ : St} {Q : Option AV → St → Prop} {x0 : Nat} {x1 : Int}
    (h : ((20 ≤ x1 → Q none σ) ∧ (¬ 20 ≤ x1 → LC 1 σ x0 ∧ (hs σ + 1 ≤ gB g + 600000 ∧ sl σ + 5 ≤ 7302250) ∧ ACv g l d MX8_init [vR 8 (some (hs σ))] (sNew σ 5) (fun σ3 => LC 1 σ3 x0 ∧ Bd x1 20 ∧ R32 (x1 + 1) ∧ AW g l (d + 1) MX1_init 77 [some (vR 1 (some x0)), some (vI (x1 + 1))] [] (sR σ3 100 x0 x1.toNat (some (hs σ))) Q)))) :
    AW g l (d + 1) MX1_init 77 [some (vR 1 (some x0)), some (vI x1)] [] σ Q := by
  refine aw_iload_n dX1_init_77 rfl rfl ?_
  refine aw_bipush (x := 20) dX1_init_78 rfl ?_
  refine aw_icmp_ge (tgt := 102) dX1_init_80 (by decide) (fun k1 => ?_) (fun k1 => ?_)
  · replace h := h.1 k1
    exact aw_ret h rfl dX1_init_102
  · replace h := h.2 k1
    refine aw_aload_n dX1_init_83 rfl rfl ?_
    obtain ⟨lc2, h⟩ := h
    refine aw_getA' rfl fk_100 (by decide) lf_X1_11 dX1_init_84 (LC.ne lc2 rfl rfl) ?_
    refine aw_iload_n dX1_init_87 rfl rfl ?_
    obtain ⟨⟨h1, h2⟩, h⟩ := h
    refine aw_new (M := MX1_init) (ci := 8) rfl lc_X1_9 ln_X8 lz_X8 dX1_init_88 h1 h2 ?_
    refine aw_dup dX1_init_91 rfl ?_
    refine aw_invIv (M := MX1_init) [] mo_X8_init rfl ⟨rfl, rfl⟩ lm_X1_44 li_X8_init dX1_init_92 rfl (Nat.le_of_ble_eq_true rfl) (ACv.mono (fun σ3 h => ?_) h)
    obtain ⟨lc4, h⟩ := h
    obtain ⟨⟨c5, c5x⟩, h⟩ := h
    refine aw_aastore' rfl (by decide) rfl (by decide +kernel) (by decide +kernel) dX1_init_95 c5 (LC.lt lc4 rfl rfl c5x) ?_
    obtain ⟨⟨c6, c6x⟩, h⟩ := h
    refine aw_iincc (L' := [some (vR 1 (some x0)), some (vI (x1 + 1))]) dX1_init_96 rfl (by decide) rfl c6 c6x rfl ?_
    refine aw_goto (tgt := 77) dX1_init_99 (by decide) ?_
    exact aw_fgt (L' := [some (vR 1 (some x0)), some (vI (x1 + 1))]) ⟨rfl, ⟨rfl, trivial⟩⟩ h
set_option maxRecDepth 4000 in
theorem bk_X1_addEntry_0 {g : GP} {l : Launch} {d : Nat} {σ : St} {Q : Option AV → St → Prop} {x0 : Nat} {x1 : Int64} {x3 : Int64} {x5 : Int}
    (h : ((3000 ≤ (gI σ 109 x0 0) → Q none σ) ∧ (¬ 3000 ≤ (gI σ 109 x0 0) → LC 1 σ x0 ∧ Bd (gI σ 109 x0 0) 3000 ∧ R32 ((gI σ 109 x0 0) + 1) ∧ Q none (sI (sI (sJ (sJ σ 106 x0 (gI σ 109 x0 0).toNat x1) 107 x0 (gI σ 109 x0 0).toNat x3) 108 x0 (gI σ 109 x0 0).toNat x5) 109 x0 0 ((gI σ 109 x0 0) + 1))))) :
    AW g l d MX1_addEntry 0 [some (vR 1 (some x0)), some (vJ x1), none, some (vJ x3), none, some (vI x5)] [] σ Q := by
  refine aw_aload_n dX1_addEntry_0 rfl rfl ?_
  refine aw_getI' rfl fk_109 lf_X1_52 dX1_addEntry_1 ?_
  refine aw_sipush (x := 3000) dX1_addEntry_4 rfl ?_
  refine aw_icmp_ge (tgt := 51) dX1_addEntry_7 (by decide) (fun k1 => ?_) (fun k1 => ?_)
  · replace h := h.1 k1
    exact aw_ret h rfl dX1_addEntry_51
  · replace h := h.2 k1
    refine aw_aload_n dX1_addEntry_10 rfl rfl ?_
    obtain ⟨lc2, h⟩ := h
    refine aw_getA' rfl fk_106 (by decide) lf_X1_28 dX1_addEntry_11 (LC.ne lc2 rfl rfl) ?_
    refine aw_aload_n dX1_addEntry_14 rfl rfl ?_
    refine aw_getI' rfl fk_109 lf_X1_52 dX1_addEntry_15 ?_
    refine aw_lload_n dX1_addEntry_18 rfl rfl ?_
    obtain ⟨⟨c3, c3x⟩, h⟩ := h
    refine aw_lastore (by decide) rfl dX1_addEntry_19 c3 (LC.lt lc2 rfl rfl c3x) ?_
    refine aw_aload_n dX1_addEntry_20 rfl rfl ?_
    refine aw_getA' rfl fk_107 (by decide) lf_X1_31 dX1_addEntry_21 (LC.ne lc2 rfl rfl) ?_
    refine aw_aload_n dX1_addEntry_24 rfl rfl ?_
    refine aw_getIe (v := gI σ 109 x0 0) rfl fk_109 lf_X1_52 dX1_addEntry_25 rfl ?_
    refine aw_lload_n dX1_addEntry_28 rfl rfl ?_
    refine aw_lastore (by decide) rfl dX1_addEntry_29 c3 (LC.lt lc2 rfl rfl c3x) ?_
    refine aw_aload_n dX1_addEntry_30 rfl rfl ?_
    refine aw_getA' rfl fk_108 (by decide) lf_X1_34 dX1_addEntry_31 (LC.ne lc2 rfl rfl) ?_
    refine aw_aload_n dX1_addEntry_34 rfl rfl ?_
    refine aw_getIe (v := gI σ 109 x0 0) rfl fk_109 lf_X1_52 dX1_addEntry_35 rfl ?_
    refine aw_iload dX1_addEntry_38 rfl ?_
    refine aw_iastore (by decide) rfl dX1_addEntry_40 c3 (LC.lt lc2 rfl rfl c3x) ?_
    refine aw_aload_n dX1_addEntry_41 rfl rfl ?_
    refine aw_dup dX1_addEntry_42 rfl ?_
    refine aw_getIe (v := gI σ 109 x0 0) rfl fk_109 lf_X1_52 dX1_addEntry_43 rfl ?_
    refine aw_iconst (x := 1) dX1_addEntry_46 rfl ?_
    obtain ⟨⟨c4, c4x⟩, h⟩ := h
    refine aw_iaddc dX1_addEntry_47 c4 c4x ?_
    refine aw_putI' rfl fk_109 (Or.inl rfl) lf_X1_52 dX1_addEntry_48 ?_
    exact aw_ret h rfl dX1_addEntry_51
set_option maxRecDepth 4000 in
theorem bk_X1_arraySize_0 {g : GP} {l : Launch} {d : Nat} {σ : St} {Q : Option AV → St → Prop} {x0 : Nat} {x1 : Option Nat}
    (h : ∃ r1, x1 = some r1 ∧ ∃ r3, gR σ 110 x0 0 = some r3 ∧ ACj g l d MX0_alone [vR 0 (some r3), vI (gI σ 209 r1 0), vI 200] σ (fun v6 σ5 => ((¬ (gI σ5 206 r1 0) = (-1) → ACi g l d MX1_sizeOf [vR 1 (some x0), vI (gI σ5 206 r1 0)] σ5 (fun v9 σ8 => AW g l (d + 1) MX1_arraySize 38 [none, none, some (vJ v6), none, none] [vI v9] σ8 Q)) ∧ ((gI σ5 206 r1 0) = (-1) → AW g l (d + 1) MX1_arraySize 38 [none, none, some (vJ v6), none, none] [vI (gI σ5 203 r1 0)] σ5 Q)))) :
    AW g l (d + 1) MX1_arraySize 0 [some (vR 1 (some x0)), some (vR 2 x1), none, none, none] [] σ Q := by
  refine aw_aload_n dX1_arraySize_0 rfl rfl ?_
  refine aw_getR' (ci := 0) rfl fk_110 (by decide +kernel) lf_X1_40 dX1_arraySize_1 ?_
  refine aw_aload_n dX1_arraySize_4 rfl rfl ?_
  obtain ⟨r1, e2, h⟩ := h
  refine aw_getI' e2 fk_209 lf_X1_103 dX1_arraySize_5 ?_
  refine aw_sipush (x := 200) dX1_arraySize_8 rfl ?_
  obtain ⟨r3, e4, h⟩ := h
  refine aw_invVj (M := MX1_arraySize) (ci := 0) [vI (gI σ 209 r1 0), vI 200] e4 mo_X0_alone rfl lm_X1_106 li_X0_alone ls_X0_alone (by decide +kernel) dX1_arraySize_11 rfl (Nat.le_of_ble_eq_true rfl) (ACj.mono (fun v6 σ5 h => ?_) h)
  refine aw_lstore_n (L' := [some (vR 1 (some x0)), some (vR 2 x1), some (vJ v6), none, none]) dX1_arraySize_14 rfl (by decide) rfl ?_
  refine aw_aload_n dX1_arraySize_15 rfl rfl ?_
  refine aw_getI' e2 fk_206 lf_X1_92 dX1_arraySize_16 ?_
  refine aw_iconst (x := (-1)) dX1_arraySize_19 rfl ?_
  refine aw_icmp_ne (tgt := 30) dX1_arraySize_20 (by decide) (fun k7 => ?_) (fun k7 => ?_)
  · replace h := h.1 k7
    refine aw_aload_n dX1_arraySize_30 rfl rfl ?_
    refine aw_aload_n dX1_arraySize_31 rfl rfl ?_
    refine aw_getI' e2 fk_206 lf_X1_92 dX1_arraySize_32 ?_
    refine aw_invVi (M := MX1_arraySize) (ci := 1) [vI (gI σ5 206 r1 0)] rfl mo_X1_sizeOf rfl lm_X1_95 li_X1_sizeOf ls_X1_sizeOf (by decide +kernel) dX1_arraySize_35 rfl (Nat.le_of_ble_eq_true rfl) (ACi.mono (fun v9 σ8 h => ?_) h)
    exact aw_fgt (L' := [none, none, some (vJ v6), none, none]) ⟨rfl, trivial⟩ h
  · replace h := h.2 k7
    refine aw_aload_n dX1_arraySize_23 rfl rfl ?_
    refine aw_getI' e2 fk_203 lf_X1_119 dX1_arraySize_24 ?_
    refine aw_goto (tgt := 38) dX1_arraySize_27 (by decide) ?_
    exact aw_fgt (L' := [none, none, some (vJ v6), none, none]) ⟨rfl, trivial⟩ h
set_option maxRecDepth 4000 in
theorem bk_X1_arraySize_38 {g : GP} {l : Launch} {d : Nat} {σ : St} {Q : Option AV → St → Prop} {x2 : Int64} {y0 : Int}
    (h : ((x2 = ((-1) : Int64) → Q (some (vJ (-1))) σ) ∧ (¬ x2 = ((-1) : Int64) → ((¬ y0 = (-1) → Q (some (vJ (x2 * (i2j y0)))) σ) ∧ (y0 = (-1) → Q (some (vJ (-1))) σ))))) :
    AW g l (d + 1) MX1_arraySize 38 [none, none, some (vJ x2), none, none] [vI y0] σ Q := by
  refine aw_istore (L' := [none, none, some (vJ x2), none, some (vI y0)]) dX1_arraySize_38 (by decide) rfl ?_
  refine aw_lload_n dX1_arraySize_40 rfl rfl ?_
  refine aw_ldc2 lk_X1_87 dX1_arraySize_41 ?_
  refine aw_lcmp_eq (M := MX1_arraySize) (tgt := 54) dX1_arraySize_44 dX1_arraySize_45 (by decide) (fun k1 => ?_) (fun k1 => ?_)
  · replace h := h.1 k1
    refine aw_ldc2 lk_X1_87 dX1_arraySize_54 ?_
    refine aw_goto (tgt := 65) dX1_arraySize_57 (by decide) ?_
    exact aw_lreturn dX1_arraySize_65 rfl h
  · replace h := h.2 k1
    refine aw_iload dX1_arraySize_48 rfl ?_
    refine aw_iconst (x := (-1)) dX1_arraySize_50 rfl ?_
    refine aw_icmp_ne (tgt := 60) dX1_arraySize_51 (by decide) (fun k2 => ?_) (fun k2 => ?_)
    · replace h := h.1 k2
      refine aw_lload_n dX1_arraySize_60 rfl rfl ?_
      refine aw_iload dX1_arraySize_61 rfl ?_
      refine aw_i2l dX1_arraySize_63 ?_
      refine aw_lmul dX1_arraySize_64 ?_
      exact aw_lreturn dX1_arraySize_65 rfl h
    · replace h := h.2 k2
      refine aw_ldc2 lk_X1_87 dX1_arraySize_54 ?_
      refine aw_goto (tgt := 65) dX1_arraySize_57 (by decide) ?_
      exact aw_lreturn dX1_arraySize_65 rfl h
set_option maxRecDepth 4000 in
theorem bk_X1_entryNamed_0 {g : GP} {l : Launch} {d : Nat} {σ : St} {Q : Option AV → St → Prop} {x0 : Nat} {x1 : Int} {x2 : Int} {x3 : Int64}
    (h : AW g l d MX1_entryNamed 3 [some (vR 1 (some x0)), some (vI x1), some (vI x2), some (vJ x3), none, some (vI x1)] [] σ Q) :
    AW g l d MX1_entryNamed 0 [some (vR 1 (some x0)), some (vI x1), some (vI x2), some (vJ x3), none, none] [] σ Q := by
  refine aw_iload_n dX1_entryNamed_0 rfl rfl ?_
  refine aw_istore (L' := [some (vR 1 (some x0)), some (vI x1), some (vI x2), some (vJ x3), none, some (vI x1)]) dX1_entryNamed_1 (by decide) rfl ?_
  exact aw_fgt (L' := [some (vR 1 (some x0)), some (vI x1), some (vI x2), some (vJ x3), none, some (vI x1)]) ⟨rfl, ⟨rfl, ⟨rfl, ⟨rfl, ⟨rfl, trivial⟩⟩⟩⟩⟩ h
set_option maxRecDepth 4000 in
theorem bk_X1_entryNamed_3 {g : GP} {l : Launch} {d : Nat} {σ : St} {Q : Option AV → St → Prop} {x0 : Nat} {x1 : Int} {x2 : Int} {x3 : Int64} {x5 : Int}
    (h : R32 (x1 + x2) ∧ (((x1 + x2) ≤ x5 → Q (some (vI (-1))) σ) ∧ (¬ (x1 + x2) ≤ x5 → (((gI σ 109 x0 0) ≤ x5 → Q (some (vI (-1))) σ) ∧ (¬ (gI σ 109 x0 0) ≤ x5 → LC 1 σ x0 ∧ Bd x5 3000 ∧ ((¬ (gJ σ 106 x0 x5.toNat) = x3 → R32 (x5 + 1) ∧ AW g l d MX1_entryNamed 3 [some (vR 1 (some x0)), some (vI x1), some (vI x2), some (vJ x3), none, some (vI (x5 + 1))] [] σ Q) ∧ ((gJ σ 106 x0 x5.toNat) = x3 → Q (some (vI x5)) σ))))))) :
    AW g l d MX1_entryNamed 3 [some (vR 1 (some x0)), some (vI x1), some (vI x2), some (vJ x3), none, some (vI x5)] [] σ Q := by
  refine aw_iload dX1_entryNamed_3 rfl ?_
  refine aw_iload_n dX1_entryNamed_5 rfl rfl ?_
  refine aw_iload_n dX1_entryNamed_6 rfl rfl ?_
  obtain ⟨⟨c1, c1x⟩, h⟩ := h
  refine aw_iaddc dX1_entryNamed_7 c1 c1x ?_
  refine aw_icmp_ge (tgt := 41) dX1_entryNamed_8 (by decide) (fun k2 => ?_) (fun k2 => ?_)
  · replace h := h.1 k2
    refine aw_iconst (x := (-1)) dX1_entryNamed_41 rfl ?_
    exact aw_ireturn dX1_entryNamed_42 rfl h
  · replace h := h.2 k2
    refine aw_iload dX1_entryNamed_11 rfl ?_
    refine aw_aload_n dX1_entryNamed_13 rfl rfl ?_
    refine aw_getI' rfl fk_109 lf_X1_52 dX1_entryNamed_14 ?_
    refine aw_icmp_ge (tgt := 41) dX1_entryNamed_17 (by decide) (fun k3 => ?_) (fun k3 => ?_)
    · replace h := h.1 k3
      refine aw_iconst (x := (-1)) dX1_entryNamed_41 rfl ?_
      exact aw_ireturn dX1_entryNamed_42 rfl h
    · replace h := h.2 k3
      refine aw_aload_n dX1_entryNamed_20 rfl rfl ?_
      obtain ⟨lc4, h⟩ := h
      refine aw_getA' rfl fk_106 (by decide) lf_X1_28 dX1_entryNamed_21 (LC.ne lc4 rfl rfl) ?_
      refine aw_iload dX1_entryNamed_24 rfl ?_
      obtain ⟨⟨c5, c5x⟩, h⟩ := h
      refine aw_laload (by decide) rfl dX1_entryNamed_26 c5 (LC.lt lc4 rfl rfl c5x) ?_
      refine aw_lload_n dX1_entryNamed_27 rfl rfl ?_
      refine aw_lcmp_ne (M := MX1_entryNamed) (tgt := 35) dX1_entryNamed_28 dX1_entryNamed_29 (by decide) (fun k6 => ?_) (fun k6 => ?_)
      · replace h := h.1 k6
        obtain ⟨⟨c7, c7x⟩, h⟩ := h
        refine aw_iincc (L' := [some (vR 1 (some x0)), some (vI x1), some (vI x2), some (vJ x3), none, some (vI (x5 + 1))]) dX1_entryNamed_35 rfl (by decide) rfl c7 c7x rfl ?_
        refine aw_goto (tgt := 3) dX1_entryNamed_38 (by decide) ?_
        exact aw_fgt (L' := [some (vR 1 (some x0)), some (vI x1), some (vI x2), some (vJ x3), none, some (vI (x5 + 1))]) ⟨rfl, ⟨rfl, ⟨rfl, ⟨rfl, ⟨rfl, trivial⟩⟩⟩⟩⟩ h
      · replace h := h.2 k6
        refine aw_iload dX1_entryNamed_32 rfl ?_
        exact aw_ireturn dX1_entryNamed_34 rfl h
set_option maxRecDepth 4000 in
theorem bk_X1_entryWith_0 {g : GP} {l : Launch} {d : Nat} {σ : St} {Q : Option AV → St → Prop} {x0 : Nat} {x1 : Int} {x2 : Int} {x3 : Int64}
    (h : AW g l d MX1_entryWith 3 [some (vR 1 (some x0)), some (vI x1), some (vI x2), some (vJ x3), none, some (vI x1)] [] σ Q) :
    AW g l d MX1_entryWith 0 [some (vR 1 (some x0)), some (vI x1), some (vI x2), some (vJ x3), none, none] [] σ Q := by
  refine aw_iload_n dX1_entryWith_0 rfl rfl ?_
  refine aw_istore (L' := [some (vR 1 (some x0)), some (vI x1), some (vI x2), some (vJ x3), none, some (vI x1)]) dX1_entryWith_1 (by decide) rfl ?_
  exact aw_fgt (L' := [some (vR 1 (some x0)), some (vI x1), some (vI x2), some (vJ x3), none, some (vI x1)]) ⟨rfl, ⟨rfl, ⟨rfl, ⟨rfl, ⟨rfl, trivial⟩⟩⟩⟩⟩ h
set_option maxRecDepth 4000 in
theorem bk_X1_entryWith_3 {g : GP} {l : Launch} {d : Nat} {σ : St} {Q : Option AV → St → Prop} {x0 : Nat} {x1 : Int} {x2 : Int} {x3 : Int64} {x5 : Int}
    (h : R32 (x1 + x2) ∧ (((x1 + x2) ≤ x5 → Q (some (vI (-1))) σ) ∧ (¬ (x1 + x2) ≤ x5 → (((gI σ 109 x0 0) ≤ x5 → Q (some (vI (-1))) σ) ∧ (¬ (gI σ 109 x0 0) ≤ x5 → LC 1 σ x0 ∧ Bd x5 3000 ∧ ((¬ (gJ σ 107 x0 x5.toNat) = x3 → R32 (x5 + 1) ∧ AW g l d MX1_entryWith 3 [some (vR 1 (some x0)), some (vI x1), some (vI x2), some (vJ x3), none, some (vI (x5 + 1))] [] σ Q) ∧ ((gJ σ 107 x0 x5.toNat) = x3 → Q (some (vI x5)) σ))))))) :
    AW g l d MX1_entryWith 3 [some (vR 1 (some x0)), some (vI x1), some (vI x2), some (vJ x3), none, some (vI x5)] [] σ Q := by
  refine aw_iload dX1_entryWith_3 rfl ?_
  refine aw_iload_n dX1_entryWith_5 rfl rfl ?_
  refine aw_iload_n dX1_entryWith_6 rfl rfl ?_
  obtain ⟨⟨c1, c1x⟩, h⟩ := h
  refine aw_iaddc dX1_entryWith_7 c1 c1x ?_
  refine aw_icmp_ge (tgt := 41) dX1_entryWith_8 (by decide) (fun k2 => ?_) (fun k2 => ?_)
  · replace h := h.1 k2
    refine aw_iconst (x := (-1)) dX1_entryWith_41 rfl ?_
    exact aw_ireturn dX1_entryWith_42 rfl h
  · replace h := h.2 k2
    refine aw_iload dX1_entryWith_11 rfl ?_
    refine aw_aload_n dX1_entryWith_13 rfl rfl ?_
    refine aw_getI' rfl fk_109 lf_X1_52 dX1_entryWith_14 ?_
    refine aw_icmp_ge (tgt := 41) dX1_entryWith_17 (by decide) (fun k3 => ?_) (fun k3 => ?_)
    · replace h := h.1 k3
      refine aw_iconst (x := (-1)) dX1_entryWith_41 rfl ?_
      exact aw_ireturn dX1_entryWith_42 rfl h
    · replace h := h.2 k3
      refine aw_aload_n dX1_entryWith_20 rfl rfl ?_
      obtain ⟨lc4, h⟩ := h
      refine aw_getA' rfl fk_107 (by decide) lf_X1_31 dX1_entryWith_21 (LC.ne lc4 rfl rfl) ?_
      refine aw_iload dX1_entryWith_24 rfl ?_
      obtain ⟨⟨c5, c5x⟩, h⟩ := h
      refine aw_laload (by decide) rfl dX1_entryWith_26 c5 (LC.lt lc4 rfl rfl c5x) ?_
      refine aw_lload_n dX1_entryWith_27 rfl rfl ?_
      refine aw_lcmp_ne (M := MX1_entryWith) (tgt := 35) dX1_entryWith_28 dX1_entryWith_29 (by decide) (fun k6 => ?_) (fun k6 => ?_)
      · replace h := h.1 k6
        obtain ⟨⟨c7, c7x⟩, h⟩ := h
        refine aw_iincc (L' := [some (vR 1 (some x0)), some (vI x1), some (vI x2), some (vJ x3), none, some (vI (x5 + 1))]) dX1_entryWith_35 rfl (by decide) rfl c7 c7x rfl ?_
        refine aw_goto (tgt := 3) dX1_entryWith_38 (by decide) ?_
        exact aw_fgt (L' := [some (vR 1 (some x0)), some (vI x1), some (vI x2), some (vJ x3), none, some (vI (x5 + 1))]) ⟨rfl, ⟨rfl, ⟨rfl, ⟨rfl, ⟨rfl, trivial⟩⟩⟩⟩⟩ h
      · replace h := h.2 k6
        refine aw_iload dX1_entryWith_32 rfl ?_
        exact aw_ireturn dX1_entryWith_34 rfl h
set_option maxRecDepth 4000 in
theorem bk_X1_enumNamed_0 {g : GP} {l : Launch} {d : Nat} {σ : St} {Q : Option AV → St → Prop} {x0 : Nat} {x1 : Int64}
    (h : AW g l d MX1_enumNamed 2 [some (vR 1 (some x0)), some (vJ x1), none, some (vI 0)] [] σ Q) :
    AW g l d MX1_enumNamed 0 [some (vR 1 (some x0)), some (vJ x1), none, none] [] σ Q := by
  refine aw_iconst (x := 0) dX1_enumNamed_0 rfl ?_
  refine aw_istore_n (L' := [some (vR 1 (some x0)), some (vJ x1), none, some (vI 0)]) dX1_enumNamed_1 rfl (by decide) rfl ?_
  exact aw_fgt (L' := [some (vR 1 (some x0)), some (vJ x1), none, some (vI 0)]) ⟨rfl, ⟨rfl, ⟨rfl, trivial⟩⟩⟩ h
set_option maxRecDepth 4000 in
theorem bk_X1_enumNamed_2 {g : GP} {l : Launch} {d : Nat} {σ : St} {Q : Option AV → St → Prop} {x0 : Nat} {x1 : Int64} {x3 : Int}
    (h : (((gI σ 105 x0 0) ≤ x3 → Q (some (vI (-1))) σ) ∧ (¬ (gI σ 105 x0 0) ≤ x3 → LC 1 σ x0 ∧ Bd x3 8 ∧ ((¬ (gJ σ 102 x0 x3.toNat) = x1 → R32 (x3 + 1) ∧ AW g l d MX1_enumNamed 2 [some (vR 1 (some x0)), some (vJ x1), none, some (vI (x3 + 1))] [] σ Q) ∧ ((gJ σ 102 x0 x3.toNat) = x1 → Q (some (vI x3)) σ))))) :
    AW g l d MX1_enumNamed 2 [some (vR 1 (some x0)), some (vJ x1), none, some (vI x3)] [] σ Q := by
  refine aw_iload_n dX1_enumNamed_2 rfl rfl ?_
  refine aw_aload_n dX1_enumNamed_3 rfl rfl ?_
  refine aw_getI' rfl fk_105 lf_X1_49 dX1_enumNamed_4 ?_
  refine aw_icmp_ge (tgt := 29) dX1_enumNamed_7 (by decide) (fun k1 => ?_) (fun k1 => ?_)
  · replace h := h.1 k1
    refine aw_iconst (x := (-1)) dX1_enumNamed_29 rfl ?_
    exact aw_ireturn dX1_enumNamed_30 rfl h
  · replace h := h.2 k1
    refine aw_aload_n dX1_enumNamed_10 rfl rfl ?_
    obtain ⟨lc2, h⟩ := h
    refine aw_getA' rfl fk_102 (by decide) lf_X1_17 dX1_enumNamed_11 (LC.ne lc2 rfl rfl) ?_
    refine aw_iload_n dX1_enumNamed_14 rfl rfl ?_
    obtain ⟨⟨c3, c3x⟩, h⟩ := h
    refine aw_laload (by decide) rfl dX1_enumNamed_15 c3 (LC.lt lc2 rfl rfl c3x) ?_
    refine aw_lload_n dX1_enumNamed_16 rfl rfl ?_
    refine aw_lcmp_ne (M := MX1_enumNamed) (tgt := 23) dX1_enumNamed_17 dX1_enumNamed_18 (by decide) (fun k4 => ?_) (fun k4 => ?_)
    · replace h := h.1 k4
      obtain ⟨⟨c5, c5x⟩, h⟩ := h
      refine aw_iincc (L' := [some (vR 1 (some x0)), some (vJ x1), none, some (vI (x3 + 1))]) dX1_enumNamed_23 rfl (by decide) rfl c5 c5x rfl ?_
      refine aw_goto (tgt := 2) dX1_enumNamed_26 (by decide) ?_
      exact aw_fgt (L' := [some (vR 1 (some x0)), some (vJ x1), none, some (vI (x3 + 1))]) ⟨rfl, ⟨rfl, ⟨rfl, trivial⟩⟩⟩ h
    · replace h := h.2 k4
      refine aw_iload_n dX1_enumNamed_21 rfl rfl ?_
      exact aw_ireturn dX1_enumNamed_22 rfl h
set_option maxRecDepth 4000 in
theorem bk_X1_fieldSize_0 {g : GP} {l : Launch} {d : Nat} {σ : St} {Q : Option AV → St → Prop} {x0 : Nat} {x1 : Option Nat} {x2 : Int64}
    (h : ∃ r1, x1 = some r1 ∧ (((gI σ 208 r1 0) = (-1) → (((gI σ 201 r1 0) = 0 → ACi g l d MX1_sizeOf [vR 1 (some x0), vI (gI σ 206 r1 0)] σ (fun v5 σ4 => Q (some (vJ (i2j v5))) σ4)) ∧ ((gI σ 201 r1 0) = 1 → Q (some (vJ (i2j (gI σ 203 r1 0)))) σ) ∧ ((gI σ 201 r1 0) = 2 → ACj g l d MX1_arraySize [vR 1 (some x0), vR 2 x1] σ (fun v7 σ6 => Q (some (vJ v7)) σ6)) ∧ ((gI σ 201 r1 0) = 3 → Q (some (vJ (i2j (gI σ 203 r1 0)))) σ) ∧ ((gI σ 201 r1 0) = 4 → Q (some (vJ (i2j (gI σ 203 r1 0)))) σ) ∧ ((gI σ 201 r1 0) = 5 → ∃ r8, gR σ 110 x0 0 = some r8 ∧ ACj g l d MX0_alone [vR 0 (some r8), vI (gI σ 209 r1 0), vI 2000] σ (fun v11 σ10 => Q (some (vJ v11)) σ10)) ∧ ((gI σ 201 r1 0) = 6 → ACi g l d MX1_unionSize [vR 1 (some x0), vR 2 x1] σ (fun v13 σ12 => Q (some (vJ (i2j v13))) σ12)) ∧ ((gI σ 201 r1 0) = 7 → Q (some (vJ (i2j (gI σ 203 r1 0)))) σ) ∧ ((gI σ 201 r1 0) = 8 → ACj g l d MX2_padding [vR 2 (some r1), vJ x2] σ (fun v15 σ14 => Q (some (vJ v15)) σ14)) ∧ ((gI σ 201 r1 0) = 9 → Q (some (vJ (i2j (gI σ 214 r1 0)))) σ) ∧ ((gI σ 201 r1 0) < 0 ∨ 9 < (gI σ 201 r1 0) → Q (some (vJ (i2j (gI σ 203 r1 0)))) σ))) ∧ (¬ (gI σ 208 r1 0) = (-1) → Q (some (vJ (-1))) σ))) :
    AW g l (d + 1) MX1_fieldSize 0 [some (vR 1 (some x0)), some (vR 2 x1), some (vJ x2), none] [] σ Q := by
  refine aw_aload_n dX1_fieldSize_0 rfl rfl ?_
  obtain ⟨r1, e2, h⟩ := h
  refine aw_getI' e2 fk_208 lf_X1_82 dX1_fieldSize_1 ?_
  refine aw_iconst (x := (-1)) dX1_fieldSize_4 rfl ?_
  refine aw_icmp_eq (tgt := 12) dX1_fieldSize_5 (by decide) (fun k3 => ?_) (fun k3 => ?_)
  · replace h := h.1 k3
    refine aw_aload_n dX1_fieldSize_12 rfl rfl ?_
    refine aw_getI' e2 fk_201 lf_X1_89 dX1_fieldSize_13 ?_
    obtain ⟨h0, h1, h2, h3, h4, h5, h6, h7, h8, h9, hd⟩ := h
    refine aw_table (M := MX1_fieldSize) (dt := 122) [72, 122, 82, 122, 122, 88, 103, 122, 110, 116] dX1_fieldSize_16 (by decide) (by decide) (by decide) ⟨fun hc => ?_, fun hc => ?_, fun hc => ?_, fun hc => ?_, fun hc => ?_, fun hc => ?_, fun hc => ?_, fun hc => ?_, fun hc => ?_, fun hc => ?_, trivial⟩ (fun hc => ?_)
    · have h := h0 hc; clear h0 h1 h2 h3 h4 h5 h6 h7 h8 h9 hd
      refine aw_aload_n dX1_fieldSize_72 rfl rfl ?_
      refine aw_aload_n dX1_fieldSize_73 rfl rfl ?_
      refine aw_getI' e2 fk_206 lf_X1_92 dX1_fieldSize_74 ?_
      refine aw_invVi (M := MX1_fieldSize) (ci := 1) [vI (gI σ 206 r1 0)] rfl mo_X1_sizeOf rfl lm_X1_95 li_X1_sizeOf ls_X1_sizeOf (by decide +kernel) dX1_fieldSize_77 rfl (Nat.le_of_ble_eq_true rfl) (ACi.mono (fun v5 σ4 h => ?_) h)
      refine aw_i2l dX1_fieldSize_80 ?_
      exact aw_lreturn dX1_fieldSize_81 rfl h
    · have h := h1 hc; clear h0 h1 h2 h3 h4 h5 h6 h7 h8 h9 hd
      refine aw_aload_n dX1_fieldSize_122 rfl rfl ?_
      refine aw_getI' e2 fk_203 lf_X1_119 dX1_fieldSize_123 ?_
      refine aw_i2l dX1_fieldSize_126 ?_
      exact aw_lreturn dX1_fieldSize_127 rfl h
    · have h := h2 hc; clear h0 h1 h2 h3 h4 h5 h6 h7 h8 h9 hd
      refine aw_aload_n dX1_fieldSize_82 rfl rfl ?_
      refine aw_aload_n dX1_fieldSize_83 rfl rfl ?_
      refine aw_invVj (M := MX1_fieldSize) (ci := 1) [vR 2 x1] rfl mo_X1_arraySize rfl lm_X1_99 li_X1_arraySize ls_X1_arraySize (by decide +kernel) dX1_fieldSize_84 rfl (Nat.le_of_ble_eq_true rfl) (ACj.mono (fun v7 σ6 h => ?_) h)
      exact aw_lreturn dX1_fieldSize_87 rfl h
    · have h := h3 hc; clear h0 h1 h2 h3 h4 h5 h6 h7 h8 h9 hd
      refine aw_aload_n dX1_fieldSize_122 rfl rfl ?_
      refine aw_getI' e2 fk_203 lf_X1_119 dX1_fieldSize_123 ?_
      refine aw_i2l dX1_fieldSize_126 ?_
      exact aw_lreturn dX1_fieldSize_127 rfl h
    · have h := h4 hc; clear h0 h1 h2 h3 h4 h5 h6 h7 h8 h9 hd
      refine aw_aload_n dX1_fieldSize_122 rfl rfl ?_
      refine aw_getI' e2 fk_203 lf_X1_119 dX1_fieldSize_123 ?_
      refine aw_i2l dX1_fieldSize_126 ?_
      exact aw_lreturn dX1_fieldSize_127 rfl h
    · have h := h5 hc; clear h0 h1 h2 h3 h4 h5 h6 h7 h8 h9 hd
      refine aw_aload_n dX1_fieldSize_88 rfl rfl ?_
      refine aw_getR' (ci := 0) rfl fk_110 (by decide +kernel) lf_X1_40 dX1_fieldSize_89 ?_
      refine aw_aload_n dX1_fieldSize_92 rfl rfl ?_
      refine aw_getI' e2 fk_209 lf_X1_103 dX1_fieldSize_93 ?_
      refine aw_sipush (x := 2000) dX1_fieldSize_96 rfl ?_
      obtain ⟨r8, e9, h⟩ := h
      refine aw_invVj (M := MX1_fieldSize) (ci := 0) [vI (gI σ 209 r1 0), vI 2000] e9 mo_X0_alone rfl lm_X1_106 li_X0_alone ls_X0_alone (by decide +kernel) dX1_fieldSize_99 rfl (Nat.le_of_ble_eq_true rfl) (ACj.mono (fun v11 σ10 h => ?_) h)
      exact aw_lreturn dX1_fieldSize_102 rfl h
    · have h := h6 hc; clear h0 h1 h2 h3 h4 h5 h6 h7 h8 h9 hd
      refine aw_aload_n dX1_fieldSize_103 rfl rfl ?_
      refine aw_aload_n dX1_fieldSize_104 rfl rfl ?_
      refine aw_invVi (M := MX1_fieldSize) (ci := 1) [vR 2 x1] rfl mo_X1_unionSize rfl lm_X1_110 li_X1_unionSize ls_X1_unionSize (by decide +kernel) dX1_fieldSize_105 rfl (Nat.le_of_ble_eq_true rfl) (ACi.mono (fun v13 σ12 h => ?_) h)
      refine aw_i2l dX1_fieldSize_108 ?_
      exact aw_lreturn dX1_fieldSize_109 rfl h
    · have h := h7 hc; clear h0 h1 h2 h3 h4 h5 h6 h7 h8 h9 hd
      refine aw_aload_n dX1_fieldSize_122 rfl rfl ?_
      refine aw_getI' e2 fk_203 lf_X1_119 dX1_fieldSize_123 ?_
      refine aw_i2l dX1_fieldSize_126 ?_
      exact aw_lreturn dX1_fieldSize_127 rfl h
    · have h := h8 hc; clear h0 h1 h2 h3 h4 h5 h6 h7 h8 h9 hd
      refine aw_aload_n dX1_fieldSize_110 rfl rfl ?_
      refine aw_lload_n dX1_fieldSize_111 rfl rfl ?_
      refine aw_invVj (M := MX1_fieldSize) (ci := 2) [vJ x2] e2 mo_X2_padding rfl lm_X1_114 li_X2_padding ls_X2_padding (by decide +kernel) dX1_fieldSize_112 rfl (Nat.le_of_ble_eq_true rfl) (ACj.mono (fun v15 σ14 h => ?_) h)
      exact aw_lreturn dX1_fieldSize_115 rfl h
    · have h := h9 hc; clear h0 h1 h2 h3 h4 h5 h6 h7 h8 h9 hd
      refine aw_aload_n dX1_fieldSize_116 rfl rfl ?_
      refine aw_getI' e2 fk_214 lf_X1_118 dX1_fieldSize_117 ?_
      refine aw_i2l dX1_fieldSize_120 ?_
      exact aw_lreturn dX1_fieldSize_121 rfl h
    · have h := hd hc; clear h0 h1 h2 h3 h4 h5 h6 h7 h8 h9 hd
      refine aw_aload_n dX1_fieldSize_122 rfl rfl ?_
      refine aw_getI' e2 fk_203 lf_X1_119 dX1_fieldSize_123 ?_
      refine aw_i2l dX1_fieldSize_126 ?_
      exact aw_lreturn dX1_fieldSize_127 rfl h
  · replace h := h.2 k3
    refine aw_ldc2 lk_X1_87 dX1_fieldSize_8 ?_
    exact aw_lreturn dX1_fieldSize_11 rfl h
set_option maxRecDepth 4000 in
theorem bk_X1_forget_0 {g : GP} {l : Launch} {d : Nat} {σ : St} {Q : Option AV → St → Prop} {x0 : Nat}
    (h : ∃ r1, gR σ 110 x0 0 = some r1 ∧ Q none (sI (sI (sI (sI σ 101 x0 0 0) 105 x0 0 0) 109 x0 0 0) 2 r1 0 0)) :
    AW g l d MX1_forget 0 [some (vR 1 (some x0))] [] σ Q := by
  refine aw_aload_n dX1_forget_0 rfl rfl ?_
  refine aw_iconst (x := 0) dX1_forget_1 rfl ?_
  refine aw_putI' rfl fk_101 (Or.inl rfl) lf_X1_45 dX1_forget_2 ?_
  refine aw_aload_n dX1_forget_5 rfl rfl ?_
  refine aw_iconst (x := 0) dX1_forget_6 rfl ?_
  refine aw_putI' rfl fk_105 (Or.inl rfl) lf_X1_49 dX1_forget_7 ?_
  refine aw_aload_n dX1_forget_10 rfl rfl ?_
  refine aw_iconst (x := 0) dX1_forget_11 rfl ?_
  refine aw_putI' rfl fk_109 (Or.inl rfl) lf_X1_52 dX1_forget_12 ?_
  refine aw_aload_n dX1_forget_15 rfl rfl ?_
  refine aw_getRe (ci := 0) (v := gR σ 110 x0 0) rfl fk_110 (by decide +kernel) lf_X1_40 dX1_forget_16 rfl ?_
  refine aw_iconst (x := 0) dX1_forget_19 rfl ?_
  obtain ⟨r1, e2, h⟩ := h
  refine aw_putI' e2 fk_2 (Or.inl rfl) lf_X1_55 dX1_forget_20 ?_
  exact aw_ret h rfl dX1_forget_23
set_option maxRecDepth 4000 in
theorem bk_X1_gatherUses_0 {g : GP} {l : Launch} {d : Nat} {σ : St} {Q : Option AV → St → Prop} {x0 : Nat}
    (h : AW g l (d + 1) MX1_gatherUses 2 [some (vR 1 (some x0)), some (vI 0), none, none] [] σ Q) :
    AW g l (d + 1) MX1_gatherUses 0 [some (vR 1 (some x0)), none, none, none] [] σ Q := by
  refine aw_iconst (x := 0) dX1_gatherUses_0 rfl ?_
  refine aw_istore_n (L' := [some (vR 1 (some x0)), some (vI 0), none, none]) dX1_gatherUses_1 rfl (by decide) rfl ?_
  exact aw_fgt (L' := [some (vR 1 (some x0)), some (vI 0), none, none]) ⟨rfl, ⟨rfl, trivial⟩⟩ h
set_option maxRecDepth 4000 in
theorem bk_X1_gatherUses_2 {g : GP} {l : Launch} {d : Nat} {σ : St} {Q : Option AV → St → Prop} {x0 : Nat} {x1 : Int}
    (h : (((gI σ 101 x0 0) ≤ x1 → AW g l (d + 1) MX1_gatherUses 65 [some (vR 1 (some x0)), some (vI 0), none, none] [] σ Q) ∧ (¬ (gI σ 101 x0 0) ≤ x1 → LC 1 σ x0 ∧ Bd x1 20 ∧ ∃ r4, gR σ 100 x0 x1.toNat = some r4 ∧ AW g l (d + 1) MX1_gatherUses 24 [some (vR 1 (some x0)), some (vI x1), some (vR 8 (gR σ 100 x0 x1.toNat)), some (vI 0)] [] (sI σ 804 r4 0 0) Q))) :
    AW g l (d + 1) MX1_gatherUses 2 [some (vR 1 (some x0)), some (vI x1), none, none] [] σ Q := by
  refine aw_iload_n dX1_gatherUses_2 rfl rfl ?_
  refine aw_aload_n dX1_gatherUses_3 rfl rfl ?_
  refine aw_getI' rfl fk_101 lf_X1_45 dX1_gatherUses_4 ?_
  refine aw_icmp_ge (tgt := 63) dX1_gatherUses_7 (by decide) (fun k1 => ?_) (fun k1 => ?_)
  · replace h := h.1 k1
    refine aw_iconst (x := 0) dX1_gatherUses_63 rfl ?_
    refine aw_istore_n (L' := [some (vR 1 (some x0)), some (vI 0), none, none]) dX1_gatherUses_64 rfl (by decide) rfl ?_
    exact aw_fgt (L' := [some (vR 1 (some x0)), some (vI 0), none, none]) ⟨rfl, ⟨rfl, trivial⟩⟩ h
  · replace h := h.2 k1
    refine aw_aload_n dX1_gatherUses_10 rfl rfl ?_
    obtain ⟨lc2, h⟩ := h
    refine aw_getA' rfl fk_100 (by decide) lf_X1_11 dX1_gatherUses_11 (LC.ne lc2 rfl rfl) ?_
    refine aw_iload_n dX1_gatherUses_14 rfl rfl ?_
    obtain ⟨⟨c3, c3x⟩, h⟩ := h
    refine aw_aaload (ci := 8) (by decide) rfl (by decide +kernel) dX1_gatherUses_15 c3 (LC.lt lc2 rfl rfl c3x) ?_
    refine aw_astore_n (L' := [some (vR 1 (some x0)), some (vI x1), some (vR 8 (gR σ 100 x0 x1.toNat)), none]) dX1_gatherUses_16 rfl (by decide) rfl ?_
    refine aw_aload_n dX1_gatherUses_17 rfl rfl ?_
    refine aw_iconst (x := 0) dX1_gatherUses_18 rfl ?_
    obtain ⟨r4, e5, h⟩ := h
    refine aw_putI' e5 fk_804 (Or.inl rfl) lf_X1_128 dX1_gatherUses_19 ?_
    refine aw_iconst (x := 0) dX1_gatherUses_22 rfl ?_
    refine aw_istore_n (L' := [some (vR 1 (some x0)), some (vI x1), some (vR 8 (gR σ 100 x0 x1.toNat)), some (vI 0)]) dX1_gatherUses_23 rfl (by decide) rfl ?_
    exact aw_fgt (L' := [some (vR 1 (some x0)), some (vI x1), some (vR 8 (gR σ 100 x0 x1.toNat)), some (vI 0)]) ⟨rfl, ⟨rfl, ⟨rfl, ⟨rfl, trivial⟩⟩⟩⟩ h
set_option maxRecDepth 4000 in
theorem bk_X1_gatherUses_24 {g : GP} {l : Launch} {d : Nat} {σ : St} {Q : Option AV → St → Prop} {x0 : Nat} {x1 : Int} {x2 : Option Nat} {x3 : Int}
    (h : ∃ r1, x2 = some r1 ∧ (((gI σ 802 r1 0) ≤ x3 → R32 (x1 + 1) ∧ AW g l (d + 1) MX1_gatherUses 2 [some (vR 1 (some x0)), some (vI (x1 + 1)), none, none] [] σ Q) ∧ (¬ (gI σ 802 r1 0) ≤ x3 → LC 8 σ r1 ∧ Bd x3 14 ∧ ACi g l d MX1_usedBy [vR 1 (some x0), vR 2 (gR σ 801 r1 x3.toNat)] σ (fun v8 σ7 => R32 (x3 + 1) ∧ AW g l (d + 1) MX1_gatherUses 24 [some (vR 1 (some x0)), some (vI x1), some (vR 8 x2), some (vI (x3 + 1))] [] (sI σ7 804 r1 0 (i_or (gI σ 804 r1 0) v8)) Q)))) :
    AW g l (d + 1) MX1_gatherUses 24 [some (vR 1 (some x0)), some (vI x1), some (vR 8 x2), some (vI x3)] [] σ Q := by
  refine aw_iload_n dX1_gatherUses_24 rfl rfl ?_
  refine aw_aload_n dX1_gatherUses_25 rfl rfl ?_
  obtain ⟨r1, e2, h⟩ := h
  refine aw_getI' e2 fk_802 lf_X1_69 dX1_gatherUses_26 ?_
  refine aw_icmp_ge (tgt := 57) dX1_gatherUses_29 (by decide) (fun k3 => ?_) (fun k3 => ?_)
  · replace h := h.1 k3
    obtain ⟨⟨c4, c4x⟩, h⟩ := h
    refine aw_iincc (L' := [some (vR 1 (some x0)), some (vI (x1 + 1)), some (vR 8 x2), some (vI x3)]) dX1_gatherUses_57 rfl (by decide) rfl c4 c4x rfl ?_
    refine aw_goto (tgt := 2) dX1_gatherUses_60 (by decide) ?_
    exact aw_fgt (L' := [some (vR 1 (some x0)), some (vI (x1 + 1)), none, none]) ⟨rfl, ⟨rfl, trivial⟩⟩ h
  · replace h := h.2 k3
    refine aw_aload_n dX1_gatherUses_32 rfl rfl ?_
    refine aw_dup dX1_gatherUses_33 rfl ?_
    refine aw_getI' e2 fk_804 lf_X1_128 dX1_gatherUses_34 ?_
    refine aw_aload_n dX1_gatherUses_37 rfl rfl ?_
    refine aw_aload_n dX1_gatherUses_38 rfl rfl ?_
    obtain ⟨lc5, h⟩ := h
    refine aw_getA' e2 fk_801 (by decide) lf_X1_72 dX1_gatherUses_39 (LC.ne lc5 rfl rfl) ?_
    refine aw_iload_n dX1_gatherUses_42 rfl rfl ?_
    obtain ⟨⟨c6, c6x⟩, h⟩ := h
    refine aw_aaload (ci := 2) (by decide) rfl (by decide +kernel) dX1_gatherUses_43 c6 (LC.lt lc5 rfl rfl c6x) ?_
    refine aw_invVi (M := MX1_gatherUses) (ci := 1) [vR 2 (gR σ 801 r1 x3.toNat)] rfl mo_X1_usedBy rfl lm_X1_131 li_X1_usedBy ls_X1_usedBy (by decide +kernel) dX1_gatherUses_44 rfl (Nat.le_of_ble_eq_true rfl) (ACi.mono (fun v8 σ7 h => ?_) h)
    refine aw_ior dX1_gatherUses_47 ?_
    refine aw_putI' e2 fk_804 (Or.inl rfl) lf_X1_128 dX1_gatherUses_48 ?_
    obtain ⟨⟨c9, c9x⟩, h⟩ := h
    refine aw_iincc (L' := [some (vR 1 (some x0)), some (vI x1), some (vR 8 x2), some (vI (x3 + 1))]) dX1_gatherUses_51 rfl (by decide) rfl c9 c9x rfl ?_
    refine aw_goto (tgt := 24) dX1_gatherUses_54 (by decide) ?_
    exact aw_fgt (L' := [some (vR 1 (some x0)), some (vI x1), some (vR 8 x2), some (vI (x3 + 1))]) ⟨rfl, ⟨rfl, ⟨rfl, ⟨rfl, trivial⟩⟩⟩⟩ h
set_option maxRecDepth 4000 in
theorem bk_X1_gatherUses_65 {g : GP} {l : Launch} {d : Nat} {σ : St} {Q : Option AV → St → Prop} {x0 : Nat} {x1 : Int}
    (h : (((gI σ 101 x0 0) ≤ x1 → Q none σ) ∧ (¬ (gI σ 101 x0 0) ≤ x1 → AW g l (d + 1) MX1_gatherUses 75 [some (vR 1 (some x0)), some (vI x1), some (vI 0), none] [] σ Q))) :
    AW g l (d + 1) MX1_gatherUses 65 [some (vR 1 (some x0)), some (vI x1), none, none] [] σ Q := by
  refine aw_iload_n dX1_gatherUses_65 rfl rfl ?_
  refine aw_aload_n dX1_gatherUses_66 rfl rfl ?_
  refine aw_getI' rfl fk_101 lf_X1_45 dX1_gatherUses_67 ?_
  refine aw_icmp_ge (tgt := 134) dX1_gatherUses_70 (by decide) (fun k1 => ?_) (fun k1 => ?_)
  · replace h := h.1 k1
    exact aw_ret h rfl dX1_gatherUses_134
  · replace h := h.2 k1
    refine aw_iconst (x := 0) dX1_gatherUses_73 rfl ?_
    refine aw_istore_n (L' := [some (vR 1 (some x0)), some (vI x1), some (vI 0), none]) dX1_gatherUses_74 rfl (by decide) rfl ?_
    exact aw_fgt (L' := [some (vR 1 (some x0)), some (vI x1), some (vI 0), none]) ⟨rfl, ⟨rfl, ⟨rfl, trivial⟩⟩⟩ h
set_option maxRecDepth 4000 in
theorem bk_X1_gatherUses_75 {g : GP} {l : Launch} {d : Nat} {σ : St} {Q : Option AV → St → Prop} {x0 : Nat} {x1 : Int} {x2 : Int}
    (h : (((gI σ 101 x0 0) ≤ x2 → R32 (x1 + 1) ∧ AW g l (d + 1) MX1_gatherUses 65 [some (vR 1 (some x0)), some (vI (x1 + 1)), none, none] [] σ Q) ∧ (¬ (gI σ 101 x0 0) ≤ x2 → LC 1 σ x0 ∧ Bd x2 20 ∧ ∃ r5, gR σ 100 x0 x2.toNat = some r5 ∧ (((i_and (i_shr (gI σ 804 r5 0) x1) 1) = 0 → R32 (x2 + 1) ∧ AW g l (d + 1) MX1_gatherUses 75 [some (vR 1 (some x0)), some (vI x1), some (vI (x2 + 1)), none] [] σ Q) ∧ (¬ (i_and (i_shr (gI σ 804 r5 0) x1) 1) = 0 → Bd x1 20 ∧ ∃ r10, gR σ 100 x0 x1.toNat = some r10 ∧ R32 (x2 + 1) ∧ AW g l (d + 1) MX1_gatherUses 75 [some (vR 1 (some x0)), some (vI x1), some (vI (x2 + 1)), none] [] (sI σ 804 r5 0 (i_or (gI σ 804 r5 0) (gI σ 804 r10 0))) Q))))) :
    AW g l (d + 1) MX1_gatherUses 75 [some (vR 1 (some x0)), some (vI x1), some (vI x2), none] [] σ Q := by
  refine aw_iload_n dX1_gatherUses_75 rfl rfl ?_
  refine aw_aload_n dX1_gatherUses_76 rfl rfl ?_
  refine aw_getI' rfl fk_101 lf_X1_45 dX1_gatherUses_77 ?_
  refine aw_icmp_ge (tgt := 128) dX1_gatherUses_80 (by decide) (fun k1 => ?_) (fun k1 => ?_)
  · replace h := h.1 k1
    obtain ⟨⟨c2, c2x⟩, h⟩ := h
    refine aw_iincc (L' := [some (vR 1 (some x0)), some (vI (x1 + 1)), some (vI x2), none]) dX1_gatherUses_128 rfl (by decide) rfl c2 c2x rfl ?_
    refine aw_goto (tgt := 65) dX1_gatherUses_131 (by decide) ?_
    exact aw_fgt (L' := [some (vR 1 (some x0)), some (vI (x1 + 1)), none, none]) ⟨rfl, ⟨rfl, trivial⟩⟩ h
  · replace h := h.2 k1
    refine aw_aload_n dX1_gatherUses_83 rfl rfl ?_
    obtain ⟨lc3, h⟩ := h
    refine aw_getA' rfl fk_100 (by decide) lf_X1_11 dX1_gatherUses_84 (LC.ne lc3 rfl rfl) ?_
    refine aw_iload_n dX1_gatherUses_87 rfl rfl ?_
    obtain ⟨⟨c4, c4x⟩, h⟩ := h
    refine aw_aaload (ci := 8) (by decide) rfl (by decide +kernel) dX1_gatherUses_88 c4 (LC.lt lc3 rfl rfl c4x) ?_
    obtain ⟨r5, e6, h⟩ := h
    refine aw_getI' e6 fk_804 lf_X1_128 dX1_gatherUses_89 ?_
    refine aw_iload_n dX1_gatherUses_92 rfl rfl ?_
    refine aw_ishr dX1_gatherUses_93 ?_
    refine aw_iconst (x := 1) dX1_gatherUses_94 rfl ?_
    refine aw_iand dX1_gatherUses_95 ?_
    refine aw_if_eq (tgt := 122) dX1_gatherUses_96 (by decide) (fun k7 => ?_) (fun k7 => ?_)
    · replace h := h.1 k7
      obtain ⟨⟨c8, c8x⟩, h⟩ := h
      refine aw_iincc (L' := [some (vR 1 (some x0)), some (vI x1), some (vI (x2 + 1)), none]) dX1_gatherUses_122 rfl (by decide) rfl c8 c8x rfl ?_
      refine aw_goto (tgt := 75) dX1_gatherUses_125 (by decide) ?_
      exact aw_fgt (L' := [some (vR 1 (some x0)), some (vI x1), some (vI (x2 + 1)), none]) ⟨rfl, ⟨rfl, ⟨rfl, trivial⟩⟩⟩ h
    · replace h := h.2 k7
      refine aw_aload_n dX1_gatherUses_99 rfl rfl ?_
      refine aw_getA' rfl fk_100 (by decide) lf_X1_11 dX1_gatherUses_100 (LC.ne lc3 rfl rfl) ?_
      refine aw_iload_n dX1_gatherUses_103 rfl rfl ?_
      refine aw_aaload (ci := 8) (by decide) rfl (by decide +kernel) dX1_gatherUses_104 c4 (LC.lt lc3 rfl rfl c4x) ?_
      refine aw_dup dX1_gatherUses_105 rfl ?_
      refine aw_getI' e6 fk_804 lf_X1_128 dX1_gatherUses_106 ?_
      refine aw_aload_n dX1_gatherUses_109 rfl rfl ?_
      refine aw_getA' rfl fk_100 (by decide) lf_X1_11 dX1_gatherUses_110 (LC.ne lc3 rfl rfl) ?_
      refine aw_iload_n dX1_gatherUses_113 rfl rfl ?_
      obtain ⟨⟨c9, c9x⟩, h⟩ := h
      refine aw_aaload (ci := 8) (by decide) rfl (by decide +kernel) dX1_gatherUses_114 c9 (LC.lt lc3 rfl rfl c9x) ?_
      obtain ⟨r10, e11, h⟩ := h
      refine aw_getI' e11 fk_804 lf_X1_128 dX1_gatherUses_115 ?_
      refine aw_ior dX1_gatherUses_118 ?_
      refine aw_putI' e6 fk_804 (Or.inl rfl) lf_X1_128 dX1_gatherUses_119 ?_
      obtain ⟨⟨c12, c12x⟩, h⟩ := h
      refine aw_iincc (L' := [some (vR 1 (some x0)), some (vI x1), some (vI (x2 + 1)), none]) dX1_gatherUses_122 rfl (by decide) rfl c12 c12x rfl ?_
      refine aw_goto (tgt := 75) dX1_gatherUses_125 (by decide) ?_
      exact aw_fgt (L' := [some (vR 1 (some x0)), some (vI x1), some (vI (x2 + 1)), none]) ⟨rfl, ⟨rfl, ⟨rfl, trivial⟩⟩⟩ h
set_option maxRecDepth 4000 in
theorem bk_X1_measure_0 {g : GP} {l : Launch} {d : Nat} {σ : St} {Q : Option AV → St → Prop} {x0 : Nat} {x1 : Option Nat}
    (h : AW g l (d + 1) MX1_measure 5 [some (vR 1 (some x0)), some (vR 8 x1), some (vJ 0), none, some (vI 0), none, none] [] σ Q) :
    AW g l (d + 1) MX1_measure 0 [some (vR 1 (some x0)), some (vR 8 x1), none, none, none, none, none] [] σ Q := by
  refine aw_lconst (x := 0) dX1_measure_0 rfl ?_
  refine aw_lstore_n (L' := [some (vR 1 (some x0)), some (vR 8 x1), some (vJ 0), none, none, none, none]) dX1_measure_1 rfl (by decide) rfl ?_
  refine aw_iconst (x := 0) dX1_measure_2 rfl ?_
  refine aw_istore (L' := [some (vR 1 (some x0)), some (vR 8 x1), some (vJ 0), none, some (vI 0), none, none]) dX1_measure_3 (by decide) rfl ?_
  exact aw_fgt (L' := [some (vR 1 (some x0)), some (vR 8 x1), some (vJ 0), none, some (vI 0), none, none]) ⟨rfl, ⟨rfl, ⟨rfl, ⟨rfl, trivial⟩⟩⟩⟩ h
set_option maxRecDepth 4000 in
theorem bk_X1_measure_5 {g : GP} {l : Launch} {d : Nat} {σ : St} {Q : Option AV → St → Prop} {x0 : Nat} {x1 : Option Nat} {x2 : Int64} {x4 : Int}
    (h : ∃ r1, x1 = some r1 ∧ (((gI σ 802 r1 0) ≤ x4 → ((x2.toInt ≤ (1000000 : Int64).toInt → Q (some (vI (j2i x2))) σ) ∧ (¬ x2.toInt ≤ (1000000 : Int64).toInt → Q (some (vI (-1))) σ))) ∧ (¬ (gI σ 802 r1 0) ≤ x4 → LC 8 σ r1 ∧ Bd x4 14 ∧ ACj g l d MX1_fieldSize [vR 1 (some x0), vR 2 (gR σ 801 r1 x4.toNat), vJ x2] σ (fun v8 σ7 => (((0 : Int64).toInt ≤ v8.toInt → R32 (x4 + 1) ∧ AW g l (d + 1) MX1_measure 5 [some (vR 1 (some x0)), some (vR 8 x1), some (vJ (x2 + v8)), none, some (vI (x4 + 1)), none, none] [] σ7 Q) ∧ (¬ (0 : Int64).toInt ≤ v8.toInt → Q (some (vI (-1))) σ7)))))) :
    AW g l (d + 1) MX1_measure 5 [some (vR 1 (some x0)), some (vR 8 x1), some (vJ x2), none, some (vI x4), none, none] [] σ Q := by
  refine aw_iload dX1_measure_5 rfl ?_
  refine aw_aload_n dX1_measure_7 rfl rfl ?_
  obtain ⟨r1, e2, h⟩ := h
  refine aw_getI' e2 fk_802 lf_X1_69 dX1_measure_8 ?_
  refine aw_icmp_ge (tgt := 48) dX1_measure_11 (by decide) (fun k3 => ?_) (fun k3 => ?_)
  · replace h := h.1 k3
    refine aw_lload_n dX1_measure_48 rfl rfl ?_
    refine aw_ldc2 lk_X1_80 dX1_measure_49 ?_
    refine aw_lcmp_le (M := MX1_measure) (tgt := 60) dX1_measure_52 dX1_measure_53 (by decide) (fun k4 => ?_) (fun k4 => ?_)
    · replace h := h.1 k4
      refine aw_lload_n dX1_measure_60 rfl rfl ?_
      refine aw_l2i dX1_measure_61 ?_
      exact aw_ireturn dX1_measure_62 rfl h
    · replace h := h.2 k4
      refine aw_iconst (x := (-1)) dX1_measure_56 rfl ?_
      refine aw_goto (tgt := 62) dX1_measure_57 (by decide) ?_
      exact aw_ireturn dX1_measure_62 rfl h
  · replace h := h.2 k3
    refine aw_aload_n dX1_measure_14 rfl rfl ?_
    refine aw_aload_n dX1_measure_15 rfl rfl ?_
    obtain ⟨lc5, h⟩ := h
    refine aw_getA' e2 fk_801 (by decide) lf_X1_72 dX1_measure_16 (LC.ne lc5 rfl rfl) ?_
    refine aw_iload dX1_measure_19 rfl ?_
    obtain ⟨⟨c6, c6x⟩, h⟩ := h
    refine aw_aaload (ci := 2) (by decide) rfl (by decide +kernel) dX1_measure_21 c6 (LC.lt lc5 rfl rfl c6x) ?_
    refine aw_lload_n dX1_measure_22 rfl rfl ?_
    refine aw_invVj (M := MX1_measure) (ci := 1) [vR 2 (gR σ 801 r1 x4.toNat), vJ x2] rfl mo_X1_fieldSize rfl lm_X1_76 li_X1_fieldSize ls_X1_fieldSize (by decide +kernel) dX1_measure_23 rfl (Nat.le_of_ble_eq_true rfl) (ACj.mono (fun v8 σ7 h => ?_) h)
    refine aw_lstore (L' := [some (vR 1 (some x0)), some (vR 8 x1), some (vJ x2), none, some (vI x4), some (vJ v8), none]) dX1_measure_26 (by decide) rfl ?_
    refine aw_lload dX1_measure_28 rfl ?_
    refine aw_lconst (x := 0) dX1_measure_30 rfl ?_
    refine aw_lcmp_ge (M := MX1_measure) (tgt := 37) dX1_measure_31 dX1_measure_32 (by decide) (fun k9 => ?_) (fun k9 => ?_)
    · replace h := h.1 k9
      refine aw_lload_n dX1_measure_37 rfl rfl ?_
      refine aw_lload dX1_measure_38 rfl ?_
      refine aw_ladd dX1_measure_40 ?_
      refine aw_lstore_n (L' := [some (vR 1 (some x0)), some (vR 8 x1), some (vJ (x2 + v8)), none, some (vI x4), some (vJ v8), none]) dX1_measure_41 rfl (by decide) rfl ?_
      obtain ⟨⟨c10, c10x⟩, h⟩ := h
      refine aw_iincc (L' := [some (vR 1 (some x0)), some (vR 8 x1), some (vJ (x2 + v8)), none, some (vI (x4 + 1)), some (vJ v8), none]) dX1_measure_42 rfl (by decide) rfl c10 c10x rfl ?_
      refine aw_goto (tgt := 5) dX1_measure_45 (by decide) ?_
      exact aw_fgt (L' := [some (vR 1 (some x0)), some (vR 8 x1), some (vJ (x2 + v8)), none, some (vI (x4 + 1)), none, none]) ⟨rfl, ⟨rfl, ⟨rfl, ⟨rfl, trivial⟩⟩⟩⟩ h
    · replace h := h.2 k9
      refine aw_iconst (x := (-1)) dX1_measure_35 rfl ?_
      exact aw_ireturn dX1_measure_36 rfl h
set_option maxRecDepth 4000 in
theorem bk_X1_pairWith_0 {g : GP} {l : Launch} {d : Nat} {σ : St} {Q : Option AV → St → Prop} {x0 : Nat} {x1 : Int} {x2 : Int64}
    (h : ((x1 < 0 → Q (some (vI (-1))) σ) ∧ (¬ x1 < 0 → ((x1 < (gI σ 105 x0 0) → LC 1 σ x0 ∧ Bd x1 8 ∧ ACi g l d MX1_entryWith [vR 1 (some x0), vI (gI σ 103 x0 x1.toNat), vI (gI σ 104 x0 x1.toNat), vJ x2] σ (fun v6 σ5 => Q (some (vI v6)) σ5)) ∧ (¬ x1 < (gI σ 105 x0 0) → Q (some (vI (-1))) σ))))) :
    AW g l (d + 1) MX1_pairWith 0 [some (vR 1 (some x0)), some (vI x1), some (vJ x2), none] [] σ Q := by
  refine aw_iload_n dX1_pairWith_0 rfl rfl ?_
  refine aw_if_lt (tgt := 12) dX1_pairWith_1 (by decide) (fun k1 => ?_) (fun k1 => ?_)
  · replace h := h.1 k1
    refine aw_iconst (x := (-1)) dX1_pairWith_12 rfl ?_
    refine aw_goto (tgt := 33) dX1_pairWith_13 (by decide) ?_
    exact aw_ireturn dX1_pairWith_33 rfl h
  · replace h := h.2 k1
    refine aw_iload_n dX1_pairWith_4 rfl rfl ?_
    refine aw_aload_n dX1_pairWith_5 rfl rfl ?_
    refine aw_getI' rfl fk_105 lf_X1_49 dX1_pairWith_6 ?_
    refine aw_icmp_lt (tgt := 16) dX1_pairWith_9 (by decide) (fun k2 => ?_) (fun k2 => ?_)
    · replace h := h.1 k2
      refine aw_aload_n dX1_pairWith_16 rfl rfl ?_
      refine aw_aload_n dX1_pairWith_17 rfl rfl ?_
      obtain ⟨lc3, h⟩ := h
      refine aw_getA' rfl fk_103 (by decide) lf_X1_21 dX1_pairWith_18 (LC.ne lc3 rfl rfl) ?_
      refine aw_iload_n dX1_pairWith_21 rfl rfl ?_
      obtain ⟨⟨c4, c4x⟩, h⟩ := h
      refine aw_iaload (by decide) rfl dX1_pairWith_22 c4 (LC.lt lc3 rfl rfl c4x) ?_
      refine aw_aload_n dX1_pairWith_23 rfl rfl ?_
      refine aw_getA' rfl fk_104 (by decide) lf_X1_25 dX1_pairWith_24 (LC.ne lc3 rfl rfl) ?_
      refine aw_iload_n dX1_pairWith_27 rfl rfl ?_
      refine aw_iaload (by decide) rfl dX1_pairWith_28 c4 (LC.lt lc3 rfl rfl c4x) ?_
      refine aw_lload_n dX1_pairWith_29 rfl rfl ?_
      refine aw_invVi (M := MX1_pairWith) (ci := 1) [vI (gI σ 103 x0 x1.toNat), vI (gI σ 104 x0 x1.toNat), vJ x2] rfl mo_X1_entryWith rfl lm_X1_62 li_X1_entryWith ls_X1_entryWith (by decide +kernel) dX1_pairWith_30 rfl (Nat.le_of_ble_eq_true rfl) (ACi.mono (fun v6 σ5 h => ?_) h)
      exact aw_ireturn dX1_pairWith_33 rfl h
    · replace h := h.2 k2
      refine aw_iconst (x := (-1)) dX1_pairWith_12 rfl ?_
      refine aw_goto (tgt := 33) dX1_pairWith_13 (by decide) ?_
      exact aw_ireturn dX1_pairWith_33 rfl h
set_option maxRecDepth 4000 in
theorem bk_X1_sizeOf_0 {g : GP} {l : Launch} {d : Nat} {σ : St} {Q : Option AV → St → Prop} {x0 : Nat} {x1 : Int}
    (h : ((x1 < 0 → Q (some (vI (-1))) σ) ∧ (¬ x1 < 0 → ((x1 < (gI σ 101 x0 0) → LC 1 σ x0 ∧ Bd x1 20 ∧ ∃ r5, gR σ 100 x0 x1.toNat = some r5 ∧ Q (some (vI (gI σ 803 r5 0))) σ) ∧ (¬ x1 < (gI σ 101 x0 0) → Q (some (vI (-1))) σ))))) :
    AW g l d MX1_sizeOf 0 [some (vR 1 (some x0)), some (vI x1)] [] σ Q := by
  refine aw_iload_n dX1_sizeOf_0 rfl rfl ?_
  refine aw_if_lt (tgt := 12) dX1_sizeOf_1 (by decide) (fun k1 => ?_) (fun k1 => ?_)
  · replace h := h.1 k1
    refine aw_iconst (x := (-1)) dX1_sizeOf_12 rfl ?_
    refine aw_goto (tgt := 25) dX1_sizeOf_13 (by decide) ?_
    exact aw_ireturn dX1_sizeOf_25 rfl h
  · replace h := h.2 k1
    refine aw_iload_n dX1_sizeOf_4 rfl rfl ?_
    refine aw_aload_n dX1_sizeOf_5 rfl rfl ?_
    refine aw_getI' rfl fk_101 lf_X1_45 dX1_sizeOf_6 ?_
    refine aw_icmp_lt (tgt := 16) dX1_sizeOf_9 (by decide) (fun k2 => ?_) (fun k2 => ?_)
    · replace h := h.1 k2
      refine aw_aload_n dX1_sizeOf_16 rfl rfl ?_
      obtain ⟨lc3, h⟩ := h
      refine aw_getA' rfl fk_100 (by decide) lf_X1_11 dX1_sizeOf_17 (LC.ne lc3 rfl rfl) ?_
      refine aw_iload_n dX1_sizeOf_20 rfl rfl ?_
      obtain ⟨⟨c4, c4x⟩, h⟩ := h
      refine aw_aaload (ci := 8) (by decide) rfl (by decide +kernel) dX1_sizeOf_21 c4 (LC.lt lc3 rfl rfl c4x) ?_
      obtain ⟨r5, e6, h⟩ := h
      refine aw_getI' e6 fk_803 lf_X1_66 dX1_sizeOf_22 ?_
      exact aw_ireturn dX1_sizeOf_25 rfl h
    · replace h := h.2 k2
      refine aw_iconst (x := (-1)) dX1_sizeOf_12 rfl ?_
      refine aw_goto (tgt := 25) dX1_sizeOf_13 (by decide) ?_
      exact aw_ireturn dX1_sizeOf_25 rfl h
set_option maxRecDepth 4000 in
theorem bk_X1_structureNamed_0 {g : GP} {l : Launch} {d : Nat} {σ : St} {Q : Option AV → St → Prop} {x0 : Nat} {x1 : Int64}
    (h : AW g l d MX1_structureNamed 2 [some (vR 1 (some x0)), some (vJ x1), none, some (vI 0)] [] σ Q) :
    AW g l d MX1_structureNamed 0 [some (vR 1 (some x0)), some (vJ x1), none, none] [] σ Q := by
  refine aw_iconst (x := 0) dX1_structureNamed_0 rfl ?_
  refine aw_istore_n (L' := [some (vR 1 (some x0)), some (vJ x1), none, some (vI 0)]) dX1_structureNamed_1 rfl (by decide) rfl ?_
  exact aw_fgt (L' := [some (vR 1 (some x0)), some (vJ x1), none, some (vI 0)]) ⟨rfl, ⟨rfl, ⟨rfl, trivial⟩⟩⟩ h
set_option maxRecDepth 4000 in
theorem bk_X1_structureNamed_2 {g : GP} {l : Launch} {d : Nat} {σ : St} {Q : Option AV → St → Prop} {x0 : Nat} {x1 : Int64} {x3 : Int}
    (h : (((gI σ 101 x0 0) ≤ x3 → Q (some (vI (-1))) σ) ∧ (¬ (gI σ 101 x0 0) ≤ x3 → LC 1 σ x0 ∧ Bd x3 20 ∧ ∃ r4, gR σ 100 x0 x3.toNat = some r4 ∧ ((¬ (gJ σ 800 r4 0) = x1 → R32 (x3 + 1) ∧ AW g l d MX1_structureNamed 2 [some (vR 1 (some x0)), some (vJ x1), none, some (vI (x3 + 1))] [] σ Q) ∧ ((gJ σ 800 r4 0) = x1 → Q (some (vI x3)) σ))))) :
    AW g l d MX1_structureNamed 2 [some (vR 1 (some x0)), some (vJ x1), none, some (vI x3)] [] σ Q := by
  refine aw_iload_n dX1_structureNamed_2 rfl rfl ?_
  refine aw_aload_n dX1_structureNamed_3 rfl rfl ?_
  refine aw_getI' rfl fk_101 lf_X1_45 dX1_structureNamed_4 ?_
  refine aw_icmp_ge (tgt := 32) dX1_structureNamed_7 (by decide) (fun k1 => ?_) (fun k1 => ?_)
  · replace h := h.1 k1
    refine aw_iconst (x := (-1)) dX1_structureNamed_32 rfl ?_
    exact aw_ireturn dX1_structureNamed_33 rfl h
  · replace h := h.2 k1
    refine aw_aload_n dX1_structureNamed_10 rfl rfl ?_
    obtain ⟨lc2, h⟩ := h
    refine aw_getA' rfl fk_100 (by decide) lf_X1_11 dX1_structureNamed_11 (LC.ne lc2 rfl rfl) ?_
    refine aw_iload_n dX1_structureNamed_14 rfl rfl ?_
    obtain ⟨⟨c3, c3x⟩, h⟩ := h
    refine aw_aaload (ci := 8) (by decide) rfl (by decide +kernel) dX1_structureNamed_15 c3 (LC.lt lc2 rfl rfl c3x) ?_
    obtain ⟨r4, e5, h⟩ := h
    refine aw_getJ' e5 fk_800 lf_X1_58 dX1_structureNamed_16 ?_
    refine aw_lload_n dX1_structureNamed_19 rfl rfl ?_
    refine aw_lcmp_ne (M := MX1_structureNamed) (tgt := 26) dX1_structureNamed_20 dX1_structureNamed_21 (by decide) (fun k6 => ?_) (fun k6 => ?_)
    · replace h := h.1 k6
      obtain ⟨⟨c7, c7x⟩, h⟩ := h
      refine aw_iincc (L' := [some (vR 1 (some x0)), some (vJ x1), none, some (vI (x3 + 1))]) dX1_structureNamed_26 rfl (by decide) rfl c7 c7x rfl ?_
      refine aw_goto (tgt := 2) dX1_structureNamed_29 (by decide) ?_
      exact aw_fgt (L' := [some (vR 1 (some x0)), some (vJ x1), none, some (vI (x3 + 1))]) ⟨rfl, ⟨rfl, ⟨rfl, trivial⟩⟩⟩ h
    · replace h := h.2 k6
      refine aw_iload_n dX1_structureNamed_24 rfl rfl ?_
      exact aw_ireturn dX1_structureNamed_25 rfl h
set_option maxRecDepth 4000 in
theorem bk_X1_unionSize_0 {g : GP} {l : Launch} {d : Nat} {σ : St} {Q : Option AV → St → Prop} {x0 : Nat} {x1 : Option Nat}
    (h : ∃ r1, x1 = some r1 ∧ ACi g l d MX1_sizeOf [vR 1 (some x0), vI (gI σ 212 r1 0)] σ (fun v4 σ3 => AW g l (d + 1) MX1_unionSize 14 [some (vR 1 (some x0)), some (vR 2 x1), some (vI v4), some (vI (gI σ3 213 r1 0))] [] σ3 Q)) :
    AW g l (d + 1) MX1_unionSize 0 [some (vR 1 (some x0)), some (vR 2 x1), none, none] [] σ Q := by
  refine aw_aload_n dX1_unionSize_0 rfl rfl ?_
  refine aw_aload_n dX1_unionSize_1 rfl rfl ?_
  obtain ⟨r1, e2, h⟩ := h
  refine aw_getI' e2 fk_212 lf_X1_122 dX1_unionSize_2 ?_
  refine aw_invVi (M := MX1_unionSize) (ci := 1) [vI (gI σ 212 r1 0)] rfl mo_X1_sizeOf rfl lm_X1_95 li_X1_sizeOf ls_X1_sizeOf (by decide +kernel) dX1_unionSize_5 rfl (Nat.le_of_ble_eq_true rfl) (ACi.mono (fun v4 σ3 h => ?_) h)
  refine aw_istore_n (L' := [some (vR 1 (some x0)), some (vR 2 x1), some (vI v4), none]) dX1_unionSize_8 rfl (by decide) rfl ?_
  refine aw_aload_n dX1_unionSize_9 rfl rfl ?_
  refine aw_getI' e2 fk_213 lf_X1_125 dX1_unionSize_10 ?_
  refine aw_istore_n (L' := [some (vR 1 (some x0)), some (vR 2 x1), some (vI v4), some (vI (gI σ3 213 r1 0))]) dX1_unionSize_13 rfl (by decide) rfl ?_
  exact aw_fgt (L' := [some (vR 1 (some x0)), some (vR 2 x1), some (vI v4), some (vI (gI σ3 213 r1 0))]) ⟨rfl, ⟨rfl, ⟨rfl, ⟨rfl, trivial⟩⟩⟩⟩ h
set_option maxRecDepth 4000 in
theorem bk_X1_unionSize_14 {g : GP} {l : Launch} {d : Nat} {σ : St} {Q : Option AV → St → Prop} {x0 : Nat} {x1 : Option Nat} {x2 : Int} {x3 : Int}
    (h : ∃ r1, x1 = some r1 ∧ R32 ((gI σ 213 r1 0) + (gI σ 214 r1 0)) ∧ ((((gI σ 213 r1 0) + (gI σ 214 r1 0)) ≤ x3 → Q (some (vI x2)) σ) ∧ (¬ ((gI σ 213 r1 0) + (gI σ 214 r1 0)) ≤ x3 → LC 1 σ x0 ∧ Bd x3 3000 ∧ ACi g l d MX1_sizeOf [vR 1 (some x0), vI (gI σ 108 x0 x3.toNat)] σ (fun v8 σ7 => ((v8 = x2 → R32 (x3 + 1) ∧ AW g l (d + 1) MX1_unionSize 14 [some (vR 1 (some x0)), some (vR 2 x1), some (vI x2), some (vI (x3 + 1))] [] σ7 Q) ∧ (¬ v8 = x2 → Q (some (vI (-1))) σ7)))))) :
    AW g l (d + 1) MX1_unionSize 14 [some (vR 1 (some x0)), some (vR 2 x1), some (vI x2), some (vI x3)] [] σ Q := by
  refine aw_iload_n dX1_unionSize_14 rfl rfl ?_
  refine aw_aload_n dX1_unionSize_15 rfl rfl ?_
  obtain ⟨r1, e2, h⟩ := h
  refine aw_getI' e2 fk_213 lf_X1_125 dX1_unionSize_16 ?_
  refine aw_aload_n dX1_unionSize_19 rfl rfl ?_
  refine aw_getI' e2 fk_214 lf_X1_118 dX1_unionSize_20 ?_
  obtain ⟨⟨c3, c3x⟩, h⟩ := h
  refine aw_iaddc dX1_unionSize_23 c3 c3x ?_
  refine aw_icmp_ge (tgt := 49) dX1_unionSize_24 (by decide) (fun k4 => ?_) (fun k4 => ?_)
  · replace h := h.1 k4
    refine aw_iload_n dX1_unionSize_49 rfl rfl ?_
    exact aw_ireturn dX1_unionSize_50 rfl h
  · replace h := h.2 k4
    refine aw_aload_n dX1_unionSize_27 rfl rfl ?_
    refine aw_aload_n dX1_unionSize_28 rfl rfl ?_
    obtain ⟨lc5, h⟩ := h
    refine aw_getA' rfl fk_108 (by decide) lf_X1_34 dX1_unionSize_29 (LC.ne lc5 rfl rfl) ?_
    refine aw_iload_n dX1_unionSize_32 rfl rfl ?_
    obtain ⟨⟨c6, c6x⟩, h⟩ := h
    refine aw_iaload (by decide) rfl dX1_unionSize_33 c6 (LC.lt lc5 rfl rfl c6x) ?_
    refine aw_invVi (M := MX1_unionSize) (ci := 1) [vI (gI σ 108 x0 x3.toNat)] rfl mo_X1_sizeOf rfl lm_X1_95 li_X1_sizeOf ls_X1_sizeOf (by decide +kernel) dX1_unionSize_34 rfl (Nat.le_of_ble_eq_true rfl) (ACi.mono (fun v8 σ7 h => ?_) h)
    refine aw_iload_n dX1_unionSize_37 rfl rfl ?_
    refine aw_icmp_eq (tgt := 43) dX1_unionSize_38 (by decide) (fun k9 => ?_) (fun k9 => ?_)
    · replace h := h.1 k9
      obtain ⟨⟨c10, c10x⟩, h⟩ := h
      refine aw_iincc (L' := [some (vR 1 (some x0)), some (vR 2 x1), some (vI x2), some (vI (x3 + 1))]) dX1_unionSize_43 rfl (by decide) rfl c10 c10x rfl ?_
      refine aw_goto (tgt := 14) dX1_unionSize_46 (by decide) ?_
      exact aw_fgt (L' := [some (vR 1 (some x0)), some (vR 2 x1), some (vI x2), some (vI (x3 + 1))]) ⟨rfl, ⟨rfl, ⟨rfl, ⟨rfl, trivial⟩⟩⟩⟩ h
    · replace h := h.2 k9
      refine aw_iconst (x := (-1)) dX1_unionSize_41 rfl ?_
      exact aw_ireturn dX1_unionSize_42 rfl h
set_option maxRecDepth 4000 in
theorem bk_X1_usedBy_0 {g : GP} {l : Launch} {d : Nat} {σ : St} {Q : Option AV → St → Prop} {x0 : Nat} {x1 : Option Nat}
    (h : ∃ r1, x1 = some r1 ∧ ((¬ (gI σ 206 r1 0) = (-1) → AW g l d MX1_usedBy 18 [some (vR 1 (some x0)), some (vR 2 x1), none, none] [vI (i_shl 1 (gI σ 206 r1 0))] σ Q) ∧ ((gI σ 206 r1 0) = (-1) → AW g l d MX1_usedBy 18 [some (vR 1 (some x0)), some (vR 2 x1), none, none] [vI 0] σ Q))) :
    AW g l d MX1_usedBy 0 [some (vR 1 (some x0)), some (vR 2 x1), none, none] [] σ Q := by
  refine aw_aload_n dX1_usedBy_0 rfl rfl ?_
  obtain ⟨r1, e2, h⟩ := h
  refine aw_getI' e2 fk_206 lf_X1_92 dX1_usedBy_1 ?_
  refine aw_iconst (x := (-1)) dX1_usedBy_4 rfl ?_
  refine aw_icmp_ne (tgt := 12) dX1_usedBy_5 (by decide) (fun k3 => ?_) (fun k3 => ?_)
  · replace h := h.1 k3
    refine aw_iconst (x := 1) dX1_usedBy_12 rfl ?_
    refine aw_aload_n dX1_usedBy_13 rfl rfl ?_
    refine aw_getI' e2 fk_206 lf_X1_92 dX1_usedBy_14 ?_
    refine aw_ishl dX1_usedBy_17 ?_
    exact aw_fgt (L' := [some (vR 1 (some x0)), some (vR 2 x1), none, none]) ⟨rfl, ⟨rfl, trivial⟩⟩ h
  · replace h := h.2 k3
    refine aw_iconst (x := 0) dX1_usedBy_8 rfl ?_
    refine aw_goto (tgt := 18) dX1_usedBy_9 (by decide) ?_
    exact aw_fgt (L' := [some (vR 1 (some x0)), some (vR 2 x1), none, none]) ⟨rfl, ⟨rfl, trivial⟩⟩ h
set_option maxRecDepth 4000 in
theorem bk_X1_usedBy_18 {g : GP} {l : Launch} {d : Nat} {σ : St} {Q : Option AV → St → Prop} {x0 : Nat} {x1 : Option Nat} {y0 : Int}
    (h : ∃ r1, x1 = some r1 ∧ ((¬ (gI σ 201 r1 0) = 6 → Q (some (vI y0)) σ) ∧ ((gI σ 201 r1 0) = 6 → ((¬ (gI σ 212 r1 0) = (-1) → ∀ z5 : Int, z5 = i_or y0 (i_shl 1 (gI σ 212 r1 0)) → AW g l d MX1_usedBy 54 [some (vR 1 (some x0)), some (vR 2 x1), some (vI z5), some (vI (gI σ 213 r1 0))] [] σ Q) ∧ ((gI σ 212 r1 0) = (-1) → AW g l d MX1_usedBy 54 [some (vR 1 (some x0)), some (vR 2 x1), some (vI (i_or y0 0)), some (vI (gI σ 213 r1 0))] [] σ Q))))) :
    AW g l d MX1_usedBy 18 [some (vR 1 (some x0)), some (vR 2 x1), none, none] [vI y0] σ Q := by
  refine aw_istore_n (L' := [some (vR 1 (some x0)), some (vR 2 x1), some (vI y0), none]) dX1_usedBy_18 rfl (by decide) rfl ?_
  refine aw_aload_n dX1_usedBy_19 rfl rfl ?_
  obtain ⟨r1, e2, h⟩ := h
  refine aw_getI' e2 fk_201 lf_X1_89 dX1_usedBy_20 ?_
  refine aw_bipush (x := 6) dX1_usedBy_23 rfl ?_
  refine aw_icmp_ne (tgt := 84) dX1_usedBy_25 (by decide) (fun k3 => ?_) (fun k3 => ?_)
  · replace h := h.1 k3
    refine aw_iload_n dX1_usedBy_84 rfl rfl ?_
    exact aw_ireturn dX1_usedBy_85 rfl h
  · replace h := h.2 k3
    refine aw_iload_n dX1_usedBy_28 rfl rfl ?_
    refine aw_aload_n dX1_usedBy_29 rfl rfl ?_
    refine aw_getI' e2 fk_212 lf_X1_122 dX1_usedBy_30 ?_
    refine aw_iconst (x := (-1)) dX1_usedBy_33 rfl ?_
    refine aw_icmp_ne (tgt := 41) dX1_usedBy_34 (by decide) (fun k4 => ?_) (fun k4 => ?_)
    · replace h := h.1 k4
      refine aw_iconst (x := 1) dX1_usedBy_41 rfl ?_
      refine aw_aload_n dX1_usedBy_42 rfl rfl ?_
      refine aw_getI' e2 fk_212 lf_X1_122 dX1_usedBy_43 ?_
      refine aw_ishl dX1_usedBy_46 ?_
      refine aw_ior dX1_usedBy_47 ?_
      refine aw_istore_n (L' := [some (vR 1 (some x0)), some (vR 2 x1), some (vI (i_or y0 (i_shl 1 (gI σ 212 r1 0)))), none]) dX1_usedBy_48 rfl (by decide) rfl ?_
      obtain ⟨z5, hz5⟩ : ∃ z : Int, z = i_or y0 (i_shl 1 (gI σ 212 r1 0)) := ⟨_, rfl⟩
      rw [← hz5]
      replace h := h z5 hz5
      refine aw_aload_n dX1_usedBy_49 rfl rfl ?_
      refine aw_getI' e2 fk_213 lf_X1_125 dX1_usedBy_50 ?_
      refine aw_istore_n (L' := [some (vR 1 (some x0)), some (vR 2 x1), some (vI z5), some (vI (gI σ 213 r1 0))]) dX1_usedBy_53 rfl (by decide) rfl ?_
      exact aw_fgt (L' := [some (vR 1 (some x0)), some (vR 2 x1), some (vI z5), some (vI (gI σ 213 r1 0))]) ⟨rfl, ⟨rfl, ⟨rfl, ⟨rfl, trivial⟩⟩⟩⟩ h
    · replace h := h.2 k4
      refine aw_iconst (x := 0) dX1_usedBy_37 rfl ?_
      refine aw_goto (tgt := 47) dX1_usedBy_38 (by decide) ?_
      refine aw_ior dX1_usedBy_47 ?_
      refine aw_istore_n (L' := [some (vR 1 (some x0)), some (vR 2 x1), some (vI (i_or y0 0)), none]) dX1_usedBy_48 rfl (by decide) rfl ?_
      refine aw_aload_n dX1_usedBy_49 rfl rfl ?_
      refine aw_getI' e2 fk_213 lf_X1_125 dX1_usedBy_50 ?_
      refine aw_istore_n (L' := [some (vR 1 (some x0)), some (vR 2 x1), some (vI (i_or y0 0)), some (vI (gI σ 213 r1 0))]) dX1_usedBy_53 rfl (by decide) rfl ?_
      exact aw_fgt (L' := [some (vR 1 (some x0)), some (vR 2 x1), some (vI (i_or y0 0)), some (vI (gI σ 213 r1 0))]) ⟨rfl, ⟨rfl, ⟨rfl, ⟨rfl, trivial⟩⟩⟩⟩ h
set_option maxRecDepth 4000 in
theorem bk_X1_usedBy_54 {g : GP} {l : Launch} {d : Nat} {σ : St} {Q : Option AV → St → Prop} {x0 : Nat} {x1 : Option Nat} {x2 : Int} {x3 : Int}
    (h : ∃ r1, x1 = some r1 ∧ R32 ((gI σ 213 r1 0) + (gI σ 214 r1 0)) ∧ ((((gI σ 213 r1 0) + (gI σ 214 r1 0)) ≤ x3 → Q (some (vI x2)) σ) ∧ (¬ ((gI σ 213 r1 0) + (gI σ 214 r1 0)) ≤ x3 → LC 1 σ x0 ∧ Bd x3 3000 ∧ ∀ z7 : Int, z7 = i_or x2 (i_shl 1 (gI σ 108 x0 x3.toNat)) → R32 (x3 + 1) ∧ AW g l d MX1_usedBy 54 [some (vR 1 (some x0)), some (vR 2 x1), some (vI z7), some (vI (x3 + 1))] [] σ Q))) :
    AW g l d MX1_usedBy 54 [some (vR 1 (some x0)), some (vR 2 x1), some (vI x2), some (vI x3)] [] σ Q := by
  refine aw_iload_n dX1_usedBy_54 rfl rfl ?_
  refine aw_aload_n dX1_usedBy_55 rfl rfl ?_
  obtain ⟨r1, e2, h⟩ := h
  refine aw_getI' e2 fk_213 lf_X1_125 dX1_usedBy_56 ?_
  refine aw_aload_n dX1_usedBy_59 rfl rfl ?_
  refine aw_getI' e2 fk_214 lf_X1_118 dX1_usedBy_60 ?_
  obtain ⟨⟨c3, c3x⟩, h⟩ := h
  refine aw_iaddc dX1_usedBy_63 c3 c3x ?_
  refine aw_icmp_ge (tgt := 84) dX1_usedBy_64 (by decide) (fun k4 => ?_) (fun k4 => ?_)
  · replace h := h.1 k4
    refine aw_iload_n dX1_usedBy_84 rfl rfl ?_
    exact aw_ireturn dX1_usedBy_85 rfl h
  · replace h := h.2 k4
    refine aw_iload_n dX1_usedBy_67 rfl rfl ?_
    refine aw_iconst (x := 1) dX1_usedBy_68 rfl ?_
    refine aw_aload_n dX1_usedBy_69 rfl rfl ?_
    obtain ⟨lc5, h⟩ := h
    refine aw_getA' rfl fk_108 (by decide) lf_X1_34 dX1_usedBy_70 (LC.ne lc5 rfl rfl) ?_
    refine aw_iload_n dX1_usedBy_73 rfl rfl ?_
    obtain ⟨⟨c6, c6x⟩, h⟩ := h
    refine aw_iaload (by decide) rfl dX1_usedBy_74 c6 (LC.lt lc5 rfl rfl c6x) ?_
    refine aw_ishl dX1_usedBy_75 ?_
    refine aw_ior dX1_usedBy_76 ?_
    refine aw_istore_n (L' := [some (vR 1 (some x0)), some (vR 2 x1), some (vI (i_or x2 (i_shl 1 (gI σ 108 x0 x3.toNat)))), some (vI x3)]) dX1_usedBy_77 rfl (by decide) rfl ?_
    obtain ⟨z7, hz7⟩ : ∃ z : Int, z = i_or x2 (i_shl 1 (gI σ 108 x0 x3.toNat)) := ⟨_, rfl⟩
    rw [← hz7]
    replace h := h z7 hz7
    obtain ⟨⟨c8, c8x⟩, h⟩ := h
    refine aw_iincc (L' := [some (vR 1 (some x0)), some (vR 2 x1), some (vI z7), some (vI (x3 + 1))]) dX1_usedBy_78 rfl (by decide) rfl c8 c8x rfl ?_
    refine aw_goto (tgt := 54) dX1_usedBy_81 (by decide) ?_
    exact aw_fgt (L' := [some (vR 1 (some x0)), some (vR 2 x1), some (vI z7), some (vI (x3 + 1))]) ⟨rfl, ⟨rfl, ⟨rfl, ⟨rfl, trivial⟩⟩⟩⟩ h
set_option maxRecDepth 4000 in
theorem bk_X3_init_0 {g : GP} {l : Launch} {d : Nat} {σ : St} {Q : Option AV → St → Prop} {x0 : Nat}
    (h : (gL σ 300 x0 = 0 ∧ hs σ + 1 ≤ gB g + 600000 ∧ sl σ + 2000 ≤ 7302250) ∧ (gL (sArr σ 300 x0 2000) 301 x0 = 0 ∧ hs (sArr σ 300 x0 2000) + 1 ≤ gB g + 600000 ∧ sl (sArr σ 300 x0 2000) + 2000 ≤ 7302250) ∧ (gL (sArr (sArr σ 300 x0 2000) 301 x0 2000) 302 x0 = 0 ∧ hs (sArr (sArr σ 300 x0 2000) 301 x0 2000) + 1 ≤ gB g + 600000 ∧ sl (sArr (sArr σ 300 x0 2000) 301 x0 2000) + 4 ≤ 7302250) ∧ Q none (sArr (sArr (sArr σ 300 x0 2000) 301 x0 2000) 302 x0 4)) :
    AW g l (d + 1) MX3_init 0 [some (vR 3 (some x0))] [] σ Q := by
  refine aw_aload_n dX3_init_0 rfl rfl ?_
  refine aw_objInit (M := MX3_init) lm_X3_3 loi_i loi_c dX3_init_1 (Nat.le_of_ble_eq_true rfl) ?_
  refine aw_aload_n dX3_init_4 rfl rfl ?_
  refine aw_sipush (x := 2000) dX3_init_5 rfl ?_
  obtain ⟨⟨h0, h1, h2⟩, h⟩ := h
  refine aw_mkArr (M := MX3_init) (n := 2000) fk_300 (by decide +kernel) rfl (fun _ _ h => h) la_int ⟨rfl, rfl⟩ lf_X3_9 dX3_init_8 dX3_init_10 rfl (by decide) (by decide) h0 h1 h2 ?_
  refine aw_aload_n dX3_init_13 rfl rfl ?_
  refine aw_sipush (x := 2000) dX3_init_14 rfl ?_
  obtain ⟨⟨h0, h1, h2⟩, h⟩ := h
  refine aw_mkArr (M := MX3_init) (n := 2000) fk_301 (by decide +kernel) rfl (fun _ _ h => h) la_int ⟨rfl, rfl⟩ lf_X3_15 dX3_init_17 dX3_init_19 rfl (by decide) (by decide) h0 h1 h2 ?_
  refine aw_aload_n dX3_init_22 rfl rfl ?_
  refine aw_iconst (x := 4) dX3_init_23 rfl ?_
  obtain ⟨⟨h0, h1, h2⟩, h⟩ := h
  refine aw_mkArrR (M := MX3_init) (n := 4) fk_302 (by decide +kernel) lc_X3_18 lo_X4 ⟨rfl, rfl⟩ lf_X3_20 dX3_init_24 dX3_init_27 rfl (by decide) (by decide) h0 h1 h2 ?_
  exact aw_ret h rfl dX3_init_30
set_option maxRecDepth 4000 in
theorem bk_X3_addLayer_0 {g : GP} {l : Launch} {d : Nat} {σ : St} {Q : Option AV → St → Prop} {x0 : Nat}
    (h : (((gI σ 303 x0 0) < 4 → LC 3 σ x0 ∧ Bd (gI σ 303 x0 0) 4 ∧ ((gR σ 302 x0 (gI σ 303 x0 0).toNat = none → (hs σ + 1 ≤ gB g + 600000 ∧ sl σ + 6 ≤ 7302250) ∧ ACv g l d MX4_init [vR 4 (some (hs σ))] (sNew σ 6) (fun σ6 => LC 3 σ6 x0 ∧ AW g l (d + 1) MX3_addLayer 37 [some (vR 3 (some x0))] [] (sR σ6 302 x0 (gI σ 303 x0 0).toNat (some (hs σ))) Q)) ∧ (∀ r4, gR σ 302 x0 (gI σ 303 x0 0).toNat = some r4 → AW g l (d + 1) MX3_addLayer 37 [some (vR 3 (some x0))] [] σ Q))) ∧ (¬ (gI σ 303 x0 0) < 4 → Q none σ))) :
    AW g l (d + 1) MX3_addLayer 0 [some (vR 3 (some x0))] [] σ Q := by
  refine aw_aload_n dX3_addLayer_0 rfl rfl ?_
  refine aw_getI' rfl fk_303 lf_X3_28 dX3_addLayer_1 ?_
  refine aw_iconst (x := 4) dX3_addLayer_4 rfl ?_
  refine aw_icmp_lt (tgt := 9) dX3_addLayer_5 (by decide) (fun k1 => ?_) (fun k1 => ?_)
  · replace h := h.1 k1
    refine aw_aload_n dX3_addLayer_9 rfl rfl ?_
    obtain ⟨lc2, h⟩ := h
    refine aw_getA' rfl fk_302 (by decide) lf_X3_20 dX3_addLayer_10 (LC.ne lc2 rfl rfl) ?_
    refine aw_aload_n dX3_addLayer_13 rfl rfl ?_
    refine aw_getI' rfl fk_303 lf_X3_28 dX3_addLayer_14 ?_
    obtain ⟨⟨c3, c3x⟩, h⟩ := h
    refine aw_aaload (ci := 4) (by decide) rfl (by decide +kernel) dX3_addLayer_17 c3 (LC.lt lc2 rfl rfl c3x) ?_
    refine aw_ifnonnull (tgt := 37) dX3_addLayer_18 (by decide) (fun r4 e5 => ?_) (fun hc => ?_)
    · replace h := h.2 r4 e5
      exact aw_fgt (L' := [some (vR 3 (some x0))]) ⟨rfl, trivial⟩ h
    · replace h := h.1 hc
      refine aw_aload_n dX3_addLayer_21 rfl rfl ?_
      refine aw_getA' rfl fk_302 (by decide) lf_X3_20 dX3_addLayer_22 (LC.ne lc2 rfl rfl) ?_
      refine aw_aload_n dX3_addLayer_25 rfl rfl ?_
      refine aw_getI' rfl fk_303 lf_X3_28 dX3_addLayer_26 ?_
      obtain ⟨⟨h1, h2⟩, h⟩ := h
      refine aw_new (M := MX3_addLayer) (ci := 4) rfl lc_X3_18 ln_X4 lz_X4 dX3_addLayer_29 h1 h2 ?_
      refine aw_dup dX3_addLayer_32 rfl ?_
      refine aw_invINv (M := MX3_addLayer) [] mo_X4_init rfl ⟨rfl, rfl⟩ lm_X3_35 li_X4_init dX3_addLayer_33 rfl (Nat.le_of_ble_eq_true rfl) (ACv.mono (fun σ6 h => ?_) h)
      obtain ⟨lc7, h⟩ := h
      refine aw_aastore' rfl (by decide) rfl (by decide +kernel) (by decide +kernel) dX3_addLayer_36 c3 (LC.lt lc7 rfl rfl c3x) ?_
      exact aw_fgt (L' := [some (vR 3 (some x0))]) ⟨rfl, trivial⟩ h
  · replace h := h.2 k1
    exact aw_ret h rfl dX3_addLayer_8
set_option maxRecDepth 4000 in
theorem bk_X3_addLayer_37 {g : GP} {l : Launch} {d : Nat} {σ : St} {Q : Option AV → St → Prop} {x0 : Nat}
    (h : LC 3 σ x0 ∧ Bd (gI σ 303 x0 0) 4 ∧ ∃ r3, gR σ 302 x0 (gI σ 303 x0 0).toNat = some r3 ∧ ACv g l d MX4_wipe [vR 4 (some r3)] σ (fun σ5 => R32 ((gI σ5 303 x0 0) + 1) ∧ Q none (sI σ5 303 x0 0 ((gI σ5 303 x0 0) + 1)))) :
    AW g l (d + 1) MX3_addLayer 37 [some (vR 3 (some x0))] [] σ Q := by
  refine aw_aload_n dX3_addLayer_37 rfl rfl ?_
  obtain ⟨lc1, h⟩ := h
  refine aw_getA' rfl fk_302 (by decide) lf_X3_20 dX3_addLayer_38 (LC.ne lc1 rfl rfl) ?_
  refine aw_aload_n dX3_addLayer_41 rfl rfl ?_
  refine aw_getI' rfl fk_303 lf_X3_28 dX3_addLayer_42 ?_
  obtain ⟨⟨c2, c2x⟩, h⟩ := h
  refine aw_aaload (ci := 4) (by decide) rfl (by decide +kernel) dX3_addLayer_45 c2 (LC.lt lc1 rfl rfl c2x) ?_
  obtain ⟨r3, e4, h⟩ := h
  refine aw_invVv (M := MX3_addLayer) (ci := 4) [] e4 mo_X4_wipe rfl lm_X3_36 li_X4_wipe ls_X4_wipe (by decide +kernel) dX3_addLayer_46 rfl (Nat.le_of_ble_eq_true rfl) (ACv.mono (fun σ5 h => ?_) h)
  refine aw_aload_n dX3_addLayer_49 rfl rfl ?_
  refine aw_dup dX3_addLayer_50 rfl ?_
  refine aw_getI' rfl fk_303 lf_X3_28 dX3_addLayer_51 ?_
  refine aw_iconst (x := 1) dX3_addLayer_54 rfl ?_
  obtain ⟨⟨c6, c6x⟩, h⟩ := h
  refine aw_iaddc dX3_addLayer_55 c6 c6x ?_
  refine aw_putI' rfl fk_303 (Or.inl rfl) lf_X3_28 dX3_addLayer_56 ?_
  exact aw_ret h rfl dX3_addLayer_59
set_option maxRecDepth 4000 in
theorem bk_X3_append_0 {g : GP} {l : Launch} {d : Nat} {σ : St} {Q : Option AV → St → Prop} {x0 : Nat} {x1 : Int64} {x3 : Int}
    (h : R32 (x3 - 1) ∧ AW g l (d + 1) MX3_append 5 [some (vR 3 (some x0)), some (vJ x1), none, none, some (vI (x3 - 1))] [] σ Q) :
    AW g l (d + 1) MX3_append 0 [some (vR 3 (some x0)), some (vJ x1), none, some (vI x3), none] [] σ Q := by
  refine aw_iload_n dX3_append_0 rfl rfl ?_
  refine aw_iconst (x := 1) dX3_append_1 rfl ?_
  obtain ⟨⟨c1, c1x⟩, h⟩ := h
  refine aw_isubc dX3_append_2 c1 c1x ?_
  refine aw_istore (L' := [some (vR 3 (some x0)), some (vJ x1), none, some (vI x3), some (vI (x3 - 1))]) dX3_append_3 (by decide) rfl ?_
  exact aw_fgt (L' := [some (vR 3 (some x0)), some (vJ x1), none, none, some (vI (x3 - 1))]) ⟨rfl, ⟨rfl, ⟨rfl, trivial⟩⟩⟩ h
set_option maxRecDepth 4000 in
theorem bk_X3_append_5 {g : GP} {l : Launch} {d : Nat} {σ : St} {Q : Option AV → St → Prop} {x0 : Nat} {x1 : Int64} {x4 : Int}
    (h : ((x4 < 0 → Q none σ) ∧ (¬ x4 < 0 → ((2000 ≤ (gI σ 304 x0 0) → Q none σ) ∧ (¬ 2000 ≤ (gI σ 304 x0 0) → LC 3 σ x0 ∧ ACi g l d MX11_byteOf [vJ x1, vI x4] σ (fun v5 σ4 => LC 3 σ4 x0 ∧ Bd (gI σ 304 x0 0) 2000 ∧ Bd (gI σ4 304 x0 0) 2000 ∧ R32 ((gI σ4 304 x0 0) + 1) ∧ R32 (x4 + (-1)) ∧ AW g l (d + 1) MX3_append 5 [some (vR 3 (some x0)), some (vJ x1), none, none, some (vI (x4 + (-1)))] [] (sI (sI (sI σ4 300 x0 (gI σ 304 x0 0).toNat v5) 301 x0 (gI σ4 304 x0 0).toNat (gI (sI σ4 300 x0 (gI σ 304 x0 0).toNat v5) 300 x0 (gI σ4 304 x0 0).toNat)) 304 x0 0 ((gI σ4 304 x0 0) + 1)) Q)))))) :
    AW g l (d + 1) MX3_append 5 [some (vR 3 (some x0)), some (vJ x1), none, none, some (vI x4)] [] σ Q := by
  refine aw_iload dX3_append_5 rfl ?_
  refine aw_if_lt (tgt := 69) dX3_append_7 (by decide) (fun k1 => ?_) (fun k1 => ?_)
  · replace h := h.1 k1
    exact aw_ret h rfl dX3_append_69
  · replace h := h.2 k1
    refine aw_aload_n dX3_append_10 rfl rfl ?_
    refine aw_getI' rfl fk_304 lf_X3_24 dX3_append_11 ?_
    refine aw_sipush (x := 2000) dX3_append_14 rfl ?_
    refine aw_icmp_ge (tgt := 69) dX3_append_17 (by decide) (fun k2 => ?_) (fun k2 => ?_)
    · replace h := h.1 k2
      exact aw_ret h rfl dX3_append_69
    · replace h := h.2 k2
      refine aw_aload_n dX3_append_20 rfl rfl ?_
      obtain ⟨lc3, h⟩ := h
      refine aw_getA' rfl fk_300 (by decide) lf_X3_9 dX3_append_21 (LC.ne lc3 rfl rfl) ?_
      refine aw_aload_n dX3_append_24 rfl rfl ?_
      refine aw_getI' rfl fk_304 lf_X3_24 dX3_append_25 ?_
      refine aw_lload_n dX3_append_28 rfl rfl ?_
      refine aw_iload dX3_append_29 rfl ?_
      refine aw_invSNi (M := MX3_append) [vJ x1, vI x4] mo_X11_byteOf rfl lm_X3_31 lt_X11_byteOf dX3_append_31 rfl (Nat.le_of_ble_eq_true rfl) (ACi.mono (fun v5 σ4 h => ?_) h)
      obtain ⟨lc6, h⟩ := h
      obtain ⟨⟨c7, c7x⟩, h⟩ := h
      refine aw_iastore (by decide) rfl dX3_append_34 c7 (LC.lt lc6 rfl rfl c7x) ?_
      refine aw_aload_n dX3_append_35 rfl rfl ?_
      refine aw_getA' rfl fk_301 (by decide) lf_X3_15 dX3_append_36 (LC.ne lc6 rfl rfl) ?_
      refine aw_aload_n dX3_append_39 rfl rfl ?_
      refine aw_getIe (v := gI σ4 304 x0 0) rfl fk_304 lf_X3_24 dX3_append_40 rfl ?_
      refine aw_aload_n dX3_append_43 rfl rfl ?_
      refine aw_getA' rfl fk_300 (by decide) lf_X3_9 dX3_append_44 (LC.ne lc6 rfl rfl) ?_
      refine aw_aload_n dX3_append_47 rfl rfl ?_
      refine aw_getIe (v := gI σ4 304 x0 0) rfl fk_304 lf_X3_24 dX3_append_48 rfl ?_
      obtain ⟨⟨c8, c8x⟩, h⟩ := h
      refine aw_iaload (by decide) rfl dX3_append_51 c8 (LC.lt lc6 rfl rfl c8x) ?_
      refine aw_iastore (by decide) rfl dX3_append_52 c8 (LC.lt lc6 rfl rfl c8x) ?_
      refine aw_aload_n dX3_append_53 rfl rfl ?_
      refine aw_dup dX3_append_54 rfl ?_
      refine aw_getIe (v := gI σ4 304 x0 0) rfl fk_304 lf_X3_24 dX3_append_55 rfl ?_
      refine aw_iconst (x := 1) dX3_append_58 rfl ?_
      obtain ⟨⟨c9, c9x⟩, h⟩ := h
      refine aw_iaddc dX3_append_59 c9 c9x ?_
      refine aw_putI' rfl fk_304 (Or.inl rfl) lf_X3_24 dX3_append_60 ?_
      obtain ⟨⟨c10, c10x⟩, h⟩ := h
      refine aw_iincc (L' := [some (vR 3 (some x0)), some (vJ x1), none, none, some (vI (x4 + (-1)))]) dX3_append_63 rfl (by decide) rfl c10 c10x rfl ?_
      refine aw_goto (tgt := 5) dX3_append_66 (by decide) ?_
      exact aw_fgt (L' := [some (vR 3 (some x0)), some (vJ x1), none, none, some (vI (x4 + (-1)))]) ⟨rfl, ⟨rfl, ⟨rfl, trivial⟩⟩⟩ h
set_option maxRecDepth 4000 in
theorem bk_X3_has_0 {g : GP} {l : Launch} {d : Nat} {σ : St} {Q : Option AV → St → Prop} {x0 : Nat} {x1 : Int}
    (h : ((x1 < 0 → Q (some (vI (-1))) σ) ∧ (¬ x1 < 0 → ((x1 < (gI σ 304 x0 0) → LC 3 σ x0 ∧ Bd x1 2000 ∧ Q (some (vI (gI σ 301 x0 x1.toNat))) σ) ∧ (¬ x1 < (gI σ 304 x0 0) → Q (some (vI (-1))) σ))))) :
    AW g l d MX3_has 0 [some (vR 3 (some x0)), some (vI x1)] [] σ Q := by
  refine aw_iload_n dX3_has_0 rfl rfl ?_
  refine aw_if_lt (tgt := 12) dX3_has_1 (by decide) (fun k1 => ?_) (fun k1 => ?_)
  · replace h := h.1 k1
    refine aw_iconst (x := (-1)) dX3_has_12 rfl ?_
    refine aw_goto (tgt := 22) dX3_has_13 (by decide) ?_
    exact aw_ireturn dX3_has_22 rfl h
  · replace h := h.2 k1
    refine aw_iload_n dX3_has_4 rfl rfl ?_
    refine aw_aload_n dX3_has_5 rfl rfl ?_
    refine aw_getI' rfl fk_304 lf_X3_24 dX3_has_6 ?_
    refine aw_icmp_lt (tgt := 16) dX3_has_9 (by decide) (fun k2 => ?_) (fun k2 => ?_)
    · replace h := h.1 k2
      refine aw_aload_n dX3_has_16 rfl rfl ?_
      obtain ⟨lc3, h⟩ := h
      refine aw_getA' rfl fk_301 (by decide) lf_X3_15 dX3_has_17 (LC.ne lc3 rfl rfl) ?_
      refine aw_iload_n dX3_has_20 rfl rfl ?_
      obtain ⟨⟨c4, c4x⟩, h⟩ := h
      refine aw_iaload (by decide) rfl dX3_has_21 c4 (LC.lt lc3 rfl rfl c4x) ?_
      exact aw_ireturn dX3_has_22 rfl h
    · replace h := h.2 k2
      refine aw_iconst (x := (-1)) dX3_has_12 rfl ?_
      refine aw_goto (tgt := 22) dX3_has_13 (by decide) ?_
      exact aw_ireturn dX3_has_22 rfl h
set_option maxRecDepth 4000 in
theorem bk_X3_read_0 {g : GP} {l : Launch} {d : Nat} {σ : St} {Q : Option AV → St → Prop} {x0 : Nat} {x1 : Int} {x2 : Int} {x3 : Int}
    (h : ((x1 < 0 → Q (some (vJ 0)) σ) ∧ (¬ x1 < 0 → R32 (x1 + x2) ∧ (((x1 + x2) ≤ (gI σ 304 x0 0) → AW g l d MX3_read 22 [some (vR 3 (some x0)), some (vI x1), some (vI x2), some (vI x3), some (vJ 0), none, some (vI 0)] [] σ Q) ∧ (¬ (x1 + x2) ≤ (gI σ 304 x0 0) → Q (some (vJ 0)) σ))))) :
    AW g l d MX3_read 0 [some (vR 3 (some x0)), some (vI x1), some (vI x2), some (vI x3), none, none, none] [] σ Q := by
  refine aw_iload_n dX3_read_0 rfl rfl ?_
  refine aw_if_lt (tgt := 14) dX3_read_1 (by decide) (fun k1 => ?_) (fun k1 => ?_)
  · replace h := h.1 k1
    refine aw_lconst (x := 0) dX3_read_14 rfl ?_
    exact aw_lreturn dX3_read_15 rfl h
  · replace h := h.2 k1
    refine aw_iload_n dX3_read_4 rfl rfl ?_
    refine aw_iload_n dX3_read_5 rfl rfl ?_
    obtain ⟨⟨c2, c2x⟩, h⟩ := h
    refine aw_iaddc dX3_read_6 c2 c2x ?_
    refine aw_aload_n dX3_read_7 rfl rfl ?_
    refine aw_getI' rfl fk_304 lf_X3_24 dX3_read_8 ?_
    refine aw_icmp_le (tgt := 16) dX3_read_11 (by decide) (fun k3 => ?_) (fun k3 => ?_)
    · replace h := h.1 k3
      refine aw_lconst (x := 0) dX3_read_16 rfl ?_
      refine aw_lstore (L' := [some (vR 3 (some x0)), some (vI x1), some (vI x2), some (vI x3), some (vJ 0), none, none]) dX3_read_17 (by decide) rfl ?_
      refine aw_iconst (x := 0) dX3_read_19 rfl ?_
      refine aw_istore (L' := [some (vR 3 (some x0)), some (vI x1), some (vI x2), some (vI x3), some (vJ 0), none, some (vI 0)]) dX3_read_20 (by decide) rfl ?_
      exact aw_fgt (L' := [some (vR 3 (some x0)), some (vI x1), some (vI x2), some (vI x3), some (vJ 0), none, some (vI 0)]) ⟨rfl, ⟨rfl, ⟨rfl, ⟨rfl, ⟨rfl, ⟨rfl, trivial⟩⟩⟩⟩⟩⟩ h
    · replace h := h.2 k3
      refine aw_lconst (x := 0) dX3_read_14 rfl ?_
      exact aw_lreturn dX3_read_15 rfl h
set_option maxRecDepth 4000 in
theorem bk_X3_read_22 {g : GP} {l : Launch} {d : Nat} {σ : St} {Q : Option AV → St → Prop} {x0 : Nat} {x1 : Int} {x2 : Int} {x3 : Int} {x4 : Int64} {x6 : Int}
    (h : ((x2 ≤ x6 → Q (some (vJ x4)) σ) ∧ (¬ x2 ≤ x6 → LC 3 σ x0 ∧ ((x3 = 0 → R32 (x1 + x2) ∧ R32 ((x1 + x2) - 1) ∧ R32 (((x1 + x2) - 1) - x6) ∧ Bd (((x1 + x2) - 1) - x6) 2000 ∧ R32 (x6 + 1) ∧ AW g l d MX3_read 22 [some (vR 3 (some x0)), some (vI x1), some (vI x2), some (vI x3), some (vJ ((j_shl x4 8) ||| (i2j (gI σ 301 x0 (((x1 + x2) - 1) - x6).toNat)))), none, some (vI (x6 + 1))] [] σ Q) ∧ (¬ x3 = 0 → R32 (x1 + x6) ∧ Bd (x1 + x6) 2000 ∧ R32 (x6 + 1) ∧ AW g l d MX3_read 22 [some (vR 3 (some x0)), some (vI x1), some (vI x2), some (vI x3), some (vJ ((j_shl x4 8) ||| (i2j (gI σ 301 x0 (x1 + x6).toNat)))), none, some (vI (x6 + 1))] [] σ Q))))) :
    AW g l d MX3_read 22 [some (vR 3 (some x0)), some (vI x1), some (vI x2), some (vI x3), some (vJ x4), none, some (vI x6)] [] σ Q := by
  refine aw_iload dX3_read_22 rfl ?_
  refine aw_iload_n dX3_read_24 rfl rfl ?_
  refine aw_icmp_ge (tgt := 67) dX3_read_25 (by decide) (fun k1 => ?_) (fun k1 => ?_)
  · replace h := h.1 k1
    refine aw_lload dX3_read_67 rfl ?_
    exact aw_lreturn dX3_read_69 rfl h
  · replace h := h.2 k1
    refine aw_lload dX3_read_28 rfl ?_
    refine aw_bipush (x := 8) dX3_read_30 rfl ?_
    refine aw_lshl dX3_read_32 ?_
    refine aw_aload_n dX3_read_33 rfl rfl ?_
    obtain ⟨lc2, h⟩ := h
    refine aw_getA' rfl fk_301 (by decide) lf_X3_15 dX3_read_34 (LC.ne lc2 rfl rfl) ?_
    refine aw_iload_n dX3_read_37 rfl rfl ?_
    refine aw_if_eq (tgt := 48) dX3_read_38 (by decide) (fun k3 => ?_) (fun k3 => ?_)
    · replace h := h.1 k3
      refine aw_iload_n dX3_read_48 rfl rfl ?_
      refine aw_iload_n dX3_read_49 rfl rfl ?_
      obtain ⟨⟨c4, c4x⟩, h⟩ := h
      refine aw_iaddc dX3_read_50 c4 c4x ?_
      refine aw_iconst (x := 1) dX3_read_51 rfl ?_
      obtain ⟨⟨c5, c5x⟩, h⟩ := h
      refine aw_isubc dX3_read_52 c5 c5x ?_
      refine aw_iload dX3_read_53 rfl ?_
      obtain ⟨⟨c6, c6x⟩, h⟩ := h
      refine aw_isubc dX3_read_55 c6 c6x ?_
      obtain ⟨⟨c7, c7x⟩, h⟩ := h
      refine aw_iaload (by decide) rfl dX3_read_56 c7 (LC.lt lc2 rfl rfl c7x) ?_
      refine aw_i2l dX3_read_57 ?_
      refine aw_lor dX3_read_58 ?_
      refine aw_lstore (L' := [some (vR 3 (some x0)), some (vI x1), some (vI x2), some (vI x3), some (vJ ((j_shl x4 8) ||| (i2j (gI σ 301 x0 (((x1 + x2) - 1) - x6).toNat)))), none, some (vI x6)]) dX3_read_59 (by decide) rfl ?_
      obtain ⟨⟨c8, c8x⟩, h⟩ := h
      refine aw_iincc (L' := [some (vR 3 (some x0)), some (vI x1), some (vI x2), some (vI x3), some (vJ ((j_shl x4 8) ||| (i2j (gI σ 301 x0 (((x1 + x2) - 1) - x6).toNat)))), none, some (vI (x6 + 1))]) dX3_read_61 rfl (by decide) rfl c8 c8x rfl ?_
      refine aw_goto (tgt := 22) dX3_read_64 (by decide) ?_
      exact aw_fgt (L' := [some (vR 3 (some x0)), some (vI x1), some (vI x2), some (vI x3), some (vJ ((j_shl x4 8) ||| (i2j (gI σ 301 x0 (((x1 + x2) - 1) - x6).toNat)))), none, some (vI (x6 + 1))]) ⟨rfl, ⟨rfl, ⟨rfl, ⟨rfl, ⟨rfl, ⟨rfl, trivial⟩⟩⟩⟩⟩⟩ h
    · replace h := h.2 k3
      refine aw_iload_n dX3_read_41 rfl rfl ?_
      refine aw_iload dX3_read_42 rfl ?_
      obtain ⟨⟨c9, c9x⟩, h⟩ := h
      refine aw_iaddc dX3_read_44 c9 c9x ?_
      refine aw_goto (tgt := 56) dX3_read_45 (by decide) ?_
      obtain ⟨⟨c10, c10x⟩, h⟩ := h
      refine aw_iaload (by decide) rfl dX3_read_56 c10 (LC.lt lc2 rfl rfl c10x) ?_
      refine aw_i2l dX3_read_57 ?_
      refine aw_lor dX3_read_58 ?_
      refine aw_lstore (L' := [some (vR 3 (some x0)), some (vI x1), some (vI x2), some (vI x3), some (vJ ((j_shl x4 8) ||| (i2j (gI σ 301 x0 (x1 + x6).toNat)))), none, some (vI x6)]) dX3_read_59 (by decide) rfl ?_
      obtain ⟨⟨c11, c11x⟩, h⟩ := h
      refine aw_iincc (L' := [some (vR 3 (some x0)), some (vI x1), some (vI x2), some (vI x3), some (vJ ((j_shl x4 8) ||| (i2j (gI σ 301 x0 (x1 + x6).toNat)))), none, some (vI (x6 + 1))]) dX3_read_61 rfl (by decide) rfl c11 c11x rfl ?_
      refine aw_goto (tgt := 22) dX3_read_64 (by decide) ?_
      exact aw_fgt (L' := [some (vR 3 (some x0)), some (vI x1), some (vI x2), some (vI x3), some (vJ ((j_shl x4 8) ||| (i2j (gI σ 301 x0 (x1 + x6).toNat)))), none, some (vI (x6 + 1))]) ⟨rfl, ⟨rfl, ⟨rfl, ⟨rfl, ⟨rfl, ⟨rfl, trivial⟩⟩⟩⟩⟩⟩ h
