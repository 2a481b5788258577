set_option maxRecDepth 4000 in
theorem bk_X12_node__0 {g : GP} {l : Launch} {d : Nat} {σ : St} {Q : Option AV → St → Prop} {x0 : Nat} {x1 : Int} {x2 : Int} {x3 : Int}
    (h : ACi g l d MX12_isNode [vR 12 (some x0), vI x1, vI x2] σ (fun v2 σ1 => ((¬ v2 = 0 → R32 (400 * x1) ∧ R32 ((400 * x1) + x2) ∧ ((x3 = 0 → LC 12 σ1 x0 ∧ Bd ((400 * x1) + x2) 2800 ∧ Q (some (vI (gI σ1 1267 x0 ((400 * x1) + x2).toNat))) σ1) ∧ (x3 = 1 → LC 12 σ1 x0 ∧ Bd ((400 * x1) + x2) 2800 ∧ Q (some (vI (gI σ1 1268 x0 ((400 * x1) + x2).toNat))) σ1) ∧ (x3 = 2 → LC 12 σ1 x0 ∧ Bd ((400 * x1) + x2) 2800 ∧ Q (some (vI (gI σ1 1269 x0 ((400 * x1) + x2).toNat))) σ1) ∧ (x3 = 3 → LC 12 σ1 x0 ∧ Bd ((400 * x1) + x2) 2800 ∧ ACi g l d MX12_outward [vR 12 (some x0), vI (gI σ1 1270 x0 ((400 * x1) + x2).toNat)] σ1 (fun v15 σ14 => Q (some (vI v15)) σ14)) ∧ (x3 = 4 → LC 12 σ1 x0 ∧ Bd ((400 * x1) + x2) 2800 ∧ Q (some (vI (gI σ1 1271 x0 ((400 * x1) + x2).toNat))) σ1) ∧ (x3 = 5 → LC 12 σ1 x0 ∧ Bd ((400 * x1) + x2) 2800 ∧ Q (some (vI (gI σ1 1272 x0 ((400 * x1) + x2).toNat))) σ1) ∧ (x3 = 6 → LC 12 σ1 x0 ∧ Bd ((400 * x1) + x2) 2800 ∧ (((gI σ1 1279 x0 ((400 * x1) + x2).toNat) = 0 → Q (some (vI 0)) σ1) ∧ (¬ (gI σ1 1279 x0 ((400 * x1) + x2).toNat) = 0 → Q (some (vI 1)) σ1))) ∧ (x3 = 7 → LC 12 σ1 x0 ∧ Bd ((400 * x1) + x2) 2800 ∧ ((¬ (gI σ1 1267 x0 ((400 * x1) + x2).toNat) = 0 → Q (some (vI (-1))) σ1) ∧ ((gI σ1 1267 x0 ((400 * x1) + x2).toNat) = 0 → Q (some (vI (gI σ1 1273 x0 ((400 * x1) + x2).toNat))) σ1))) ∧ (x3 < 0 ∨ 7 < x3 → Q (some (vI (-1))) σ1))) ∧ (v2 = 0 → Q (some (vI (-1))) σ1)))) :
    AW g l (d + 1) MX12_node_ 0 [some (vR 12 (some x0)), some (vI x1), some (vI x2), some (vI x3), none] [] σ Q := by
  refine aw_aload_n dX12_node__0 rfl rfl ?_
  refine aw_iload_n dX12_node__1 rfl rfl ?_
  refine aw_iload_n dX12_node__2 rfl rfl ?_
  refine aw_invVi (M := MX12_node_) (ci := 12) [vI x1, vI x2] rfl mo_X12_isNode rfl lm_X12_688 li_X12_isNode ls_X12_isNode (by decide +kernel) dX12_node__3 rfl (Nat.le_of_ble_eq_true rfl) (ACi.mono (fun v2 σ1 h => ?_) h)
  refine aw_if_ne (tgt := 11) dX12_node__6 (by decide) (fun k3 => ?_) (fun k3 => ?_)
  · replace h := h.1 k3
    refine aw_sipush (x := 400) dX12_node__11 rfl ?_
    refine aw_iload_n dX12_node__14 rfl rfl ?_
    obtain ⟨⟨c4, c4x⟩, h⟩ := h
    refine aw_imulc dX12_node__15 c4 c4x ?_
    refine aw_iload_n dX12_node__16 rfl rfl ?_
    obtain ⟨⟨c5, c5x⟩, h⟩ := h
    refine aw_iaddc dX12_node__17 c5 c5x ?_
    refine aw_istore (L' := [some (vR 12 (some x0)), some (vI x1), some (vI x2), some (vI x3), some (vI ((400 * x1) + x2))]) dX12_node__18 (by decide) rfl ?_
    refine aw_iload_n dX12_node__20 rfl rfl ?_
    obtain ⟨h0, h1, h2, h3, h4, h5, h6, h7, hd⟩ := h
    refine aw_table (M := MX12_node_) (dt := 158) [68, 76, 84, 92, 104, 112, 120, 136] dX12_node__21 (by decide) (by decide) (by decide) ⟨fun hc => ?_, fun hc => ?_, fun hc => ?_, fun hc => ?_, fun hc => ?_, fun hc => ?_, fun hc => ?_, fun hc => ?_, trivial⟩ (fun hc => ?_)
    · have h := h0 hc; clear h0 h1 h2 h3 h4 h5 h6 h7 hd
      refine aw_aload_n dX12_node__68 rfl rfl ?_
      obtain ⟨lc6, h⟩ := h
      refine aw_getA' rfl fk_1267 (by decide) lf_X12_217 dX12_node__69 (LC.ne lc6 rfl rfl) ?_
      refine aw_iload dX12_node__72 rfl ?_
      obtain ⟨⟨c7, c7x⟩, h⟩ := h
      refine aw_iaload (by decide) rfl dX12_node__74 c7 (LC.lt lc6 rfl rfl c7x) ?_
      exact aw_ireturn dX12_node__75 rfl h
    · have h := h1 hc; clear h0 h1 h2 h3 h4 h5 h6 h7 hd
      refine aw_aload_n dX12_node__76 rfl rfl ?_
      obtain ⟨lc8, h⟩ := h
      refine aw_getA' rfl fk_1268 (by decide) lf_X12_220 dX12_node__77 (LC.ne lc8 rfl rfl) ?_
      refine aw_iload dX12_node__80 rfl ?_
      obtain ⟨⟨c9, c9x⟩, h⟩ := h
      refine aw_iaload (by decide) rfl dX12_node__82 c9 (LC.lt lc8 rfl rfl c9x) ?_
      exact aw_ireturn dX12_node__83 rfl h
    · have h := h2 hc; clear h0 h1 h2 h3 h4 h5 h6 h7 hd
      refine aw_aload_n dX12_node__84 rfl rfl ?_
      obtain ⟨lc10, h⟩ := h
      refine aw_getA' rfl fk_1269 (by decide) lf_X12_223 dX12_node__85 (LC.ne lc10 rfl rfl) ?_
      refine aw_iload dX12_node__88 rfl ?_
      obtain ⟨⟨c11, c11x⟩, h⟩ := h
      refine aw_iaload (by decide) rfl dX12_node__90 c11 (LC.lt lc10 rfl rfl c11x) ?_
      exact aw_ireturn dX12_node__91 rfl h
    · have h := h3 hc; clear h0 h1 h2 h3 h4 h5 h6 h7 hd
      refine aw_aload_n dX12_node__92 rfl rfl ?_
      refine aw_aload_n dX12_node__93 rfl rfl ?_
      obtain ⟨lc12, h⟩ := h
      refine aw_getA' rfl fk_1270 (by decide) lf_X12_226 dX12_node__94 (LC.ne lc12 rfl rfl) ?_
      refine aw_iload dX12_node__97 rfl ?_
      obtain ⟨⟨c13, c13x⟩, h⟩ := h
      refine aw_iaload (by decide) rfl dX12_node__99 c13 (LC.lt lc12 rfl rfl c13x) ?_
      refine aw_invVi (M := MX12_node_) (ci := 12) [vI (gI σ1 1270 x0 ((400 * x1) + x2).toNat)] rfl mo_X12_outward rfl lm_X12_691 li_X12_outward ls_X12_outward (by decide +kernel) dX12_node__100 rfl (Nat.le_of_ble_eq_true rfl) (ACi.mono (fun v15 σ14 h => ?_) h)
      exact aw_ireturn dX12_node__103 rfl h
    · have h := h4 hc; clear h0 h1 h2 h3 h4 h5 h6 h7 hd
      refine aw_aload_n dX12_node__104 rfl rfl ?_
      obtain ⟨lc16, h⟩ := h
      refine aw_getA' rfl fk_1271 (by decide) lf_X12_229 dX12_node__105 (LC.ne lc16 rfl rfl) ?_
      refine aw_iload dX12_node__108 rfl ?_
      obtain ⟨⟨c17, c17x⟩, h⟩ := h
      refine aw_iaload (by decide) rfl dX12_node__110 c17 (LC.lt lc16 rfl rfl c17x) ?_
      exact aw_ireturn dX12_node__111 rfl h
    · have h := h5 hc; clear h0 h1 h2 h3 h4 h5 h6 h7 hd
      refine aw_aload_n dX12_node__112 rfl rfl ?_
      obtain ⟨lc18, h⟩ := h
      refine aw_getA' rfl fk_1272 (by decide) lf_X12_232 dX12_node__113 (LC.ne lc18 rfl rfl) ?_
      refine aw_iload dX12_node__116 rfl ?_
      obtain ⟨⟨c19, c19x⟩, h⟩ := h
      refine aw_iaload (by decide) rfl dX12_node__118 c19 (LC.lt lc18 rfl rfl c19x) ?_
      exact aw_ireturn dX12_node__119 rfl h
    · have h := h6 hc; clear h0 h1 h2 h3 h4 h5 h6 h7 hd
      refine aw_aload_n dX12_node__120 rfl rfl ?_
      obtain ⟨lc20, h⟩ := h
      refine aw_getA' rfl fk_1279 (by decide) lf_X12_253 dX12_node__121 (LC.ne lc20 rfl rfl) ?_
      refine aw_iload dX12_node__124 rfl ?_
      obtain ⟨⟨c21, c21x⟩, h⟩ := h
      refine aw_baload (by decide) rfl dX12_node__126 c21 (LC.lt lc20 rfl rfl c21x) ?_
      refine aw_if_eq (tgt := 134) dX12_node__127 (by decide) (fun k22 => ?_) (fun k22 => ?_)
      · replace h := h.1 k22
        refine aw_iconst (x := 0) dX12_node__134 rfl ?_
        exact aw_ireturn dX12_node__135 rfl h
      · replace h := h.2 k22
        refine aw_iconst (x := 1) dX12_node__130 rfl ?_
        refine aw_goto (tgt := 135) dX12_node__131 (by decide) ?_
        exact aw_ireturn dX12_node__135 rfl h
    · have h := h7 hc; clear h0 h1 h2 h3 h4 h5 h6 h7 hd
      refine aw_aload_n dX12_node__136 rfl rfl ?_
      obtain ⟨lc23, h⟩ := h
      refine aw_getA' rfl fk_1267 (by decide) lf_X12_217 dX12_node__137 (LC.ne lc23 rfl rfl) ?_
      refine aw_iload dX12_node__140 rfl ?_
      obtain ⟨⟨c24, c24x⟩, h⟩ := h
      refine aw_iaload (by decide) rfl dX12_node__142 c24 (LC.lt lc23 rfl rfl c24x) ?_
      refine aw_if_ne (tgt := 156) dX12_node__143 (by decide) (fun k25 => ?_) (fun k25 => ?_)
      · replace h := h.1 k25
        refine aw_iconst (x := (-1)) dX12_node__156 rfl ?_
        exact aw_ireturn dX12_node__157 rfl h
      · replace h := h.2 k25
        refine aw_aload_n dX12_node__146 rfl rfl ?_
        refine aw_getA' rfl fk_1273 (by decide) lf_X12_235 dX12_node__147 (LC.ne lc23 rfl rfl) ?_
        refine aw_iload dX12_node__150 rfl ?_
        refine aw_iaload (by decide) rfl dX12_node__152 c24 (LC.lt lc23 rfl rfl c24x) ?_
        refine aw_goto (tgt := 157) dX12_node__153 (by decide) ?_
        exact aw_ireturn dX12_node__157 rfl h
    · have h := hd hc; clear h0 h1 h2 h3 h4 h5 h6 h7 hd
      refine aw_iconst (x := (-1)) dX12_node__158 rfl ?_
      exact aw_ireturn dX12_node__159 rfl h
  · replace h := h.2 k3
    refine aw_iconst (x := (-1)) dX12_node__9 rfl ?_
    exact aw_ireturn dX12_node__10 rfl h
set_option maxRecDepth 4000 in
theorem bk_X12_node_0 {g : GP} {l : Launch} {d : Nat} {σ : St} {Q : Option AV → St → Prop} {x0 : Nat} {x1 : Int} {x2 : Int} {x3 : Int} {x4 : Int64}
    (h : LC 12 σ x0 ∧ Bd (gI σ 1246 x0 0) 9000 ∧ R32 ((gI σ 1246 x0 0) + 1) ∧ Q (some (vI (gI σ 1246 x0 0))) (sI (sJ (sI (sI (sI σ 1242 x0 (gI σ 1246 x0 0).toNat x1) 1243 x0 (gI σ 1246 x0 0).toNat x2) 1244 x0 (gI σ 1246 x0 0).toNat x3) 1245 x0 (gI σ 1246 x0 0).toNat x4) 1246 x0 0 ((gI σ 1246 x0 0) + 1))) :
    AW g l d MX12_node 0 [some (vR 12 (some x0)), some (vI x1), some (vI x2), some (vI x3), some (vJ x4), none, none] [] σ Q := by
  refine aw_aload_n dX12_node_0 rfl rfl ?_
  refine aw_getI' rfl fk_1246 lf_X12_152 dX12_node_1 ?_
  refine aw_istore (L' := [some (vR 12 (some x0)), some (vI x1), some (vI x2), some (vI x3), some (vJ x4), none, some (vI (gI σ 1246 x0 0))]) dX12_node_4 (by decide) rfl ?_
  refine aw_aload_n dX12_node_6 rfl rfl ?_
  obtain ⟨lc1, h⟩ := h
  refine aw_getA' rfl fk_1242 (by decide) lf_X12_140 dX12_node_7 (LC.ne lc1 rfl rfl) ?_
  refine aw_iload dX12_node_10 rfl ?_
  refine aw_iload_n dX12_node_12 rfl rfl ?_
  obtain ⟨⟨c2, c2x⟩, h⟩ := h
  refine aw_iastore (by decide) rfl dX12_node_13 c2 (LC.lt lc1 rfl rfl c2x) ?_
  refine aw_aload_n dX12_node_14 rfl rfl ?_
  refine aw_getA' rfl fk_1243 (by decide) lf_X12_143 dX12_node_15 (LC.ne lc1 rfl rfl) ?_
  refine aw_iload dX12_node_18 rfl ?_
  refine aw_iload_n dX12_node_20 rfl rfl ?_
  refine aw_iastore (by decide) rfl dX12_node_21 c2 (LC.lt lc1 rfl rfl c2x) ?_
  refine aw_aload_n dX12_node_22 rfl rfl ?_
  refine aw_getA' rfl fk_1244 (by decide) lf_X12_146 dX12_node_23 (LC.ne lc1 rfl rfl) ?_
  refine aw_iload dX12_node_26 rfl ?_
  refine aw_iload_n dX12_node_28 rfl rfl ?_
  refine aw_iastore (by decide) rfl dX12_node_29 c2 (LC.lt lc1 rfl rfl c2x) ?_
  refine aw_aload_n dX12_node_30 rfl rfl ?_
  refine aw_getA' rfl fk_1245 (by decide) lf_X12_149 dX12_node_31 (LC.ne lc1 rfl rfl) ?_
  refine aw_iload dX12_node_34 rfl ?_
  refine aw_lload dX12_node_36 rfl ?_
  refine aw_lastore (by decide) rfl dX12_node_38 c2 (LC.lt lc1 rfl rfl c2x) ?_
  refine aw_aload_n dX12_node_39 rfl rfl ?_
  refine aw_dup dX12_node_40 rfl ?_
  refine aw_getIe (v := gI σ 1246 x0 0) rfl fk_1246 lf_X12_152 dX12_node_41 rfl ?_
  refine aw_iconst (x := 1) dX12_node_44 rfl ?_
  obtain ⟨⟨c3, c3x⟩, h⟩ := h
  refine aw_iaddc dX12_node_45 c3 c3x ?_
  refine aw_putI' rfl fk_1246 (Or.inl rfl) lf_X12_152 dX12_node_46 ?_
  refine aw_iload dX12_node_49 rfl ?_
  exact aw_ireturn dX12_node_51 rfl h
set_option maxRecDepth 4000 in
theorem bk_X12_numeral_0 {g : GP} {l : Launch} {d : Nat} {σ : St} {Q : Option AV → St → Prop} {x0 : Nat}
    (h : LC 12 σ x0 ∧ Bd (gI σ 1214 x0 0) 3000 ∧ ((¬ (gI σ 1210 x0 (gI σ 1214 x0 0).toNat) = 48 → AW g l (d + 1) MX12_numeral 47 [some (vR 12 (some x0)), none, none, none, none, none] [vI 0] σ Q) ∧ ((gI σ 1210 x0 (gI σ 1214 x0 0).toNat) = 48 → R32 ((gI σ 1214 x0 0) + 1) ∧ ACi g l d MX12_tapeAt [vR 12 (some x0), vI ((gI σ 1214 x0 0) + 1)] σ (fun v6 σ5 => ((¬ v6 = 120 → AW g l (d + 1) MX12_numeral 47 [some (vR 12 (some x0)), none, none, none, none, none] [vI 0] σ5 Q) ∧ (v6 = 120 → R32 ((gI σ5 1214 x0 0) + 1) ∧ (((gI σ5 1215 x0 0) ≤ ((gI σ5 1214 x0 0) + 1) → AW g l (d + 1) MX12_numeral 47 [some (vR 12 (some x0)), none, none, none, none, none] [vI 0] σ5 Q) ∧ (¬ (gI σ5 1215 x0 0) ≤ ((gI σ5 1214 x0 0) + 1) → AW g l (d + 1) MX12_numeral 47 [some (vR 12 (some x0)), none, none, none, none, none] [vI 1] σ5 Q)))))))) :
    AW g l (d + 1) MX12_numeral 0 [some (vR 12 (some x0)), none, none, none, none, none] [] σ Q := by
  refine aw_aload_n dX12_numeral_0 rfl rfl ?_
  obtain ⟨lc1, h⟩ := h
  refine aw_getA' rfl fk_1210 (by decide) lf_X12_42 dX12_numeral_1 (LC.ne lc1 rfl rfl) ?_
  refine aw_aload_n dX12_numeral_4 rfl rfl ?_
  refine aw_getI' rfl fk_1214 lf_X12_54 dX12_numeral_5 ?_
  obtain ⟨⟨c2, c2x⟩, h⟩ := h
  refine aw_iaload (by decide) rfl dX12_numeral_8 c2 (LC.lt lc1 rfl rfl c2x) ?_
  refine aw_bipush (x := 48) dX12_numeral_9 rfl ?_
  refine aw_icmp_ne (tgt := 46) dX12_numeral_11 (by decide) (fun k3 => ?_) (fun k3 => ?_)
  · replace h := h.1 k3
    refine aw_iconst (x := 0) dX12_numeral_46 rfl ?_
    exact aw_fgt (L' := [some (vR 12 (some x0)), none, none, none, none, none]) ⟨rfl, trivial⟩ h
  · replace h := h.2 k3
    refine aw_aload_n dX12_numeral_14 rfl rfl ?_
    refine aw_aload_n dX12_numeral_15 rfl rfl ?_
    refine aw_getI' rfl fk_1214 lf_X12_54 dX12_numeral_16 ?_
    refine aw_iconst (x := 1) dX12_numeral_19 rfl ?_
    obtain ⟨⟨c4, c4x⟩, h⟩ := h
    refine aw_iaddc dX12_numeral_20 c4 c4x ?_
    refine aw_invVi (M := MX12_numeral) (ci := 12) [vI ((gI σ 1214 x0 0) + 1)] rfl mo_X12_tapeAt rfl lm_X12_311 li_X12_tapeAt ls_X12_tapeAt (by decide +kernel) dX12_numeral_21 rfl (Nat.le_of_ble_eq_true rfl) (ACi.mono (fun v6 σ5 h => ?_) h)
    refine aw_bipush (x := 120) dX12_numeral_24 rfl ?_
    refine aw_icmp_ne (tgt := 46) dX12_numeral_26 (by decide) (fun k7 => ?_) (fun k7 => ?_)
    · replace h := h.1 k7
      refine aw_iconst (x := 0) dX12_numeral_46 rfl ?_
      exact aw_fgt (L' := [some (vR 12 (some x0)), none, none, none, none, none]) ⟨rfl, trivial⟩ h
    · replace h := h.2 k7
      refine aw_aload_n dX12_numeral_29 rfl rfl ?_
      refine aw_getI' rfl fk_1215 lf_X12_57 dX12_numeral_30 ?_
      refine aw_aload_n dX12_numeral_33 rfl rfl ?_
      refine aw_getI' rfl fk_1214 lf_X12_54 dX12_numeral_34 ?_
      refine aw_iconst (x := 1) dX12_numeral_37 rfl ?_
      obtain ⟨⟨c8, c8x⟩, h⟩ := h
      refine aw_iaddc dX12_numeral_38 c8 c8x ?_
      refine aw_icmp_le (tgt := 46) dX12_numeral_39 (by decide) (fun k9 => ?_) (fun k9 => ?_)
      · replace h := h.1 k9
        refine aw_iconst (x := 0) dX12_numeral_46 rfl ?_
        exact aw_fgt (L' := [some (vR 12 (some x0)), none, none, none, none, none]) ⟨rfl, trivial⟩ h
      · replace h := h.2 k9
        refine aw_iconst (x := 1) dX12_numeral_42 rfl ?_
        refine aw_goto (tgt := 47) dX12_numeral_43 (by decide) ?_
        exact aw_fgt (L' := [some (vR 12 (some x0)), none, none, none, none, none]) ⟨rfl, trivial⟩ h
set_option maxRecDepth 4000 in
theorem bk_X12_numeral_47 {g : GP} {l : Launch} {d : Nat} {σ : St} {Q : Option AV → St → Prop} {x0 : Nat} {y0 : Int}
    (h : ((y0 = 0 → R32 ((gI σ 1215 x0 0) - (gI σ 1214 x0 0)) ∧ ∀ z3 : Int, z3 = (gI σ 1215 x0 0) - (gI σ 1214 x0 0) → AW g l (d + 1) MX12_numeral 81 [some (vR 12 (some x0)), some (vI y0), none, some (vI z3), some (vI (gI σ 1214 x0 0)), none] [] (sJ σ 1217 x0 0 0) Q) ∧ (¬ y0 = 0 → R32 ((gI σ 1214 x0 0) + 2) ∧ R32 ((gI σ 1215 x0 0) - ((gI σ 1214 x0 0) + 2)) ∧ ∀ z6 : Int, z6 = (gI σ 1215 x0 0) - ((gI σ 1214 x0 0) + 2) → AW g l (d + 1) MX12_numeral 81 [some (vR 12 (some x0)), some (vI y0), none, some (vI z6), some (vI ((gI σ 1214 x0 0) + 2)), none] [] (sJ σ 1217 x0 0 0) Q))) :
    AW g l (d + 1) MX12_numeral 47 [some (vR 12 (some x0)), none, none, none, none, none] [vI y0] σ Q := by
  refine aw_istore_n (L' := [some (vR 12 (some x0)), some (vI y0), none, none, none, none]) dX12_numeral_47 rfl (by decide) rfl ?_
  refine aw_iload_n dX12_numeral_48 rfl rfl ?_
  refine aw_if_eq (tgt := 61) dX12_numeral_49 (by decide) (fun k1 => ?_) (fun k1 => ?_)
  · replace h := h.1 k1
    refine aw_aload_n dX12_numeral_61 rfl rfl ?_
    refine aw_getI' rfl fk_1214 lf_X12_54 dX12_numeral_62 ?_
    refine aw_istore_n (L' := [some (vR 12 (some x0)), some (vI y0), some (vI (gI σ 1214 x0 0)), none, none, none]) dX12_numeral_65 rfl (by decide) rfl ?_
    refine aw_aload_n dX12_numeral_66 rfl rfl ?_
    refine aw_getI' rfl fk_1215 lf_X12_57 dX12_numeral_67 ?_
    refine aw_iload_n dX12_numeral_70 rfl rfl ?_
    obtain ⟨⟨c2, c2x⟩, h⟩ := h
    refine aw_isubc dX12_numeral_71 c2 c2x ?_
    refine aw_istore_n (L' := [some (vR 12 (some x0)), some (vI y0), some (vI (gI σ 1214 x0 0)), some (vI ((gI σ 1215 x0 0) - (gI σ 1214 x0 0))), none, none]) dX12_numeral_72 rfl (by decide) rfl ?_
    obtain ⟨z3, hz3⟩ : ∃ z : Int, z = (gI σ 1215 x0 0) - (gI σ 1214 x0 0) := ⟨_, rfl⟩
    rw [← hz3]
    replace h := h z3 hz3
    refine aw_aload_n dX12_numeral_73 rfl rfl ?_
    refine aw_lconst (x := 0) dX12_numeral_74 rfl ?_
    refine aw_putJ' rfl fk_1217 (Or.inl rfl) lf_X12_64 dX12_numeral_75 ?_
    refine aw_iload_n dX12_numeral_78 rfl rfl ?_
    refine aw_istore (L' := [some (vR 12 (some x0)), some (vI y0), some (vI (gI σ 1214 x0 0)), some (vI z3), some (vI (gI σ 1214 x0 0)), none]) dX12_numeral_79 (by decide) rfl ?_
    exact aw_fgt (L' := [some (vR 12 (some x0)), some (vI y0), none, some (vI z3), some (vI (gI σ 1214 x0 0)), none]) ⟨rfl, ⟨rfl, ⟨rfl, ⟨rfl, trivial⟩⟩⟩⟩ h
  · replace h := h.2 k1
    refine aw_aload_n dX12_numeral_52 rfl rfl ?_
    refine aw_getI' rfl fk_1214 lf_X12_54 dX12_numeral_53 ?_
    refine aw_iconst (x := 2) dX12_numeral_56 rfl ?_
    obtain ⟨⟨c4, c4x⟩, h⟩ := h
    refine aw_iaddc dX12_numeral_57 c4 c4x ?_
    refine aw_goto (tgt := 65) dX12_numeral_58 (by decide) ?_
    refine aw_istore_n (L' := [some (vR 12 (some x0)), some (vI y0), some (vI ((gI σ 1214 x0 0) + 2)), none, none, none]) dX12_numeral_65 rfl (by decide) rfl ?_
    refine aw_aload_n dX12_numeral_66 rfl rfl ?_
    refine aw_getI' rfl fk_1215 lf_X12_57 dX12_numeral_67 ?_
    refine aw_iload_n dX12_numeral_70 rfl rfl ?_
    obtain ⟨⟨c5, c5x⟩, h⟩ := h
    refine aw_isubc dX12_numeral_71 c5 c5x ?_
    refine aw_istore_n (L' := [some (vR 12 (some x0)), some (vI y0), some (vI ((gI σ 1214 x0 0) + 2)), some (vI ((gI σ 1215 x0 0) - ((gI σ 1214 x0 0) + 2))), none, none]) dX12_numeral_72 rfl (by decide) rfl ?_
    obtain ⟨z6, hz6⟩ : ∃ z : Int, z = (gI σ 1215 x0 0) - ((gI σ 1214 x0 0) + 2) := ⟨_, rfl⟩
    rw [← hz6]
    replace h := h z6 hz6
    refine aw_aload_n dX12_numeral_73 rfl rfl ?_
    refine aw_lconst (x := 0) dX12_numeral_74 rfl ?_
    refine aw_putJ' rfl fk_1217 (Or.inl rfl) lf_X12_64 dX12_numeral_75 ?_
    refine aw_iload_n dX12_numeral_78 rfl rfl ?_
    refine aw_istore (L' := [some (vR 12 (some x0)), some (vI y0), some (vI ((gI σ 1214 x0 0) + 2)), some (vI z6), some (vI ((gI σ 1214 x0 0) + 2)), none]) dX12_numeral_79 (by decide) rfl ?_
    exact aw_fgt (L' := [some (vR 12 (some x0)), some (vI y0), none, some (vI z6), some (vI ((gI σ 1214 x0 0) + 2)), none]) ⟨rfl, ⟨rfl, ⟨rfl, ⟨rfl, trivial⟩⟩⟩⟩ h
set_option maxRecDepth 4000 in
theorem bk_X12_numeral_81 {g : GP} {l : Launch} {d : Nat} {σ : St} {Q : Option AV → St → Prop} {x0 : Nat} {x1 : Int} {x3 : Int} {x4 : Int}
    (h : (((gI σ 1215 x0 0) ≤ x4 → ((x3 ≤ 0 → Q (some (vI 0)) σ) ∧ (¬ x3 ≤ 0 → ((x1 = 0 → ((9 < x3 → Q (some (vI 0)) σ) ∧ (¬ 9 < x3 → Q (some (vI 1)) σ))) ∧ (¬ x1 = 0 → ((8 < x3 → Q (some (vI 0)) σ) ∧ (¬ 8 < x3 → Q (some (vI 1)) σ))))))) ∧ (¬ (gI σ 1215 x0 0) ≤ x4 → LC 12 σ x0 ∧ Bd x4 3000 ∧ ACi g l d MX12_digit [vR 12 (some x0), vI (gI σ 1210 x0 x4.toNat)] σ (fun v9 σ8 => ((¬ v9 = 0 → ((x1 = 0 → AW g l (d + 1) MX12_numeral 146 [some (vR 12 (some x0)), some (vI x1), none, some (vI x3), some (vI x4), some (vI (gI σ 1210 x0 x4.toNat))] [vJ 10, vJ (gJ σ8 1217 x0 0), vR 12 (some x0)] σ8 Q) ∧ (¬ x1 = 0 → AW g l (d + 1) MX12_numeral 146 [some (vR 12 (some x0)), some (vI x1), none, some (vI x3), some (vI x4), some (vI (gI σ 1210 x0 x4.toNat))] [vJ 16, vJ (gJ σ8 1217 x0 0), vR 12 (some x0)] σ8 Q))) ∧ (v9 = 0 → ((x1 = 0 → Q (some (vI 0)) σ8) ∧ (¬ x1 = 0 → (((gI σ 1210 x0 x4.toNat) < 97 → Q (some (vI 0)) σ8) ∧ (¬ (gI σ 1210 x0 x4.toNat) < 97 → (((gI σ 1210 x0 x4.toNat) ≤ 102 → AW g l (d + 1) MX12_numeral 146 [some (vR 12 (some x0)), some (vI x1), none, some (vI x3), some (vI x4), some (vI (gI σ 1210 x0 x4.toNat))] [vJ 16, vJ (gJ σ8 1217 x0 0), vR 12 (some x0)] σ8 Q) ∧ (¬ (gI σ 1210 x0 x4.toNat) ≤ 102 → Q (some (vI 0)) σ8)))))))))))) :
    AW g l (d + 1) MX12_numeral 81 [some (vR 12 (some x0)), some (vI x1), none, some (vI x3), some (vI x4), none] [] σ Q := by
  refine aw_iload dX12_numeral_81 rfl ?_
  refine aw_aload_n dX12_numeral_83 rfl rfl ?_
  refine aw_getI' rfl fk_1215 lf_X12_57 dX12_numeral_84 ?_
  refine aw_icmp_ge (tgt := 183) dX12_numeral_87 (by decide) (fun k1 => ?_) (fun k1 => ?_)
  · replace h := h.1 k1
    refine aw_iload_n dX12_numeral_183 rfl rfl ?_
    refine aw_if_le (tgt := 206) dX12_numeral_184 (by decide) (fun k2 => ?_) (fun k2 => ?_)
    · replace h := h.1 k2
      refine aw_iconst (x := 0) dX12_numeral_206 rfl ?_
      exact aw_zreturn dX12_numeral_207 rfl (Or.inl rfl) h
    · replace h := h.2 k2
      refine aw_iload_n dX12_numeral_187 rfl rfl ?_
      refine aw_iload_n dX12_numeral_188 rfl rfl ?_
      refine aw_if_eq (tgt := 197) dX12_numeral_189 (by decide) (fun k3 => ?_) (fun k3 => ?_)
      · replace h := h.1 k3
        refine aw_bipush (x := 9) dX12_numeral_197 rfl ?_
        refine aw_icmp_gt (tgt := 206) dX12_numeral_199 (by decide) (fun k4 => ?_) (fun k4 => ?_)
        · replace h := h.1 k4
          refine aw_iconst (x := 0) dX12_numeral_206 rfl ?_
          exact aw_zreturn dX12_numeral_207 rfl (Or.inl rfl) h
        · replace h := h.2 k4
          refine aw_iconst (x := 1) dX12_numeral_202 rfl ?_
          refine aw_goto (tgt := 207) dX12_numeral_203 (by decide) ?_
          exact aw_zreturn dX12_numeral_207 rfl (Or.inr rfl) h
      · replace h := h.2 k3
        refine aw_bipush (x := 8) dX12_numeral_192 rfl ?_
        refine aw_goto (tgt := 199) dX12_numeral_194 (by decide) ?_
        refine aw_icmp_gt (tgt := 206) dX12_numeral_199 (by decide) (fun k5 => ?_) (fun k5 => ?_)
        · replace h := h.1 k5
          refine aw_iconst (x := 0) dX12_numeral_206 rfl ?_
          exact aw_zreturn dX12_numeral_207 rfl (Or.inl rfl) h
        · replace h := h.2 k5
          refine aw_iconst (x := 1) dX12_numeral_202 rfl ?_
          refine aw_goto (tgt := 207) dX12_numeral_203 (by decide) ?_
          exact aw_zreturn dX12_numeral_207 rfl (Or.inr rfl) h
  · replace h := h.2 k1
    refine aw_aload_n dX12_numeral_90 rfl rfl ?_
    obtain ⟨lc6, h⟩ := h
    refine aw_getA' rfl fk_1210 (by decide) lf_X12_42 dX12_numeral_91 (LC.ne lc6 rfl rfl) ?_
    refine aw_iload dX12_numeral_94 rfl ?_
    obtain ⟨⟨c7, c7x⟩, h⟩ := h
    refine aw_iaload (by decide) rfl dX12_numeral_96 c7 (LC.lt lc6 rfl rfl c7x) ?_
    refine aw_istore (L' := [some (vR 12 (some x0)), some (vI x1), none, some (vI x3), some (vI x4), some (vI (gI σ 1210 x0 x4.toNat))]) dX12_numeral_97 (by decide) rfl ?_
    refine aw_aload_n dX12_numeral_99 rfl rfl ?_
    refine aw_iload dX12_numeral_100 rfl ?_
    refine aw_invVi (M := MX12_numeral) (ci := 12) [vI (gI σ 1210 x0 x4.toNat)] rfl mo_X12_digit rfl lm_X12_318 li_X12_digit ls_X12_digit (by decide +kernel) dX12_numeral_102 rfl (Nat.le_of_ble_eq_true rfl) (ACi.mono (fun v9 σ8 h => ?_) h)
    refine aw_if_ne (tgt := 128) dX12_numeral_105 (by decide) (fun k10 => ?_) (fun k10 => ?_)
    · replace h := h.1 k10
      refine aw_aload_n dX12_numeral_128 rfl rfl ?_
      refine aw_aload_n dX12_numeral_129 rfl rfl ?_
      refine aw_getJ' rfl fk_1217 lf_X12_64 dX12_numeral_130 ?_
      refine aw_iload_n dX12_numeral_133 rfl rfl ?_
      refine aw_if_eq (tgt := 143) dX12_numeral_134 (by decide) (fun k11 => ?_) (fun k11 => ?_)
      · replace h := h.1 k11
        refine aw_ldc2 lk_X12_330 dX12_numeral_143 ?_
        exact aw_fgt (L' := [some (vR 12 (some x0)), some (vI x1), none, some (vI x3), some (vI x4), some (vI (gI σ 1210 x0 x4.toNat))]) ⟨rfl, ⟨rfl, ⟨rfl, ⟨rfl, ⟨rfl, trivial⟩⟩⟩⟩⟩ h
      · replace h := h.2 k11
        refine aw_ldc2 lk_X12_328 dX12_numeral_137 ?_
        refine aw_goto (tgt := 146) dX12_numeral_140 (by decide) ?_
        exact aw_fgt (L' := [some (vR 12 (some x0)), some (vI x1), none, some (vI x3), some (vI x4), some (vI (gI σ 1210 x0 x4.toNat))]) ⟨rfl, ⟨rfl, ⟨rfl, ⟨rfl, ⟨rfl, trivial⟩⟩⟩⟩⟩ h
    · replace h := h.2 k10
      refine aw_iload_n dX12_numeral_108 rfl rfl ?_
      refine aw_if_eq (tgt := 126) dX12_numeral_109 (by decide) (fun k12 => ?_) (fun k12 => ?_)
      · replace h := h.1 k12
        refine aw_iconst (x := 0) dX12_numeral_126 rfl ?_
        exact aw_zreturn dX12_numeral_127 rfl (Or.inl rfl) h
      · replace h := h.2 k12
        refine aw_iload dX12_numeral_112 rfl ?_
        refine aw_bipush (x := 97) dX12_numeral_114 rfl ?_
        refine aw_icmp_lt (tgt := 126) dX12_numeral_116 (by decide) (fun k13 => ?_) (fun k13 => ?_)
        · replace h := h.1 k13
          refine aw_iconst (x := 0) dX12_numeral_126 rfl ?_
          exact aw_zreturn dX12_numeral_127 rfl (Or.inl rfl) h
        · replace h := h.2 k13
          refine aw_iload dX12_numeral_119 rfl ?_
          refine aw_bipush (x := 102) dX12_numeral_121 rfl ?_
          refine aw_icmp_le (tgt := 128) dX12_numeral_123 (by decide) (fun k14 => ?_) (fun k14 => ?_)
          · replace h := h.1 k14
            refine aw_aload_n dX12_numeral_128 rfl rfl ?_
            refine aw_aload_n dX12_numeral_129 rfl rfl ?_
            refine aw_getJ' rfl fk_1217 lf_X12_64 dX12_numeral_130 ?_
            refine aw_iload_n dX12_numeral_133 rfl rfl ?_
            refine aw_if_eq (tgt := 143) dX12_numeral_134 (by decide) (fun q => absurd q k12) (fun _ => ?_)
            refine aw_ldc2 lk_X12_328 dX12_numeral_137 ?_
            refine aw_goto (tgt := 146) dX12_numeral_140 (by decide) ?_
            exact aw_fgt (L' := [some (vR 12 (some x0)), some (vI x1), none, some (vI x3), some (vI x4), some (vI (gI σ 1210 x0 x4.toNat))]) ⟨rfl, ⟨rfl, ⟨rfl, ⟨rfl, ⟨rfl, trivial⟩⟩⟩⟩⟩ h
          · replace h := h.2 k14
            refine aw_iconst (x := 0) dX12_numeral_126 rfl ?_
            exact aw_zreturn dX12_numeral_127 rfl (Or.inl rfl) h
set_option maxRecDepth 4000 in
theorem bk_X12_numeral_146 {g : GP} {l : Launch} {d : Nat} {σ : St} {Q : Option AV → St → Prop} {x0 : Nat} {x1 : Int} {x3 : Int} {x4 : Int} {x5 : Int} {y0 : Int64} {y1 : Int64} {y2 : Option Nat}
    (h : ACi g l d MX12_digit [vR 12 (some x0), vI x5] σ (fun v2 σ1 => ((v2 = 0 → R32 (x5 - 97) ∧ R32 ((x5 - 97) + 10) ∧ ∃ r6, y2 = some r6 ∧ R32 (x4 + 1) ∧ AW g l (d + 1) MX12_numeral 81 [some (vR 12 (some x0)), some (vI x1), none, some (vI x3), some (vI (x4 + 1)), none] [] (sJ σ1 1217 r6 0 ((y1 * y0) + (i2j ((x5 - 97) + 10)))) Q) ∧ (¬ v2 = 0 → R32 (x5 - 48) ∧ ∃ r10, y2 = some r10 ∧ R32 (x4 + 1) ∧ AW g l (d + 1) MX12_numeral 81 [some (vR 12 (some x0)), some (vI x1), none, some (vI x3), some (vI (x4 + 1)), none] [] (sJ σ1 1217 r10 0 ((y1 * y0) + (i2j (x5 - 48)))) Q)))) :
    AW g l (d + 1) MX12_numeral 146 [some (vR 12 (some x0)), some (vI x1), none, some (vI x3), some (vI x4), some (vI x5)] [vJ y0, vJ y1, vR 12 y2] σ Q := by
  refine aw_lmul dX12_numeral_146 ?_
  refine aw_aload_n dX12_numeral_147 rfl rfl ?_
  refine aw_iload dX12_numeral_148 rfl ?_
  refine aw_invVi (M := MX12_numeral) (ci := 12) [vI x5] rfl mo_X12_digit rfl lm_X12_318 li_X12_digit ls_X12_digit (by decide +kernel) dX12_numeral_150 rfl (Nat.le_of_ble_eq_true rfl) (ACi.mono (fun v2 σ1 h => ?_) h)
  refine aw_if_eq (tgt := 164) dX12_numeral_153 (by decide) (fun k3 => ?_) (fun k3 => ?_)
  · replace h := h.1 k3
    refine aw_iload dX12_numeral_164 rfl ?_
    refine aw_bipush (x := 97) dX12_numeral_166 rfl ?_
    obtain ⟨⟨c4, c4x⟩, h⟩ := h
    refine aw_isubc dX12_numeral_168 c4 c4x ?_
    refine aw_bipush (x := 10) dX12_numeral_169 rfl ?_
    obtain ⟨⟨c5, c5x⟩, h⟩ := h
    refine aw_iaddc dX12_numeral_171 c5 c5x ?_
    refine aw_i2l dX12_numeral_172 ?_
    refine aw_ladd dX12_numeral_173 ?_
    obtain ⟨r6, e7, h⟩ := h
    refine aw_putJ' e7 fk_1217 (Or.inl rfl) lf_X12_64 dX12_numeral_174 ?_
    obtain ⟨⟨c8, c8x⟩, h⟩ := h
    refine aw_iincc (L' := [some (vR 12 (some x0)), some (vI x1), none, some (vI x3), some (vI (x4 + 1)), some (vI x5)]) dX12_numeral_177 rfl (by decide) rfl c8 c8x rfl ?_
    refine aw_goto (tgt := 81) dX12_numeral_180 (by decide) ?_
    exact aw_fgt (L' := [some (vR 12 (some x0)), some (vI x1), none, some (vI x3), some (vI (x4 + 1)), none]) ⟨rfl, ⟨rfl, ⟨rfl, ⟨rfl, trivial⟩⟩⟩⟩ h
  · replace h := h.2 k3
    refine aw_iload dX12_numeral_156 rfl ?_
    refine aw_bipush (x := 48) dX12_numeral_158 rfl ?_
    obtain ⟨⟨c9, c9x⟩, h⟩ := h
    refine aw_isubc dX12_numeral_160 c9 c9x ?_
    refine aw_goto (tgt := 172) dX12_numeral_161 (by decide) ?_
    refine aw_i2l dX12_numeral_172 ?_
    refine aw_ladd dX12_numeral_173 ?_
    obtain ⟨r10, e11, h⟩ := h
    refine aw_putJ' e11 fk_1217 (Or.inl rfl) lf_X12_64 dX12_numeral_174 ?_
    obtain ⟨⟨c12, c12x⟩, h⟩ := h
    refine aw_iincc (L' := [some (vR 12 (some x0)), some (vI x1), none, some (vI x3), some (vI (x4 + 1)), some (vI x5)]) dX12_numeral_177 rfl (by decide) rfl c12 c12x rfl ?_
    refine aw_goto (tgt := 81) dX12_numeral_180 (by decide) ?_
    exact aw_fgt (L' := [some (vR 12 (some x0)), some (vI x1), none, some (vI x3), some (vI (x4 + 1)), none]) ⟨rfl, ⟨rfl, ⟨rfl, ⟨rfl, trivial⟩⟩⟩⟩ h
set_option maxRecDepth 4000 in
theorem bk_X12_opens_0 {g : GP} {l : Launch} {d : Nat} {σ : St} {Q : Option AV → St → Prop} {x0 : Nat} {x1 : Int} {x2 : Int}
    (h : LC 12 σ x0 ∧ Bd (gI σ 1285 x0 0) 128 ∧ R32 ((gI σ 1285 x0 0) + 1) ∧ Q none (sI (sI (sI σ 1283 x0 (gI σ 1285 x0 0).toNat x1) 1284 x0 (gI σ 1285 x0 0).toNat x2) 1285 x0 0 ((gI σ 1285 x0 0) + 1))) :
    AW g l d MX12_opens 0 [some (vR 12 (some x0)), some (vI x1), some (vI x2)] [] σ Q := by
  refine aw_aload_n dX12_opens_0 rfl rfl ?_
  obtain ⟨lc1, h⟩ := h
  refine aw_getA' rfl fk_1283 (by decide) lf_X12_265 dX12_opens_1 (LC.ne lc1 rfl rfl) ?_
  refine aw_aload_n dX12_opens_4 rfl rfl ?_
  refine aw_getI' rfl fk_1285 lf_X12_271 dX12_opens_5 ?_
  refine aw_iload_n dX12_opens_8 rfl rfl ?_
  obtain ⟨⟨c2, c2x⟩, h⟩ := h
  refine aw_iastore (by decide) rfl dX12_opens_9 c2 (LC.lt lc1 rfl rfl c2x) ?_
  refine aw_aload_n dX12_opens_10 rfl rfl ?_
  refine aw_getA' rfl fk_1284 (by decide) lf_X12_268 dX12_opens_11 (LC.ne lc1 rfl rfl) ?_
  refine aw_aload_n dX12_opens_14 rfl rfl ?_
  refine aw_getIe (v := gI σ 1285 x0 0) rfl fk_1285 lf_X12_271 dX12_opens_15 rfl ?_
  refine aw_iload_n dX12_opens_18 rfl rfl ?_
  refine aw_iastore (by decide) rfl dX12_opens_19 c2 (LC.lt lc1 rfl rfl c2x) ?_
  refine aw_aload_n dX12_opens_20 rfl rfl ?_
  refine aw_dup dX12_opens_21 rfl ?_
  refine aw_getIe (v := gI σ 1285 x0 0) rfl fk_1285 lf_X12_271 dX12_opens_22 rfl ?_
  refine aw_iconst (x := 1) dX12_opens_25 rfl ?_
  obtain ⟨⟨c3, c3x⟩, h⟩ := h
  refine aw_iaddc dX12_opens_26 c3 c3x ?_
  refine aw_putI' rfl fk_1285 (Or.inl rfl) lf_X12_271 dX12_opens_27 ?_
  exact aw_ret h rfl dX12_opens_30
set_option maxRecDepth 4000 in
theorem bk_X12_operand_0 {g : GP} {l : Launch} {d : Nat} {σ : St} {Q : Option AV → St → Prop} {x0 : Nat}
    (h : AW g l (d + 1) MX12_operand 2 [some (vR 12 (some x0)), some (vI 0), none] [] σ Q) :
    AW g l (d + 1) MX12_operand 0 [some (vR 12 (some x0)), none, none] [] σ Q := by
  refine aw_iconst (x := 0) dX12_operand_0 rfl ?_
  refine aw_istore_n (L' := [some (vR 12 (some x0)), some (vI 0), none]) dX12_operand_1 rfl (by decide) rfl ?_
  exact aw_fgt (L' := [some (vR 12 (some x0)), some (vI 0), none]) ⟨rfl, ⟨rfl, trivial⟩⟩ h
set_option maxRecDepth 4000 in
theorem bk_X12_operand_2 {g : GP} {l : Launch} {d : Nat} {σ : St} {Q : Option AV → St → Prop} {x0 : Nat} {x1 : Int}
    (h : ((¬ x1 = 0 → AW g l (d + 1) MX12_operand 126 [some (vR 12 (some x0)), none, none] [] σ Q) ∧ (x1 = 0 → ((¬ (gI σ 1251 x0 0) = 0 → AW g l (d + 1) MX12_operand 126 [some (vR 12 (some x0)), none, none] [] σ Q) ∧ ((gI σ 1251 x0 0) = 0 → ACi g l d MX12_isSign [vR 12 (some x0), vI 45] σ (fun v4 σ3 => ((v4 = 0 → ACi g l d MX12_isWord [vR 12 (some x0), vJ 7237492] σ3 (fun v7 σ6 => ((v7 = 0 → ACi g l d MX12_isSign [vR 12 (some x0), vI 40] σ6 (fun v10 σ9 => ((v10 = 0 → AW g l (d + 1) MX12_operand 56 [some (vR 12 (some x0)), some (vI x1), none] [vI (-1)] σ9 Q) ∧ (¬ v10 = 0 → AW g l (d + 1) MX12_operand 56 [some (vR 12 (some x0)), some (vI x1), none] [vI 18] σ9 Q)))) ∧ (¬ v7 = 0 → AW g l (d + 1) MX12_operand 56 [some (vR 12 (some x0)), some (vI x1), none] [vI 6] σ6 Q)))) ∧ (¬ v4 = 0 → AW g l (d + 1) MX12_operand 56 [some (vR 12 (some x0)), some (vI x1), none] [vI 5] σ3 Q)))))))) :
    AW g l (d + 1) MX12_operand 2 [some (vR 12 (some x0)), some (vI x1), none] [] σ Q := by
  refine aw_iload_n dX12_operand_2 rfl rfl ?_
  refine aw_if_ne (tgt := 126) dX12_operand_3 (by decide) (fun k1 => ?_) (fun k1 => ?_)
  · replace h := h.1 k1
    exact aw_fgt (L' := [some (vR 12 (some x0)), none, none]) ⟨rfl, trivial⟩ h
  · replace h := h.2 k1
    refine aw_aload_n dX12_operand_6 rfl rfl ?_
    refine aw_getI' rfl fk_1251 lf_X12_167 dX12_operand_7 ?_
    refine aw_if_ne (tgt := 126) dX12_operand_10 (by decide) (fun k2 => ?_) (fun k2 => ?_)
    · replace h := h.1 k2
      exact aw_fgt (L' := [some (vR 12 (some x0)), none, none]) ⟨rfl, trivial⟩ h
    · replace h := h.2 k2
      refine aw_aload_n dX12_operand_13 rfl rfl ?_
      refine aw_bipush (x := 45) dX12_operand_14 rfl ?_
      refine aw_invVi (M := MX12_operand) (ci := 12) [vI 45] rfl mo_X12_isSign rfl lm_X12_401 li_X12_isSign ls_X12_isSign (by decide +kernel) dX12_operand_16 rfl (Nat.le_of_ble_eq_true rfl) (ACi.mono (fun v4 σ3 h => ?_) h)
      refine aw_if_eq (tgt := 26) dX12_operand_19 (by decide) (fun k5 => ?_) (fun k5 => ?_)
      · replace h := h.1 k5
        refine aw_aload_n dX12_operand_26 rfl rfl ?_
        refine aw_ldc2 lk_X12_388 dX12_operand_27 ?_
        refine aw_invVi (M := MX12_operand) (ci := 12) [vJ 7237492] rfl mo_X12_isWord rfl lm_X12_334 li_X12_isWord ls_X12_isWord (by decide +kernel) dX12_operand_30 rfl (Nat.le_of_ble_eq_true rfl) (ACi.mono (fun v7 σ6 h => ?_) h)
        refine aw_if_eq (tgt := 41) dX12_operand_33 (by decide) (fun k8 => ?_) (fun k8 => ?_)
        · replace h := h.1 k8
          refine aw_aload_n dX12_operand_41 rfl rfl ?_
          refine aw_bipush (x := 40) dX12_operand_42 rfl ?_
          refine aw_invVi (M := MX12_operand) (ci := 12) [vI 40] rfl mo_X12_isSign rfl lm_X12_401 li_X12_isSign ls_X12_isSign (by decide +kernel) dX12_operand_44 rfl (Nat.le_of_ble_eq_true rfl) (ACi.mono (fun v10 σ9 h => ?_) h)
          refine aw_if_eq (tgt := 55) dX12_operand_47 (by decide) (fun k11 => ?_) (fun k11 => ?_)
          · replace h := h.1 k11
            refine aw_iconst (x := (-1)) dX12_operand_55 rfl ?_
            exact aw_fgt (L' := [some (vR 12 (some x0)), some (vI x1), none]) ⟨rfl, ⟨rfl, trivial⟩⟩ h
          · replace h := h.2 k11
            refine aw_bipush (x := 18) dX12_operand_50 rfl ?_
            refine aw_goto (tgt := 56) dX12_operand_52 (by decide) ?_
            exact aw_fgt (L' := [some (vR 12 (some x0)), some (vI x1), none]) ⟨rfl, ⟨rfl, trivial⟩⟩ h
        · replace h := h.2 k8
          refine aw_bipush (x := 6) dX12_operand_36 rfl ?_
          refine aw_goto (tgt := 56) dX12_operand_38 (by decide) ?_
          exact aw_fgt (L' := [some (vR 12 (some x0)), some (vI x1), none]) ⟨rfl, ⟨rfl, trivial⟩⟩ h
      · replace h := h.2 k5
        refine aw_iconst (x := 5) dX12_operand_22 rfl ?_
        refine aw_goto (tgt := 56) dX12_operand_23 (by decide) ?_
        exact aw_fgt (L' := [some (vR 12 (some x0)), some (vI x1), none]) ⟨rfl, ⟨rfl, trivial⟩⟩ h
set_option maxRecDepth 4000 in
theorem bk_X12_operand_56 {g : GP} {l : Launch} {d : Nat} {σ : St} {Q : Option AV → St → Prop} {x0 : Nat} {x1 : Int} {y0 : Int}
    (h : ((¬ y0 = (-1) → ((15 ≤ (gI σ 1255 x0 0) → AW g l (d + 1) MX12_operand 82 [some (vR 12 (some x0)), some (vI x1), some (vI y0)] [vI 0, vR 12 (some x0)] σ Q) ∧ (¬ 15 ≤ (gI σ 1255 x0 0) → AW g l (d + 1) MX12_operand 82 [some (vR 12 (some x0)), some (vI x1), some (vI y0)] [vI 1, vR 12 (some x0)] σ Q))) ∧ (y0 = (-1) → AW g l (d + 1) MX12_operand 2 [some (vR 12 (some x0)), some (vI 1), none] [] σ Q))) :
    AW g l (d + 1) MX12_operand 56 [some (vR 12 (some x0)), some (vI x1), none] [vI y0] σ Q := by
  refine aw_istore_n (L' := [some (vR 12 (some x0)), some (vI x1), some (vI y0)]) dX12_operand_56 rfl (by decide) rfl ?_
  refine aw_iload_n dX12_operand_57 rfl rfl ?_
  refine aw_iconst (x := (-1)) dX12_operand_58 rfl ?_
  refine aw_icmp_ne (tgt := 67) dX12_operand_59 (by decide) (fun k1 => ?_) (fun k1 => ?_)
  · replace h := h.1 k1
    refine aw_aload_n dX12_operand_67 rfl rfl ?_
    refine aw_aload_n dX12_operand_68 rfl rfl ?_
    refine aw_getI' rfl fk_1255 lf_X12_179 dX12_operand_69 ?_
    refine aw_bipush (x := 15) dX12_operand_72 rfl ?_
    refine aw_icmp_ge (tgt := 81) dX12_operand_74 (by decide) (fun k2 => ?_) (fun k2 => ?_)
    · replace h := h.1 k2
      refine aw_iconst (x := 0) dX12_operand_81 rfl ?_
      exact aw_fgt (L' := [some (vR 12 (some x0)), some (vI x1), some (vI y0)]) ⟨rfl, ⟨rfl, ⟨rfl, trivial⟩⟩⟩ h
    · replace h := h.2 k2
      refine aw_iconst (x := 1) dX12_operand_77 rfl ?_
      refine aw_goto (tgt := 82) dX12_operand_78 (by decide) ?_
      exact aw_fgt (L' := [some (vR 12 (some x0)), some (vI x1), some (vI y0)]) ⟨rfl, ⟨rfl, ⟨rfl, trivial⟩⟩⟩ h
  · replace h := h.2 k1
    refine aw_iconst (x := 1) dX12_operand_62 rfl ?_
    refine aw_istore_n (L' := [some (vR 12 (some x0)), some (vI 1), some (vI y0)]) dX12_operand_63 rfl (by decide) rfl ?_
    refine aw_goto (tgt := 123) dX12_operand_64 (by decide) ?_
    refine aw_goto (tgt := 2) dX12_operand_123 (by decide) ?_
    exact aw_fgt (L' := [some (vR 12 (some x0)), some (vI 1), none]) ⟨rfl, ⟨rfl, trivial⟩⟩ h
set_option maxRecDepth 4000 in
theorem bk_X12_operand_82 {g : GP} {l : Launch} {d : Nat} {σ : St} {Q : Option AV → St → Prop} {x0 : Nat} {x1 : Int} {x2 : Int} {y0 : Int} {y1 : Option Nat}
    (h : ∃ r1, y1 = some r1 ∧ ACi g l d MX12_must [vR 12 (some r1), vI y0, vI 5] σ (fun v4 σ3 => ((v4 = 0 → AW g l (d + 1) MX12_operand 2 [some (vR 12 (some x0)), some (vI x1), none] [] σ3 Q) ∧ (¬ v4 = 0 → R32 ((gI σ3 1255 x0 0) + 1) ∧ LC 12 σ3 x0 ∧ Bd (gI σ3 1260 x0 0) 128 ∧ R32 ((gI σ3 1260 x0 0) + 1) ∧ ACv g l d MX12_next [vR 12 (some x0)] (sI (sI (sI σ3 1255 x0 0 ((gI σ3 1255 x0 0) + 1)) 1258 x0 (gI σ3 1260 x0 0).toNat x2) 1260 x0 0 ((gI σ3 1260 x0 0) + 1)) (fun σ10 => AW g l (d + 1) MX12_operand 2 [some (vR 12 (some x0)), some (vI x1), none] [] σ10 Q))))) :
    AW g l (d + 1) MX12_operand 82 [some (vR 12 (some x0)), some (vI x1), some (vI x2)] [vI y0, vR 12 y1] σ Q := by
  refine aw_iconst (x := 5) dX12_operand_82 rfl ?_
  obtain ⟨r1, e2, h⟩ := h
  refine aw_invVi (M := MX12_operand) (ci := 12) [vI y0, vI 5] e2 mo_X12_must rfl lm_X12_404 li_X12_must ls_X12_must (by decide +kernel) dX12_operand_83 rfl (Nat.le_of_ble_eq_true rfl) (ACi.mono (fun v4 σ3 h => ?_) h)
  refine aw_if_eq (tgt := 123) dX12_operand_86 (by decide) (fun k5 => ?_) (fun k5 => ?_)
  · replace h := h.1 k5
    refine aw_goto (tgt := 2) dX12_operand_123 (by decide) ?_
    exact aw_fgt (L' := [some (vR 12 (some x0)), some (vI x1), none]) ⟨rfl, ⟨rfl, trivial⟩⟩ h
  · replace h := h.2 k5
    refine aw_aload_n dX12_operand_89 rfl rfl ?_
    refine aw_dup dX12_operand_90 rfl ?_
    refine aw_getI' rfl fk_1255 lf_X12_179 dX12_operand_91 ?_
    refine aw_iconst (x := 1) dX12_operand_94 rfl ?_
    obtain ⟨⟨c6, c6x⟩, h⟩ := h
    refine aw_iaddc dX12_operand_95 c6 c6x ?_
    refine aw_putI' rfl fk_1255 (Or.inl rfl) lf_X12_179 dX12_operand_96 ?_
    refine aw_aload_n dX12_operand_99 rfl rfl ?_
    obtain ⟨lc7, h⟩ := h
    refine aw_getA' rfl fk_1258 (by decide) lf_X12_189 dX12_operand_100 (LC.ne lc7 rfl rfl) ?_
    refine aw_aload_n dX12_operand_103 rfl rfl ?_
    refine aw_getIe (v := gI σ3 1260 x0 0) rfl fk_1260 lf_X12_195 dX12_operand_104 rfl ?_
    refine aw_iload_n dX12_operand_107 rfl rfl ?_
    obtain ⟨⟨c8, c8x⟩, h⟩ := h
    refine aw_iastore (by decide) rfl dX12_operand_108 c8 (LC.lt lc7 rfl rfl c8x) ?_
    refine aw_aload_n dX12_operand_109 rfl rfl ?_
    refine aw_dup dX12_operand_110 rfl ?_
    refine aw_getIe (v := gI σ3 1260 x0 0) rfl fk_1260 lf_X12_195 dX12_operand_111 rfl ?_
    refine aw_iconst (x := 1) dX12_operand_114 rfl ?_
    obtain ⟨⟨c9, c9x⟩, h⟩ := h
    refine aw_iaddc dX12_operand_115 c9 c9x ?_
    refine aw_putI' rfl fk_1260 (Or.inl rfl) lf_X12_195 dX12_operand_116 ?_
    refine aw_aload_n dX12_operand_119 rfl rfl ?_
    refine aw_invVv (M := MX12_operand) (ci := 12) [] rfl mo_X12_next rfl lm_X12_408 li_X12_next ls_X12_next (by decide +kernel) dX12_operand_120 rfl (Nat.le_of_ble_eq_true rfl) (ACv.mono (fun σ10 h => ?_) h)
    refine aw_goto (tgt := 2) dX12_operand_123 (by decide) ?_
    exact aw_fgt (L' := [some (vR 12 (some x0)), some (vI x1), none]) ⟨rfl, ⟨rfl, trivial⟩⟩ h
set_option maxRecDepth 4000 in
theorem bk_X12_operand_126 {g : GP} {l : Launch} {d : Nat} {σ : St} {Q : Option AV → St → Prop} {x0 : Nat}
    (h : (((gI σ 1251 x0 0) ≤ 0 → ACi g l d MX12_single [vR 12 (some x0)] σ (fun v3 σ2 => (((gI σ2 1251 x0 0) ≤ 0 → LC 12 σ2 x0 ∧ Bd (gI σ2 1261 x0 0) 128 ∧ R32 ((gI σ2 1261 x0 0) + 1) ∧ ACv g l d MX12_joinAll [vR 12 (some x0), vI 6] (sI (sI σ2 1259 x0 (gI σ2 1261 x0 0).toNat v3) 1261 x0 0 ((gI σ2 1261 x0 0) + 1)) (fun σ8 => Q none σ8)) ∧ (¬ (gI σ2 1251 x0 0) ≤ 0 → Q none σ2)))) ∧ (¬ (gI σ 1251 x0 0) ≤ 0 → Q none σ))) :
    AW g l (d + 1) MX12_operand 126 [some (vR 12 (some x0)), none, none] [] σ Q := by
  refine aw_aload_n dX12_operand_126 rfl rfl ?_
  refine aw_getI' rfl fk_1251 lf_X12_167 dX12_operand_127 ?_
  refine aw_if_le (tgt := 134) dX12_operand_130 (by decide) (fun k1 => ?_) (fun k1 => ?_)
  · replace h := h.1 k1
    refine aw_aload_n dX12_operand_134 rfl rfl ?_
    refine aw_invVi (M := MX12_operand) (ci := 12) [] rfl mo_X12_single rfl lm_X12_545 li_X12_single ls_X12_single (by decide +kernel) dX12_operand_135 rfl (Nat.le_of_ble_eq_true rfl) (ACi.mono (fun v3 σ2 h => ?_) h)
    refine aw_istore_n (L' := [some (vR 12 (some x0)), none, some (vI v3)]) dX12_operand_138 rfl (by decide) rfl ?_
    refine aw_aload_n dX12_operand_139 rfl rfl ?_
    refine aw_getI' rfl fk_1251 lf_X12_167 dX12_operand_140 ?_
    refine aw_if_le (tgt := 147) dX12_operand_143 (by decide) (fun k4 => ?_) (fun k4 => ?_)
    · replace h := h.1 k4
      refine aw_aload_n dX12_operand_147 rfl rfl ?_
      obtain ⟨lc5, h⟩ := h
      refine aw_getA' rfl fk_1259 (by decide) lf_X12_192 dX12_operand_148 (LC.ne lc5 rfl rfl) ?_
      refine aw_aload_n dX12_operand_151 rfl rfl ?_
      refine aw_getI' rfl fk_1261 lf_X12_198 dX12_operand_152 ?_
      refine aw_iload_n dX12_operand_155 rfl rfl ?_
      obtain ⟨⟨c6, c6x⟩, h⟩ := h
      refine aw_iastore (by decide) rfl dX12_operand_156 c6 (LC.lt lc5 rfl rfl c6x) ?_
      refine aw_aload_n dX12_operand_157 rfl rfl ?_
      refine aw_dup dX12_operand_158 rfl ?_
      refine aw_getIe (v := gI σ2 1261 x0 0) rfl fk_1261 lf_X12_198 dX12_operand_159 rfl ?_
      refine aw_iconst (x := 1) dX12_operand_162 rfl ?_
      obtain ⟨⟨c7, c7x⟩, h⟩ := h
      refine aw_iaddc dX12_operand_163 c7 c7x ?_
      refine aw_putI' rfl fk_1261 (Or.inl rfl) lf_X12_198 dX12_operand_164 ?_
      refine aw_aload_n dX12_operand_167 rfl rfl ?_
      refine aw_bipush (x := 6) dX12_operand_168 rfl ?_
      refine aw_invVv (M := MX12_operand) (ci := 12) [vI 6] rfl mo_X12_joinAll rfl lm_X12_542 li_X12_joinAll ls_X12_joinAll (by decide +kernel) dX12_operand_170 rfl (Nat.le_of_ble_eq_true rfl) (ACv.mono (fun σ8 h => ?_) h)
      exact aw_ret h rfl dX12_operand_173
    · replace h := h.2 k4
      exact aw_ret h rfl dX12_operand_146
  · replace h := h.2 k1
    exact aw_ret h rfl dX12_operand_133
set_option maxRecDepth 4000 in
theorem bk_X12_operator_0 {g : GP} {l : Launch} {d : Nat} {σ : St} {Q : Option AV → St → Prop} {x0 : Nat}
    (h : ACi g l d MX12_isWord [vR 12 (some x0), vJ 28530] σ (fun v2 σ1 => ((v2 = 0 → ACi g l d MX12_isWord [vR 12 (some x0), vJ 6385252] σ1 (fun v5 σ4 => ((v5 = 0 → (((gI σ4 1213 x0 0) = 3 → ((¬ (j2i (gJ σ4 1217 x0 0)) = 61 → ((¬ (j2i (gJ σ4 1217 x0 0)) = 60 → ((¬ (j2i (gJ σ4 1217 x0 0)) = 62 → ((¬ (j2i (gJ σ4 1217 x0 0)) = 43 → ((¬ (j2i (gJ σ4 1217 x0 0)) = 45 → ((¬ (j2i (gJ σ4 1217 x0 0)) = 42 → ((¬ (j2i (gJ σ4 1217 x0 0)) = 47 → ((¬ (j2i (gJ σ4 1217 x0 0)) = 37 → ((¬ (j2i (gJ σ4 1217 x0 0)) = 38 → Q (some (vI (-1))) σ4) ∧ ((j2i (gJ σ4 1217 x0 0)) = 38 → Q (some (vI 12)) σ4))) ∧ ((j2i (gJ σ4 1217 x0 0)) = 37 → Q (some (vI 11)) σ4))) ∧ ((j2i (gJ σ4 1217 x0 0)) = 47 → Q (some (vI 10)) σ4))) ∧ ((j2i (gJ σ4 1217 x0 0)) = 42 → Q (some (vI 9)) σ4))) ∧ ((j2i (gJ σ4 1217 x0 0)) = 45 → Q (some (vI 8)) σ4))) ∧ ((j2i (gJ σ4 1217 x0 0)) = 43 → Q (some (vI 7)) σ4))) ∧ ((j2i (gJ σ4 1217 x0 0)) = 62 → Q (some (vI 15)) σ4))) ∧ ((j2i (gJ σ4 1217 x0 0)) = 60 → Q (some (vI 14)) σ4))) ∧ ((j2i (gJ σ4 1217 x0 0)) = 61 → Q (some (vI 13)) σ4))) ∧ (¬ (gI σ4 1213 x0 0) = 3 → Q (some (vI (-1))) σ4))) ∧ (¬ v5 = 0 → Q (some (vI 16)) σ4)))) ∧ (¬ v2 = 0 → Q (some (vI 17)) σ1)))) :
    AW g l (d + 1) MX12_operator 0 [some (vR 12 (some x0)), none] [] σ Q := by
  refine aw_aload_n dX12_operator_0 rfl rfl ?_
  refine aw_ldc2 lk_X12_386 dX12_operator_1 ?_
  refine aw_invVi (M := MX12_operator) (ci := 12) [vJ 28530] rfl mo_X12_isWord rfl lm_X12_334 li_X12_isWord ls_X12_isWord (by decide +kernel) dX12_operator_4 rfl (Nat.le_of_ble_eq_true rfl) (ACi.mono (fun v2 σ1 h => ?_) h)
  refine aw_if_eq (tgt := 13) dX12_operator_7 (by decide) (fun k3 => ?_) (fun k3 => ?_)
  · replace h := h.1 k3
    refine aw_aload_n dX12_operator_13 rfl rfl ?_
    refine aw_ldc2 lk_X12_384 dX12_operator_14 ?_
    refine aw_invVi (M := MX12_operator) (ci := 12) [vJ 6385252] rfl mo_X12_isWord rfl lm_X12_334 li_X12_isWord ls_X12_isWord (by decide +kernel) dX12_operator_17 rfl (Nat.le_of_ble_eq_true rfl) (ACi.mono (fun v5 σ4 h => ?_) h)
    refine aw_if_eq (tgt := 26) dX12_operator_20 (by decide) (fun k6 => ?_) (fun k6 => ?_)
    · replace h := h.1 k6
      refine aw_aload_n dX12_operator_26 rfl rfl ?_
      refine aw_getI' rfl fk_1213 lf_X12_51 dX12_operator_27 ?_
      refine aw_iconst (x := 3) dX12_operator_30 rfl ?_
      refine aw_icmp_eq (tgt := 36) dX12_operator_31 (by decide) (fun k7 => ?_) (fun k7 => ?_)
      · replace h := h.1 k7
        refine aw_aload_n dX12_operator_36 rfl rfl ?_
        refine aw_getJ' rfl fk_1217 lf_X12_64 dX12_operator_37 ?_
        refine aw_l2i dX12_operator_40 ?_
        refine aw_istore_n (L' := [some (vR 12 (some x0)), some (vI (j2i (gJ σ4 1217 x0 0)))]) dX12_operator_41 rfl (by decide) rfl ?_
        refine aw_iload_n dX12_operator_42 rfl rfl ?_
        refine aw_bipush (x := 61) dX12_operator_43 rfl ?_
        refine aw_icmp_ne (tgt := 53) dX12_operator_45 (by decide) (fun k8 => ?_) (fun k8 => ?_)
        · replace h := h.1 k8
          refine aw_iload_n dX12_operator_53 rfl rfl ?_
          refine aw_bipush (x := 60) dX12_operator_54 rfl ?_
          refine aw_icmp_ne (tgt := 64) dX12_operator_56 (by decide) (fun k9 => ?_) (fun k9 => ?_)
          · replace h := h.1 k9
            refine aw_iload_n dX12_operator_64 rfl rfl ?_
            refine aw_bipush (x := 62) dX12_operator_65 rfl ?_
            refine aw_icmp_ne (tgt := 75) dX12_operator_67 (by decide) (fun k10 => ?_) (fun k10 => ?_)
            · replace h := h.1 k10
              refine aw_iload_n dX12_operator_75 rfl rfl ?_
              refine aw_bipush (x := 43) dX12_operator_76 rfl ?_
              refine aw_icmp_ne (tgt := 86) dX12_operator_78 (by decide) (fun k11 => ?_) (fun k11 => ?_)
              · replace h := h.1 k11
                refine aw_iload_n dX12_operator_86 rfl rfl ?_
                refine aw_bipush (x := 45) dX12_operator_87 rfl ?_
                refine aw_icmp_ne (tgt := 97) dX12_operator_89 (by decide) (fun k12 => ?_) (fun k12 => ?_)
                · replace h := h.1 k12
                  refine aw_iload_n dX12_operator_97 rfl rfl ?_
                  refine aw_bipush (x := 42) dX12_operator_98 rfl ?_
                  refine aw_icmp_ne (tgt := 108) dX12_operator_100 (by decide) (fun k13 => ?_) (fun k13 => ?_)
                  · replace h := h.1 k13
                    refine aw_iload_n dX12_operator_108 rfl rfl ?_
                    refine aw_bipush (x := 47) dX12_operator_109 rfl ?_
                    refine aw_icmp_ne (tgt := 119) dX12_operator_111 (by decide) (fun k14 => ?_) (fun k14 => ?_)
                    · replace h := h.1 k14
                      refine aw_iload_n dX12_operator_119 rfl rfl ?_
                      refine aw_bipush (x := 37) dX12_operator_120 rfl ?_
                      refine aw_icmp_ne (tgt := 130) dX12_operator_122 (by decide) (fun k15 => ?_) (fun k15 => ?_)
                      · replace h := h.1 k15
                        refine aw_iload_n dX12_operator_130 rfl rfl ?_
                        refine aw_bipush (x := 38) dX12_operator_131 rfl ?_
                        refine aw_icmp_ne (tgt := 141) dX12_operator_133 (by decide) (fun k16 => ?_) (fun k16 => ?_)
                        · replace h := h.1 k16
                          refine aw_iconst (x := (-1)) dX12_operator_141 rfl ?_
                          exact aw_ireturn dX12_operator_142 rfl h
                        · replace h := h.2 k16
                          refine aw_bipush (x := 12) dX12_operator_136 rfl ?_
                          refine aw_goto (tgt := 142) dX12_operator_138 (by decide) ?_
                          exact aw_ireturn dX12_operator_142 rfl h
                      · replace h := h.2 k15
                        refine aw_bipush (x := 11) dX12_operator_125 rfl ?_
                        refine aw_goto (tgt := 142) dX12_operator_127 (by decide) ?_
                        exact aw_ireturn dX12_operator_142 rfl h
                    · replace h := h.2 k14
                      refine aw_bipush (x := 10) dX12_operator_114 rfl ?_
                      refine aw_goto (tgt := 142) dX12_operator_116 (by decide) ?_
                      exact aw_ireturn dX12_operator_142 rfl h
                  · replace h := h.2 k13
                    refine aw_bipush (x := 9) dX12_operator_103 rfl ?_
                    refine aw_goto (tgt := 142) dX12_operator_105 (by decide) ?_
                    exact aw_ireturn dX12_operator_142 rfl h
                · replace h := h.2 k12
                  refine aw_bipush (x := 8) dX12_operator_92 rfl ?_
                  refine aw_goto (tgt := 142) dX12_operator_94 (by decide) ?_
                  exact aw_ireturn dX12_operator_142 rfl h
              · replace h := h.2 k11
                refine aw_bipush (x := 7) dX12_operator_81 rfl ?_
                refine aw_goto (tgt := 142) dX12_operator_83 (by decide) ?_
                exact aw_ireturn dX12_operator_142 rfl h
            · replace h := h.2 k10
              refine aw_bipush (x := 15) dX12_operator_70 rfl ?_
              refine aw_goto (tgt := 142) dX12_operator_72 (by decide) ?_
              exact aw_ireturn dX12_operator_142 rfl h
          · replace h := h.2 k9
            refine aw_bipush (x := 14) dX12_operator_59 rfl ?_
            refine aw_goto (tgt := 142) dX12_operator_61 (by decide) ?_
            exact aw_ireturn dX12_operator_142 rfl h
        · replace h := h.2 k8
          refine aw_bipush (x := 13) dX12_operator_48 rfl ?_
          refine aw_goto (tgt := 142) dX12_operator_50 (by decide) ?_
          exact aw_ireturn dX12_operator_142 rfl h
      · replace h := h.2 k7
        refine aw_iconst (x := (-1)) dX12_operator_34 rfl ?_
        exact aw_ireturn dX12_operator_35 rfl h
    · replace h := h.2 k6
      refine aw_bipush (x := 16) dX12_operator_23 rfl ?_
      exact aw_ireturn dX12_operator_25 rfl h
  · replace h := h.2 k3
    refine aw_bipush (x := 17) dX12_operator_10 rfl ?_
    exact aw_ireturn dX12_operator_12 rfl h
set_option maxRecDepth 4000 in
theorem bk_X12_out_0 {g : GP} {l : Launch} {d : Nat} {σ : St} {Q : Option AV → St → Prop} {x0 : Nat}
    (h : Q (some (vJ (gJ σ 1290 x0 0))) σ) :
    AW g l d MX12_out 0 [some (vR 12 (some x0))] [] σ Q := by
  refine aw_aload_n dX12_out_0 rfl rfl ?_
  refine aw_getJ' rfl fk_1290 lf_X12_286 dX12_out_1 ?_
  exact aw_lreturn dX12_out_4 rfl h
set_option maxRecDepth 4000 in
theorem bk_X12_outward_0 {g : GP} {l : Launch} {d : Nat} {σ : St} {Q : Option AV → St → Prop} {x0 : Nat} {x1 : Int}
    (h : ((0 ≤ x1 → R32 (400 * (gI σ 1280 x0 0)) ∧ R32 (x1 - (400 * (gI σ 1280 x0 0))) ∧ Q (some (vI (x1 - (400 * (gI σ 1280 x0 0))))) σ) ∧ (¬ 0 ≤ x1 → Q (some (vI (-1))) σ))) :
    AW g l d MX12_outward 0 [some (vR 12 (some x0)), some (vI x1)] [] σ Q := by
  refine aw_iload_n dX12_outward_0 rfl rfl ?_
  refine aw_if_ge (tgt := 8) dX12_outward_1 (by decide) (fun k1 => ?_) (fun k1 => ?_)
  · replace h := h.1 k1
    refine aw_iload_n dX12_outward_8 rfl rfl ?_
    refine aw_sipush (x := 400) dX12_outward_9 rfl ?_
    refine aw_aload_n dX12_outward_12 rfl rfl ?_
    refine aw_getI' rfl fk_1280 lf_X12_256 dX12_outward_13 ?_
    obtain ⟨⟨c2, c2x⟩, h⟩ := h
    refine aw_imulc dX12_outward_16 c2 c2x ?_
    obtain ⟨⟨c3, c3x⟩, h⟩ := h
    refine aw_isubc dX12_outward_17 c3 c3x ?_
    exact aw_ireturn dX12_outward_18 rfl h
  · replace h := h.2 k1
    refine aw_iconst (x := (-1)) dX12_outward_4 rfl ?_
    refine aw_goto (tgt := 18) dX12_outward_5 (by decide) ?_
    exact aw_ireturn dX12_outward_18 rfl h
set_option maxRecDepth 4000 in
theorem bk_X12_pair_0 {g : GP} {l : Launch} {d : Nat} {σ : St} {Q : Option AV → St → Prop} {x0 : Nat} {x1 : Int}
    (h : ((0 < (gI σ 1251 x0 0) → Q none σ) ∧ (¬ 0 < (gI σ 1251 x0 0) → ACi g l d MX12_isName [vR 12 (some x0)] σ (fun v3 σ2 => ACi g l d MX12_must [vR 12 (some x0), vI v3, vI 2] σ2 (fun v5 σ4 => ((¬ v5 = 0 → AW g l (d + 1) MX12_pair 22 [some (vR 12 (some x0)), some (vI x1), some (vI 0)] [] σ4 Q) ∧ (v5 = 0 → Q none σ4))))))) :
    AW g l (d + 1) MX12_pair 0 [some (vR 12 (some x0)), some (vI x1), none] [] σ Q := by
  refine aw_aload_n dX12_pair_0 rfl rfl ?_
  refine aw_getI' rfl fk_1251 lf_X12_167 dX12_pair_1 ?_
  refine aw_if_gt (tgt := 19) dX12_pair_4 (by decide) (fun k1 => ?_) (fun k1 => ?_)
  · replace h := h.1 k1
    exact aw_ret h rfl dX12_pair_19
  · replace h := h.2 k1
    refine aw_aload_n dX12_pair_7 rfl rfl ?_
    refine aw_aload_n dX12_pair_8 rfl rfl ?_
    refine aw_invVi (M := MX12_pair) (ci := 12) [] rfl mo_X12_isName rfl lm_X12_418 li_X12_isName ls_X12_isName (by decide +kernel) dX12_pair_9 rfl (Nat.le_of_ble_eq_true rfl) (ACi.mono (fun v3 σ2 h => ?_) h)
    refine aw_iconst (x := 2) dX12_pair_12 rfl ?_
    refine aw_invVi (M := MX12_pair) (ci := 12) [vI v3, vI 2] rfl mo_X12_must rfl lm_X12_404 li_X12_must ls_X12_must (by decide +kernel) dX12_pair_13 rfl (Nat.le_of_ble_eq_true rfl) (ACi.mono (fun v5 σ4 h => ?_) h)
    refine aw_if_ne (tgt := 20) dX12_pair_16 (by decide) (fun k6 => ?_) (fun k6 => ?_)
    · replace h := h.1 k6
      refine aw_iconst (x := 0) dX12_pair_20 rfl ?_
      refine aw_istore_n (L' := [some (vR 12 (some x0)), some (vI x1), some (vI 0)]) dX12_pair_21 rfl (by decide) rfl ?_
      exact aw_fgt (L' := [some (vR 12 (some x0)), some (vI x1), some (vI 0)]) ⟨rfl, ⟨rfl, ⟨rfl, trivial⟩⟩⟩ h
    · replace h := h.2 k6
      exact aw_ret h rfl dX12_pair_19
set_option maxRecDepth 4000 in
theorem bk_X12_pair_22 {g : GP} {l : Launch} {d : Nat} {σ : St} {Q : Option AV → St → Prop} {x0 : Nat} {x1 : Int} {x2 : Int}
    (h : LC 12 σ x0 ∧ Bd x1 16 ∧ (((gI σ 1225 x0 x1.toNat) ≤ x2 → ((10 ≤ (gI σ 1225 x0 x1.toNat) → AW g l (d + 1) MX12_pair 79 [some (vR 12 (some x0)), some (vI x1), none] [vI 0, vR 12 (some x0)] σ Q) ∧ (¬ 10 ≤ (gI σ 1225 x0 x1.toNat) → AW g l (d + 1) MX12_pair 79 [some (vR 12 (some x0)), some (vI x1), none] [vI 1, vR 12 (some x0)] σ Q))) ∧ (¬ (gI σ 1225 x0 x1.toNat) ≤ x2 → R32 (10 * x1) ∧ R32 ((10 * x1) + x2) ∧ Bd ((10 * x1) + x2) 160 ∧ ((¬ (gJ σ 1226 x0 ((10 * x1) + x2).toNat) = (gJ σ 1216 x0 0) → R32 (x2 + 1) ∧ AW g l (d + 1) MX12_pair 22 [some (vR 12 (some x0)), some (vI x1), some (vI (x2 + 1))] [] σ Q) ∧ ((gJ σ 1226 x0 ((10 * x1) + x2).toNat) = (gJ σ 1216 x0 0) → ACv g l d MX12_fault [vR 12 (some x0), vI 3] σ (fun σ10 => R32 (x2 + 1) ∧ AW g l (d + 1) MX12_pair 22 [some (vR 12 (some x0)), some (vI x1), some (vI (x2 + 1))] [] σ10 Q)))))) :
    AW g l (d + 1) MX12_pair 22 [some (vR 12 (some x0)), some (vI x1), some (vI x2)] [] σ Q := by
  refine aw_iload_n dX12_pair_22 rfl rfl ?_
  refine aw_aload_n dX12_pair_23 rfl rfl ?_
  obtain ⟨lc1, h⟩ := h
  refine aw_getA' rfl fk_1225 (by decide) lf_X12_89 dX12_pair_24 (LC.ne lc1 rfl rfl) ?_
  refine aw_iload_n dX12_pair_27 rfl rfl ?_
  obtain ⟨⟨c2, c2x⟩, h⟩ := h
  refine aw_iaload (by decide) rfl dX12_pair_28 c2 (LC.lt lc1 rfl rfl c2x) ?_
  refine aw_icmp_ge (tgt := 62) dX12_pair_29 (by decide) (fun k3 => ?_) (fun k3 => ?_)
  · replace h := h.1 k3
    refine aw_aload_n dX12_pair_62 rfl rfl ?_
    refine aw_aload_n dX12_pair_63 rfl rfl ?_
    refine aw_getA' rfl fk_1225 (by decide) lf_X12_89 dX12_pair_64 (LC.ne lc1 rfl rfl) ?_
    refine aw_iload_n dX12_pair_67 rfl rfl ?_
    refine aw_iaload (by decide) rfl dX12_pair_68 c2 (LC.lt lc1 rfl rfl c2x) ?_
    refine aw_bipush (x := 10) dX12_pair_69 rfl ?_
    refine aw_icmp_ge (tgt := 78) dX12_pair_71 (by decide) (fun k4 => ?_) (fun k4 => ?_)
    · replace h := h.1 k4
      refine aw_iconst (x := 0) dX12_pair_78 rfl ?_
      exact aw_fgt (L' := [some (vR 12 (some x0)), some (vI x1), none]) ⟨rfl, ⟨rfl, trivial⟩⟩ h
    · replace h := h.2 k4
      refine aw_iconst (x := 1) dX12_pair_74 rfl ?_
      refine aw_goto (tgt := 79) dX12_pair_75 (by decide) ?_
      exact aw_fgt (L' := [some (vR 12 (some x0)), some (vI x1), none]) ⟨rfl, ⟨rfl, trivial⟩⟩ h
  · replace h := h.2 k3
    refine aw_aload_n dX12_pair_32 rfl rfl ?_
    refine aw_getA' rfl fk_1226 (by decide) lf_X12_92 dX12_pair_33 (LC.ne lc1 rfl rfl) ?_
    refine aw_bipush (x := 10) dX12_pair_36 rfl ?_
    refine aw_iload_n dX12_pair_38 rfl rfl ?_
    obtain ⟨⟨c5, c5x⟩, h⟩ := h
    refine aw_imulc dX12_pair_39 c5 c5x ?_
    refine aw_iload_n dX12_pair_40 rfl rfl ?_
    obtain ⟨⟨c6, c6x⟩, h⟩ := h
    refine aw_iaddc dX12_pair_41 c6 c6x ?_
    obtain ⟨⟨c7, c7x⟩, h⟩ := h
    refine aw_laload (by decide) rfl dX12_pair_42 c7 (LC.lt lc1 rfl rfl c7x) ?_
    refine aw_aload_n dX12_pair_43 rfl rfl ?_
    refine aw_getJ' rfl fk_1216 lf_X12_60 dX12_pair_44 ?_
    refine aw_lcmp_ne (M := MX12_pair) (tgt := 56) dX12_pair_47 dX12_pair_48 (by decide) (fun k8 => ?_) (fun k8 => ?_)
    · replace h := h.1 k8
      obtain ⟨⟨c9, c9x⟩, h⟩ := h
      refine aw_iincc (L' := [some (vR 12 (some x0)), some (vI x1), some (vI (x2 + 1))]) dX12_pair_56 rfl (by decide) rfl c9 c9x rfl ?_
      refine aw_goto (tgt := 22) dX12_pair_59 (by decide) ?_
      exact aw_fgt (L' := [some (vR 12 (some x0)), some (vI x1), some (vI (x2 + 1))]) ⟨rfl, ⟨rfl, ⟨rfl, trivial⟩⟩⟩ h
    · replace h := h.2 k8
      refine aw_aload_n dX12_pair_51 rfl rfl ?_
      refine aw_iconst (x := 3) dX12_pair_52 rfl ?_
      refine aw_invVv (M := MX12_pair) (ci := 12) [vI 3] rfl mo_X12_fault rfl lm_X12_397 li_X12_fault ls_X12_fault (by decide +kernel) dX12_pair_53 rfl (Nat.le_of_ble_eq_true rfl) (ACv.mono (fun σ10 h => ?_) h)
      obtain ⟨⟨c11, c11x⟩, h⟩ := h
      refine aw_iincc (L' := [some (vR 12 (some x0)), some (vI x1), some (vI (x2 + 1))]) dX12_pair_56 rfl (by decide) rfl c11 c11x rfl ?_
      refine aw_goto (tgt := 22) dX12_pair_59 (by decide) ?_
      exact aw_fgt (L' := [some (vR 12 (some x0)), some (vI x1), some (vI (x2 + 1))]) ⟨rfl, ⟨rfl, ⟨rfl, trivial⟩⟩⟩ h
set_option maxRecDepth 4000 in
theorem bk_X12_pair_79 {g : GP} {l : Launch} {d : Nat} {σ : St} {Q : Option AV → St → Prop} {x0 : Nat} {x1 : Int} {y0 : Int} {y1 : Option Nat}
    (h : ∃ r1, y1 = some r1 ∧ ACi g l d MX12_must [vR 12 (some r1), vI y0, vI 5] σ (fun v4 σ3 => ((¬ v4 = 0 → LC 12 σ3 x0 ∧ R32 (10 * x1) ∧ Bd x1 16 ∧ R32 ((10 * x1) + (gI σ3 1225 x0 x1.toNat)) ∧ Bd ((10 * x1) + (gI σ3 1225 x0 x1.toNat)) 160 ∧ ACv g l d MX12_next [vR 12 (some x0)] (sJ σ3 1226 x0 ((10 * x1) + (gI σ3 1225 x0 x1.toNat)).toNat (gJ σ3 1216 x0 0)) (fun σ11 => ACv g l d MX12_take [vR 12 (some x0), vI 61] σ11 (fun σ12 => LC 12 σ12 x0 ∧ R32 ((10 * x1) + (gI σ12 1225 x0 x1.toNat)) ∧ ACj g l d MX12_signed [vR 12 (some x0)] σ12 (fun v16 σ15 => LC 12 σ15 x0 ∧ Bd ((10 * x1) + (gI σ12 1225 x0 x1.toNat)) 160 ∧ R32 ((gI σ15 1225 x0 x1.toNat) + 1) ∧ Q none (sI (sJ σ15 1227 x0 ((10 * x1) + (gI σ12 1225 x0 x1.toNat)).toNat v16) 1225 x0 x1.toNat ((gI σ15 1225 x0 x1.toNat) + 1)))))) ∧ (v4 = 0 → Q none σ3)))) :
    AW g l (d + 1) MX12_pair 79 [some (vR 12 (some x0)), some (vI x1), none] [vI y0, vR 12 y1] σ Q := by
  refine aw_iconst (x := 5) dX12_pair_79 rfl ?_
  obtain ⟨r1, e2, h⟩ := h
  refine aw_invVi (M := MX12_pair) (ci := 12) [vI y0, vI 5] e2 mo_X12_must rfl lm_X12_404 li_X12_must ls_X12_must (by decide +kernel) dX12_pair_80 rfl (Nat.le_of_ble_eq_true rfl) (ACi.mono (fun v4 σ3 h => ?_) h)
  refine aw_if_ne (tgt := 87) dX12_pair_83 (by decide) (fun k5 => ?_) (fun k5 => ?_)
  · replace h := h.1 k5
    refine aw_aload_n dX12_pair_87 rfl rfl ?_
    obtain ⟨lc6, h⟩ := h
    refine aw_getA' rfl fk_1226 (by decide) lf_X12_92 dX12_pair_88 (LC.ne lc6 rfl rfl) ?_
    refine aw_bipush (x := 10) dX12_pair_91 rfl ?_
    refine aw_iload_n dX12_pair_93 rfl rfl ?_
    obtain ⟨⟨c7, c7x⟩, h⟩ := h
    refine aw_imulc dX12_pair_94 c7 c7x ?_
    refine aw_aload_n dX12_pair_95 rfl rfl ?_
    refine aw_getA' rfl fk_1225 (by decide) lf_X12_89 dX12_pair_96 (LC.ne lc6 rfl rfl) ?_
    refine aw_iload_n dX12_pair_99 rfl rfl ?_
    obtain ⟨⟨c8, c8x⟩, h⟩ := h
    refine aw_iaload (by decide) rfl dX12_pair_100 c8 (LC.lt lc6 rfl rfl c8x) ?_
    obtain ⟨⟨c9, c9x⟩, h⟩ := h
    refine aw_iaddc dX12_pair_101 c9 c9x ?_
    refine aw_aload_n dX12_pair_102 rfl rfl ?_
    refine aw_getJ' rfl fk_1216 lf_X12_60 dX12_pair_103 ?_
    obtain ⟨⟨c10, c10x⟩, h⟩ := h
    refine aw_lastore (by decide) rfl dX12_pair_106 c10 (LC.lt lc6 rfl rfl c10x) ?_
    refine aw_aload_n dX12_pair_107 rfl rfl ?_
    refine aw_invVv (M := MX12_pair) (ci := 12) [] rfl mo_X12_next rfl lm_X12_408 li_X12_next ls_X12_next (by decide +kernel) dX12_pair_108 rfl (Nat.le_of_ble_eq_true rfl) (ACv.mono (fun σ11 h => ?_) h)
    refine aw_aload_n dX12_pair_111 rfl rfl ?_
    refine aw_bipush (x := 61) dX12_pair_112 rfl ?_
    refine aw_invVv (M := MX12_pair) (ci := 12) [vI 61] rfl mo_X12_take rfl lm_X12_431 li_X12_take ls_X12_take (by decide +kernel) dX12_pair_114 rfl (Nat.le_of_ble_eq_true rfl) (ACv.mono (fun σ12 h => ?_) h)
    refine aw_aload_n dX12_pair_117 rfl rfl ?_
    obtain ⟨lc13, h⟩ := h
    refine aw_getA' rfl fk_1227 (by decide) lf_X12_95 dX12_pair_118 (LC.ne lc13 rfl rfl) ?_
    refine aw_bipush (x := 10) dX12_pair_121 rfl ?_
    refine aw_iload_n dX12_pair_123 rfl rfl ?_
    refine aw_imulc dX12_pair_124 c7 c7x ?_
    refine aw_aload_n dX12_pair_125 rfl rfl ?_
    refine aw_getA' rfl fk_1225 (by decide) lf_X12_89 dX12_pair_126 (LC.ne lc13 rfl rfl) ?_
    refine aw_iload_n dX12_pair_129 rfl rfl ?_
    refine aw_iaload (by decide) rfl dX12_pair_130 c8 (LC.lt lc13 rfl rfl c8x) ?_
    obtain ⟨⟨c14, c14x⟩, h⟩ := h
    refine aw_iaddc dX12_pair_131 c14 c14x ?_
    refine aw_aload_n dX12_pair_132 rfl rfl ?_
    refine aw_invVj (M := MX12_pair) (ci := 12) [] rfl mo_X12_signed rfl lm_X12_437 li_X12_signed ls_X12_signed (by decide +kernel) dX12_pair_133 rfl (Nat.le_of_ble_eq_true rfl) (ACj.mono (fun v16 σ15 h => ?_) h)
    obtain ⟨lc17, h⟩ := h
    obtain ⟨⟨c18, c18x⟩, h⟩ := h
    refine aw_lastore (by decide) rfl dX12_pair_136 c18 (LC.lt lc17 rfl rfl c18x) ?_
    refine aw_aload_n dX12_pair_137 rfl rfl ?_
    refine aw_getA' rfl fk_1225 (by decide) lf_X12_89 dX12_pair_138 (LC.ne lc17 rfl rfl) ?_
    refine aw_iload_n dX12_pair_141 rfl rfl ?_
    refine aw_dup2 dX12_pair_142 rfl rfl ?_
    refine aw_ialoade (v := gI σ15 1225 x0 x1.toNat) (by decide) rfl dX12_pair_143 c8 (LC.lt lc17 rfl rfl c8x) rfl ?_
    refine aw_iconst (x := 1) dX12_pair_144 rfl ?_
    obtain ⟨⟨c19, c19x⟩, h⟩ := h
    refine aw_iaddc dX12_pair_145 c19 c19x ?_
    refine aw_iastore (by decide) rfl dX12_pair_146 c8 (LC.lt lc17 rfl rfl c8x) ?_
    exact aw_ret h rfl dX12_pair_147
  · replace h := h.2 k5
    exact aw_ret h rfl dX12_pair_86
set_option maxRecDepth 4000 in
theorem bk_X12_paired_0 {g : GP} {l : Launch} {d : Nat} {σ : St} {Q : Option AV → St → Prop} {x0 : Nat} {x1 : Int} {x2 : Int}
    (h : R32 (8 * (gI σ 1218 x0 0)) ∧ LC 12 σ x0 ∧ Bd x2 560 ∧ R32 ((8 * (gI σ 1218 x0 0)) + (gI σ 1230 x0 x2.toNat)) ∧ ∀ z5 : Int, z5 = (8 * (gI σ 1218 x0 0)) + (gI σ 1230 x0 x2.toNat) → ACj g l d MX12_valueOf [vR 12 (some x0), vI x1] σ (fun v7 σ6 => AW g l (d + 1) MX12_paired 25 [some (vR 12 (some x0)), none, none, some (vI z5), some (vJ v7), none, some (vI 0)] [] σ6 Q)) :
    AW g l (d + 1) MX12_paired 0 [some (vR 12 (some x0)), some (vI x1), some (vI x2), none, none, none, none] [] σ Q := by
  refine aw_bipush (x := 8) dX12_paired_0 rfl ?_
  refine aw_aload_n dX12_paired_2 rfl rfl ?_
  refine aw_getI' rfl fk_1218 lf_X12_67 dX12_paired_3 ?_
  obtain ⟨⟨c1, c1x⟩, h⟩ := h
  refine aw_imulc dX12_paired_6 c1 c1x ?_
  refine aw_aload_n dX12_paired_7 rfl rfl ?_
  obtain ⟨lc2, h⟩ := h
  refine aw_getA' rfl fk_1230 (by decide) lf_X12_104 dX12_paired_8 (LC.ne lc2 rfl rfl) ?_
  refine aw_iload_n dX12_paired_11 rfl rfl ?_
  obtain ⟨⟨c3, c3x⟩, h⟩ := h
  refine aw_iaload (by decide) rfl dX12_paired_12 c3 (LC.lt lc2 rfl rfl c3x) ?_
  obtain ⟨⟨c4, c4x⟩, h⟩ := h
  refine aw_iaddc dX12_paired_13 c4 c4x ?_
  refine aw_istore_n (L' := [some (vR 12 (some x0)), some (vI x1), some (vI x2), some (vI ((8 * (gI σ 1218 x0 0)) + (gI σ 1230 x0 x2.toNat))), none, none, none]) dX12_paired_14 rfl (by decide) rfl ?_
  obtain ⟨z5, hz5⟩ : ∃ z : Int, z = (8 * (gI σ 1218 x0 0)) + (gI σ 1230 x0 x2.toNat) := ⟨_, rfl⟩
  rw [← hz5]
  replace h := h z5 hz5
  refine aw_aload_n dX12_paired_15 rfl rfl ?_
  refine aw_iload_n dX12_paired_16 rfl rfl ?_
  refine aw_invVj (M := MX12_paired) (ci := 12) [vI x1] rfl mo_X12_valueOf rfl lm_X12_643 li_X12_valueOf ls_X12_valueOf (by decide +kernel) dX12_paired_17 rfl (Nat.le_of_ble_eq_true rfl) (ACj.mono (fun v7 σ6 h => ?_) h)
  refine aw_lstore (L' := [some (vR 12 (some x0)), some (vI x1), some (vI x2), some (vI z5), some (vJ v7), none, none]) dX12_paired_20 (by decide) rfl ?_
  refine aw_iconst (x := 0) dX12_paired_22 rfl ?_
  refine aw_istore (L' := [some (vR 12 (some x0)), some (vI x1), some (vI x2), some (vI z5), some (vJ v7), none, some (vI 0)]) dX12_paired_23 (by decide) rfl ?_
  exact aw_fgt (L' := [some (vR 12 (some x0)), none, none, some (vI z5), some (vJ v7), none, some (vI 0)]) ⟨rfl, ⟨rfl, ⟨rfl, ⟨rfl, trivial⟩⟩⟩⟩ h
set_option maxRecDepth 4000 in
theorem bk_X12_paired_25 {g : GP} {l : Launch} {d : Nat} {σ : St} {Q : Option AV → St → Prop} {x0 : Nat} {x3 : Int} {x4 : Int64} {x6 : Int}
    (h : LC 12 σ x0 ∧ Bd x3 16 ∧ (((gI σ 1225 x0 x3.toNat) ≤ x6 → Q (some (vI (-1))) σ) ∧ (¬ (gI σ 1225 x0 x3.toNat) ≤ x6 → R32 (10 * x3) ∧ R32 ((10 * x3) + x6) ∧ Bd ((10 * x3) + x6) 160 ∧ ((¬ (gJ σ 1227 x0 ((10 * x3) + x6).toNat) = x4 → R32 (x6 + 1) ∧ AW g l (d + 1) MX12_paired 25 [some (vR 12 (some x0)), none, none, some (vI x3), some (vJ x4), none, some (vI (x6 + 1))] [] σ Q) ∧ ((gJ σ 1227 x0 ((10 * x3) + x6).toNat) = x4 → Q (some (vI ((10 * x3) + x6))) σ))))) :
    AW g l (d + 1) MX12_paired 25 [some (vR 12 (some x0)), none, none, some (vI x3), some (vJ x4), none, some (vI x6)] [] σ Q := by
  refine aw_iload dX12_paired_25 rfl ?_
  refine aw_aload_n dX12_paired_27 rfl rfl ?_
  obtain ⟨lc1, h⟩ := h
  refine aw_getA' rfl fk_1225 (by decide) lf_X12_89 dX12_paired_28 (LC.ne lc1 rfl rfl) ?_
  refine aw_iload_n dX12_paired_31 rfl rfl ?_
  obtain ⟨⟨c2, c2x⟩, h⟩ := h
  refine aw_iaload (by decide) rfl dX12_paired_32 c2 (LC.lt lc1 rfl rfl c2x) ?_
  refine aw_icmp_ge (tgt := 68) dX12_paired_33 (by decide) (fun k3 => ?_) (fun k3 => ?_)
  · replace h := h.1 k3
    refine aw_iconst (x := (-1)) dX12_paired_68 rfl ?_
    exact aw_ireturn dX12_paired_69 rfl h
  · replace h := h.2 k3
    refine aw_aload_n dX12_paired_36 rfl rfl ?_
    refine aw_getA' rfl fk_1227 (by decide) lf_X12_95 dX12_paired_37 (LC.ne lc1 rfl rfl) ?_
    refine aw_bipush (x := 10) dX12_paired_40 rfl ?_
    refine aw_iload_n dX12_paired_42 rfl rfl ?_
    obtain ⟨⟨c4, c4x⟩, h⟩ := h
    refine aw_imulc dX12_paired_43 c4 c4x ?_
    refine aw_iload dX12_paired_44 rfl ?_
    obtain ⟨⟨c5, c5x⟩, h⟩ := h
    refine aw_iaddc dX12_paired_46 c5 c5x ?_
    obtain ⟨⟨c6, c6x⟩, h⟩ := h
    refine aw_laload (by decide) rfl dX12_paired_47 c6 (LC.lt lc1 rfl rfl c6x) ?_
    refine aw_lload dX12_paired_48 rfl ?_
    refine aw_lcmp_ne (M := MX12_paired) (tgt := 62) dX12_paired_50 dX12_paired_51 (by decide) (fun k7 => ?_) (fun k7 => ?_)
    · replace h := h.1 k7
      obtain ⟨⟨c8, c8x⟩, h⟩ := h
      refine aw_iincc (L' := [some (vR 12 (some x0)), none, none, some (vI x3), some (vJ x4), none, some (vI (x6 + 1))]) dX12_paired_62 rfl (by decide) rfl c8 c8x rfl ?_
      refine aw_goto (tgt := 25) dX12_paired_65 (by decide) ?_
      exact aw_fgt (L' := [some (vR 12 (some x0)), none, none, some (vI x3), some (vJ x4), none, some (vI (x6 + 1))]) ⟨rfl, ⟨rfl, ⟨rfl, ⟨rfl, trivial⟩⟩⟩⟩ h
    · replace h := h.2 k7
      refine aw_bipush (x := 10) dX12_paired_54 rfl ?_
      refine aw_iload_n dX12_paired_56 rfl rfl ?_
      refine aw_imulc dX12_paired_57 c4 c4x ?_
      refine aw_iload dX12_paired_58 rfl ?_
      refine aw_iaddc dX12_paired_60 c5 c5x ?_
      exact aw_ireturn dX12_paired_61 rfl h
set_option maxRecDepth 4000 in
theorem bk_X12_part_0 {g : GP} {l : Launch} {d : Nat} {σ : St} {Q : Option AV → St → Prop} {x0 : Nat} {x1 : Int} {x2 : Int}
    (h : ACi g l d MX12_fresh [vR 12 (some x0), vI x1] σ (fun v2 σ1 => ((v2 = 0 → Q none σ1) ∧ (¬ v2 = 0 → LC 12 σ1 x0 ∧ Bd x1 560 ∧ ((12 ≤ (gI σ1 1237 x0 x1.toNat) → AW g l (d + 1) MX12_part 25 [some (vR 12 (some x0)), some (vI x1), some (vI x2), none] [vI 0, vR 12 (some x0)] σ1 Q) ∧ (¬ 12 ≤ (gI σ1 1237 x0 x1.toNat) → AW g l (d + 1) MX12_part 25 [some (vR 12 (some x0)), some (vI x1), some (vI x2), none] [vI 1, vR 12 (some x0)] σ1 Q)))))) :
    AW g l (d + 1) MX12_part 0 [some (vR 12 (some x0)), some (vI x1), some (vI x2), none] [] σ Q := by
  refine aw_aload_n dX12_part_0 rfl rfl ?_
  refine aw_iload_n dX12_part_1 rfl rfl ?_
  refine aw_invVi (M := MX12_part) (ci := 12) [vI x1] rfl mo_X12_fresh rfl lm_X12_454 li_X12_fresh ls_X12_fresh (by decide +kernel) dX12_part_2 rfl (Nat.le_of_ble_eq_true rfl) (ACi.mono (fun v2 σ1 h => ?_) h)
  refine aw_if_eq (tgt := 32) dX12_part_5 (by decide) (fun k3 => ?_) (fun k3 => ?_)
  · replace h := h.1 k3
    exact aw_ret h rfl dX12_part_32
  · replace h := h.2 k3
    refine aw_aload_n dX12_part_8 rfl rfl ?_
    refine aw_aload_n dX12_part_9 rfl rfl ?_
    obtain ⟨lc4, h⟩ := h
    refine aw_getA' rfl fk_1237 (by decide) lf_X12_125 dX12_part_10 (LC.ne lc4 rfl rfl) ?_
    refine aw_iload_n dX12_part_13 rfl rfl ?_
    obtain ⟨⟨c5, c5x⟩, h⟩ := h
    refine aw_iaload (by decide) rfl dX12_part_14 c5 (LC.lt lc4 rfl rfl c5x) ?_
    refine aw_bipush (x := 12) dX12_part_15 rfl ?_
    refine aw_icmp_ge (tgt := 24) dX12_part_17 (by decide) (fun k6 => ?_) (fun k6 => ?_)
    · replace h := h.1 k6
      refine aw_iconst (x := 0) dX12_part_24 rfl ?_
      exact aw_fgt (L' := [some (vR 12 (some x0)), some (vI x1), some (vI x2), none]) ⟨rfl, ⟨rfl, ⟨rfl, trivial⟩⟩⟩ h
    · replace h := h.2 k6
      refine aw_iconst (x := 1) dX12_part_20 rfl ?_
      refine aw_goto (tgt := 25) dX12_part_21 (by decide) ?_
      exact aw_fgt (L' := [some (vR 12 (some x0)), some (vI x1), some (vI x2), none]) ⟨rfl, ⟨rfl, ⟨rfl, trivial⟩⟩⟩ h
set_option maxRecDepth 4000 in
theorem bk_X12_part_25 {g : GP} {l : Launch} {d : Nat} {σ : St} {Q : Option AV → St → Prop} {x0 : Nat} {x1 : Int} {x2 : Int} {y0 : Int} {y1 : Option Nat}
    (h : ∃ r1, y1 = some r1 ∧ ACi g l d MX12_must [vR 12 (some r1), vI y0, vI 5] σ (fun v4 σ3 => ((¬ v4 = 0 → R32 (16 * x1) ∧ LC 12 σ3 x0 ∧ Bd x1 560 ∧ R32 ((16 * x1) + (gI σ3 1237 x0 x1.toNat)) ∧ ∀ z10 : Int, z10 = (16 * x1) + (gI σ3 1237 x0 x1.toNat) → Bd z10 8960 ∧ ACv g l d MX12_next [vR 12 (some x0)] (sJ σ3 1239 x0 z10.toNat (gJ σ3 1216 x0 0)) (fun σ12 => ACv g l d MX12_take [vR 12 (some x0), vI 58] σ12 (fun σ13 => ((0 < (gI σ13 1251 x0 0) → Q none σ13) ∧ (¬ 0 < (gI σ13 1251 x0 0) → ((¬ (gI σ13 1213 x0 0) = 2 → AW g l (d + 1) MX12_part 86 [some (vR 12 (some x0)), some (vI x1), some (vI x2), some (vI z10)] [vI 0, vR 12 (some x0)] σ13 Q) ∧ ((gI σ13 1213 x0 0) = 2 → AW g l (d + 1) MX12_part 86 [some (vR 12 (some x0)), some (vI x1), some (vI x2), some (vI z10)] [vI 1, vR 12 (some x0)] σ13 Q))))))) ∧ (v4 = 0 → Q none σ3)))) :
    AW g l (d + 1) MX12_part 25 [some (vR 12 (some x0)), some (vI x1), some (vI x2), none] [vI y0, vR 12 y1] σ Q := by
  refine aw_iconst (x := 5) dX12_part_25 rfl ?_
  obtain ⟨r1, e2, h⟩ := h
  refine aw_invVi (M := MX12_part) (ci := 12) [vI y0, vI 5] e2 mo_X12_must rfl lm_X12_404 li_X12_must ls_X12_must (by decide +kernel) dX12_part_26 rfl (Nat.le_of_ble_eq_true rfl) (ACi.mono (fun v4 σ3 h => ?_) h)
  refine aw_if_ne (tgt := 33) dX12_part_29 (by decide) (fun k5 => ?_) (fun k5 => ?_)
  · replace h := h.1 k5
    refine aw_bipush (x := 16) dX12_part_33 rfl ?_
    refine aw_iload_n dX12_part_35 rfl rfl ?_
    obtain ⟨⟨c6, c6x⟩, h⟩ := h
    refine aw_imulc dX12_part_36 c6 c6x ?_
    refine aw_aload_n dX12_part_37 rfl rfl ?_
    obtain ⟨lc7, h⟩ := h
    refine aw_getA' rfl fk_1237 (by decide) lf_X12_125 dX12_part_38 (LC.ne lc7 rfl rfl) ?_
    refine aw_iload_n dX12_part_41 rfl rfl ?_
    obtain ⟨⟨c8, c8x⟩, h⟩ := h
    refine aw_iaload (by decide) rfl dX12_part_42 c8 (LC.lt lc7 rfl rfl c8x) ?_
    obtain ⟨⟨c9, c9x⟩, h⟩ := h
    refine aw_iaddc dX12_part_43 c9 c9x ?_
    refine aw_istore_n (L' := [some (vR 12 (some x0)), some (vI x1), some (vI x2), some (vI ((16 * x1) + (gI σ3 1237 x0 x1.toNat)))]) dX12_part_44 rfl (by decide) rfl ?_
    obtain ⟨z10, hz10⟩ : ∃ z : Int, z = (16 * x1) + (gI σ3 1237 x0 x1.toNat) := ⟨_, rfl⟩
    rw [← hz10]
    replace h := h z10 hz10
    refine aw_aload_n dX12_part_45 rfl rfl ?_
    refine aw_getA' rfl fk_1239 (by decide) lf_X12_131 dX12_part_46 (LC.ne lc7 rfl rfl) ?_
    refine aw_iload_n dX12_part_49 rfl rfl ?_
    refine aw_aload_n dX12_part_50 rfl rfl ?_
    refine aw_getJ' rfl fk_1216 lf_X12_60 dX12_part_51 ?_
    obtain ⟨⟨c11, c11x⟩, h⟩ := h
    refine aw_lastore (by decide) rfl dX12_part_54 c11 (LC.lt lc7 rfl rfl c11x) ?_
    refine aw_aload_n dX12_part_55 rfl rfl ?_
    refine aw_invVv (M := MX12_part) (ci := 12) [] rfl mo_X12_next rfl lm_X12_408 li_X12_next ls_X12_next (by decide +kernel) dX12_part_56 rfl (Nat.le_of_ble_eq_true rfl) (ACv.mono (fun σ12 h => ?_) h)
    refine aw_aload_n dX12_part_59 rfl rfl ?_
    refine aw_bipush (x := 58) dX12_part_60 rfl ?_
    refine aw_invVv (M := MX12_part) (ci := 12) [vI 58] rfl mo_X12_take rfl lm_X12_431 li_X12_take ls_X12_take (by decide +kernel) dX12_part_62 rfl (Nat.le_of_ble_eq_true rfl) (ACv.mono (fun σ13 h => ?_) h)
    refine aw_aload_n dX12_part_65 rfl rfl ?_
    refine aw_getI' rfl fk_1251 lf_X12_167 dX12_part_66 ?_
    refine aw_if_gt (tgt := 150) dX12_part_69 (by decide) (fun k14 => ?_) (fun k14 => ?_)
    · replace h := h.1 k14
      exact aw_ret h rfl dX12_part_150
    · replace h := h.2 k14
      refine aw_aload_n dX12_part_72 rfl rfl ?_
      refine aw_aload_n dX12_part_73 rfl rfl ?_
      refine aw_getI' rfl fk_1213 lf_X12_51 dX12_part_74 ?_
      refine aw_iconst (x := 2) dX12_part_77 rfl ?_
      refine aw_icmp_ne (tgt := 85) dX12_part_78 (by decide) (fun k15 => ?_) (fun k15 => ?_)
      · replace h := h.1 k15
        refine aw_iconst (x := 0) dX12_part_85 rfl ?_
        exact aw_fgt (L' := [some (vR 12 (some x0)), some (vI x1), some (vI x2), some (vI z10)]) ⟨rfl, ⟨rfl, ⟨rfl, ⟨rfl, trivial⟩⟩⟩⟩ h
      · replace h := h.2 k15
        refine aw_iconst (x := 1) dX12_part_81 rfl ?_
        refine aw_goto (tgt := 86) dX12_part_82 (by decide) ?_
        exact aw_fgt (L' := [some (vR 12 (some x0)), some (vI x1), some (vI x2), some (vI z10)]) ⟨rfl, ⟨rfl, ⟨rfl, ⟨rfl, trivial⟩⟩⟩⟩ h
  · replace h := h.2 k5
    exact aw_ret h rfl dX12_part_32
set_option maxRecDepth 4000 in
theorem bk_X12_part_86 {g : GP} {l : Launch} {d : Nat} {σ : St} {Q : Option AV → St → Prop} {x0 : Nat} {x1 : Int} {x2 : Int} {x3 : Int} {y0 : Int} {y1 : Option Nat}
    (h : ∃ r1, y1 = some r1 ∧ ACi g l d MX12_must [vR 12 (some r1), vI y0, vI 2] σ (fun v4 σ3 => ((v4 = 0 → Q none σ3) ∧ (¬ v4 = 0 → (((gJ σ3 1217 x0 0).toInt < (1 : Int64).toInt → AW g l (d + 1) MX12_part 143 [some (vR 12 (some x0)), some (vI x1), none, some (vI x3)] [vI 0, vR 12 (some x0)] σ3 Q) ∧ (¬ (gJ σ3 1217 x0 0).toInt < (1 : Int64).toInt → (((64 : Int64).toInt < (gJ σ3 1217 x0 0).toInt → AW g l (d + 1) MX12_part 143 [some (vR 12 (some x0)), some (vI x1), none, some (vI x3)] [vI 0, vR 12 (some x0)] σ3 Q) ∧ (¬ (64 : Int64).toInt < (gJ σ3 1217 x0 0).toInt → LC 12 σ3 x0 ∧ Bd x1 560 ∧ R32 (8 * (i_and (gI σ3 1229 x0 x1.toNat) 15)) ∧ (((i2j (8 * (i_and (gI σ3 1229 x0 x1.toNat) 15))).toInt < ((i2j x2) + (gJ σ3 1217 x0 0)).toInt → AW g l (d + 1) MX12_part 143 [some (vR 12 (some x0)), some (vI x1), none, some (vI x3)] [vI 0, vR 12 (some x0)] σ3 Q) ∧ (¬ (i2j (8 * (i_and (gI σ3 1229 x0 x1.toNat) 15))).toInt < ((i2j x2) + (gJ σ3 1217 x0 0)).toInt → AW g l (d + 1) MX12_part 143 [some (vR 12 (some x0)), some (vI x1), none, some (vI x3)] [vI 1, vR 12 (some x0)] σ3 Q)))))))))) :
    AW g l (d + 1) MX12_part 86 [some (vR 12 (some x0)), some (vI x1), some (vI x2), some (vI x3)] [vI y0, vR 12 y1] σ Q := by
  refine aw_iconst (x := 2) dX12_part_86 rfl ?_
  obtain ⟨r1, e2, h⟩ := h
  refine aw_invVi (M := MX12_part) (ci := 12) [vI y0, vI 2] e2 mo_X12_must rfl lm_X12_404 li_X12_must ls_X12_must (by decide +kernel) dX12_part_87 rfl (Nat.le_of_ble_eq_true rfl) (ACi.mono (fun v4 σ3 h => ?_) h)
  refine aw_if_eq (tgt := 150) dX12_part_90 (by decide) (fun k5 => ?_) (fun k5 => ?_)
  · replace h := h.1 k5
    exact aw_ret h rfl dX12_part_150
  · replace h := h.2 k5
    refine aw_aload_n dX12_part_93 rfl rfl ?_
    refine aw_aload_n dX12_part_94 rfl rfl ?_
    refine aw_getJ' rfl fk_1217 lf_X12_64 dX12_part_95 ?_
    refine aw_lconst (x := 1) dX12_part_98 rfl ?_
    refine aw_lcmp_lt (M := MX12_part) (tgt := 142) dX12_part_99 dX12_part_100 (by decide) (fun k6 => ?_) (fun k6 => ?_)
    · replace h := h.1 k6
      refine aw_iconst (x := 0) dX12_part_142 rfl ?_
      exact aw_fgt (L' := [some (vR 12 (some x0)), some (vI x1), none, some (vI x3)]) ⟨rfl, ⟨rfl, ⟨rfl, trivial⟩⟩⟩ h
    · replace h := h.2 k6
      refine aw_aload_n dX12_part_103 rfl rfl ?_
      refine aw_getJ' rfl fk_1217 lf_X12_64 dX12_part_104 ?_
      refine aw_ldc2 lk_X12_487 dX12_part_107 ?_
      refine aw_lcmp_gt (M := MX12_part) (tgt := 142) dX12_part_110 dX12_part_111 (by decide) (fun k7 => ?_) (fun k7 => ?_)
      · replace h := h.1 k7
        refine aw_iconst (x := 0) dX12_part_142 rfl ?_
        exact aw_fgt (L' := [some (vR 12 (some x0)), some (vI x1), none, some (vI x3)]) ⟨rfl, ⟨rfl, ⟨rfl, trivial⟩⟩⟩ h
      · replace h := h.2 k7
        refine aw_iload_n dX12_part_114 rfl rfl ?_
        refine aw_i2l dX12_part_115 ?_
        refine aw_aload_n dX12_part_116 rfl rfl ?_
        refine aw_getJ' rfl fk_1217 lf_X12_64 dX12_part_117 ?_
        refine aw_ladd dX12_part_120 ?_
        refine aw_bipush (x := 8) dX12_part_121 rfl ?_
        refine aw_aload_n dX12_part_123 rfl rfl ?_
        obtain ⟨lc8, h⟩ := h
        refine aw_getA' rfl fk_1229 (by decide) lf_X12_101 dX12_part_124 (LC.ne lc8 rfl rfl) ?_
        refine aw_iload_n dX12_part_127 rfl rfl ?_
        obtain ⟨⟨c9, c9x⟩, h⟩ := h
        refine aw_iaload (by decide) rfl dX12_part_128 c9 (LC.lt lc8 rfl rfl c9x) ?_
        refine aw_bipush (x := 15) dX12_part_129 rfl ?_
        refine aw_iand dX12_part_131 ?_
        obtain ⟨⟨c10, c10x⟩, h⟩ := h
        refine aw_imulc dX12_part_132 c10 c10x ?_
        refine aw_i2l dX12_part_133 ?_
        refine aw_lcmp_gt (M := MX12_part) (tgt := 142) dX12_part_134 dX12_part_135 (by decide) (fun k11 => ?_) (fun k11 => ?_)
        · replace h := h.1 k11
          refine aw_iconst (x := 0) dX12_part_142 rfl ?_
          exact aw_fgt (L' := [some (vR 12 (some x0)), some (vI x1), none, some (vI x3)]) ⟨rfl, ⟨rfl, ⟨rfl, trivial⟩⟩⟩ h
        · replace h := h.2 k11
          refine aw_iconst (x := 1) dX12_part_138 rfl ?_
          refine aw_goto (tgt := 143) dX12_part_139 (by decide) ?_
          exact aw_fgt (L' := [some (vR 12 (some x0)), some (vI x1), none, some (vI x3)]) ⟨rfl, ⟨rfl, ⟨rfl, trivial⟩⟩⟩ h
set_option maxRecDepth 4000 in
theorem bk_X12_part_143 {g : GP} {l : Launch} {d : Nat} {σ : St} {Q : Option AV → St → Prop} {x0 : Nat} {x1 : Int} {x3 : Int} {y0 : Int} {y1 : Option Nat}
    (h : ∃ r1, y1 = some r1 ∧ ACi g l d MX12_must [vR 12 (some r1), vI y0, vI 5] σ (fun v4 σ3 => ((¬ v4 = 0 → LC 12 σ3 x0 ∧ Bd x3 8960 ∧ Bd x1 560 ∧ R32 ((gI σ3 1237 x0 x1.toNat) + 1) ∧ ACv g l d MX12_next [vR 12 (some x0)] (sI (sJ σ3 1240 x0 x3.toNat (gJ σ3 1217 x0 0)) 1237 x0 x1.toNat ((gI σ3 1237 x0 x1.toNat) + 1)) (fun σ10 => Q none σ10)) ∧ (v4 = 0 → Q none σ3)))) :
    AW g l (d + 1) MX12_part 143 [some (vR 12 (some x0)), some (vI x1), none, some (vI x3)] [vI y0, vR 12 y1] σ Q := by
  refine aw_iconst (x := 5) dX12_part_143 rfl ?_
  obtain ⟨r1, e2, h⟩ := h
  refine aw_invVi (M := MX12_part) (ci := 12) [vI y0, vI 5] e2 mo_X12_must rfl lm_X12_404 li_X12_must ls_X12_must (by decide +kernel) dX12_part_144 rfl (Nat.le_of_ble_eq_true rfl) (ACi.mono (fun v4 σ3 h => ?_) h)
  refine aw_if_ne (tgt := 151) dX12_part_147 (by decide) (fun k5 => ?_) (fun k5 => ?_)
  · replace h := h.1 k5
    refine aw_aload_n dX12_part_151 rfl rfl ?_
    obtain ⟨lc6, h⟩ := h
    refine aw_getA' rfl fk_1240 (by decide) lf_X12_134 dX12_part_152 (LC.ne lc6 rfl rfl) ?_
    refine aw_iload_n dX12_part_155 rfl rfl ?_
    refine aw_aload_n dX12_part_156 rfl rfl ?_
    refine aw_getJ' rfl fk_1217 lf_X12_64 dX12_part_157 ?_
    obtain ⟨⟨c7, c7x⟩, h⟩ := h
    refine aw_lastore (by decide) rfl dX12_part_160 c7 (LC.lt lc6 rfl rfl c7x) ?_
    refine aw_aload_n dX12_part_161 rfl rfl ?_
    refine aw_getA' rfl fk_1237 (by decide) lf_X12_125 dX12_part_162 (LC.ne lc6 rfl rfl) ?_
    refine aw_iload_n dX12_part_165 rfl rfl ?_
    refine aw_dup2 dX12_part_166 rfl rfl ?_
    obtain ⟨⟨c8, c8x⟩, h⟩ := h
    refine aw_ialoade (v := gI σ3 1237 x0 x1.toNat) (by decide) rfl dX12_part_167 c8 (LC.lt lc6 rfl rfl c8x) rfl ?_
    refine aw_iconst (x := 1) dX12_part_168 rfl ?_
    obtain ⟨⟨c9, c9x⟩, h⟩ := h
    refine aw_iaddc dX12_part_169 c9 c9x ?_
    refine aw_iastore (by decide) rfl dX12_part_170 c8 (LC.lt lc6 rfl rfl c8x) ?_
    refine aw_aload_n dX12_part_171 rfl rfl ?_
    refine aw_invVv (M := MX12_part) (ci := 12) [] rfl mo_X12_next rfl lm_X12_408 li_X12_next ls_X12_next (by decide +kernel) dX12_part_172 rfl (Nat.le_of_ble_eq_true rfl) (ACv.mono (fun σ10 h => ?_) h)
    exact aw_ret h rfl dX12_part_175
  · replace h := h.2 k5
    exact aw_ret h rfl dX12_part_150
set_option maxRecDepth 4000 in
theorem bk_X12_partsLaid_0 {g : GP} {l : Launch} {d : Nat} {σ : St} {Q : Option AV → St → Prop} {x0 : Nat} {x1 : Int} {x2 : Int}
    (h : AW g l (d + 1) MX12_partsLaid 2 [some (vR 12 (some x0)), some (vI x1), some (vI x2), some (vI 0), none] [] σ Q) :
    AW g l (d + 1) MX12_partsLaid 0 [some (vR 12 (some x0)), some (vI x1), some (vI x2), none, none] [] σ Q := by
  refine aw_iconst (x := 0) dX12_partsLaid_0 rfl ?_
  refine aw_istore_n (L' := [some (vR 12 (some x0)), some (vI x1), some (vI x2), some (vI 0), none]) dX12_partsLaid_1 rfl (by decide) rfl ?_
  exact aw_fgt (L' := [some (vR 12 (some x0)), some (vI x1), some (vI x2), some (vI 0), none]) ⟨rfl, ⟨rfl, ⟨rfl, ⟨rfl, trivial⟩⟩⟩⟩ h
set_option maxRecDepth 4000 in
theorem bk_X12_partsLaid_2 {g : GP} {l : Launch} {d : Nat} {σ : St} {Q : Option AV → St → Prop} {x0 : Nat} {x1 : Int} {x2 : Int} {x3 : Int}
    (h : LC 12 σ x0 ∧ Bd x2 560 ∧ (((gI σ 1237 x0 x2.toNat) ≤ x3 → Q none σ) ∧ (¬ (gI σ 1237 x0 x2.toNat) ≤ x3 → ((¬ (gI σ 1282 x0 0) = 0 → Q none σ) ∧ ((gI σ 1282 x0 0) = 0 → Bd x1 2800 ∧ ACi g l d MX12_make [vR 12 (some x0), vI 4, vI x1, vI (gI σ 1268 x0 x1.toNat), vI x2] σ (fun v7 σ6 => (((gI σ6 1282 x0 0) = 0 → LC 12 σ6 x0 ∧ Bd v7 2800 ∧ R32 (x3 + 1) ∧ AW g l (d + 1) MX12_partsLaid 2 [some (vR 12 (some x0)), some (vI x1), some (vI x2), some (vI (x3 + 1)), none] [] (sI (sI σ6 1269 x0 v7.toNat (gI σ6 1269 x0 x1.toNat)) 1275 x0 v7.toNat (x3 + 1)) Q) ∧ (¬ (gI σ6 1282 x0 0) = 0 → Q none σ6)))))))) :
    AW g l (d + 1) MX12_partsLaid 2 [some (vR 12 (some x0)), some (vI x1), some (vI x2), some (vI x3), none] [] σ Q := by
  refine aw_iload_n dX12_partsLaid_2 rfl rfl ?_
  refine aw_aload_n dX12_partsLaid_3 rfl rfl ?_
  obtain ⟨lc1, h⟩ := h
  refine aw_getA' rfl fk_1237 (by decide) lf_X12_125 dX12_partsLaid_4 (LC.ne lc1 rfl rfl) ?_
  refine aw_iload_n dX12_partsLaid_7 rfl rfl ?_
  obtain ⟨⟨c2, c2x⟩, h⟩ := h
  refine aw_iaload (by decide) rfl dX12_partsLaid_8 c2 (LC.lt lc1 rfl rfl c2x) ?_
  refine aw_icmp_ge (tgt := 71) dX12_partsLaid_9 (by decide) (fun k3 => ?_) (fun k3 => ?_)
  · replace h := h.1 k3
    exact aw_ret h rfl dX12_partsLaid_71
  · replace h := h.2 k3
    refine aw_aload_n dX12_partsLaid_12 rfl rfl ?_
    refine aw_getZ' rfl fk_1282 lf_X12_262 dX12_partsLaid_13 ?_
    refine aw_if_ne (tgt := 71) dX12_partsLaid_16 (by decide) (fun k4 => ?_) (fun k4 => ?_)
    · replace h := h.1 k4
      exact aw_ret h rfl dX12_partsLaid_71
    · replace h := h.2 k4
      refine aw_aload_n dX12_partsLaid_19 rfl rfl ?_
      refine aw_iconst (x := 4) dX12_partsLaid_20 rfl ?_
      refine aw_iload_n dX12_partsLaid_21 rfl rfl ?_
      refine aw_aload_n dX12_partsLaid_22 rfl rfl ?_
      refine aw_getA' rfl fk_1268 (by decide) lf_X12_220 dX12_partsLaid_23 (LC.ne lc1 rfl rfl) ?_
      refine aw_iload_n dX12_partsLaid_26 rfl rfl ?_
      obtain ⟨⟨c5, c5x⟩, h⟩ := h
      refine aw_iaload (by decide) rfl dX12_partsLaid_27 c5 (LC.lt lc1 rfl rfl c5x) ?_
      refine aw_iload_n dX12_partsLaid_28 rfl rfl ?_
      refine aw_invVi (M := MX12_partsLaid) (ci := 12) [vI 4, vI x1, vI (gI σ 1268 x0 x1.toNat), vI x2] rfl mo_X12_make rfl lm_X12_580 li_X12_make ls_X12_make (by decide +kernel) dX12_partsLaid_29 rfl (Nat.le_of_ble_eq_true rfl) (ACi.mono (fun v7 σ6 h => ?_) h)
      refine aw_istore (L' := [some (vR 12 (some x0)), some (vI x1), some (vI x2), some (vI x3), some (vI v7)]) dX12_partsLaid_32 (by decide) rfl ?_
      refine aw_aload_n dX12_partsLaid_34 rfl rfl ?_
      refine aw_getZ' rfl fk_1282 lf_X12_262 dX12_partsLaid_35 ?_
      refine aw_if_eq (tgt := 42) dX12_partsLaid_38 (by decide) (fun k8 => ?_) (fun k8 => ?_)
      · replace h := h.1 k8
        refine aw_aload_n dX12_partsLaid_42 rfl rfl ?_
        obtain ⟨lc9, h⟩ := h
        refine aw_getA' rfl fk_1269 (by decide) lf_X12_223 dX12_partsLaid_43 (LC.ne lc9 rfl rfl) ?_
        refine aw_iload dX12_partsLaid_46 rfl ?_
        refine aw_aload_n dX12_partsLaid_48 rfl rfl ?_
        refine aw_getA' rfl fk_1269 (by decide) lf_X12_223 dX12_partsLaid_49 (LC.ne lc9 rfl rfl) ?_
        refine aw_iload_n dX12_partsLaid_52 rfl rfl ?_
        refine aw_iaload (by decide) rfl dX12_partsLaid_53 c5 (LC.lt lc9 rfl rfl c5x) ?_
        obtain ⟨⟨c10, c10x⟩, h⟩ := h
        refine aw_iastore (by decide) rfl dX12_partsLaid_54 c10 (LC.lt lc9 rfl rfl c10x) ?_
        refine aw_aload_n dX12_partsLaid_55 rfl rfl ?_
        refine aw_getA' rfl fk_1275 (by decide) lf_X12_241 dX12_partsLaid_56 (LC.ne lc9 rfl rfl) ?_
        refine aw_iload dX12_partsLaid_59 rfl ?_
        refine aw_iload_n dX12_partsLaid_61 rfl rfl ?_
        refine aw_iconst (x := 1) dX12_partsLaid_62 rfl ?_
        obtain ⟨⟨c11, c11x⟩, h⟩ := h
        refine aw_iaddc dX12_partsLaid_63 c11 c11x ?_
        refine aw_iastore (by decide) rfl dX12_partsLaid_64 c10 (LC.lt lc9 rfl rfl c10x) ?_
        refine aw_iincc (L' := [some (vR 12 (some x0)), some (vI x1), some (vI x2), some (vI (x3 + 1)), some (vI v7)]) dX12_partsLaid_65 rfl (by decide) rfl c11 c11x rfl ?_
        refine aw_goto (tgt := 2) dX12_partsLaid_68 (by decide) ?_
        exact aw_fgt (L' := [some (vR 12 (some x0)), some (vI x1), some (vI x2), some (vI (x3 + 1)), none]) ⟨rfl, ⟨rfl, ⟨rfl, ⟨rfl, trivial⟩⟩⟩⟩ h
      · replace h := h.2 k8
        exact aw_ret h rfl dX12_partsLaid_41
set_option maxRecDepth 4000 in
theorem bk_X12_plain_0 {g : GP} {l : Launch} {d : Nat} {σ : St} {Q : Option AV → St → Prop} {x0 : Nat} {x1 : Int} {x2 : Int64}
    (h : ((x1 < 0 → Q (some (vJ (-1))) σ) ∧ (¬ x1 < 0 → LC 12 σ x0 ∧ Bd x1 9000 ∧ ((¬ (gI σ 1242 x0 x1.toNat) = 0 → Q (some (vJ (-1))) σ) ∧ ((gI σ 1242 x0 x1.toNat) = 0 → ((x2.toInt < (gJ σ 1245 x0 x1.toNat).toInt → Q (some (vJ (-1))) σ) ∧ (¬ x2.toInt < (gJ σ 1245 x0 x1.toNat).toInt → Q (some (vJ (gJ σ 1245 x0 x1.toNat))) σ))))))) :
    AW g l d MX12_plain 0 [some (vR 12 (some x0)), some (vI x1), some (vJ x2), none] [] σ Q := by
  refine aw_iload_n dX12_plain_0 rfl rfl ?_
  refine aw_if_lt (tgt := 33) dX12_plain_1 (by decide) (fun k1 => ?_) (fun k1 => ?_)
  · replace h := h.1 k1
    refine aw_ldc2 lk_X12_521 dX12_plain_33 ?_
    exact aw_lreturn dX12_plain_36 rfl h
  · replace h := h.2 k1
    refine aw_aload_n dX12_plain_4 rfl rfl ?_
    obtain ⟨lc2, h⟩ := h
    refine aw_getA' rfl fk_1242 (by decide) lf_X12_140 dX12_plain_5 (LC.ne lc2 rfl rfl) ?_
    refine aw_iload_n dX12_plain_8 rfl rfl ?_
    obtain ⟨⟨c3, c3x⟩, h⟩ := h
    refine aw_iaload (by decide) rfl dX12_plain_9 c3 (LC.lt lc2 rfl rfl c3x) ?_
    refine aw_if_ne (tgt := 33) dX12_plain_10 (by decide) (fun k4 => ?_) (fun k4 => ?_)
    · replace h := h.1 k4
      refine aw_ldc2 lk_X12_521 dX12_plain_33 ?_
      exact aw_lreturn dX12_plain_36 rfl h
    · replace h := h.2 k4
      refine aw_aload_n dX12_plain_13 rfl rfl ?_
      refine aw_getA' rfl fk_1245 (by decide) lf_X12_149 dX12_plain_14 (LC.ne lc2 rfl rfl) ?_
      refine aw_iload_n dX12_plain_17 rfl rfl ?_
      refine aw_laload (by decide) rfl dX12_plain_18 c3 (LC.lt lc2 rfl rfl c3x) ?_
      refine aw_lload_n dX12_plain_19 rfl rfl ?_
      refine aw_lcmp_gt (M := MX12_plain) (tgt := 33) dX12_plain_20 dX12_plain_21 (by decide) (fun k5 => ?_) (fun k5 => ?_)
      · replace h := h.1 k5
        refine aw_ldc2 lk_X12_521 dX12_plain_33 ?_
        exact aw_lreturn dX12_plain_36 rfl h
      · replace h := h.2 k5
        refine aw_aload_n dX12_plain_24 rfl rfl ?_
        refine aw_getA' rfl fk_1245 (by decide) lf_X12_149 dX12_plain_25 (LC.ne lc2 rfl rfl) ?_
        refine aw_iload_n dX12_plain_28 rfl rfl ?_
        refine aw_laload (by decide) rfl dX12_plain_29 c3 (LC.lt lc2 rfl rfl c3x) ?_
        refine aw_goto (tgt := 36) dX12_plain_30 (by decide) ?_
        exact aw_lreturn dX12_plain_36 rfl h
set_option maxRecDepth 4000 in
theorem bk_X12_pointed_0 {g : GP} {l : Launch} {d : Nat} {σ : St} {Q : Option AV → St → Prop} {x0 : Nat} {x1 : Int} {x2 : Int} {x3 : Int}
    (h : ACj g l d MX12_valueOf [vR 12 (some x0), vI x1] σ (fun v2 σ1 => LC 12 σ1 x0 ∧ Bd x2 560 ∧ (((gI σ1 1233 x0 x2.toNat) < 0 → AW g l (d + 1) MX12_pointed 61 [some (vR 12 (some x0)), some (vI x1), some (vI x2), none, some (vJ (v2 * (i2j (gI σ1 1235 x0 x2.toNat)))), none, none] [] σ1 Q) ∧ (¬ (gI σ1 1233 x0 x2.toNat) < 0 → Bd x1 2800 ∧ ACj g l d MX12_worked [vR 12 (some x0), vI (gI σ1 1233 x0 x2.toNat), vI x3, vI (gI σ1 1268 x0 x1.toNat)] σ1 (fun v8 σ7 => (((gI σ7 1286 x0 0) = 0 → AW g l (d + 1) MX12_pointed 61 [some (vR 12 (some x0)), some (vI x1), some (vI x2), none, some (vJ ((v2 * (i2j (gI σ1 1235 x0 x2.toNat))) + v8)), none, none] [] σ7 Q) ∧ (¬ (gI σ7 1286 x0 0) = 0 → ACv g l d MX12_faulty [vR 12 (some x0), vI x1, vI 6] σ7 (fun σ10 => Q none σ10)))))))) :
    AW g l (d + 1) MX12_pointed 0 [some (vR 12 (some x0)), some (vI x1), some (vI x2), some (vI x3), none, none, none] [] σ Q := by
  refine aw_aload_n dX12_pointed_0 rfl rfl ?_
  refine aw_iload_n dX12_pointed_1 rfl rfl ?_
  refine aw_invVj (M := MX12_pointed) (ci := 12) [vI x1] rfl mo_X12_valueOf rfl lm_X12_643 li_X12_valueOf ls_X12_valueOf (by decide +kernel) dX12_pointed_2 rfl (Nat.le_of_ble_eq_true rfl) (ACj.mono (fun v2 σ1 h => ?_) h)
  refine aw_aload_n dX12_pointed_5 rfl rfl ?_
  obtain ⟨lc3, h⟩ := h
  refine aw_getA' rfl fk_1235 (by decide) lf_X12_119 dX12_pointed_6 (LC.ne lc3 rfl rfl) ?_
  refine aw_iload_n dX12_pointed_9 rfl rfl ?_
  obtain ⟨⟨c4, c4x⟩, h⟩ := h
  refine aw_iaload (by decide) rfl dX12_pointed_10 c4 (LC.lt lc3 rfl rfl c4x) ?_
  refine aw_i2l dX12_pointed_11 ?_
  refine aw_lmul dX12_pointed_12 ?_
  refine aw_lstore (L' := [some (vR 12 (some x0)), some (vI x1), some (vI x2), some (vI x3), some (vJ (v2 * (i2j (gI σ1 1235 x0 x2.toNat)))), none, none]) dX12_pointed_13 (by decide) rfl ?_
  refine aw_aload_n dX12_pointed_15 rfl rfl ?_
  refine aw_getA' rfl fk_1233 (by decide) lf_X12_113 dX12_pointed_16 (LC.ne lc3 rfl rfl) ?_
  refine aw_iload_n dX12_pointed_19 rfl rfl ?_
  refine aw_iaload (by decide) rfl dX12_pointed_20 c4 (LC.lt lc3 rfl rfl c4x) ?_
  refine aw_if_lt (tgt := 61) dX12_pointed_21 (by decide) (fun k5 => ?_) (fun k5 => ?_)
  · replace h := h.1 k5
    exact aw_fgt (L' := [some (vR 12 (some x0)), some (vI x1), some (vI x2), none, some (vJ (v2 * (i2j (gI σ1 1235 x0 x2.toNat)))), none, none]) ⟨rfl, ⟨rfl, ⟨rfl, ⟨rfl, trivial⟩⟩⟩⟩ h
  · replace h := h.2 k5
    refine aw_lload dX12_pointed_24 rfl ?_
    refine aw_aload_n dX12_pointed_26 rfl rfl ?_
    refine aw_aload_n dX12_pointed_27 rfl rfl ?_
    refine aw_getA' rfl fk_1233 (by decide) lf_X12_113 dX12_pointed_28 (LC.ne lc3 rfl rfl) ?_
    refine aw_iload_n dX12_pointed_31 rfl rfl ?_
    refine aw_iaload (by decide) rfl dX12_pointed_32 c4 (LC.lt lc3 rfl rfl c4x) ?_
    refine aw_iload_n dX12_pointed_33 rfl rfl ?_
    refine aw_aload_n dX12_pointed_34 rfl rfl ?_
    refine aw_getA' rfl fk_1268 (by decide) lf_X12_220 dX12_pointed_35 (LC.ne lc3 rfl rfl) ?_
    refine aw_iload_n dX12_pointed_38 rfl rfl ?_
    obtain ⟨⟨c6, c6x⟩, h⟩ := h
    refine aw_iaload (by decide) rfl dX12_pointed_39 c6 (LC.lt lc3 rfl rfl c6x) ?_
    refine aw_invVj (M := MX12_pointed) (ci := 12) [vI (gI σ1 1233 x0 x2.toNat), vI x3, vI (gI σ1 1268 x0 x1.toNat)] rfl mo_X12_worked rfl lm_X12_608 li_X12_worked ls_X12_worked (by decide +kernel) dX12_pointed_40 rfl (Nat.le_of_ble_eq_true rfl) (ACj.mono (fun v8 σ7 h => ?_) h)
    refine aw_ladd dX12_pointed_43 ?_
    refine aw_lstore (L' := [some (vR 12 (some x0)), some (vI x1), some (vI x2), some (vI x3), some (vJ ((v2 * (i2j (gI σ1 1235 x0 x2.toNat))) + v8)), none, none]) dX12_pointed_44 (by decide) rfl ?_
    refine aw_aload_n dX12_pointed_46 rfl rfl ?_
    refine aw_getZ' rfl fk_1286 lf_X12_274 dX12_pointed_47 ?_
    refine aw_if_eq (tgt := 61) dX12_pointed_50 (by decide) (fun k9 => ?_) (fun k9 => ?_)
    · replace h := h.1 k9
      exact aw_fgt (L' := [some (vR 12 (some x0)), some (vI x1), some (vI x2), none, some (vJ ((v2 * (i2j (gI σ1 1235 x0 x2.toNat))) + v8)), none, none]) ⟨rfl, ⟨rfl, ⟨rfl, ⟨rfl, trivial⟩⟩⟩⟩ h
    · replace h := h.2 k9
      refine aw_aload_n dX12_pointed_53 rfl rfl ?_
      refine aw_iload_n dX12_pointed_54 rfl rfl ?_
      refine aw_bipush (x := 6) dX12_pointed_55 rfl ?_
      refine aw_invVv (M := MX12_pointed) (ci := 12) [vI x1, vI 6] rfl mo_X12_faulty rfl lm_X12_577 li_X12_faulty ls_X12_faulty (by decide +kernel) dX12_pointed_57 rfl (Nat.le_of_ble_eq_true rfl) (ACv.mono (fun σ10 h => ?_) h)
      exact aw_ret h rfl dX12_pointed_60
set_option maxRecDepth 4000 in
theorem bk_X12_pointed_61 {g : GP} {l : Launch} {d : Nat} {σ : St} {Q : Option AV → St → Prop} {x0 : Nat} {x1 : Int} {x2 : Int} {x4 : Int64}
    (h : ((x4.toInt < (0 : Int64).toInt → ACv g l d MX12_faulty [vR 12 (some x0), vI x1, vI 8] σ (fun σ2 => Q none σ2)) ∧ (¬ x4.toInt < (0 : Int64).toInt → LC 12 σ x0 ∧ Bd (gI σ 1281 x0 0) 6 ∧ ((x4.toInt < (i2j (gI σ 1201 x0 (gI σ 1281 x0 0).toNat)).toInt → Bd x1 2800 ∧ AW g l (d + 1) MX12_pointed 100 [some (vR 12 (some x0)), some (vI x1), some (vI x2), none, some (vJ x4), none, some (vI (gI σ 1270 x0 x1.toNat))] [] σ Q) ∧ (¬ x4.toInt < (i2j (gI σ 1201 x0 (gI σ 1281 x0 0).toNat)).toInt → ACv g l d MX12_faulty [vR 12 (some x0), vI x1, vI 8] σ (fun σ7 => Q none σ7)))))) :
    AW g l (d + 1) MX12_pointed 61 [some (vR 12 (some x0)), some (vI x1), some (vI x2), none, some (vJ x4), none, none] [] σ Q := by
  refine aw_lload dX12_pointed_61 rfl ?_
  refine aw_lconst (x := 0) dX12_pointed_63 rfl ?_
  refine aw_lcmp_lt (M := MX12_pointed) (tgt := 84) dX12_pointed_64 dX12_pointed_65 (by decide) (fun k1 => ?_) (fun k1 => ?_)
  · replace h := h.1 k1
    refine aw_aload_n dX12_pointed_84 rfl rfl ?_
    refine aw_iload_n dX12_pointed_85 rfl rfl ?_
    refine aw_bipush (x := 8) dX12_pointed_86 rfl ?_
    refine aw_invVv (M := MX12_pointed) (ci := 12) [vI x1, vI 8] rfl mo_X12_faulty rfl lm_X12_577 li_X12_faulty ls_X12_faulty (by decide +kernel) dX12_pointed_88 rfl (Nat.le_of_ble_eq_true rfl) (ACv.mono (fun σ2 h => ?_) h)
    exact aw_ret h rfl dX12_pointed_91
  · replace h := h.2 k1
    refine aw_lload dX12_pointed_68 rfl ?_
    refine aw_aload_n dX12_pointed_70 rfl rfl ?_
    obtain ⟨lc3, h⟩ := h
    refine aw_getA' rfl fk_1201 (by decide) lf_X12_13 dX12_pointed_71 (LC.ne lc3 rfl rfl) ?_
    refine aw_aload_n dX12_pointed_74 rfl rfl ?_
    refine aw_getI' rfl fk_1281 lf_X12_259 dX12_pointed_75 ?_
    obtain ⟨⟨c4, c4x⟩, h⟩ := h
    refine aw_iaload (by decide) rfl dX12_pointed_78 c4 (LC.lt lc3 rfl rfl c4x) ?_
    refine aw_i2l dX12_pointed_79 ?_
    refine aw_lcmp_lt (M := MX12_pointed) (tgt := 92) dX12_pointed_80 dX12_pointed_81 (by decide) (fun k5 => ?_) (fun k5 => ?_)
    · replace h := h.1 k5
      refine aw_aload_n dX12_pointed_92 rfl rfl ?_
      refine aw_getA' rfl fk_1270 (by decide) lf_X12_226 dX12_pointed_93 (LC.ne lc3 rfl rfl) ?_
      refine aw_iload_n dX12_pointed_96 rfl rfl ?_
      obtain ⟨⟨c6, c6x⟩, h⟩ := h
      refine aw_iaload (by decide) rfl dX12_pointed_97 c6 (LC.lt lc3 rfl rfl c6x) ?_
      refine aw_istore (L' := [some (vR 12 (some x0)), some (vI x1), some (vI x2), none, some (vJ x4), none, some (vI (gI σ 1270 x0 x1.toNat))]) dX12_pointed_98 (by decide) rfl ?_
      exact aw_fgt (L' := [some (vR 12 (some x0)), some (vI x1), some (vI x2), none, some (vJ x4), none, some (vI (gI σ 1270 x0 x1.toNat))]) ⟨rfl, ⟨rfl, ⟨rfl, ⟨rfl, ⟨rfl, trivial⟩⟩⟩⟩⟩ h
    · replace h := h.2 k5
      refine aw_aload_n dX12_pointed_84 rfl rfl ?_
      refine aw_iload_n dX12_pointed_85 rfl rfl ?_
      refine aw_bipush (x := 8) dX12_pointed_86 rfl ?_
      refine aw_invVv (M := MX12_pointed) (ci := 12) [vI x1, vI 8] rfl mo_X12_faulty rfl lm_X12_577 li_X12_faulty ls_X12_faulty (by decide +kernel) dX12_pointed_88 rfl (Nat.le_of_ble_eq_true rfl) (ACv.mono (fun σ7 h => ?_) h)
      exact aw_ret h rfl dX12_pointed_91
set_option maxRecDepth 4000 in
theorem bk_X12_pointed_100 {g : GP} {l : Launch} {d : Nat} {σ : St} {Q : Option AV → St → Prop} {x0 : Nat} {x1 : Int} {x2 : Int} {x4 : Int64} {x6 : Int}
    (h : ((x6 < 0 → LC 12 σ x0 ∧ Bd x1 2800 ∧ (((gI σ 1279 x0 x1.toNat) = 0 → ACv g l d MX12_opens [vR 12 (some x0), vI x1, vI 0] σ (fun σ5 => LC 12 σ5 x0 ∧ Bd x2 560 ∧ ACv g l d MX12_begun [vR 12 (some x0), vI (gI σ5 1231 x0 x2.toNat), vI x1, vI (j2i x4), vI (-1)] σ5 (fun σ8 => Q none σ8))) ∧ (¬ (gI σ 1279 x0 x1.toNat) = 0 → Q none σ))) ∧ (¬ x6 < 0 → LC 12 σ x0 ∧ Bd x6 2800 ∧ ((¬ (gI σ 1267 x0 x6.toNat) = 0 → AW g l (d + 1) MX12_pointed 100 [some (vR 12 (some x0)), some (vI x1), some (vI x2), none, some (vJ x4), none, some (vI (gI σ 1270 x0 x6.toNat))] [] σ Q) ∧ ((gI σ 1267 x0 x6.toNat) = 0 → Bd x2 560 ∧ ((¬ (gI σ 1273 x0 x6.toNat) = (gI σ 1231 x0 x2.toNat) → AW g l (d + 1) MX12_pointed 100 [some (vR 12 (some x0)), some (vI x1), some (vI x2), none, some (vJ x4), none, some (vI (gI σ 1270 x0 x6.toNat))] [] σ Q) ∧ ((gI σ 1273 x0 x6.toNat) = (gI σ 1231 x0 x2.toNat) → ((¬ (i2j (gI σ 1268 x0 x6.toNat)) = x4 → AW g l (d + 1) MX12_pointed 100 [some (vR 12 (some x0)), some (vI x1), some (vI x2), none, some (vJ x4), none, some (vI (gI σ 1270 x0 x6.toNat))] [] σ Q) ∧ ((i2j (gI σ 1268 x0 x6.toNat)) = x4 → Bd x1 2800 ∧ AW g l (d + 1) MX12_pointed 100 [some (vR 12 (some x0)), some (vI x1), some (vI x2), none, some (vJ x4), none, some (vI (gI σ 1270 x0 x6.toNat))] [] (sI σ 1279 x0 x1.toNat 1) Q))))))))) :
    AW g l (d + 1) MX12_pointed 100 [some (vR 12 (some x0)), some (vI x1), some (vI x2), none, some (vJ x4), none, some (vI x6)] [] σ Q := by
  refine aw_iload dX12_pointed_100 rfl ?_
  refine aw_if_lt (tgt := 164) dX12_pointed_102 (by decide) (fun k1 => ?_) (fun k1 => ?_)
  · replace h := h.1 k1
    refine aw_aload_n dX12_pointed_164 rfl rfl ?_
    obtain ⟨lc2, h⟩ := h
    refine aw_getA' rfl fk_1279 (by decide) lf_X12_253 dX12_pointed_165 (LC.ne lc2 rfl rfl) ?_
    refine aw_iload_n dX12_pointed_168 rfl rfl ?_
    obtain ⟨⟨c3, c3x⟩, h⟩ := h
    refine aw_baload (by decide) rfl dX12_pointed_169 c3 (LC.lt lc2 rfl rfl c3x) ?_
    refine aw_if_eq (tgt := 174) dX12_pointed_170 (by decide) (fun k4 => ?_) (fun k4 => ?_)
    · replace h := h.1 k4
      refine aw_aload_n dX12_pointed_174 rfl rfl ?_
      refine aw_iload_n dX12_pointed_175 rfl rfl ?_
      refine aw_iconst (x := 0) dX12_pointed_176 rfl ?_
      refine aw_invVv (M := MX12_pointed) (ci := 12) [vI x1, vI 0] rfl mo_X12_opens rfl lm_X12_587 li_X12_opens ls_X12_opens (by decide +kernel) dX12_pointed_177 rfl (Nat.le_of_ble_eq_true rfl) (ACv.mono (fun σ5 h => ?_) h)
      refine aw_aload_n dX12_pointed_180 rfl rfl ?_
      refine aw_aload_n dX12_pointed_181 rfl rfl ?_
      obtain ⟨lc6, h⟩ := h
      refine aw_getA' rfl fk_1231 (by decide) lf_X12_107 dX12_pointed_182 (LC.ne lc6 rfl rfl) ?_
      refine aw_iload_n dX12_pointed_185 rfl rfl ?_
      obtain ⟨⟨c7, c7x⟩, h⟩ := h
      refine aw_iaload (by decide) rfl dX12_pointed_186 c7 (LC.lt lc6 rfl rfl c7x) ?_
      refine aw_iload_n dX12_pointed_187 rfl rfl ?_
      refine aw_lload dX12_pointed_188 rfl ?_
      refine aw_l2i dX12_pointed_190 ?_
      refine aw_iconst (x := (-1)) dX12_pointed_191 rfl ?_
      refine aw_invVv (M := MX12_pointed) (ci := 12) [vI (gI σ5 1231 x0 x2.toNat), vI x1, vI (j2i x4), vI (-1)] rfl mo_X12_begun rfl lm_X12_590 li_X12_begun ls_X12_begun (by decide +kernel) dX12_pointed_192 rfl (Nat.le_of_ble_eq_true rfl) (ACv.mono (fun σ8 h => ?_) h)
      exact aw_ret h rfl dX12_pointed_195
    · replace h := h.2 k4
      exact aw_ret h rfl dX12_pointed_173
  · replace h := h.2 k1
    refine aw_aload_n dX12_pointed_105 rfl rfl ?_
    obtain ⟨lc9, h⟩ := h
    refine aw_getA' rfl fk_1267 (by decide) lf_X12_217 dX12_pointed_106 (LC.ne lc9 rfl rfl) ?_
    refine aw_iload dX12_pointed_109 rfl ?_
    obtain ⟨⟨c10, c10x⟩, h⟩ := h
    refine aw_iaload (by decide) rfl dX12_pointed_111 c10 (LC.lt lc9 rfl rfl c10x) ?_
    refine aw_if_ne (tgt := 152) dX12_pointed_112 (by decide) (fun k11 => ?_) (fun k11 => ?_)
    · replace h := h.1 k11
      refine aw_aload_n dX12_pointed_152 rfl rfl ?_
      refine aw_getA' rfl fk_1270 (by decide) lf_X12_226 dX12_pointed_153 (LC.ne lc9 rfl rfl) ?_
      refine aw_iload dX12_pointed_156 rfl ?_
      refine aw_iaload (by decide) rfl dX12_pointed_158 c10 (LC.lt lc9 rfl rfl c10x) ?_
      refine aw_istore (L' := [some (vR 12 (some x0)), some (vI x1), some (vI x2), none, some (vJ x4), none, some (vI (gI σ 1270 x0 x6.toNat))]) dX12_pointed_159 (by decide) rfl ?_
      refine aw_goto (tgt := 100) dX12_pointed_161 (by decide) ?_
      exact aw_fgt (L' := [some (vR 12 (some x0)), some (vI x1), some (vI x2), none, some (vJ x4), none, some (vI (gI σ 1270 x0 x6.toNat))]) ⟨rfl, ⟨rfl, ⟨rfl, ⟨rfl, ⟨rfl, trivial⟩⟩⟩⟩⟩ h
    · replace h := h.2 k11
      refine aw_aload_n dX12_pointed_115 rfl rfl ?_
      refine aw_getA' rfl fk_1273 (by decide) lf_X12_235 dX12_pointed_116 (LC.ne lc9 rfl rfl) ?_
      refine aw_iload dX12_pointed_119 rfl ?_
      refine aw_iaload (by decide) rfl dX12_pointed_121 c10 (LC.lt lc9 rfl rfl c10x) ?_
      refine aw_aload_n dX12_pointed_122 rfl rfl ?_
      refine aw_getA' rfl fk_1231 (by decide) lf_X12_107 dX12_pointed_123 (LC.ne lc9 rfl rfl) ?_
      refine aw_iload_n dX12_pointed_126 rfl rfl ?_
      obtain ⟨⟨c12, c12x⟩, h⟩ := h
      refine aw_iaload (by decide) rfl dX12_pointed_127 c12 (LC.lt lc9 rfl rfl c12x) ?_
      refine aw_icmp_ne (tgt := 152) dX12_pointed_128 (by decide) (fun k13 => ?_) (fun k13 => ?_)
      · replace h := h.1 k13
        refine aw_aload_n dX12_pointed_152 rfl rfl ?_
        refine aw_getA' rfl fk_1270 (by decide) lf_X12_226 dX12_pointed_153 (LC.ne lc9 rfl rfl) ?_
        refine aw_iload dX12_pointed_156 rfl ?_
        refine aw_iaload (by decide) rfl dX12_pointed_158 c10 (LC.lt lc9 rfl rfl c10x) ?_
        refine aw_istore (L' := [some (vR 12 (some x0)), some (vI x1), some (vI x2), none, some (vJ x4), none, some (vI (gI σ 1270 x0 x6.toNat))]) dX12_pointed_159 (by decide) rfl ?_
        refine aw_goto (tgt := 100) dX12_pointed_161 (by decide) ?_
        exact aw_fgt (L' := [some (vR 12 (some x0)), some (vI x1), some (vI x2), none, some (vJ x4), none, some (vI (gI σ 1270 x0 x6.toNat))]) ⟨rfl, ⟨rfl, ⟨rfl, ⟨rfl, ⟨rfl, trivial⟩⟩⟩⟩⟩ h
      · replace h := h.2 k13
        refine aw_aload_n dX12_pointed_131 rfl rfl ?_
        refine aw_getA' rfl fk_1268 (by decide) lf_X12_220 dX12_pointed_132 (LC.ne lc9 rfl rfl) ?_
        refine aw_iload dX12_pointed_135 rfl ?_
        refine aw_iaload (by decide) rfl dX12_pointed_137 c10 (LC.lt lc9 rfl rfl c10x) ?_
        refine aw_i2l dX12_pointed_138 ?_
        refine aw_lload dX12_pointed_139 rfl ?_
        refine aw_lcmp_ne (M := MX12_pointed) (tgt := 152) dX12_pointed_141 dX12_pointed_142 (by decide) (fun k14 => ?_) (fun k14 => ?_)
        · replace h := h.1 k14
          refine aw_aload_n dX12_pointed_152 rfl rfl ?_
          refine aw_getA' rfl fk_1270 (by decide) lf_X12_226 dX12_pointed_153 (LC.ne lc9 rfl rfl) ?_
          refine aw_iload dX12_pointed_156 rfl ?_
          refine aw_iaload (by decide) rfl dX12_pointed_158 c10 (LC.lt lc9 rfl rfl c10x) ?_
          refine aw_istore (L' := [some (vR 12 (some x0)), some (vI x1), some (vI x2), none, some (vJ x4), none, some (vI (gI σ 1270 x0 x6.toNat))]) dX12_pointed_159 (by decide) rfl ?_
          refine aw_goto (tgt := 100) dX12_pointed_161 (by decide) ?_
          exact aw_fgt (L' := [some (vR 12 (some x0)), some (vI x1), some (vI x2), none, some (vJ x4), none, some (vI (gI σ 1270 x0 x6.toNat))]) ⟨rfl, ⟨rfl, ⟨rfl, ⟨rfl, ⟨rfl, trivial⟩⟩⟩⟩⟩ h
        · replace h := h.2 k14
          refine aw_aload_n dX12_pointed_145 rfl rfl ?_
          refine aw_getA' rfl fk_1279 (by decide) lf_X12_253 dX12_pointed_146 (LC.ne lc9 rfl rfl) ?_
          refine aw_iload_n dX12_pointed_149 rfl rfl ?_
          refine aw_iconst (x := 1) dX12_pointed_150 rfl ?_
          obtain ⟨⟨c15, c15x⟩, h⟩ := h
          refine aw_bastore (by decide) rfl dX12_pointed_151 (Or.inr rfl) c15 (LC.lt lc9 rfl rfl c15x) ?_
          refine aw_aload_n dX12_pointed_152 rfl rfl ?_
          refine aw_getA' rfl fk_1270 (by decide) lf_X12_226 dX12_pointed_153 (LC.ne lc9 rfl rfl) ?_
          refine aw_iload dX12_pointed_156 rfl ?_
          refine aw_ialoade (v := gI σ 1270 x0 x6.toNat) (by decide) rfl dX12_pointed_158 c10 (LC.lt lc9 rfl rfl c10x) rfl ?_
          refine aw_istore (L' := [some (vR 12 (some x0)), some (vI x1), some (vI x2), none, some (vJ x4), none, some (vI (gI σ 1270 x0 x6.toNat))]) dX12_pointed_159 (by decide) rfl ?_
          refine aw_goto (tgt := 100) dX12_pointed_161 (by decide) ?_
          exact aw_fgt (L' := [some (vR 12 (some x0)), some (vI x1), some (vI x2), none, some (vJ x4), none, some (vI (gI σ 1270 x0 x6.toNat))]) ⟨rfl, ⟨rfl, ⟨rfl, ⟨rfl, ⟨rfl, trivial⟩⟩⟩⟩⟩ h
set_option maxRecDepth 4000 in
theorem bk_X12_poke_0 {g : GP} {l : Launch} {d : Nat} {σ : St} {Q : Option AV → St → Prop} {x0 : Nat} {x1 : Int} {x2 : Int} {x3 : Int}
    (h : ACi g l d MX12_isImage [vR 12 (some x0), vI x1] σ (fun v2 σ1 => ((v2 = 0 → Q (some (vI (-1))) σ1) ∧ (¬ v2 = 0 → ((x2 < 0 → Q (some (vI (-1))) σ1) ∧ (¬ x2 < 0 → LC 12 σ1 x0 ∧ Bd x1 6 ∧ ((x2 < (gI σ1 1201 x0 x1.toNat) → ((x3 < 0 → Q (some (vI (-3))) σ1) ∧ (¬ x3 < 0 → ((x3 ≤ 255 → ACi g l d MX12_has [vR 12 (some x0), vI x1, vI x2] σ1 (fun v11 σ10 => LC 12 σ10 x0 ∧ ACv g l d MX12_write [vR 12 (some x0), vI x1, vI x2, vI 1] (sI σ10 1209 x0 0 x3) (fun σ13 => Q (some (vI v11)) σ13))) ∧ (¬ x3 ≤ 255 → Q (some (vI (-3))) σ1))))) ∧ (¬ x2 < (gI σ1 1201 x0 x1.toNat) → Q (some (vI (-1))) σ1)))))))) :
    AW g l (d + 1) MX12_poke 0 [some (vR 12 (some x0)), some (vI x1), some (vI x2), some (vI x3), none] [] σ Q := by
  refine aw_aload_n dX12_poke_0 rfl rfl ?_
  refine aw_iload_n dX12_poke_1 rfl rfl ?_
  refine aw_invVi (M := MX12_poke) (ci := 12) [vI x1] rfl mo_X12_isImage rfl lm_X12_293 li_X12_isImage ls_X12_isImage (by decide +kernel) dX12_poke_2 rfl (Nat.le_of_ble_eq_true rfl) (ACi.mono (fun v2 σ1 h => ?_) h)
  refine aw_if_eq (tgt := 22) dX12_poke_5 (by decide) (fun k3 => ?_) (fun k3 => ?_)
  · replace h := h.1 k3
    refine aw_iconst (x := (-1)) dX12_poke_22 rfl ?_
    exact aw_ireturn dX12_poke_23 rfl h
  · replace h := h.2 k3
    refine aw_iload_n dX12_poke_8 rfl rfl ?_
    refine aw_if_lt (tgt := 22) dX12_poke_9 (by decide) (fun k4 => ?_) (fun k4 => ?_)
    · replace h := h.1 k4
      refine aw_iconst (x := (-1)) dX12_poke_22 rfl ?_
      exact aw_ireturn dX12_poke_23 rfl h
    · replace h := h.2 k4
      refine aw_iload_n dX12_poke_12 rfl rfl ?_
      refine aw_aload_n dX12_poke_13 rfl rfl ?_
      obtain ⟨lc5, h⟩ := h
      refine aw_getA' rfl fk_1201 (by decide) lf_X12_13 dX12_poke_14 (LC.ne lc5 rfl rfl) ?_
      refine aw_iload_n dX12_poke_17 rfl rfl ?_
      obtain ⟨⟨c6, c6x⟩, h⟩ := h
      refine aw_iaload (by decide) rfl dX12_poke_18 c6 (LC.lt lc5 rfl rfl c6x) ?_
      refine aw_icmp_lt (tgt := 24) dX12_poke_19 (by decide) (fun k7 => ?_) (fun k7 => ?_)
      · replace h := h.1 k7
        refine aw_iload_n dX12_poke_24 rfl rfl ?_
        refine aw_if_lt (tgt := 35) dX12_poke_25 (by decide) (fun k8 => ?_) (fun k8 => ?_)
        · replace h := h.1 k8
          refine aw_bipush (x := (-3)) dX12_poke_35 rfl ?_
          exact aw_ireturn dX12_poke_37 rfl h
        · replace h := h.2 k8
          refine aw_iload_n dX12_poke_28 rfl rfl ?_
          refine aw_sipush (x := 255) dX12_poke_29 rfl ?_
          refine aw_icmp_le (tgt := 38) dX12_poke_32 (by decide) (fun k9 => ?_) (fun k9 => ?_)
          · replace h := h.1 k9
            refine aw_aload_n dX12_poke_38 rfl rfl ?_
            refine aw_iload_n dX12_poke_39 rfl rfl ?_
            refine aw_iload_n dX12_poke_40 rfl rfl ?_
            refine aw_invVi (M := MX12_poke) (ci := 12) [vI x1, vI x2] rfl mo_X12_has rfl lm_X12_299 li_X12_has ls_X12_has (by decide +kernel) dX12_poke_41 rfl (Nat.le_of_ble_eq_true rfl) (ACi.mono (fun v11 σ10 h => ?_) h)
            refine aw_istore (L' := [some (vR 12 (some x0)), some (vI x1), some (vI x2), some (vI x3), some (vI v11)]) dX12_poke_44 (by decide) rfl ?_
            refine aw_aload_n dX12_poke_46 rfl rfl ?_
            obtain ⟨lc12, h⟩ := h
            refine aw_getA' rfl fk_1209 (by decide) lf_X12_39 dX12_poke_47 (LC.ne lc12 rfl rfl) ?_
            refine aw_iconst (x := 0) dX12_poke_50 rfl ?_
            refine aw_iload_n dX12_poke_51 rfl rfl ?_
            refine aw_iastore (by decide) rfl dX12_poke_52 (by decide) (LC.lt lc12 rfl rfl (by decide)) ?_
            refine aw_aload_n dX12_poke_53 rfl rfl ?_
            refine aw_iload_n dX12_poke_54 rfl rfl ?_
            refine aw_iload_n dX12_poke_55 rfl rfl ?_
            refine aw_iconst (x := 1) dX12_poke_56 rfl ?_
            refine aw_invVv (M := MX12_poke) (ci := 12) [vI x1, vI x2, vI 1] rfl mo_X12_write rfl lm_X12_307 li_X12_write ls_X12_write (by decide +kernel) dX12_poke_57 rfl (Nat.le_of_ble_eq_true rfl) (ACv.mono (fun σ13 h => ?_) h)
            refine aw_iload dX12_poke_60 rfl ?_
            exact aw_ireturn dX12_poke_62 rfl h
          · replace h := h.2 k9
            refine aw_bipush (x := (-3)) dX12_poke_35 rfl ?_
            exact aw_ireturn dX12_poke_37 rfl h
      · replace h := h.2 k7
        refine aw_iconst (x := (-1)) dX12_poke_22 rfl ?_
        exact aw_ireturn dX12_poke_23 rfl h
set_option maxRecDepth 4000 in
theorem bk_X12_push_0 {g : GP} {l : Launch} {d : Nat} {σ : St} {Q : Option AV → St → Prop} {x0 : Nat} {x1 : Int} {x2 : Int64} {x4 : Int}
    (h : ACi g l d MX12_isImage [vR 12 (some x0), vI x1] σ (fun v2 σ1 => ((¬ v2 = 0 → LC 12 σ1 x0 ∧ Bd x1 6 ∧ (((gI σ1 1202 x0 x1.toNat) ≤ 0 → ((x4 < 1 → Q (some (vI (-3))) σ1) ∧ (¬ x4 < 1 → ((x4 ≤ 8 → R32 ((gI σ1 1201 x0 x1.toNat) + x4) ∧ ((((gI σ1 1201 x0 x1.toNat) + x4) ≤ 2000 → R32 (x4 - 1) ∧ AW g l (d + 1) MX12_push 62 [some (vR 12 (some x0)), some (vI x1), some (vJ x2), none, none, some (vI (x4 - 1))] [] σ1 Q) ∧ (¬ ((gI σ1 1201 x0 x1.toNat) + x4) ≤ 2000 → Q (some (vI (-2))) σ1))) ∧ (¬ x4 ≤ 8 → Q (some (vI (-3))) σ1))))) ∧ (¬ (gI σ1 1202 x0 x1.toNat) ≤ 0 → Q (some (vI (-7))) σ1))) ∧ (v2 = 0 → Q (some (vI (-1))) σ1)))) :
    AW g l (d + 1) MX12_push 0 [some (vR 12 (some x0)), some (vI x1), some (vJ x2), none, some (vI x4), none] [] σ Q := by
  refine aw_aload_n dX12_push_0 rfl rfl ?_
  refine aw_iload_n dX12_push_1 rfl rfl ?_
  refine aw_invVi (M := MX12_push) (ci := 12) [vI x1] rfl mo_X12_isImage rfl lm_X12_293 li_X12_isImage ls_X12_isImage (by decide +kernel) dX12_push_2 rfl (Nat.le_of_ble_eq_true rfl) (ACi.mono (fun v2 σ1 h => ?_) h)
  refine aw_if_ne (tgt := 10) dX12_push_5 (by decide) (fun k3 => ?_) (fun k3 => ?_)
  · replace h := h.1 k3
    refine aw_aload_n dX12_push_10 rfl rfl ?_
    obtain ⟨lc4, h⟩ := h
    refine aw_getA' rfl fk_1202 (by decide) lf_X12_17 dX12_push_11 (LC.ne lc4 rfl rfl) ?_
    refine aw_iload_n dX12_push_14 rfl rfl ?_
    obtain ⟨⟨c5, c5x⟩, h⟩ := h
    refine aw_iaload (by decide) rfl dX12_push_15 c5 (LC.lt lc4 rfl rfl c5x) ?_
    refine aw_if_le (tgt := 22) dX12_push_16 (by decide) (fun k6 => ?_) (fun k6 => ?_)
    · replace h := h.1 k6
      refine aw_iload dX12_push_22 rfl ?_
      refine aw_iconst (x := 1) dX12_push_24 rfl ?_
      refine aw_icmp_lt (tgt := 35) dX12_push_25 (by decide) (fun k7 => ?_) (fun k7 => ?_)
      · replace h := h.1 k7
        refine aw_bipush (x := (-3)) dX12_push_35 rfl ?_
        exact aw_ireturn dX12_push_37 rfl h
      · replace h := h.2 k7
        refine aw_iload dX12_push_28 rfl ?_
        refine aw_bipush (x := 8) dX12_push_30 rfl ?_
        refine aw_icmp_le (tgt := 38) dX12_push_32 (by decide) (fun k8 => ?_) (fun k8 => ?_)
        · replace h := h.1 k8
          refine aw_aload_n dX12_push_38 rfl rfl ?_
          refine aw_getA' rfl fk_1201 (by decide) lf_X12_13 dX12_push_39 (LC.ne lc4 rfl rfl) ?_
          refine aw_iload_n dX12_push_42 rfl rfl ?_
          refine aw_iaload (by decide) rfl dX12_push_43 c5 (LC.lt lc4 rfl rfl c5x) ?_
          refine aw_iload dX12_push_44 rfl ?_
          obtain ⟨⟨c9, c9x⟩, h⟩ := h
          refine aw_iaddc dX12_push_46 c9 c9x ?_
          refine aw_sipush (x := 2000) dX12_push_47 rfl ?_
          refine aw_icmp_le (tgt := 56) dX12_push_50 (by decide) (fun k10 => ?_) (fun k10 => ?_)
          · replace h := h.1 k10
            refine aw_iload dX12_push_56 rfl ?_
            refine aw_iconst (x := 1) dX12_push_58 rfl ?_
            obtain ⟨⟨c11, c11x⟩, h⟩ := h
            refine aw_isubc dX12_push_59 c11 c11x ?_
            refine aw_istore (L' := [some (vR 12 (some x0)), some (vI x1), some (vJ x2), none, some (vI x4), some (vI (x4 - 1))]) dX12_push_60 (by decide) rfl ?_
            exact aw_fgt (L' := [some (vR 12 (some x0)), some (vI x1), some (vJ x2), none, none, some (vI (x4 - 1))]) ⟨rfl, ⟨rfl, ⟨rfl, ⟨rfl, trivial⟩⟩⟩⟩ h
          · replace h := h.2 k10
            refine aw_bipush (x := (-2)) dX12_push_53 rfl ?_
            exact aw_ireturn dX12_push_55 rfl h
        · replace h := h.2 k8
          refine aw_bipush (x := (-3)) dX12_push_35 rfl ?_
          exact aw_ireturn dX12_push_37 rfl h
    · replace h := h.2 k6
      refine aw_bipush (x := (-7)) dX12_push_19 rfl ?_
      exact aw_ireturn dX12_push_21 rfl h
  · replace h := h.2 k3
    refine aw_iconst (x := (-1)) dX12_push_8 rfl ?_
    exact aw_ireturn dX12_push_9 rfl h
set_option maxRecDepth 4000 in
theorem bk_X12_push_62 {g : GP} {l : Launch} {d : Nat} {σ : St} {Q : Option AV → St → Prop} {x0 : Nat} {x1 : Int} {x2 : Int64} {x5 : Int}
    (h : ((x5 < 0 → LC 12 σ x0 ∧ Bd x1 6 ∧ Q (some (vI (gI σ 1201 x0 x1.toNat))) σ) ∧ (¬ x5 < 0 → LC 12 σ x0 ∧ R32 (2000 * x1) ∧ Bd x1 6 ∧ R32 ((2000 * x1) + (gI σ 1201 x0 x1.toNat)) ∧ R32 (8 * x5) ∧ Bd ((2000 * x1) + (gI σ 1201 x0 x1.toNat)) 12000 ∧ R32 ((gI σ 1201 x0 x1.toNat) + 1) ∧ R32 (x5 + (-1)) ∧ AW g l (d + 1) MX12_push 62 [some (vR 12 (some x0)), some (vI x1), some (vJ x2), none, none, some (vI (x5 + (-1)))] [] (sI (sI σ 1203 x0 ((2000 * x1) + (gI σ 1201 x0 x1.toNat)).toNat (j2i ((j_shr x2 (8 * x5)) &&& (255 : Int64)))) 1201 x0 x1.toNat ((gI σ 1201 x0 x1.toNat) + 1)) Q))) :
    AW g l (d + 1) MX12_push 62 [some (vR 12 (some x0)), some (vI x1), some (vJ x2), none, none, some (vI x5)] [] σ Q := by
  refine aw_iload dX12_push_62 rfl ?_
  refine aw_if_lt (tgt := 112) dX12_push_64 (by decide) (fun k1 => ?_) (fun k1 => ?_)
  · replace h := h.1 k1
    refine aw_aload_n dX12_push_112 rfl rfl ?_
    obtain ⟨lc2, h⟩ := h
    refine aw_getA' rfl fk_1201 (by decide) lf_X12_13 dX12_push_113 (LC.ne lc2 rfl rfl) ?_
    refine aw_iload_n dX12_push_116 rfl rfl ?_
    obtain ⟨⟨c3, c3x⟩, h⟩ := h
    refine aw_iaload (by decide) rfl dX12_push_117 c3 (LC.lt lc2 rfl rfl c3x) ?_
    exact aw_ireturn dX12_push_118 rfl h
  · replace h := h.2 k1
    refine aw_aload_n dX12_push_67 rfl rfl ?_
    obtain ⟨lc4, h⟩ := h
    refine aw_getA' rfl fk_1203 (by decide) lf_X12_20 dX12_push_68 (LC.ne lc4 rfl rfl) ?_
    refine aw_sipush (x := 2000) dX12_push_71 rfl ?_
    refine aw_iload_n dX12_push_74 rfl rfl ?_
    obtain ⟨⟨c5, c5x⟩, h⟩ := h
    refine aw_imulc dX12_push_75 c5 c5x ?_
    refine aw_aload_n dX12_push_76 rfl rfl ?_
    refine aw_getA' rfl fk_1201 (by decide) lf_X12_13 dX12_push_77 (LC.ne lc4 rfl rfl) ?_
    refine aw_iload_n dX12_push_80 rfl rfl ?_
    obtain ⟨⟨c6, c6x⟩, h⟩ := h
    refine aw_iaload (by decide) rfl dX12_push_81 c6 (LC.lt lc4 rfl rfl c6x) ?_
    obtain ⟨⟨c7, c7x⟩, h⟩ := h
    refine aw_iaddc dX12_push_82 c7 c7x ?_
    refine aw_lload_n dX12_push_83 rfl rfl ?_
    refine aw_bipush (x := 8) dX12_push_84 rfl ?_
    refine aw_iload dX12_push_86 rfl ?_
    obtain ⟨⟨c8, c8x⟩, h⟩ := h
    refine aw_imulc dX12_push_88 c8 c8x ?_
    refine aw_lshr dX12_push_89 ?_
    refine aw_ldc2 lk_X12_297 dX12_push_90 ?_
    refine aw_land dX12_push_93 ?_
    refine aw_l2i dX12_push_94 ?_
    obtain ⟨⟨c9, c9x⟩, h⟩ := h
    refine aw_iastore (by decide) rfl dX12_push_95 c9 (LC.lt lc4 rfl rfl c9x) ?_
    refine aw_aload_n dX12_push_96 rfl rfl ?_
    refine aw_getA' rfl fk_1201 (by decide) lf_X12_13 dX12_push_97 (LC.ne lc4 rfl rfl) ?_
    refine aw_iload_n dX12_push_100 rfl rfl ?_
    refine aw_dup2 dX12_push_101 rfl rfl ?_
    refine aw_ialoade (v := gI σ 1201 x0 x1.toNat) (by decide) rfl dX12_push_102 c6 (LC.lt lc4 rfl rfl c6x) rfl ?_
    refine aw_iconst (x := 1) dX12_push_103 rfl ?_
    obtain ⟨⟨c10, c10x⟩, h⟩ := h
    refine aw_iaddc dX12_push_104 c10 c10x ?_
    refine aw_iastore (by decide) rfl dX12_push_105 c6 (LC.lt lc4 rfl rfl c6x) ?_
    obtain ⟨⟨c11, c11x⟩, h⟩ := h
    refine aw_iincc (L' := [some (vR 12 (some x0)), some (vI x1), some (vJ x2), none, none, some (vI (x5 + (-1)))]) dX12_push_106 rfl (by decide) rfl c11 c11x rfl ?_
    refine aw_goto (tgt := 62) dX12_push_109 (by decide) ?_
    exact aw_fgt (L' := [some (vR 12 (some x0)), some (vI x1), some (vJ x2), none, none, some (vI (x5 + (-1)))]) ⟨rfl, ⟨rfl, ⟨rfl, ⟨rfl, trivial⟩⟩⟩⟩ h
set_option maxRecDepth 4000 in
theorem bk_X12_put__0 {g : GP} {l : Launch} {d : Nat} {σ : St} {Q : Option AV → St → Prop} {x0 : Nat} {x1 : Int} {x2 : Int} {x3 : Int} {x4 : Int}
    (h : ACi g l d MX12_isNode [vR 12 (some x0), vI x1, vI x2] σ (fun v2 σ1 => ((¬ v2 = 0 → R32 (400 * x1) ∧ R32 ((400 * x1) + x2) ∧ LC 12 σ1 x0 ∧ Bd ((400 * x1) + x2) 2800 ∧ (((gI σ1 1267 x0 ((400 * x1) + x2).toNat) = 5 → ((¬ (gI σ1 1272 x0 ((400 * x1) + x2).toNat) = 1 → ∀ z10 : Int, z10 = gI σ1 1274 x0 ((400 * x1) + x2).toNat → ((x3 < 0 → Q (some (vI (-3))) σ1) ∧ (¬ x3 < 0 → ACj g l d MX12_valueOf [vR 12 (some x0), vI ((400 * x1) + x2)] σ1 (fun v13 σ12 => ((v13.toInt ≤ (i2j x3).toInt → Q (some (vI (-3))) σ12) ∧ (¬ v13.toInt ≤ (i2j x3).toInt → ((x4 < 0 → Q (some (vI (-3))) σ12) ∧ (¬ x4 < 0 → ((255 < x4 → Q (some (vI (-3))) σ12) ∧ (¬ 255 < x4 → LC 12 σ12 x0 ∧ Bd z10 560 ∧ ((¬ (gI σ12 1228 x0 z10.toNat) = 6 → AW g l (d + 1) MX12_put_ 113 [some (vR 12 (some x0)), none, none, some (vI x3), some (vI x4), some (vI ((400 * x1) + x2)), none] [] σ12 Q) ∧ ((gI σ12 1228 x0 z10.toNat) = 6 → ((¬ x4 = (gI σ12 1235 x0 z10.toNat) → AW g l (d + 1) MX12_put_ 113 [some (vR 12 (some x0)), none, none, some (vI x3), some (vI x4), some (vI ((400 * x1) + x2)), none] [] σ12 Q) ∧ (x4 = (gI σ12 1235 x0 z10.toNat) → Q (some (vI (-3))) σ12)))))))))))))) ∧ ((gI σ1 1272 x0 ((400 * x1) + x2).toNat) = 1 → Q (some (vI (-5))) σ1))) ∧ (¬ (gI σ1 1267 x0 ((400 * x1) + x2).toNat) = 5 → Q (some (vI (-4))) σ1))) ∧ (v2 = 0 → Q (some (vI (-1))) σ1)))) :
    AW g l (d + 1) MX12_put_ 0 [some (vR 12 (some x0)), some (vI x1), some (vI x2), some (vI x3), some (vI x4), none, none] [] σ Q := by
  refine aw_aload_n dX12_put__0 rfl rfl ?_
  refine aw_iload_n dX12_put__1 rfl rfl ?_
  refine aw_iload_n dX12_put__2 rfl rfl ?_
  refine aw_invVi (M := MX12_put_) (ci := 12) [vI x1, vI x2] rfl mo_X12_isNode rfl lm_X12_688 li_X12_isNode ls_X12_isNode (by decide +kernel) dX12_put__3 rfl (Nat.le_of_ble_eq_true rfl) (ACi.mono (fun v2 σ1 h => ?_) h)
  refine aw_if_ne (tgt := 11) dX12_put__6 (by decide) (fun k3 => ?_) (fun k3 => ?_)
  · replace h := h.1 k3
    refine aw_sipush (x := 400) dX12_put__11 rfl ?_
    refine aw_iload_n dX12_put__14 rfl rfl ?_
    obtain ⟨⟨c4, c4x⟩, h⟩ := h
    refine aw_imulc dX12_put__15 c4 c4x ?_
    refine aw_iload_n dX12_put__16 rfl rfl ?_
    obtain ⟨⟨c5, c5x⟩, h⟩ := h
    refine aw_iaddc dX12_put__17 c5 c5x ?_
    refine aw_istore (L' := [some (vR 12 (some x0)), some (vI x1), some (vI x2), some (vI x3), some (vI x4), some (vI ((400 * x1) + x2)), none]) dX12_put__18 (by decide) rfl ?_
    refine aw_aload_n dX12_put__20 rfl rfl ?_
    obtain ⟨lc6, h⟩ := h
    refine aw_getA' rfl fk_1267 (by decide) lf_X12_217 dX12_put__21 (LC.ne lc6 rfl rfl) ?_
    refine aw_iload dX12_put__24 rfl ?_
    obtain ⟨⟨c7, c7x⟩, h⟩ := h
    refine aw_iaload (by decide) rfl dX12_put__26 c7 (LC.lt lc6 rfl rfl c7x) ?_
    refine aw_iconst (x := 5) dX12_put__27 rfl ?_
    refine aw_icmp_eq (tgt := 34) dX12_put__28 (by decide) (fun k8 => ?_) (fun k8 => ?_)
    · replace h := h.1 k8
      refine aw_aload_n dX12_put__34 rfl rfl ?_
      refine aw_getA' rfl fk_1272 (by decide) lf_X12_232 dX12_put__35 (LC.ne lc6 rfl rfl) ?_
      refine aw_iload dX12_put__38 rfl ?_
      refine aw_iaload (by decide) rfl dX12_put__40 c7 (LC.lt lc6 rfl rfl c7x) ?_
      refine aw_iconst (x := 1) dX12_put__41 rfl ?_
      refine aw_icmp_ne (tgt := 48) dX12_put__42 (by decide) (fun k9 => ?_) (fun k9 => ?_)
      · replace h := h.1 k9
        refine aw_aload_n dX12_put__48 rfl rfl ?_
        refine aw_getA' rfl fk_1274 (by decide) lf_X12_238 dX12_put__49 (LC.ne lc6 rfl rfl) ?_
        refine aw_iload dX12_put__52 rfl ?_
        refine aw_iaload (by decide) rfl dX12_put__54 c7 (LC.lt lc6 rfl rfl c7x) ?_
        refine aw_istore (L' := [some (vR 12 (some x0)), some (vI x1), some (vI x2), some (vI x3), some (vI x4), some (vI ((400 * x1) + x2)), some (vI (gI σ1 1274 x0 ((400 * x1) + x2).toNat))]) dX12_put__55 (by decide) rfl ?_
        obtain ⟨z10, hz10⟩ : ∃ z : Int, z = gI σ1 1274 x0 ((400 * x1) + x2).toNat := ⟨_, rfl⟩
        rw [← hz10]
        replace h := h z10 hz10
        refine aw_iload_n dX12_put__57 rfl rfl ?_
        refine aw_if_lt (tgt := 110) dX12_put__58 (by decide) (fun k11 => ?_) (fun k11 => ?_)
        · replace h := h.1 k11
          refine aw_bipush (x := (-3)) dX12_put__110 rfl ?_
          exact aw_ireturn dX12_put__112 rfl h
        · replace h := h.2 k11
          refine aw_iload_n dX12_put__61 rfl rfl ?_
          refine aw_i2l dX12_put__62 ?_
          refine aw_aload_n dX12_put__63 rfl rfl ?_
          refine aw_iload dX12_put__64 rfl ?_
          refine aw_invVj (M := MX12_put_) (ci := 12) [vI ((400 * x1) + x2)] rfl mo_X12_valueOf rfl lm_X12_643 li_X12_valueOf ls_X12_valueOf (by decide +kernel) dX12_put__66 rfl (Nat.le_of_ble_eq_true rfl) (ACj.mono (fun v13 σ12 h => ?_) h)
          refine aw_lcmp_ge (M := MX12_put_) (tgt := 110) dX12_put__69 dX12_put__70 (by decide) (fun k14 => ?_) (fun k14 => ?_)
          · replace h := h.1 k14
            refine aw_bipush (x := (-3)) dX12_put__110 rfl ?_
            exact aw_ireturn dX12_put__112 rfl h
          · replace h := h.2 k14
            refine aw_iload dX12_put__73 rfl ?_
            refine aw_if_lt (tgt := 110) dX12_put__75 (by decide) (fun k15 => ?_) (fun k15 => ?_)
            · replace h := h.1 k15
              refine aw_bipush (x := (-3)) dX12_put__110 rfl ?_
              exact aw_ireturn dX12_put__112 rfl h
            · replace h := h.2 k15
              refine aw_iload dX12_put__78 rfl ?_
              refine aw_sipush (x := 255) dX12_put__80 rfl ?_
              refine aw_icmp_gt (tgt := 110) dX12_put__83 (by decide) (fun k16 => ?_) (fun k16 => ?_)
              · replace h := h.1 k16
                refine aw_bipush (x := (-3)) dX12_put__110 rfl ?_
                exact aw_ireturn dX12_put__112 rfl h
              · replace h := h.2 k16
                refine aw_aload_n dX12_put__86 rfl rfl ?_
                obtain ⟨lc17, h⟩ := h
                refine aw_getA' rfl fk_1228 (by decide) lf_X12_98 dX12_put__87 (LC.ne lc17 rfl rfl) ?_
                refine aw_iload dX12_put__90 rfl ?_
                obtain ⟨⟨c18, c18x⟩, h⟩ := h
                refine aw_iaload (by decide) rfl dX12_put__92 c18 (LC.lt lc17 rfl rfl c18x) ?_
                refine aw_bipush (x := 6) dX12_put__93 rfl ?_
                refine aw_icmp_ne (tgt := 113) dX12_put__95 (by decide) (fun k19 => ?_) (fun k19 => ?_)
                · replace h := h.1 k19
                  exact aw_fgt (L' := [some (vR 12 (some x0)), none, none, some (vI x3), some (vI x4), some (vI ((400 * x1) + x2)), none]) ⟨rfl, ⟨rfl, ⟨rfl, ⟨rfl, trivial⟩⟩⟩⟩ h
                · replace h := h.2 k19
                  refine aw_iload dX12_put__98 rfl ?_
                  refine aw_aload_n dX12_put__100 rfl rfl ?_
                  refine aw_getA' rfl fk_1235 (by decide) lf_X12_119 dX12_put__101 (LC.ne lc17 rfl rfl) ?_
                  refine aw_iload dX12_put__104 rfl ?_
                  refine aw_iaload (by decide) rfl dX12_put__106 c18 (LC.lt lc17 rfl rfl c18x) ?_
                  refine aw_icmp_ne (tgt := 113) dX12_put__107 (by decide) (fun k20 => ?_) (fun k20 => ?_)
                  · replace h := h.1 k20
                    exact aw_fgt (L' := [some (vR 12 (some x0)), none, none, some (vI x3), some (vI x4), some (vI ((400 * x1) + x2)), none]) ⟨rfl, ⟨rfl, ⟨rfl, ⟨rfl, trivial⟩⟩⟩⟩ h
                  · replace h := h.2 k20
                    refine aw_bipush (x := (-3)) dX12_put__110 rfl ?_
                    exact aw_ireturn dX12_put__112 rfl h
      · replace h := h.2 k9
        refine aw_bipush (x := (-5)) dX12_put__45 rfl ?_
        exact aw_ireturn dX12_put__47 rfl h
    · replace h := h.2 k8
      refine aw_bipush (x := (-4)) dX12_put__31 rfl ?_
      exact aw_ireturn dX12_put__33 rfl h
  · replace h := h.2 k3
    refine aw_iconst (x := (-1)) dX12_put__9 rfl ?_
    exact aw_ireturn dX12_put__10 rfl h
set_option maxRecDepth 4000 in
theorem bk_X12_put__113 {g : GP} {l : Launch} {d : Nat} {σ : St} {Q : Option AV → St → Prop} {x0 : Nat} {x3 : Int} {x4 : Int} {x5 : Int}
    (h : LC 12 σ x0 ∧ Bd x5 2800 ∧ R32 ((gI σ 1268 x0 x5.toNat) + x3) ∧ ACv g l d MX12_write [vR 12 (some x0), vI (gI σ 1281 x0 0), vI ((gI σ 1268 x0 x5.toNat) + x3), vI 1] (sI σ 1209 x0 0 x4) (fun σ4 => Q (some (vI 0)) σ4)) :
    AW g l (d + 1) MX12_put_ 113 [some (vR 12 (some x0)), none, none, some (vI x3), some (vI x4), some (vI x5), none] [] σ Q := by
  refine aw_aload_n dX12_put__113 rfl rfl ?_
  obtain ⟨lc1, h⟩ := h
  refine aw_getA' rfl fk_1209 (by decide) lf_X12_39 dX12_put__114 (LC.ne lc1 rfl rfl) ?_
  refine aw_iconst (x := 0) dX12_put__117 rfl ?_
  refine aw_iload dX12_put__118 rfl ?_
  refine aw_iastore (by decide) rfl dX12_put__120 (by decide) (LC.lt lc1 rfl rfl (by decide)) ?_
  refine aw_aload_n dX12_put__121 rfl rfl ?_
  refine aw_aload_n dX12_put__122 rfl rfl ?_
  refine aw_getIe (v := gI σ 1281 x0 0) rfl fk_1281 lf_X12_259 dX12_put__123 rfl ?_
  refine aw_aload_n dX12_put__126 rfl rfl ?_
  refine aw_getA' rfl fk_1268 (by decide) lf_X12_220 dX12_put__127 (LC.ne lc1 rfl rfl) ?_
  refine aw_iload dX12_put__130 rfl ?_
  obtain ⟨⟨c2, c2x⟩, h⟩ := h
  refine aw_ialoade (v := gI σ 1268 x0 x5.toNat) (by decide) rfl dX12_put__132 c2 (LC.lt lc1 rfl rfl c2x) rfl ?_
  refine aw_iload_n dX12_put__133 rfl rfl ?_
  obtain ⟨⟨c3, c3x⟩, h⟩ := h
  refine aw_iaddc dX12_put__134 c3 c3x ?_
  refine aw_iconst (x := 1) dX12_put__135 rfl ?_
  refine aw_invVv (M := MX12_put_) (ci := 12) [vI (gI σ 1281 x0 0), vI ((gI σ 1268 x0 x5.toNat) + x3), vI 1] rfl mo_X12_write rfl lm_X12_307 li_X12_write ls_X12_write (by decide +kernel) dX12_put__136 rfl (Nat.le_of_ble_eq_true rfl) (ACv.mono (fun σ4 h => ?_) h)
  refine aw_iconst (x := 0) dX12_put__139 rfl ?_
  exact aw_ireturn dX12_put__140 rfl h
set_option maxRecDepth 4000 in
theorem bk_X12_put_0 {g : GP} {l : Launch} {d : Nat} {σ : St} {Q : Option AV → St → Prop} {x0 : Nat} {x1 : Int} {x2 : Int64} {x4 : Int}
    (h : AW g l (d + 1) MX12_put 10 [some (vR 12 (some x0)), some (vI x1), some (vJ x2), none, some (vI x4), some (vI (i_and x4 15)), some (vI 0)] [] σ Q) :
    AW g l (d + 1) MX12_put 0 [some (vR 12 (some x0)), some (vI x1), some (vJ x2), none, some (vI x4), none, none] [] σ Q := by
  refine aw_iload dX12_put_0 rfl ?_
  refine aw_bipush (x := 15) dX12_put_2 rfl ?_
  refine aw_iand dX12_put_4 ?_
  refine aw_istore (L' := [some (vR 12 (some x0)), some (vI x1), some (vJ x2), none, some (vI x4), some (vI (i_and x4 15)), none]) dX12_put_5 (by decide) rfl ?_
  refine aw_iconst (x := 0) dX12_put_7 rfl ?_
  refine aw_istore (L' := [some (vR 12 (some x0)), some (vI x1), some (vJ x2), none, some (vI x4), some (vI (i_and x4 15)), some (vI 0)]) dX12_put_8 (by decide) rfl ?_
  exact aw_fgt (L' := [some (vR 12 (some x0)), some (vI x1), some (vJ x2), none, some (vI x4), some (vI (i_and x4 15)), some (vI 0)]) ⟨rfl, ⟨rfl, ⟨rfl, ⟨rfl, ⟨rfl, ⟨rfl, trivial⟩⟩⟩⟩⟩⟩ h
set_option maxRecDepth 4000 in
theorem bk_X12_put_10 {g : GP} {l : Launch} {d : Nat} {σ : St} {Q : Option AV → St → Prop} {x0 : Nat} {x1 : Int} {x2 : Int64} {x4 : Int} {x5 : Int} {x6 : Int}
    (h : ((x5 ≤ x6 → ACv g l d MX12_write [vR 12 (some x0), vI (gI σ 1281 x0 0), vI x1, vI x5] σ (fun σ2 => Q none σ2)) ∧ (¬ x5 ≤ x6 → LC 12 σ x0 ∧ (((i_and x4 32) ≤ 0 → R32 (8 * x6) ∧ Bd x6 8 ∧ R32 (x6 + 1) ∧ AW g l (d + 1) MX12_put 10 [some (vR 12 (some x0)), some (vI x1), some (vJ x2), none, some (vI x4), some (vI x5), some (vI (x6 + 1))] [] (sI σ 1209 x0 x6.toNat (j2i ((j_shr x2 (8 * x6)) &&& (255 : Int64)))) Q) ∧ (¬ (i_and x4 32) ≤ 0 → R32 (x5 - 1) ∧ R32 ((x5 - 1) - x6) ∧ R32 (8 * x6) ∧ Bd ((x5 - 1) - x6) 8 ∧ R32 (x6 + 1) ∧ AW g l (d + 1) MX12_put 10 [some (vR 12 (some x0)), some (vI x1), some (vJ x2), none, some (vI x4), some (vI x5), some (vI (x6 + 1))] [] (sI σ 1209 x0 ((x5 - 1) - x6).toNat (j2i ((j_shr x2 (8 * x6)) &&& (255 : Int64)))) Q))))) :
    AW g l (d + 1) MX12_put 10 [some (vR 12 (some x0)), some (vI x1), some (vJ x2), none, some (vI x4), some (vI x5), some (vI x6)] [] σ Q := by
  refine aw_iload dX12_put_10 rfl ?_
  refine aw_iload dX12_put_12 rfl ?_
  refine aw_icmp_ge (tgt := 60) dX12_put_14 (by decide) (fun k1 => ?_) (fun k1 => ?_)
  · replace h := h.1 k1
    refine aw_aload_n dX12_put_60 rfl rfl ?_
    refine aw_aload_n dX12_put_61 rfl rfl ?_
    refine aw_getI' rfl fk_1281 lf_X12_259 dX12_put_62 ?_
    refine aw_iload_n dX12_put_65 rfl rfl ?_
    refine aw_iload dX12_put_66 rfl ?_
    refine aw_invVv (M := MX12_put) (ci := 12) [vI (gI σ 1281 x0 0), vI x1, vI x5] rfl mo_X12_write rfl lm_X12_307 li_X12_write ls_X12_write (by decide +kernel) dX12_put_68 rfl (Nat.le_of_ble_eq_true rfl) (ACv.mono (fun σ2 h => ?_) h)
    exact aw_ret h rfl dX12_put_71
  · replace h := h.2 k1
    refine aw_aload_n dX12_put_17 rfl rfl ?_
    obtain ⟨lc3, h⟩ := h
    refine aw_getA' rfl fk_1209 (by decide) lf_X12_39 dX12_put_18 (LC.ne lc3 rfl rfl) ?_
    refine aw_iload dX12_put_21 rfl ?_
    refine aw_bipush (x := 32) dX12_put_23 rfl ?_
    refine aw_iand dX12_put_25 ?_
    refine aw_if_le (tgt := 39) dX12_put_26 (by decide) (fun k4 => ?_) (fun k4 => ?_)
    · replace h := h.1 k4
      refine aw_iload dX12_put_39 rfl ?_
      refine aw_lload_n dX12_put_41 rfl rfl ?_
      refine aw_bipush (x := 8) dX12_put_42 rfl ?_
      refine aw_iload dX12_put_44 rfl ?_
      obtain ⟨⟨c5, c5x⟩, h⟩ := h
      refine aw_imulc dX12_put_46 c5 c5x ?_
      refine aw_lshr dX12_put_47 ?_
      refine aw_ldc2 lk_X12_297 dX12_put_48 ?_
      refine aw_land dX12_put_51 ?_
      refine aw_l2i dX12_put_52 ?_
      obtain ⟨⟨c6, c6x⟩, h⟩ := h
      refine aw_iastore (by decide) rfl dX12_put_53 c6 (LC.lt lc3 rfl rfl c6x) ?_
      obtain ⟨⟨c7, c7x⟩, h⟩ := h
      refine aw_iincc (L' := [some (vR 12 (some x0)), some (vI x1), some (vJ x2), none, some (vI x4), some (vI x5), some (vI (x6 + 1))]) dX12_put_54 rfl (by decide) rfl c7 c7x rfl ?_
      refine aw_goto (tgt := 10) dX12_put_57 (by decide) ?_
      exact aw_fgt (L' := [some (vR 12 (some x0)), some (vI x1), some (vJ x2), none, some (vI x4), some (vI x5), some (vI (x6 + 1))]) ⟨rfl, ⟨rfl, ⟨rfl, ⟨rfl, ⟨rfl, ⟨rfl, trivial⟩⟩⟩⟩⟩⟩ h
    · replace h := h.2 k4
      refine aw_iload dX12_put_29 rfl ?_
      refine aw_iconst (x := 1) dX12_put_31 rfl ?_
      obtain ⟨⟨c8, c8x⟩, h⟩ := h
      refine aw_isubc dX12_put_32 c8 c8x ?_
      refine aw_iload dX12_put_33 rfl ?_
      obtain ⟨⟨c9, c9x⟩, h⟩ := h
      refine aw_isubc dX12_put_35 c9 c9x ?_
      refine aw_goto (tgt := 41) dX12_put_36 (by decide) ?_
      refine aw_lload_n dX12_put_41 rfl rfl ?_
      refine aw_bipush (x := 8) dX12_put_42 rfl ?_
      refine aw_iload dX12_put_44 rfl ?_
      obtain ⟨⟨c10, c10x⟩, h⟩ := h
      refine aw_imulc dX12_put_46 c10 c10x ?_
      refine aw_lshr dX12_put_47 ?_
      refine aw_ldc2 lk_X12_297 dX12_put_48 ?_
      refine aw_land dX12_put_51 ?_
      refine aw_l2i dX12_put_52 ?_
      obtain ⟨⟨c11, c11x⟩, h⟩ := h
      refine aw_iastore (by decide) rfl dX12_put_53 c11 (LC.lt lc3 rfl rfl c11x) ?_
      obtain ⟨⟨c12, c12x⟩, h⟩ := h
      refine aw_iincc (L' := [some (vR 12 (some x0)), some (vI x1), some (vJ x2), none, some (vI x4), some (vI x5), some (vI (x6 + 1))]) dX12_put_54 rfl (by decide) rfl c12 c12x rfl ?_
      refine aw_goto (tgt := 10) dX12_put_57 (by decide) ?_
      exact aw_fgt (L' := [some (vR 12 (some x0)), some (vI x1), some (vJ x2), none, some (vI x4), some (vI x5), some (vI (x6 + 1))]) ⟨rfl, ⟨rfl, ⟨rfl, ⟨rfl, ⟨rfl, ⟨rfl, trivial⟩⟩⟩⟩⟩⟩ h
set_option maxRecDepth 4000 in
theorem bk_X12_raw_0 {g : GP} {l : Launch} {d : Nat} {σ : St} {Q : Option AV → St → Prop} {x0 : Nat} {x1 : Int} {x2 : Int}
    (h : AW g l (d + 1) MX12_raw 11 [some (vR 12 (some x0)), some (vI x1), some (vI x2), some (vI (i_and x2 15)), some (vJ 0), none, some (vI 0)] [] σ Q) :
    AW g l (d + 1) MX12_raw 0 [some (vR 12 (some x0)), some (vI x1), some (vI x2), none, none, none, none] [] σ Q := by
  refine aw_iload_n dX12_raw_0 rfl rfl ?_
  refine aw_bipush (x := 15) dX12_raw_1 rfl ?_
  refine aw_iand dX12_raw_3 ?_
  refine aw_istore_n (L' := [some (vR 12 (some x0)), some (vI x1), some (vI x2), some (vI (i_and x2 15)), none, none, none]) dX12_raw_4 rfl (by decide) rfl ?_
  refine aw_lconst (x := 0) dX12_raw_5 rfl ?_
  refine aw_lstore (L' := [some (vR 12 (some x0)), some (vI x1), some (vI x2), some (vI (i_and x2 15)), some (vJ 0), none, none]) dX12_raw_6 (by decide) rfl ?_
  refine aw_iconst (x := 0) dX12_raw_8 rfl ?_
  refine aw_istore (L' := [some (vR 12 (some x0)), some (vI x1), some (vI x2), some (vI (i_and x2 15)), some (vJ 0), none, some (vI 0)]) dX12_raw_9 (by decide) rfl ?_
  exact aw_fgt (L' := [some (vR 12 (some x0)), some (vI x1), some (vI x2), some (vI (i_and x2 15)), some (vJ 0), none, some (vI 0)]) ⟨rfl, ⟨rfl, ⟨rfl, ⟨rfl, ⟨rfl, ⟨rfl, trivial⟩⟩⟩⟩⟩⟩ h
set_option maxRecDepth 4000 in
theorem bk_X12_raw_11 {g : GP} {l : Launch} {d : Nat} {σ : St} {Q : Option AV → St → Prop} {x0 : Nat} {x1 : Int} {x2 : Int} {x3 : Int} {x4 : Int64} {x6 : Int}
    (h : ((x3 ≤ x6 → Q (some (vJ x4)) σ) ∧ (¬ x3 ≤ x6 → (((i_and x2 32) ≤ 0 → R32 (x1 + x3) ∧ R32 ((x1 + x3) - 1) ∧ R32 (((x1 + x3) - 1) - x6) ∧ ACi g l d MX12_has [vR 12 (some x0), vI (gI σ 1281 x0 0), vI (((x1 + x3) - 1) - x6)] σ (fun v7 σ6 => R32 (x6 + 1) ∧ AW g l (d + 1) MX12_raw 11 [some (vR 12 (some x0)), some (vI x1), some (vI x2), some (vI x3), some (vJ ((j_shl x4 8) ||| (i2j v7))), none, some (vI (x6 + 1))] [] σ6 Q)) ∧ (¬ (i_and x2 32) ≤ 0 → R32 (x1 + x6) ∧ ACi g l d MX12_has [vR 12 (some x0), vI (gI σ 1281 x0 0), vI (x1 + x6)] σ (fun v11 σ10 => R32 (x6 + 1) ∧ AW g l (d + 1) MX12_raw 11 [some (vR 12 (some x0)), some (vI x1), some (vI x2), some (vI x3), some (vJ ((j_shl x4 8) ||| (i2j v11))), none, some (vI (x6 + 1))] [] σ10 Q)))))) :
    AW g l (d + 1) MX12_raw 11 [some (vR 12 (some x0)), some (vI x1), some (vI x2), some (vI x3), some (vJ x4), none, some (vI x6)] [] σ Q := by
  refine aw_iload dX12_raw_11 rfl ?_
  refine aw_iload_n dX12_raw_13 rfl rfl ?_
  refine aw_icmp_ge (tgt := 62) dX12_raw_14 (by decide) (fun k1 => ?_) (fun k1 => ?_)
  · replace h := h.1 k1
    refine aw_lload dX12_raw_62 rfl ?_
    exact aw_lreturn dX12_raw_64 rfl h
  · replace h := h.2 k1
    refine aw_lload dX12_raw_17 rfl ?_
    refine aw_bipush (x := 8) dX12_raw_19 rfl ?_
    refine aw_lshl dX12_raw_21 ?_
    refine aw_aload_n dX12_raw_22 rfl rfl ?_
    refine aw_aload_n dX12_raw_23 rfl rfl ?_
    refine aw_getI' rfl fk_1281 lf_X12_259 dX12_raw_24 ?_
    refine aw_iload_n dX12_raw_27 rfl rfl ?_
    refine aw_bipush (x := 32) dX12_raw_28 rfl ?_
    refine aw_iand dX12_raw_30 ?_
    refine aw_if_le (tgt := 41) dX12_raw_31 (by decide) (fun k2 => ?_) (fun k2 => ?_)
    · replace h := h.1 k2
      refine aw_iload_n dX12_raw_41 rfl rfl ?_
      refine aw_iload_n dX12_raw_42 rfl rfl ?_
      obtain ⟨⟨c3, c3x⟩, h⟩ := h
      refine aw_iaddc dX12_raw_43 c3 c3x ?_
      refine aw_iconst (x := 1) dX12_raw_44 rfl ?_
      obtain ⟨⟨c4, c4x⟩, h⟩ := h
      refine aw_isubc dX12_raw_45 c4 c4x ?_
      refine aw_iload dX12_raw_46 rfl ?_
      obtain ⟨⟨c5, c5x⟩, h⟩ := h
      refine aw_isubc dX12_raw_48 c5 c5x ?_
      refine aw_invVi (M := MX12_raw) (ci := 12) [vI (gI σ 1281 x0 0), vI (((x1 + x3) - 1) - x6)] rfl mo_X12_has rfl lm_X12_299 li_X12_has ls_X12_has (by decide +kernel) dX12_raw_49 rfl (Nat.le_of_ble_eq_true rfl) (ACi.mono (fun v7 σ6 h => ?_) h)
      refine aw_i2l dX12_raw_52 ?_
      refine aw_lor dX12_raw_53 ?_
      refine aw_lstore (L' := [some (vR 12 (some x0)), some (vI x1), some (vI x2), some (vI x3), some (vJ ((j_shl x4 8) ||| (i2j v7))), none, some (vI x6)]) dX12_raw_54 (by decide) rfl ?_
      obtain ⟨⟨c8, c8x⟩, h⟩ := h
      refine aw_iincc (L' := [some (vR 12 (some x0)), some (vI x1), some (vI x2), some (vI x3), some (vJ ((j_shl x4 8) ||| (i2j v7))), none, some (vI (x6 + 1))]) dX12_raw_56 rfl (by decide) rfl c8 c8x rfl ?_
      refine aw_goto (tgt := 11) dX12_raw_59 (by decide) ?_
      exact aw_fgt (L' := [some (vR 12 (some x0)), some (vI x1), some (vI x2), some (vI x3), some (vJ ((j_shl x4 8) ||| (i2j v7))), none, some (vI (x6 + 1))]) ⟨rfl, ⟨rfl, ⟨rfl, ⟨rfl, ⟨rfl, ⟨rfl, trivial⟩⟩⟩⟩⟩⟩ h
    · replace h := h.2 k2
      refine aw_iload_n dX12_raw_34 rfl rfl ?_
      refine aw_iload dX12_raw_35 rfl ?_
      obtain ⟨⟨c9, c9x⟩, h⟩ := h
      refine aw_iaddc dX12_raw_37 c9 c9x ?_
      refine aw_goto (tgt := 49) dX12_raw_38 (by decide) ?_
      refine aw_invVi (M := MX12_raw) (ci := 12) [vI (gI σ 1281 x0 0), vI (x1 + x6)] rfl mo_X12_has rfl lm_X12_299 li_X12_has ls_X12_has (by decide +kernel) dX12_raw_49 rfl (Nat.le_of_ble_eq_true rfl) (ACi.mono (fun v11 σ10 h => ?_) h)
      refine aw_i2l dX12_raw_52 ?_
      refine aw_lor dX12_raw_53 ?_
      refine aw_lstore (L' := [some (vR 12 (some x0)), some (vI x1), some (vI x2), some (vI x3), some (vJ ((j_shl x4 8) ||| (i2j v11))), none, some (vI x6)]) dX12_raw_54 (by decide) rfl ?_
      obtain ⟨⟨c12, c12x⟩, h⟩ := h
      refine aw_iincc (L' := [some (vR 12 (some x0)), some (vI x1), some (vI x2), some (vI x3), some (vJ ((j_shl x4 8) ||| (i2j v11))), none, some (vI (x6 + 1))]) dX12_raw_56 rfl (by decide) rfl c12 c12x rfl ?_
      refine aw_goto (tgt := 11) dX12_raw_59 (by decide) ?_
      exact aw_fgt (L' := [some (vR 12 (some x0)), some (vI x1), some (vI x2), some (vI x3), some (vJ ((j_shl x4 8) ||| (i2j v11))), none, some (vI (x6 + 1))]) ⟨rfl, ⟨rfl, ⟨rfl, ⟨rfl, ⟨rfl, ⟨rfl, trivial⟩⟩⟩⟩⟩⟩ h
set_option maxRecDepth 4000 in
theorem bk_X12_reaches_0 {g : GP} {l : Launch} {d : Nat} {σ : St} {Q : Option AV → St → Prop} {x0 : Nat} {x1 : Int} {x2 : Int64}
    (h : LC 12 σ x0 ∧ Bd x1 2800 ∧ Bd (gI σ 1281 x0 0) 6 ∧ ((((i2j (gI σ 1268 x0 x1.toNat)) + x2).toInt ≤ (i2j (gI σ 1201 x0 (gI σ 1281 x0 0).toNat)).toInt → R32 ((gI σ 1268 x0 x1.toNat) + (j2i x2)) ∧ Q (some (vI 1)) (sI σ 1269 x0 x1.toNat ((gI σ 1268 x0 x1.toNat) + (j2i x2)))) ∧ (¬ ((i2j (gI σ 1268 x0 x1.toNat)) + x2).toInt ≤ (i2j (gI σ 1201 x0 (gI σ 1281 x0 0).toNat)).toInt → ACv g l d MX12_faulty [vR 12 (some x0), vI x1, vI 1] σ (fun σ6 => Q (some (vI 0)) σ6)))) :
    AW g l (d + 1) MX12_reaches 0 [some (vR 12 (some x0)), some (vI x1), some (vJ x2), none] [] σ Q := by
  refine aw_aload_n dX12_reaches_0 rfl rfl ?_
  obtain ⟨lc1, h⟩ := h
  refine aw_getA' rfl fk_1268 (by decide) lf_X12_220 dX12_reaches_1 (LC.ne lc1 rfl rfl) ?_
  refine aw_iload_n dX12_reaches_4 rfl rfl ?_
  obtain ⟨⟨c2, c2x⟩, h⟩ := h
  refine aw_iaload (by decide) rfl dX12_reaches_5 c2 (LC.lt lc1 rfl rfl c2x) ?_
  refine aw_i2l dX12_reaches_6 ?_
  refine aw_lload_n dX12_reaches_7 rfl rfl ?_
  refine aw_ladd dX12_reaches_8 ?_
  refine aw_aload_n dX12_reaches_9 rfl rfl ?_
  refine aw_getA' rfl fk_1201 (by decide) lf_X12_13 dX12_reaches_10 (LC.ne lc1 rfl rfl) ?_
  refine aw_aload_n dX12_reaches_13 rfl rfl ?_
  refine aw_getI' rfl fk_1281 lf_X12_259 dX12_reaches_14 ?_
  obtain ⟨⟨c3, c3x⟩, h⟩ := h
  refine aw_iaload (by decide) rfl dX12_reaches_17 c3 (LC.lt lc1 rfl rfl c3x) ?_
  refine aw_i2l dX12_reaches_18 ?_
  refine aw_lcmp_le (M := MX12_reaches) (tgt := 31) dX12_reaches_19 dX12_reaches_20 (by decide) (fun k4 => ?_) (fun k4 => ?_)
  · replace h := h.1 k4
    refine aw_aload_n dX12_reaches_31 rfl rfl ?_
    refine aw_getA' rfl fk_1269 (by decide) lf_X12_223 dX12_reaches_32 (LC.ne lc1 rfl rfl) ?_
    refine aw_iload_n dX12_reaches_35 rfl rfl ?_
    refine aw_aload_n dX12_reaches_36 rfl rfl ?_
    refine aw_getA' rfl fk_1268 (by decide) lf_X12_220 dX12_reaches_37 (LC.ne lc1 rfl rfl) ?_
    refine aw_iload_n dX12_reaches_40 rfl rfl ?_
    refine aw_iaload (by decide) rfl dX12_reaches_41 c2 (LC.lt lc1 rfl rfl c2x) ?_
    refine aw_lload_n dX12_reaches_42 rfl rfl ?_
    refine aw_l2i dX12_reaches_43 ?_
    obtain ⟨⟨c5, c5x⟩, h⟩ := h
    refine aw_iaddc dX12_reaches_44 c5 c5x ?_
    refine aw_iastore (by decide) rfl dX12_reaches_45 c2 (LC.lt lc1 rfl rfl c2x) ?_
    refine aw_iconst (x := 1) dX12_reaches_46 rfl ?_
    exact aw_zreturn dX12_reaches_47 rfl (Or.inr rfl) h
  · replace h := h.2 k4
    refine aw_aload_n dX12_reaches_23 rfl rfl ?_
    refine aw_iload_n dX12_reaches_24 rfl rfl ?_
    refine aw_iconst (x := 1) dX12_reaches_25 rfl ?_
    refine aw_invVv (M := MX12_reaches) (ci := 12) [vI x1, vI 1] rfl mo_X12_faulty rfl lm_X12_577 li_X12_faulty ls_X12_faulty (by decide +kernel) dX12_reaches_26 rfl (Nat.le_of_ble_eq_true rfl) (ACv.mono (fun σ6 h => ?_) h)
    refine aw_iconst (x := 0) dX12_reaches_29 rfl ?_
    exact aw_zreturn dX12_reaches_30 rfl (Or.inl rfl) h
set_option maxRecDepth 4000 in
theorem bk_X12_readBits_0 {g : GP} {l : Launch} {d : Nat} {σ : St} {Q : Option AV → St → Prop} {x0 : Nat} {x1 : Int}
    (h : ACv g l d MX12_next [vR 12 (some x0)] σ (fun σ1 => ACv g l d MX12_readWhole [vR 12 (some x0), vI x1] σ1 (fun σ2 => ACv g l d MX12_named [vR 12 (some x0), vI x1] σ2 (fun σ3 => ACv g l d MX12_take [vR 12 (some x0), vI 123] σ3 (fun σ4 => (((gI σ4 1251 x0 0) ≤ 0 → LC 12 σ4 x0 ∧ Bd x1 560 ∧ ACv g l d MX12_part [vR 12 (some x0), vI x1, vI 0] (sI (sI σ4 1228 x0 x1.toNat 4) 1256 x0 0 1) (fun σ8 => AW g l (d + 1) MX12_readBits 48 [some (vR 12 (some x0)), some (vI x1), none, none] [] σ8 Q)) ∧ (¬ (gI σ4 1251 x0 0) ≤ 0 → Q none σ4))))))) :
    AW g l (d + 1) MX12_readBits 0 [some (vR 12 (some x0)), some (vI x1), none, none] [] σ Q := by
  refine aw_aload_n dX12_readBits_0 rfl rfl ?_
  refine aw_invVv (M := MX12_readBits) (ci := 12) [] rfl mo_X12_next rfl lm_X12_408 li_X12_next ls_X12_next (by decide +kernel) dX12_readBits_1 rfl (Nat.le_of_ble_eq_true rfl) (ACv.mono (fun σ1 h => ?_) h)
  refine aw_aload_n dX12_readBits_4 rfl rfl ?_
  refine aw_iload_n dX12_readBits_5 rfl rfl ?_
  refine aw_invVv (M := MX12_readBits) (ci := 12) [vI x1] rfl mo_X12_readWhole rfl lm_X12_499 li_X12_readWhole ls_X12_readWhole (by decide +kernel) dX12_readBits_6 rfl (Nat.le_of_ble_eq_true rfl) (ACv.mono (fun σ2 h => ?_) h)
  refine aw_aload_n dX12_readBits_9 rfl rfl ?_
  refine aw_iload_n dX12_readBits_10 rfl rfl ?_
  refine aw_invVv (M := MX12_readBits) (ci := 12) [vI x1] rfl mo_X12_named rfl lm_X12_466 li_X12_named ls_X12_named (by decide +kernel) dX12_readBits_11 rfl (Nat.le_of_ble_eq_true rfl) (ACv.mono (fun σ3 h => ?_) h)
  refine aw_aload_n dX12_readBits_14 rfl rfl ?_
  refine aw_bipush (x := 123) dX12_readBits_15 rfl ?_
  refine aw_invVv (M := MX12_readBits) (ci := 12) [vI 123] rfl mo_X12_take rfl lm_X12_431 li_X12_take ls_X12_take (by decide +kernel) dX12_readBits_17 rfl (Nat.le_of_ble_eq_true rfl) (ACv.mono (fun σ4 h => ?_) h)
  refine aw_aload_n dX12_readBits_20 rfl rfl ?_
  refine aw_getI' rfl fk_1251 lf_X12_167 dX12_readBits_21 ?_
  refine aw_if_le (tgt := 28) dX12_readBits_24 (by decide) (fun k5 => ?_) (fun k5 => ?_)
  · replace h := h.1 k5
    refine aw_aload_n dX12_readBits_28 rfl rfl ?_
    obtain ⟨lc6, h⟩ := h
    refine aw_getA' rfl fk_1228 (by decide) lf_X12_98 dX12_readBits_29 (LC.ne lc6 rfl rfl) ?_
    refine aw_iload_n dX12_readBits_32 rfl rfl ?_
    refine aw_iconst (x := 4) dX12_readBits_33 rfl ?_
    obtain ⟨⟨c7, c7x⟩, h⟩ := h
    refine aw_iastore (by decide) rfl dX12_readBits_34 c7 (LC.lt lc6 rfl rfl c7x) ?_
    refine aw_aload_n dX12_readBits_35 rfl rfl ?_
    refine aw_iconst (x := 1) dX12_readBits_36 rfl ?_
    refine aw_putZ' rfl fk_1256 (Or.inl rfl) lf_X12_182 dX12_readBits_37 (Or.inr rfl) ?_
    refine aw_iconst (x := 0) dX12_readBits_40 rfl ?_
    refine aw_istore_n (L' := [some (vR 12 (some x0)), some (vI x1), some (vI 0), none]) dX12_readBits_41 rfl (by decide) rfl ?_
    refine aw_aload_n dX12_readBits_42 rfl rfl ?_
    refine aw_iload_n dX12_readBits_43 rfl rfl ?_
    refine aw_iload_n dX12_readBits_44 rfl rfl ?_
    refine aw_invVv (M := MX12_readBits) (ci := 12) [vI x1, vI 0] rfl mo_X12_part rfl lm_X12_502 li_X12_part ls_X12_part (by decide +kernel) dX12_readBits_45 rfl (Nat.le_of_ble_eq_true rfl) (ACv.mono (fun σ8 h => ?_) h)
    exact aw_fgt (L' := [some (vR 12 (some x0)), some (vI x1), none, none]) ⟨rfl, ⟨rfl, trivial⟩⟩ h
  · replace h := h.2 k5
    exact aw_ret h rfl dX12_readBits_27
set_option maxRecDepth 4000 in
theorem bk_X12_readBits_48 {g : GP} {l : Launch} {d : Nat} {σ : St} {Q : Option AV → St → Prop} {x0 : Nat} {x1 : Int}
    (h : ((¬ (gI σ 1251 x0 0) = 0 → ACv g l d MX12_take [vR 12 (some x0), vI 125] (sI σ 1256 x0 0 0) (fun σ2 => Q none σ2)) ∧ ((gI σ 1251 x0 0) = 0 → ACi g l d MX12_isSign [vR 12 (some x0), vI 44] σ (fun v4 σ3 => ((v4 = 0 → ACv g l d MX12_take [vR 12 (some x0), vI 125] (sI σ3 1256 x0 0 0) (fun σ6 => Q none σ6)) ∧ (¬ v4 = 0 → ACv g l d MX12_next [vR 12 (some x0)] σ3 (fun σ7 => AW g l (d + 1) MX12_readBits 72 [some (vR 12 (some x0)), some (vI x1), some (vI 0), some (vI 0)] [] σ7 Q))))))) :
    AW g l (d + 1) MX12_readBits 48 [some (vR 12 (some x0)), some (vI x1), none, none] [] σ Q := by
  refine aw_aload_n dX12_readBits_48 rfl rfl ?_
  refine aw_getI' rfl fk_1251 lf_X12_167 dX12_readBits_49 ?_
  refine aw_if_ne (tgt := 112) dX12_readBits_52 (by decide) (fun k1 => ?_) (fun k1 => ?_)
  · replace h := h.1 k1
    refine aw_aload_n dX12_readBits_112 rfl rfl ?_
    refine aw_iconst (x := 0) dX12_readBits_113 rfl ?_
    refine aw_putZ' rfl fk_1256 (Or.inl rfl) lf_X12_182 dX12_readBits_114 (Or.inl rfl) ?_
    refine aw_aload_n dX12_readBits_117 rfl rfl ?_
    refine aw_bipush (x := 125) dX12_readBits_118 rfl ?_
    refine aw_invVv (M := MX12_readBits) (ci := 12) [vI 125] rfl mo_X12_take rfl lm_X12_431 li_X12_take ls_X12_take (by decide +kernel) dX12_readBits_120 rfl (Nat.le_of_ble_eq_true rfl) (ACv.mono (fun σ2 h => ?_) h)
    exact aw_ret h rfl dX12_readBits_123
  · replace h := h.2 k1
    refine aw_aload_n dX12_readBits_55 rfl rfl ?_
    refine aw_bipush (x := 44) dX12_readBits_56 rfl ?_
    refine aw_invVi (M := MX12_readBits) (ci := 12) [vI 44] rfl mo_X12_isSign rfl lm_X12_401 li_X12_isSign ls_X12_isSign (by decide +kernel) dX12_readBits_58 rfl (Nat.le_of_ble_eq_true rfl) (ACi.mono (fun v4 σ3 h => ?_) h)
    refine aw_if_eq (tgt := 112) dX12_readBits_61 (by decide) (fun k5 => ?_) (fun k5 => ?_)
    · replace h := h.1 k5
      refine aw_aload_n dX12_readBits_112 rfl rfl ?_
      refine aw_iconst (x := 0) dX12_readBits_113 rfl ?_
      refine aw_putZ' rfl fk_1256 (Or.inl rfl) lf_X12_182 dX12_readBits_114 (Or.inl rfl) ?_
      refine aw_aload_n dX12_readBits_117 rfl rfl ?_
      refine aw_bipush (x := 125) dX12_readBits_118 rfl ?_
      refine aw_invVv (M := MX12_readBits) (ci := 12) [vI 125] rfl mo_X12_take rfl lm_X12_431 li_X12_take ls_X12_take (by decide +kernel) dX12_readBits_120 rfl (Nat.le_of_ble_eq_true rfl) (ACv.mono (fun σ6 h => ?_) h)
      exact aw_ret h rfl dX12_readBits_123
    · replace h := h.2 k5
      refine aw_aload_n dX12_readBits_64 rfl rfl ?_
      refine aw_invVv (M := MX12_readBits) (ci := 12) [] rfl mo_X12_next rfl lm_X12_408 li_X12_next ls_X12_next (by decide +kernel) dX12_readBits_65 rfl (Nat.le_of_ble_eq_true rfl) (ACv.mono (fun σ7 h => ?_) h)
      refine aw_iconst (x := 0) dX12_readBits_68 rfl ?_
      refine aw_istore_n (L' := [some (vR 12 (some x0)), some (vI x1), some (vI 0), none]) dX12_readBits_69 rfl (by decide) rfl ?_
      refine aw_iconst (x := 0) dX12_readBits_70 rfl ?_
      refine aw_istore_n (L' := [some (vR 12 (some x0)), some (vI x1), some (vI 0), some (vI 0)]) dX12_readBits_71 rfl (by decide) rfl ?_
      exact aw_fgt (L' := [some (vR 12 (some x0)), some (vI x1), some (vI 0), some (vI 0)]) ⟨rfl, ⟨rfl, ⟨rfl, ⟨rfl, trivial⟩⟩⟩⟩ h
set_option maxRecDepth 4000 in
theorem bk_X12_readBits_72 {g : GP} {l : Launch} {d : Nat} {σ : St} {Q : Option AV → St → Prop} {x0 : Nat} {x1 : Int} {x2 : Int} {x3 : Int}
    (h : LC 12 σ x0 ∧ Bd x1 560 ∧ (((gI σ 1237 x0 x1.toNat) ≤ x3 → ACv g l d MX12_part [vR 12 (some x0), vI x1, vI x2] σ (fun σ4 => AW g l (d + 1) MX12_readBits 48 [some (vR 12 (some x0)), some (vI x1), none, none] [] σ4 Q)) ∧ (¬ (gI σ 1237 x0 x1.toNat) ≤ x3 → R32 (16 * x1) ∧ R32 ((16 * x1) + x3) ∧ Bd ((16 * x1) + x3) 8960 ∧ R32 (x2 + (j2i (gJ σ 1240 x0 ((16 * x1) + x3).toNat))) ∧ ∀ z9 : Int, z9 = x2 + (j2i (gJ σ 1240 x0 ((16 * x1) + x3).toNat)) → R32 (x3 + 1) ∧ AW g l (d + 1) MX12_readBits 72 [some (vR 12 (some x0)), some (vI x1), some (vI z9), some (vI (x3 + 1))] [] σ Q))) :
    AW g l (d + 1) MX12_readBits 72 [some (vR 12 (some x0)), some (vI x1), some (vI x2), some (vI x3)] [] σ Q := by
  refine aw_iload_n dX12_readBits_72 rfl rfl ?_
  refine aw_aload_n dX12_readBits_73 rfl rfl ?_
  obtain ⟨lc1, h⟩ := h
  refine aw_getA' rfl fk_1237 (by decide) lf_X12_125 dX12_readBits_74 (LC.ne lc1 rfl rfl) ?_
  refine aw_iload_n dX12_readBits_77 rfl rfl ?_
  obtain ⟨⟨c2, c2x⟩, h⟩ := h
  refine aw_iaload (by decide) rfl dX12_readBits_78 c2 (LC.lt lc1 rfl rfl c2x) ?_
  refine aw_icmp_ge (tgt := 103) dX12_readBits_79 (by decide) (fun k3 => ?_) (fun k3 => ?_)
  · replace h := h.1 k3
    refine aw_aload_n dX12_readBits_103 rfl rfl ?_
    refine aw_iload_n dX12_readBits_104 rfl rfl ?_
    refine aw_iload_n dX12_readBits_105 rfl rfl ?_
    refine aw_invVv (M := MX12_readBits) (ci := 12) [vI x1, vI x2] rfl mo_X12_part rfl lm_X12_502 li_X12_part ls_X12_part (by decide +kernel) dX12_readBits_106 rfl (Nat.le_of_ble_eq_true rfl) (ACv.mono (fun σ4 h => ?_) h)
    refine aw_goto (tgt := 48) dX12_readBits_109 (by decide) ?_
    exact aw_fgt (L' := [some (vR 12 (some x0)), some (vI x1), none, none]) ⟨rfl, ⟨rfl, trivial⟩⟩ h
  · replace h := h.2 k3
    refine aw_iload_n dX12_readBits_82 rfl rfl ?_
    refine aw_aload_n dX12_readBits_83 rfl rfl ?_
    refine aw_getA' rfl fk_1240 (by decide) lf_X12_134 dX12_readBits_84 (LC.ne lc1 rfl rfl) ?_
    refine aw_bipush (x := 16) dX12_readBits_87 rfl ?_
    refine aw_iload_n dX12_readBits_89 rfl rfl ?_
    obtain ⟨⟨c5, c5x⟩, h⟩ := h
    refine aw_imulc dX12_readBits_90 c5 c5x ?_
    refine aw_iload_n dX12_readBits_91 rfl rfl ?_
    obtain ⟨⟨c6, c6x⟩, h⟩ := h
    refine aw_iaddc dX12_readBits_92 c6 c6x ?_
    obtain ⟨⟨c7, c7x⟩, h⟩ := h
    refine aw_laload (by decide) rfl dX12_readBits_93 c7 (LC.lt lc1 rfl rfl c7x) ?_
    refine aw_l2i dX12_readBits_94 ?_
    obtain ⟨⟨c8, c8x⟩, h⟩ := h
    refine aw_iaddc dX12_readBits_95 c8 c8x ?_
    refine aw_istore_n (L' := [some (vR 12 (some x0)), some (vI x1), some (vI (x2 + (j2i (gJ σ 1240 x0 ((16 * x1) + x3).toNat)))), some (vI x3)]) dX12_readBits_96 rfl (by decide) rfl ?_
    obtain ⟨z9, hz9⟩ : ∃ z : Int, z = x2 + (j2i (gJ σ 1240 x0 ((16 * x1) + x3).toNat)) := ⟨_, rfl⟩
    rw [← hz9]
    replace h := h z9 hz9
    obtain ⟨⟨c10, c10x⟩, h⟩ := h
    refine aw_iincc (L' := [some (vR 12 (some x0)), some (vI x1), some (vI z9), some (vI (x3 + 1))]) dX12_readBits_97 rfl (by decide) rfl c10 c10x rfl ?_
    refine aw_goto (tgt := 72) dX12_readBits_100 (by decide) ?_
    exact aw_fgt (L' := [some (vR 12 (some x0)), some (vI x1), some (vI z9), some (vI (x3 + 1))]) ⟨rfl, ⟨rfl, ⟨rfl, ⟨rfl, trivial⟩⟩⟩⟩ h
set_option maxRecDepth 4000 in
theorem bk_X12_readByte_0 {g : GP} {l : Launch} {d : Nat} {σ : St} {Q : Option AV → St → Prop} {x0 : Nat} {x1 : Int}
    (h : ACi g l d MX12_isSign [vR 12 (some x0), vI 42] σ (fun v2 σ1 => ((¬ v2 = 0 → AW g l (d + 1) MX12_readByte 25 [some (vR 12 (some x0)), some (vI x1), some (vI v2)] [vI 1, vR 12 (some x0)] σ1 Q) ∧ (v2 = 0 → ((¬ (gI σ1 1213 x0 0) = 2 → AW g l (d + 1) MX12_readByte 25 [some (vR 12 (some x0)), some (vI x1), some (vI v2)] [vI 0, vR 12 (some x0)] σ1 Q) ∧ ((gI σ1 1213 x0 0) = 2 → AW g l (d + 1) MX12_readByte 25 [some (vR 12 (some x0)), some (vI x1), some (vI v2)] [vI 1, vR 12 (some x0)] σ1 Q)))))) :
    AW g l (d + 1) MX12_readByte 0 [some (vR 12 (some x0)), some (vI x1), none] [] σ Q := by
  refine aw_aload_n dX12_readByte_0 rfl rfl ?_
  refine aw_bipush (x := 42) dX12_readByte_1 rfl ?_
  refine aw_invVi (M := MX12_readByte) (ci := 12) [vI 42] rfl mo_X12_isSign rfl lm_X12_401 li_X12_isSign ls_X12_isSign (by decide +kernel) dX12_readByte_3 rfl (Nat.le_of_ble_eq_true rfl) (ACi.mono (fun v2 σ1 h => ?_) h)
  refine aw_istore_n (L' := [some (vR 12 (some x0)), some (vI x1), some (vI v2)]) dX12_readByte_6 rfl (by decide) rfl ?_
  refine aw_aload_n dX12_readByte_7 rfl rfl ?_
  refine aw_iload_n dX12_readByte_8 rfl rfl ?_
  refine aw_if_ne (tgt := 20) dX12_readByte_9 (by decide) (fun k3 => ?_) (fun k3 => ?_)
  · replace h := h.1 k3
    refine aw_iconst (x := 1) dX12_readByte_20 rfl ?_
    refine aw_goto (tgt := 25) dX12_readByte_21 (by decide) ?_
    exact aw_fgt (L' := [some (vR 12 (some x0)), some (vI x1), some (vI v2)]) ⟨rfl, ⟨rfl, ⟨rfl, trivial⟩⟩⟩ h
  · replace h := h.2 k3
    refine aw_aload_n dX12_readByte_12 rfl rfl ?_
    refine aw_getI' rfl fk_1213 lf_X12_51 dX12_readByte_13 ?_
    refine aw_iconst (x := 2) dX12_readByte_16 rfl ?_
    refine aw_icmp_ne (tgt := 24) dX12_readByte_17 (by decide) (fun k4 => ?_) (fun k4 => ?_)
    · replace h := h.1 k4
      refine aw_iconst (x := 0) dX12_readByte_24 rfl ?_
      exact aw_fgt (L' := [some (vR 12 (some x0)), some (vI x1), some (vI v2)]) ⟨rfl, ⟨rfl, ⟨rfl, trivial⟩⟩⟩ h
    · replace h := h.2 k4
      refine aw_iconst (x := 1) dX12_readByte_20 rfl ?_
      refine aw_goto (tgt := 25) dX12_readByte_21 (by decide) ?_
      exact aw_fgt (L' := [some (vR 12 (some x0)), some (vI x1), some (vI v2)]) ⟨rfl, ⟨rfl, ⟨rfl, trivial⟩⟩⟩ h
set_option maxRecDepth 4000 in
theorem bk_X12_readByte_25 {g : GP} {l : Launch} {d : Nat} {σ : St} {Q : Option AV → St → Prop} {x0 : Nat} {x1 : Int} {x2 : Int} {y0 : Int} {y1 : Option Nat}
    (h : ∃ r1, y1 = some r1 ∧ ACi g l d MX12_must [vR 12 (some r1), vI y0, vI 2] σ (fun v4 σ3 => ((v4 = 0 → Q none σ3) ∧ (¬ v4 = 0 → LC 12 σ3 x0 ∧ Bd x1 560 ∧ ((16 ≤ (gI σ3 1237 x0 x1.toNat) → AW g l (d + 1) MX12_readByte 64 [some (vR 12 (some x0)), some (vI x1), some (vI x2)] [vI 0, vR 12 (some x0)] σ3 Q) ∧ (¬ 16 ≤ (gI σ3 1237 x0 x1.toNat) → ((¬ x2 = 0 → AW g l (d + 1) MX12_readByte 64 [some (vR 12 (some x0)), some (vI x1), some (vI x2)] [vI 1, vR 12 (some x0)] σ3 Q) ∧ (x2 = 0 → (((255 : Int64).toInt < (gJ σ3 1217 x0 0).toInt → AW g l (d + 1) MX12_readByte 64 [some (vR 12 (some x0)), some (vI x1), some (vI x2)] [vI 0, vR 12 (some x0)] σ3 Q) ∧ (¬ (255 : Int64).toInt < (gJ σ3 1217 x0 0).toInt → AW g l (d + 1) MX12_readByte 64 [some (vR 12 (some x0)), some (vI x1), some (vI x2)] [vI 1, vR 12 (some x0)] σ3 Q)))))))))) :
    AW g l (d + 1) MX12_readByte 25 [some (vR 12 (some x0)), some (vI x1), some (vI x2)] [vI y0, vR 12 y1] σ Q := by
  refine aw_iconst (x := 2) dX12_readByte_25 rfl ?_
  obtain ⟨r1, e2, h⟩ := h
  refine aw_invVi (M := MX12_readByte) (ci := 12) [vI y0, vI 2] e2 mo_X12_must rfl lm_X12_404 li_X12_must ls_X12_must (by decide +kernel) dX12_readByte_26 rfl (Nat.le_of_ble_eq_true rfl) (ACi.mono (fun v4 σ3 h => ?_) h)
  refine aw_if_eq (tgt := 71) dX12_readByte_29 (by decide) (fun k5 => ?_) (fun k5 => ?_)
  · replace h := h.1 k5
    exact aw_ret h rfl dX12_readByte_71
  · replace h := h.2 k5
    refine aw_aload_n dX12_readByte_32 rfl rfl ?_
    refine aw_aload_n dX12_readByte_33 rfl rfl ?_
    obtain ⟨lc6, h⟩ := h
    refine aw_getA' rfl fk_1237 (by decide) lf_X12_125 dX12_readByte_34 (LC.ne lc6 rfl rfl) ?_
    refine aw_iload_n dX12_readByte_37 rfl rfl ?_
    obtain ⟨⟨c7, c7x⟩, h⟩ := h
    refine aw_iaload (by decide) rfl dX12_readByte_38 c7 (LC.lt lc6 rfl rfl c7x) ?_
    refine aw_bipush (x := 16) dX12_readByte_39 rfl ?_
    refine aw_icmp_ge (tgt := 63) dX12_readByte_41 (by decide) (fun k8 => ?_) (fun k8 => ?_)
    · replace h := h.1 k8
      refine aw_iconst (x := 0) dX12_readByte_63 rfl ?_
      exact aw_fgt (L' := [some (vR 12 (some x0)), some (vI x1), some (vI x2)]) ⟨rfl, ⟨rfl, ⟨rfl, trivial⟩⟩⟩ h
    · replace h := h.2 k8
      refine aw_iload_n dX12_readByte_44 rfl rfl ?_
      refine aw_if_ne (tgt := 59) dX12_readByte_45 (by decide) (fun k9 => ?_) (fun k9 => ?_)
      · replace h := h.1 k9
        refine aw_iconst (x := 1) dX12_readByte_59 rfl ?_
        refine aw_goto (tgt := 64) dX12_readByte_60 (by decide) ?_
        exact aw_fgt (L' := [some (vR 12 (some x0)), some (vI x1), some (vI x2)]) ⟨rfl, ⟨rfl, ⟨rfl, trivial⟩⟩⟩ h
      · replace h := h.2 k9
        refine aw_aload_n dX12_readByte_48 rfl rfl ?_
        refine aw_getJ' rfl fk_1217 lf_X12_64 dX12_readByte_49 ?_
        refine aw_ldc2 lk_X12_297 dX12_readByte_52 ?_
        refine aw_lcmp_gt (M := MX12_readByte) (tgt := 63) dX12_readByte_55 dX12_readByte_56 (by decide) (fun k10 => ?_) (fun k10 => ?_)
        · replace h := h.1 k10
          refine aw_iconst (x := 0) dX12_readByte_63 rfl ?_
          exact aw_fgt (L' := [some (vR 12 (some x0)), some (vI x1), some (vI x2)]) ⟨rfl, ⟨rfl, ⟨rfl, trivial⟩⟩⟩ h
        · replace h := h.2 k10
          refine aw_iconst (x := 1) dX12_readByte_59 rfl ?_
          refine aw_goto (tgt := 64) dX12_readByte_60 (by decide) ?_
          exact aw_fgt (L' := [some (vR 12 (some x0)), some (vI x1), some (vI x2)]) ⟨rfl, ⟨rfl, ⟨rfl, trivial⟩⟩⟩ h
set_option maxRecDepth 4000 in
theorem bk_X12_readByte_64 {g : GP} {l : Launch} {d : Nat} {σ : St} {Q : Option AV → St → Prop} {x0 : Nat} {x1 : Int} {x2 : Int} {y0 : Int} {y1 : Option Nat}
    (h : ∃ r1, y1 = some r1 ∧ ACi g l d MX12_must [vR 12 (some r1), vI y0, vI 5] σ (fun v4 σ3 => ((¬ v4 = 0 → LC 12 σ3 x0 ∧ R32 (16 * x1) ∧ Bd x1 560 ∧ R32 ((16 * x1) + (gI σ3 1237 x0 x1.toNat)) ∧ ((x2 = 0 → AW g l (d + 1) MX12_readByte 101 [some (vR 12 (some x0)), some (vI x1), none] [vJ (gJ σ3 1217 x0 0), vI ((16 * x1) + (gI σ3 1237 x0 x1.toNat)), vA 1240 x0] σ3 Q) ∧ (¬ x2 = 0 → AW g l (d + 1) MX12_readByte 101 [some (vR 12 (some x0)), some (vI x1), none] [vJ (-1), vI ((16 * x1) + (gI σ3 1237 x0 x1.toNat)), vA 1240 x0] σ3 Q))) ∧ (v4 = 0 → Q none σ3)))) :
    AW g l (d + 1) MX12_readByte 64 [some (vR 12 (some x0)), some (vI x1), some (vI x2)] [vI y0, vR 12 y1] σ Q := by
  refine aw_iconst (x := 5) dX12_readByte_64 rfl ?_
  obtain ⟨r1, e2, h⟩ := h
  refine aw_invVi (M := MX12_readByte) (ci := 12) [vI y0, vI 5] e2 mo_X12_must rfl lm_X12_404 li_X12_must ls_X12_must (by decide +kernel) dX12_readByte_65 rfl (Nat.le_of_ble_eq_true rfl) (ACi.mono (fun v4 σ3 h => ?_) h)
  refine aw_if_ne (tgt := 72) dX12_readByte_68 (by decide) (fun k5 => ?_) (fun k5 => ?_)
  · replace h := h.1 k5
    refine aw_aload_n dX12_readByte_72 rfl rfl ?_
    obtain ⟨lc6, h⟩ := h
    refine aw_getA' rfl fk_1240 (by decide) lf_X12_134 dX12_readByte_73 (LC.ne lc6 rfl rfl) ?_
    refine aw_bipush (x := 16) dX12_readByte_76 rfl ?_
    refine aw_iload_n dX12_readByte_78 rfl rfl ?_
    obtain ⟨⟨c7, c7x⟩, h⟩ := h
    refine aw_imulc dX12_readByte_79 c7 c7x ?_
    refine aw_aload_n dX12_readByte_80 rfl rfl ?_
    refine aw_getA' rfl fk_1237 (by decide) lf_X12_125 dX12_readByte_81 (LC.ne lc6 rfl rfl) ?_
    refine aw_iload_n dX12_readByte_84 rfl rfl ?_
    obtain ⟨⟨c8, c8x⟩, h⟩ := h
    refine aw_iaload (by decide) rfl dX12_readByte_85 c8 (LC.lt lc6 rfl rfl c8x) ?_
    obtain ⟨⟨c9, c9x⟩, h⟩ := h
    refine aw_iaddc dX12_readByte_86 c9 c9x ?_
    refine aw_iload_n dX12_readByte_87 rfl rfl ?_
    refine aw_if_eq (tgt := 97) dX12_readByte_88 (by decide) (fun k10 => ?_) (fun k10 => ?_)
    · replace h := h.1 k10
      refine aw_aload_n dX12_readByte_97 rfl rfl ?_
      refine aw_getJ' rfl fk_1217 lf_X12_64 dX12_readByte_98 ?_
      exact aw_fgt (L' := [some (vR 12 (some x0)), some (vI x1), none]) ⟨rfl, ⟨rfl, trivial⟩⟩ h
    · replace h := h.2 k10
      refine aw_ldc2 lk_X12_521 dX12_readByte_91 ?_
      refine aw_goto (tgt := 101) dX12_readByte_94 (by decide) ?_
      exact aw_fgt (L' := [some (vR 12 (some x0)), some (vI x1), none]) ⟨rfl, ⟨rfl, trivial⟩⟩ h
  · replace h := h.2 k5
    exact aw_ret h rfl dX12_readByte_71
set_option maxRecDepth 4000 in
theorem bk_X12_readByte_101 {g : GP} {l : Launch} {d : Nat} {σ : St} {Q : Option AV → St → Prop} {x0 : Nat} {x1 : Int} {y0 : Int64} {y1 : Int} {y2 : Nat}
    (h : LC 12 σ y2 ∧ Bd y1 8960 ∧ LC 12 σ x0 ∧ Bd x1 560 ∧ R32 ((gI σ 1237 x0 x1.toNat) + 1) ∧ ACv g l d MX12_next [vR 12 (some x0)] (sI (sJ σ 1240 y2 y1.toNat y0) 1237 x0 x1.toNat ((gI σ 1237 x0 x1.toNat) + 1)) (fun σ6 => Q none σ6)) :
    AW g l (d + 1) MX12_readByte 101 [some (vR 12 (some x0)), some (vI x1), none] [vJ y0, vI y1, vA 1240 y2] σ Q := by
  obtain ⟨lc1, h⟩ := h
  obtain ⟨⟨c2, c2x⟩, h⟩ := h
  refine aw_lastore (by decide) rfl dX12_readByte_101 c2 (LC.lt lc1 rfl rfl c2x) ?_
  refine aw_aload_n dX12_readByte_102 rfl rfl ?_
  obtain ⟨lc3, h⟩ := h
  refine aw_getA' rfl fk_1237 (by decide) lf_X12_125 dX12_readByte_103 (LC.ne lc3 rfl rfl) ?_
  refine aw_iload_n dX12_readByte_106 rfl rfl ?_
  refine aw_dup2 dX12_readByte_107 rfl rfl ?_
  obtain ⟨⟨c4, c4x⟩, h⟩ := h
  refine aw_ialoade (v := gI σ 1237 x0 x1.toNat) (by decide) rfl dX12_readByte_108 c4 (LC.lt lc3 rfl rfl c4x) rfl ?_
  refine aw_iconst (x := 1) dX12_readByte_109 rfl ?_
  obtain ⟨⟨c5, c5x⟩, h⟩ := h
  refine aw_iaddc dX12_readByte_110 c5 c5x ?_
  refine aw_iastore (by decide) rfl dX12_readByte_111 c4 (LC.lt lc3 rfl rfl c4x) ?_
  refine aw_aload_n dX12_readByte_112 rfl rfl ?_
  refine aw_invVv (M := MX12_readByte) (ci := 12) [] rfl mo_X12_next rfl lm_X12_408 li_X12_next ls_X12_next (by decide +kernel) dX12_readByte_113 rfl (Nat.le_of_ble_eq_true rfl) (ACv.mono (fun σ6 h => ?_) h)
  exact aw_ret h rfl dX12_readByte_116
set_option maxRecDepth 4000 in
theorem bk_X12_readCase_0 {g : GP} {l : Launch} {d : Nat} {σ : St} {Q : Option AV → St → Prop} {x0 : Nat} {x1 : Int}
    (h : ACi g l d MX12_isSign [vR 12 (some x0), vI 45] σ (fun v2 σ1 => ((¬ v2 = 0 → AW g l (d + 1) MX12_readCase 23 [some (vR 12 (some x0)), some (vI x1), none] [vI 1, vR 12 (some x0)] σ1 Q) ∧ (v2 = 0 → ((¬ (gI σ1 1213 x0 0) = 2 → AW g l (d + 1) MX12_readCase 23 [some (vR 12 (some x0)), some (vI x1), none] [vI 0, vR 12 (some x0)] σ1 Q) ∧ ((gI σ1 1213 x0 0) = 2 → AW g l (d + 1) MX12_readCase 23 [some (vR 12 (some x0)), some (vI x1), none] [vI 1, vR 12 (some x0)] σ1 Q)))))) :
    AW g l (d + 1) MX12_readCase 0 [some (vR 12 (some x0)), some (vI x1), none] [] σ Q := by
  refine aw_aload_n dX12_readCase_0 rfl rfl ?_
  refine aw_aload_n dX12_readCase_1 rfl rfl ?_
  refine aw_bipush (x := 45) dX12_readCase_2 rfl ?_
  refine aw_invVi (M := MX12_readCase) (ci := 12) [vI 45] rfl mo_X12_isSign rfl lm_X12_401 li_X12_isSign ls_X12_isSign (by decide +kernel) dX12_readCase_4 rfl (Nat.le_of_ble_eq_true rfl) (ACi.mono (fun v2 σ1 h => ?_) h)
  refine aw_if_ne (tgt := 18) dX12_readCase_7 (by decide) (fun k3 => ?_) (fun k3 => ?_)
  · replace h := h.1 k3
    refine aw_iconst (x := 1) dX12_readCase_18 rfl ?_
    refine aw_goto (tgt := 23) dX12_readCase_19 (by decide) ?_
    exact aw_fgt (L' := [some (vR 12 (some x0)), some (vI x1), none]) ⟨rfl, ⟨rfl, trivial⟩⟩ h
  · replace h := h.2 k3
    refine aw_aload_n dX12_readCase_10 rfl rfl ?_
    refine aw_getI' rfl fk_1213 lf_X12_51 dX12_readCase_11 ?_
    refine aw_iconst (x := 2) dX12_readCase_14 rfl ?_
    refine aw_icmp_ne (tgt := 22) dX12_readCase_15 (by decide) (fun k4 => ?_) (fun k4 => ?_)
    · replace h := h.1 k4
      refine aw_iconst (x := 0) dX12_readCase_22 rfl ?_
      exact aw_fgt (L' := [some (vR 12 (some x0)), some (vI x1), none]) ⟨rfl, ⟨rfl, trivial⟩⟩ h
    · replace h := h.2 k4
      refine aw_iconst (x := 1) dX12_readCase_18 rfl ?_
      refine aw_goto (tgt := 23) dX12_readCase_19 (by decide) ?_
      exact aw_fgt (L' := [some (vR 12 (some x0)), some (vI x1), none]) ⟨rfl, ⟨rfl, trivial⟩⟩ h
set_option maxRecDepth 4000 in
theorem bk_X12_readCase_23 {g : GP} {l : Launch} {d : Nat} {σ : St} {Q : Option AV → St → Prop} {x0 : Nat} {x1 : Int} {y0 : Int} {y1 : Option Nat}
    (h : ∃ r1, y1 = some r1 ∧ ACi g l d MX12_must [vR 12 (some r1), vI y0, vI 2] σ (fun v4 σ3 => ((v4 = 0 → Q none σ3) ∧ (¬ v4 = 0 → LC 12 σ3 x0 ∧ Bd x1 560 ∧ ((8 ≤ (gI σ3 1237 x0 x1.toNat) → AW g l (d + 1) MX12_readCase 47 [some (vR 12 (some x0)), some (vI x1), none] [vI 0, vR 12 (some x0)] σ3 Q) ∧ (¬ 8 ≤ (gI σ3 1237 x0 x1.toNat) → AW g l (d + 1) MX12_readCase 47 [some (vR 12 (some x0)), some (vI x1), none] [vI 1, vR 12 (some x0)] σ3 Q)))))) :
    AW g l (d + 1) MX12_readCase 23 [some (vR 12 (some x0)), some (vI x1), none] [vI y0, vR 12 y1] σ Q := by
  refine aw_iconst (x := 2) dX12_readCase_23 rfl ?_
  obtain ⟨r1, e2, h⟩ := h
  refine aw_invVi (M := MX12_readCase) (ci := 12) [vI y0, vI 2] e2 mo_X12_must rfl lm_X12_404 li_X12_must ls_X12_must (by decide +kernel) dX12_readCase_24 rfl (Nat.le_of_ble_eq_true rfl) (ACi.mono (fun v4 σ3 h => ?_) h)
  refine aw_if_eq (tgt := 54) dX12_readCase_27 (by decide) (fun k5 => ?_) (fun k5 => ?_)
  · replace h := h.1 k5
    exact aw_ret h rfl dX12_readCase_54
  · replace h := h.2 k5
    refine aw_aload_n dX12_readCase_30 rfl rfl ?_
    refine aw_aload_n dX12_readCase_31 rfl rfl ?_
    obtain ⟨lc6, h⟩ := h
    refine aw_getA' rfl fk_1237 (by decide) lf_X12_125 dX12_readCase_32 (LC.ne lc6 rfl rfl) ?_
    refine aw_iload_n dX12_readCase_35 rfl rfl ?_
    obtain ⟨⟨c7, c7x⟩, h⟩ := h
    refine aw_iaload (by decide) rfl dX12_readCase_36 c7 (LC.lt lc6 rfl rfl c7x) ?_
    refine aw_bipush (x := 8) dX12_readCase_37 rfl ?_
    refine aw_icmp_ge (tgt := 46) dX12_readCase_39 (by decide) (fun k8 => ?_) (fun k8 => ?_)
    · replace h := h.1 k8
      refine aw_iconst (x := 0) dX12_readCase_46 rfl ?_
      exact aw_fgt (L' := [some (vR 12 (some x0)), some (vI x1), none]) ⟨rfl, ⟨rfl, trivial⟩⟩ h
    · replace h := h.2 k8
      refine aw_iconst (x := 1) dX12_readCase_42 rfl ?_
      refine aw_goto (tgt := 47) dX12_readCase_43 (by decide) ?_
      exact aw_fgt (L' := [some (vR 12 (some x0)), some (vI x1), none]) ⟨rfl, ⟨rfl, trivial⟩⟩ h
set_option maxRecDepth 4000 in
theorem bk_X12_readCase_47 {g : GP} {l : Launch} {d : Nat} {σ : St} {Q : Option AV → St → Prop} {x0 : Nat} {x1 : Int} {y0 : Int} {y1 : Option Nat}
    (h : ∃ r1, y1 = some r1 ∧ ACi g l d MX12_must [vR 12 (some r1), vI y0, vI 5] σ (fun v4 σ3 => ((¬ v4 = 0 → R32 (16 * x1) ∧ LC 12 σ3 x0 ∧ Bd x1 560 ∧ R32 ((16 * x1) + (gI σ3 1237 x0 x1.toNat)) ∧ ∀ z10 : Int, z10 = (16 * x1) + (gI σ3 1237 x0 x1.toNat) → ACj g l d MX12_signed [vR 12 (some x0)] σ3 (fun v12 σ11 => LC 12 σ11 x0 ∧ Bd z10 8960 ∧ ACv g l d MX12_take [vR 12 (some x0), vI 58] (sJ σ11 1240 x0 z10.toNat v12) (fun σ15 => (((gI σ15 1251 x0 0) ≤ 0 → LC 12 σ15 x0 ∧ ACi g l d MX12_ended [vR 12 (some x0)] σ15 (fun v19 σ18 => LC 12 σ18 x0 ∧ ACv g l d MX12_take [vR 12 (some x0), vI 59] (sI σ18 1241 x0 z10.toNat v19) (fun σ21 => LC 12 σ21 x0 ∧ R32 ((gI σ21 1237 x0 x1.toNat) + 1) ∧ Q none (sI σ21 1237 x0 x1.toNat ((gI σ21 1237 x0 x1.toNat) + 1))))) ∧ (¬ (gI σ15 1251 x0 0) ≤ 0 → Q none σ15))))) ∧ (v4 = 0 → Q none σ3)))) :
    AW g l (d + 1) MX12_readCase 47 [some (vR 12 (some x0)), some (vI x1), none] [vI y0, vR 12 y1] σ Q := by
  refine aw_iconst (x := 5) dX12_readCase_47 rfl ?_
  obtain ⟨r1, e2, h⟩ := h
  refine aw_invVi (M := MX12_readCase) (ci := 12) [vI y0, vI 5] e2 mo_X12_must rfl lm_X12_404 li_X12_must ls_X12_must (by decide +kernel) dX12_readCase_48 rfl (Nat.le_of_ble_eq_true rfl) (ACi.mono (fun v4 σ3 h => ?_) h)
  refine aw_if_ne (tgt := 55) dX12_readCase_51 (by decide) (fun k5 => ?_) (fun k5 => ?_)
  · replace h := h.1 k5
    refine aw_bipush (x := 16) dX12_readCase_55 rfl ?_
    refine aw_iload_n dX12_readCase_57 rfl rfl ?_
    obtain ⟨⟨c6, c6x⟩, h⟩ := h
    refine aw_imulc dX12_readCase_58 c6 c6x ?_
    refine aw_aload_n dX12_readCase_59 rfl rfl ?_
    obtain ⟨lc7, h⟩ := h
    refine aw_getA' rfl fk_1237 (by decide) lf_X12_125 dX12_readCase_60 (LC.ne lc7 rfl rfl) ?_
    refine aw_iload_n dX12_readCase_63 rfl rfl ?_
    obtain ⟨⟨c8, c8x⟩, h⟩ := h
    refine aw_iaload (by decide) rfl dX12_readCase_64 c8 (LC.lt lc7 rfl rfl c8x) ?_
    obtain ⟨⟨c9, c9x⟩, h⟩ := h
    refine aw_iaddc dX12_readCase_65 c9 c9x ?_
    refine aw_istore_n (L' := [some (vR 12 (some x0)), some (vI x1), some (vI ((16 * x1) + (gI σ3 1237 x0 x1.toNat)))]) dX12_readCase_66 rfl (by decide) rfl ?_
    obtain ⟨z10, hz10⟩ : ∃ z : Int, z = (16 * x1) + (gI σ3 1237 x0 x1.toNat) := ⟨_, rfl⟩
    rw [← hz10]
    replace h := h z10 hz10
    refine aw_aload_n dX12_readCase_67 rfl rfl ?_
    refine aw_getA' rfl fk_1240 (by decide) lf_X12_134 dX12_readCase_68 (LC.ne lc7 rfl rfl) ?_
    refine aw_iload_n dX12_readCase_71 rfl rfl ?_
    refine aw_aload_n dX12_readCase_72 rfl rfl ?_
    refine aw_invVj (M := MX12_readCase) (ci := 12) [] rfl mo_X12_signed rfl lm_X12_437 li_X12_signed ls_X12_signed (by decide +kernel) dX12_readCase_73 rfl (Nat.le_of_ble_eq_true rfl) (ACj.mono (fun v12 σ11 h => ?_) h)
    obtain ⟨lc13, h⟩ := h
    obtain ⟨⟨c14, c14x⟩, h⟩ := h
    refine aw_lastore (by decide) rfl dX12_readCase_76 c14 (LC.lt lc13 rfl rfl c14x) ?_
    refine aw_aload_n dX12_readCase_77 rfl rfl ?_
    refine aw_bipush (x := 58) dX12_readCase_78 rfl ?_
    refine aw_invVv (M := MX12_readCase) (ci := 12) [vI 58] rfl mo_X12_take rfl lm_X12_431 li_X12_take ls_X12_take (by decide +kernel) dX12_readCase_80 rfl (Nat.le_of_ble_eq_true rfl) (ACv.mono (fun σ15 h => ?_) h)
    refine aw_aload_n dX12_readCase_83 rfl rfl ?_
    refine aw_getI' rfl fk_1251 lf_X12_167 dX12_readCase_84 ?_
    refine aw_if_le (tgt := 91) dX12_readCase_87 (by decide) (fun k16 => ?_) (fun k16 => ?_)
    · replace h := h.1 k16
      refine aw_aload_n dX12_readCase_91 rfl rfl ?_
      obtain ⟨lc17, h⟩ := h
      refine aw_getA' rfl fk_1241 (by decide) lf_X12_137 dX12_readCase_92 (LC.ne lc17 rfl rfl) ?_
      refine aw_iload_n dX12_readCase_95 rfl rfl ?_
      refine aw_aload_n dX12_readCase_96 rfl rfl ?_
      refine aw_invVi (M := MX12_readCase) (ci := 12) [] rfl mo_X12_ended rfl lm_X12_513 li_X12_ended ls_X12_ended (by decide +kernel) dX12_readCase_97 rfl (Nat.le_of_ble_eq_true rfl) (ACi.mono (fun v19 σ18 h => ?_) h)
      obtain ⟨lc20, h⟩ := h
      refine aw_iastore (by decide) rfl dX12_readCase_100 c14 (LC.lt lc20 rfl rfl c14x) ?_
      refine aw_aload_n dX12_readCase_101 rfl rfl ?_
      refine aw_bipush (x := 59) dX12_readCase_102 rfl ?_
      refine aw_invVv (M := MX12_readCase) (ci := 12) [vI 59] rfl mo_X12_take rfl lm_X12_431 li_X12_take ls_X12_take (by decide +kernel) dX12_readCase_104 rfl (Nat.le_of_ble_eq_true rfl) (ACv.mono (fun σ21 h => ?_) h)
      refine aw_aload_n dX12_readCase_107 rfl rfl ?_
      obtain ⟨lc22, h⟩ := h
      refine aw_getA' rfl fk_1237 (by decide) lf_X12_125 dX12_readCase_108 (LC.ne lc22 rfl rfl) ?_
      refine aw_iload_n dX12_readCase_111 rfl rfl ?_
      refine aw_dup2 dX12_readCase_112 rfl rfl ?_
      refine aw_iaload (by decide) rfl dX12_readCase_113 c8 (LC.lt lc22 rfl rfl c8x) ?_
      refine aw_iconst (x := 1) dX12_readCase_114 rfl ?_
      obtain ⟨⟨c23, c23x⟩, h⟩ := h
      refine aw_iaddc dX12_readCase_115 c23 c23x ?_
      refine aw_iastore (by decide) rfl dX12_readCase_116 c8 (LC.lt lc22 rfl rfl c8x) ?_
      exact aw_ret h rfl dX12_readCase_117
    · replace h := h.2 k16
      exact aw_ret h rfl dX12_readCase_90
  · replace h := h.2 k5
    exact aw_ret h rfl dX12_readCase_54
set_option maxRecDepth 4000 in
theorem bk_X12_readEnum_0 {g : GP} {l : Launch} {d : Nat} {σ : St} {Q : Option AV → St → Prop} {x0 : Nat}
    (h : R32 (8 * (gI σ 1253 x0 0)) ∧ LC 12 σ x0 ∧ Bd (gI σ 1253 x0 0) 2 ∧ R32 ((8 * (gI σ 1253 x0 0)) + (gI σ 1220 x0 (gI σ 1253 x0 0).toNat)) ∧ ∀ z5 : Int, z5 = (8 * (gI σ 1253 x0 0)) + (gI σ 1220 x0 (gI σ 1253 x0 0).toNat) → Bd z5 16 ∧ ACv g l d MX12_next [vR 12 (some x0)] (sI (sJ σ 1224 x0 z5.toNat (gJ σ 1216 x0 0)) 1225 x0 z5.toNat 0) (fun σ7 => ACv g l d MX12_take [vR 12 (some x0), vI 123] σ7 (fun σ8 => ACv g l d MX12_pair [vR 12 (some x0), vI z5] σ8 (fun σ9 => AW g l (d + 1) MX12_readEnum 50 [some (vR 12 (some x0)), some (vI z5)] [] σ9 Q)))) :
    AW g l (d + 1) MX12_readEnum 0 [some (vR 12 (some x0)), none] [] σ Q := by
  refine aw_bipush (x := 8) dX12_readEnum_0 rfl ?_
  refine aw_aload_n dX12_readEnum_2 rfl rfl ?_
  refine aw_getI' rfl fk_1253 lf_X12_173 dX12_readEnum_3 ?_
  obtain ⟨⟨c1, c1x⟩, h⟩ := h
  refine aw_imulc dX12_readEnum_6 c1 c1x ?_
  refine aw_aload_n dX12_readEnum_7 rfl rfl ?_
  obtain ⟨lc2, h⟩ := h
  refine aw_getA' rfl fk_1220 (by decide) lf_X12_73 dX12_readEnum_8 (LC.ne lc2 rfl rfl) ?_
  refine aw_aload_n dX12_readEnum_11 rfl rfl ?_
  refine aw_getI' rfl fk_1253 lf_X12_173 dX12_readEnum_12 ?_
  obtain ⟨⟨c3, c3x⟩, h⟩ := h
  refine aw_iaload (by decide) rfl dX12_readEnum_15 c3 (LC.lt lc2 rfl rfl c3x) ?_
  obtain ⟨⟨c4, c4x⟩, h⟩ := h
  refine aw_iaddc dX12_readEnum_16 c4 c4x ?_
  refine aw_istore_n (L' := [some (vR 12 (some x0)), some (vI ((8 * (gI σ 1253 x0 0)) + (gI σ 1220 x0 (gI σ 1253 x0 0).toNat)))]) dX12_readEnum_17 rfl (by decide) rfl ?_
  obtain ⟨z5, hz5⟩ : ∃ z : Int, z = (8 * (gI σ 1253 x0 0)) + (gI σ 1220 x0 (gI σ 1253 x0 0).toNat) := ⟨_, rfl⟩
  rw [← hz5]
  replace h := h z5 hz5
  refine aw_aload_n dX12_readEnum_18 rfl rfl ?_
  refine aw_getA' rfl fk_1224 (by decide) lf_X12_86 dX12_readEnum_19 (LC.ne lc2 rfl rfl) ?_
  refine aw_iload_n dX12_readEnum_22 rfl rfl ?_
  refine aw_aload_n dX12_readEnum_23 rfl rfl ?_
  refine aw_getJ' rfl fk_1216 lf_X12_60 dX12_readEnum_24 ?_
  obtain ⟨⟨c6, c6x⟩, h⟩ := h
  refine aw_lastore (by decide) rfl dX12_readEnum_27 c6 (LC.lt lc2 rfl rfl c6x) ?_
  refine aw_aload_n dX12_readEnum_28 rfl rfl ?_
  refine aw_getA' rfl fk_1225 (by decide) lf_X12_89 dX12_readEnum_29 (LC.ne lc2 rfl rfl) ?_
  refine aw_iload_n dX12_readEnum_32 rfl rfl ?_
  refine aw_iconst (x := 0) dX12_readEnum_33 rfl ?_
  refine aw_iastore (by decide) rfl dX12_readEnum_34 c6 (LC.lt lc2 rfl rfl c6x) ?_
  refine aw_aload_n dX12_readEnum_35 rfl rfl ?_
  refine aw_invVv (M := MX12_readEnum) (ci := 12) [] rfl mo_X12_next rfl lm_X12_408 li_X12_next ls_X12_next (by decide +kernel) dX12_readEnum_36 rfl (Nat.le_of_ble_eq_true rfl) (ACv.mono (fun σ7 h => ?_) h)
  refine aw_aload_n dX12_readEnum_39 rfl rfl ?_
  refine aw_bipush (x := 123) dX12_readEnum_40 rfl ?_
  refine aw_invVv (M := MX12_readEnum) (ci := 12) [vI 123] rfl mo_X12_take rfl lm_X12_431 li_X12_take ls_X12_take (by decide +kernel) dX12_readEnum_42 rfl (Nat.le_of_ble_eq_true rfl) (ACv.mono (fun σ8 h => ?_) h)
  refine aw_aload_n dX12_readEnum_45 rfl rfl ?_
  refine aw_iload_n dX12_readEnum_46 rfl rfl ?_
  refine aw_invVv (M := MX12_readEnum) (ci := 12) [vI z5] rfl mo_X12_pair rfl lm_X12_434 li_X12_pair ls_X12_pair (by decide +kernel) dX12_readEnum_47 rfl (Nat.le_of_ble_eq_true rfl) (ACv.mono (fun σ9 h => ?_) h)
  exact aw_fgt (L' := [some (vR 12 (some x0)), some (vI z5)]) ⟨rfl, ⟨rfl, trivial⟩⟩ h
set_option maxRecDepth 4000 in
theorem bk_X12_readEnum_50 {g : GP} {l : Launch} {d : Nat} {σ : St} {Q : Option AV → St → Prop} {x0 : Nat} {x1 : Int}
    (h : ((¬ (gI σ 1251 x0 0) = 0 → AW g l (d + 1) MX12_readEnum 78 [some (vR 12 (some x0)), none] [] σ Q) ∧ ((gI σ 1251 x0 0) = 0 → ACi g l d MX12_isSign [vR 12 (some x0), vI 44] σ (fun v3 σ2 => ((v3 = 0 → AW g l (d + 1) MX12_readEnum 78 [some (vR 12 (some x0)), none] [] σ2 Q) ∧ (¬ v3 = 0 → ACv g l d MX12_next [vR 12 (some x0)] σ2 (fun σ5 => ACv g l d MX12_pair [vR 12 (some x0), vI x1] σ5 (fun σ6 => AW g l (d + 1) MX12_readEnum 50 [some (vR 12 (some x0)), some (vI x1)] [] σ6 Q)))))))) :
    AW g l (d + 1) MX12_readEnum 50 [some (vR 12 (some x0)), some (vI x1)] [] σ Q := by
  refine aw_aload_n dX12_readEnum_50 rfl rfl ?_
  refine aw_getI' rfl fk_1251 lf_X12_167 dX12_readEnum_51 ?_
  refine aw_if_ne (tgt := 78) dX12_readEnum_54 (by decide) (fun k1 => ?_) (fun k1 => ?_)
  · replace h := h.1 k1
    exact aw_fgt (L' := [some (vR 12 (some x0)), none]) ⟨rfl, trivial⟩ h
  · replace h := h.2 k1
    refine aw_aload_n dX12_readEnum_57 rfl rfl ?_
    refine aw_bipush (x := 44) dX12_readEnum_58 rfl ?_
    refine aw_invVi (M := MX12_readEnum) (ci := 12) [vI 44] rfl mo_X12_isSign rfl lm_X12_401 li_X12_isSign ls_X12_isSign (by decide +kernel) dX12_readEnum_60 rfl (Nat.le_of_ble_eq_true rfl) (ACi.mono (fun v3 σ2 h => ?_) h)
    refine aw_if_eq (tgt := 78) dX12_readEnum_63 (by decide) (fun k4 => ?_) (fun k4 => ?_)
    · replace h := h.1 k4
      exact aw_fgt (L' := [some (vR 12 (some x0)), none]) ⟨rfl, trivial⟩ h
    · replace h := h.2 k4
      refine aw_aload_n dX12_readEnum_66 rfl rfl ?_
      refine aw_invVv (M := MX12_readEnum) (ci := 12) [] rfl mo_X12_next rfl lm_X12_408 li_X12_next ls_X12_next (by decide +kernel) dX12_readEnum_67 rfl (Nat.le_of_ble_eq_true rfl) (ACv.mono (fun σ5 h => ?_) h)
      refine aw_aload_n dX12_readEnum_70 rfl rfl ?_
      refine aw_iload_n dX12_readEnum_71 rfl rfl ?_
      refine aw_invVv (M := MX12_readEnum) (ci := 12) [vI x1] rfl mo_X12_pair rfl lm_X12_434 li_X12_pair ls_X12_pair (by decide +kernel) dX12_readEnum_72 rfl (Nat.le_of_ble_eq_true rfl) (ACv.mono (fun σ6 h => ?_) h)
      refine aw_goto (tgt := 50) dX12_readEnum_75 (by decide) ?_
      exact aw_fgt (L' := [some (vR 12 (some x0)), some (vI x1)]) ⟨rfl, ⟨rfl, trivial⟩⟩ h
set_option maxRecDepth 4000 in
theorem bk_X12_readEnum_78 {g : GP} {l : Launch} {d : Nat} {σ : St} {Q : Option AV → St → Prop} {x0 : Nat}
    (h : ACv g l d MX12_take [vR 12 (some x0), vI 125] σ (fun σ1 => LC 12 σ1 x0 ∧ Bd (gI σ1 1253 x0 0) 2 ∧ R32 ((gI σ1 1220 x0 (gI σ1 1253 x0 0).toNat) + 1) ∧ Q none (sI σ1 1220 x0 (gI σ1 1253 x0 0).toNat ((gI σ1 1220 x0 (gI σ1 1253 x0 0).toNat) + 1)))) :
    AW g l (d + 1) MX12_readEnum 78 [some (vR 12 (some x0)), none] [] σ Q := by
  refine aw_aload_n dX12_readEnum_78 rfl rfl ?_
  refine aw_bipush (x := 125) dX12_readEnum_79 rfl ?_
  refine aw_invVv (M := MX12_readEnum) (ci := 12) [vI 125] rfl mo_X12_take rfl lm_X12_431 li_X12_take ls_X12_take (by decide +kernel) dX12_readEnum_81 rfl (Nat.le_of_ble_eq_true rfl) (ACv.mono (fun σ1 h => ?_) h)
  refine aw_aload_n dX12_readEnum_84 rfl rfl ?_
  obtain ⟨lc2, h⟩ := h
  refine aw_getA' rfl fk_1220 (by decide) lf_X12_73 dX12_readEnum_85 (LC.ne lc2 rfl rfl) ?_
  refine aw_aload_n dX12_readEnum_88 rfl rfl ?_
  refine aw_getI' rfl fk_1253 lf_X12_173 dX12_readEnum_89 ?_
  refine aw_dup2 dX12_readEnum_92 rfl rfl ?_
  obtain ⟨⟨c3, c3x⟩, h⟩ := h
  refine aw_iaload (by decide) rfl dX12_readEnum_93 c3 (LC.lt lc2 rfl rfl c3x) ?_
  refine aw_iconst (x := 1) dX12_readEnum_94 rfl ?_
  obtain ⟨⟨c4, c4x⟩, h⟩ := h
  refine aw_iaddc dX12_readEnum_95 c4 c4x ?_
  refine aw_iastore (by decide) rfl dX12_readEnum_96 c3 (LC.lt lc2 rfl rfl c3x) ?_
  exact aw_ret h rfl dX12_readEnum_97
set_option maxRecDepth 4000 in
theorem bk_X12_readField_0 {g : GP} {l : Launch} {d : Nat} {σ : St} {Q : Option AV → St → Prop} {x0 : Nat}
    (h : ACi g l d MX12_isWord [vR 12 (some x0), vJ 26982] σ (fun v2 σ1 => ((¬ v2 = 0 → AW g l (d + 1) MX12_readField 23 [some (vR 12 (some x0)), none] [vI 1, vR 12 (some x0)] σ1 Q) ∧ (v2 = 0 → ACi g l d MX12_beginsCore [vR 12 (some x0)] σ1 (fun v5 σ4 => ((v5 = 0 → AW g l (d + 1) MX12_readField 23 [some (vR 12 (some x0)), none] [vI 0, vR 12 (some x0)] σ4 Q) ∧ (¬ v5 = 0 → AW g l (d + 1) MX12_readField 23 [some (vR 12 (some x0)), none] [vI 1, vR 12 (some x0)] σ4 Q))))))) :
    AW g l (d + 1) MX12_readField 0 [some (vR 12 (some x0)), none] [] σ Q := by
  refine aw_aload_n dX12_readField_0 rfl rfl ?_
  refine aw_aload_n dX12_readField_1 rfl rfl ?_
  refine aw_ldc2 lk_X12_340 dX12_readField_2 ?_
  refine aw_invVi (M := MX12_readField) (ci := 12) [vJ 26982] rfl mo_X12_isWord rfl lm_X12_334 li_X12_isWord ls_X12_isWord (by decide +kernel) dX12_readField_5 rfl (Nat.le_of_ble_eq_true rfl) (ACi.mono (fun v2 σ1 h => ?_) h)
  refine aw_if_ne (tgt := 18) dX12_readField_8 (by decide) (fun k3 => ?_) (fun k3 => ?_)
  · replace h := h.1 k3
    refine aw_iconst (x := 1) dX12_readField_18 rfl ?_
    refine aw_goto (tgt := 23) dX12_readField_19 (by decide) ?_
    exact aw_fgt (L' := [some (vR 12 (some x0)), none]) ⟨rfl, trivial⟩ h
  · replace h := h.2 k3
    refine aw_aload_n dX12_readField_11 rfl rfl ?_
    refine aw_invVi (M := MX12_readField) (ci := 12) [] rfl mo_X12_beginsCore rfl lm_X12_457 li_X12_beginsCore ls_X12_beginsCore (by decide +kernel) dX12_readField_12 rfl (Nat.le_of_ble_eq_true rfl) (ACi.mono (fun v5 σ4 h => ?_) h)
    refine aw_if_eq (tgt := 22) dX12_readField_15 (by decide) (fun k6 => ?_) (fun k6 => ?_)
    · replace h := h.1 k6
      refine aw_iconst (x := 0) dX12_readField_22 rfl ?_
      exact aw_fgt (L' := [some (vR 12 (some x0)), none]) ⟨rfl, trivial⟩ h
    · replace h := h.2 k6
      refine aw_iconst (x := 1) dX12_readField_18 rfl ?_
      refine aw_goto (tgt := 23) dX12_readField_19 (by decide) ?_
      exact aw_fgt (L' := [some (vR 12 (some x0)), none]) ⟨rfl, trivial⟩ h
set_option maxRecDepth 4000 in
theorem bk_X12_readField_23 {g : GP} {l : Launch} {d : Nat} {σ : St} {Q : Option AV → St → Prop} {x0 : Nat} {y0 : Int} {y1 : Option Nat}
    (h : ∃ r1, y1 = some r1 ∧ ACi g l d MX12_must [vR 12 (some r1), vI y0, vI 2] σ (fun v4 σ3 => ((¬ v4 = 0 → ACi g l d MX12_isName [vR 12 (some x0)] σ3 (fun v7 σ6 => ((v7 = 0 → AW g l (d + 1) MX12_readField 72 [some (vR 12 (some x0)), none] [] σ6 Q) ∧ (¬ v7 = 0 → LC 12 σ6 x0 ∧ Bd (gI σ6 1253 x0 0) 2 ∧ ACi g l d MX12_structNamed [vR 12 (some x0), vJ (gJ σ6 1216 x0 0), vI (gI σ6 1219 x0 (gI σ6 1253 x0 0).toNat)] σ6 (fun v12 σ11 => ((v12 < 0 → ACi g l d MX12_must [vR 12 (some x0), vI 0, vI 4] σ11 (fun v15 σ14 => ((¬ v15 = 0 → AW g l (d + 1) MX12_readField 72 [some (vR 12 (some x0)), none] [] σ14 Q) ∧ (v15 = 0 → Q none σ14)))) ∧ (¬ v12 < 0 → ACi g l d MX12_must [vR 12 (some x0), vI 1, vI 4] σ11 (fun v18 σ17 => ((¬ v18 = 0 → AW g l (d + 1) MX12_readField 72 [some (vR 12 (some x0)), none] [] σ17 Q) ∧ (v18 = 0 → Q none σ17)))))))))) ∧ (v4 = 0 → Q none σ3)))) :
    AW g l (d + 1) MX12_readField 23 [some (vR 12 (some x0)), none] [vI y0, vR 12 y1] σ Q := by
  refine aw_iconst (x := 2) dX12_readField_23 rfl ?_
  obtain ⟨r1, e2, h⟩ := h
  refine aw_invVi (M := MX12_readField) (ci := 12) [vI y0, vI 2] e2 mo_X12_must rfl lm_X12_404 li_X12_must ls_X12_must (by decide +kernel) dX12_readField_24 rfl (Nat.le_of_ble_eq_true rfl) (ACi.mono (fun v4 σ3 h => ?_) h)
  refine aw_if_ne (tgt := 31) dX12_readField_27 (by decide) (fun k5 => ?_) (fun k5 => ?_)
  · replace h := h.1 k5
    refine aw_aload_n dX12_readField_31 rfl rfl ?_
    refine aw_invVi (M := MX12_readField) (ci := 12) [] rfl mo_X12_isName rfl lm_X12_418 li_X12_isName ls_X12_isName (by decide +kernel) dX12_readField_32 rfl (Nat.le_of_ble_eq_true rfl) (ACi.mono (fun v7 σ6 h => ?_) h)
    refine aw_if_eq (tgt := 72) dX12_readField_35 (by decide) (fun k8 => ?_) (fun k8 => ?_)
    · replace h := h.1 k8
      exact aw_fgt (L' := [some (vR 12 (some x0)), none]) ⟨rfl, trivial⟩ h
    · replace h := h.2 k8
      refine aw_aload_n dX12_readField_38 rfl rfl ?_
      refine aw_aload_n dX12_readField_39 rfl rfl ?_
      refine aw_aload_n dX12_readField_40 rfl rfl ?_
      refine aw_getJ' rfl fk_1216 lf_X12_60 dX12_readField_41 ?_
      refine aw_aload_n dX12_readField_44 rfl rfl ?_
      obtain ⟨lc9, h⟩ := h
      refine aw_getA' rfl fk_1219 (by decide) lf_X12_70 dX12_readField_45 (LC.ne lc9 rfl rfl) ?_
      refine aw_aload_n dX12_readField_48 rfl rfl ?_
      refine aw_getI' rfl fk_1253 lf_X12_173 dX12_readField_49 ?_
      obtain ⟨⟨c10, c10x⟩, h⟩ := h
      refine aw_iaload (by decide) rfl dX12_readField_52 c10 (LC.lt lc9 rfl rfl c10x) ?_
      refine aw_invVi (M := MX12_readField) (ci := 12) [vJ (gJ σ6 1216 x0 0), vI (gI σ6 1219 x0 (gI σ6 1253 x0 0).toNat)] rfl mo_X12_structNamed rfl lm_X12_414 li_X12_structNamed ls_X12_structNamed (by decide +kernel) dX12_readField_53 rfl (Nat.le_of_ble_eq_true rfl) (ACi.mono (fun v12 σ11 h => ?_) h)
      refine aw_if_lt (tgt := 63) dX12_readField_56 (by decide) (fun k13 => ?_) (fun k13 => ?_)
      · replace h := h.1 k13
        refine aw_iconst (x := 0) dX12_readField_63 rfl ?_
        refine aw_iconst (x := 4) dX12_readField_64 rfl ?_
        refine aw_invVi (M := MX12_readField) (ci := 12) [vI 0, vI 4] rfl mo_X12_must rfl lm_X12_404 li_X12_must ls_X12_must (by decide +kernel) dX12_readField_65 rfl (Nat.le_of_ble_eq_true rfl) (ACi.mono (fun v15 σ14 h => ?_) h)
        refine aw_if_ne (tgt := 72) dX12_readField_68 (by decide) (fun k16 => ?_) (fun k16 => ?_)
        · replace h := h.1 k16
          exact aw_fgt (L' := [some (vR 12 (some x0)), none]) ⟨rfl, trivial⟩ h
        · replace h := h.2 k16
          exact aw_ret h rfl dX12_readField_71
      · replace h := h.2 k13
        refine aw_iconst (x := 1) dX12_readField_59 rfl ?_
        refine aw_goto (tgt := 64) dX12_readField_60 (by decide) ?_
        refine aw_iconst (x := 4) dX12_readField_64 rfl ?_
        refine aw_invVi (M := MX12_readField) (ci := 12) [vI 1, vI 4] rfl mo_X12_must rfl lm_X12_404 li_X12_must ls_X12_must (by decide +kernel) dX12_readField_65 rfl (Nat.le_of_ble_eq_true rfl) (ACi.mono (fun v18 σ17 h => ?_) h)
        refine aw_if_ne (tgt := 72) dX12_readField_68 (by decide) (fun k19 => ?_) (fun k19 => ?_)
        · replace h := h.1 k19
          exact aw_fgt (L' := [some (vR 12 (some x0)), none]) ⟨rfl, trivial⟩ h
        · replace h := h.2 k19
          exact aw_ret h rfl dX12_readField_71
  · replace h := h.2 k5
    exact aw_ret h rfl dX12_readField_30
set_option maxRecDepth 4000 in
theorem bk_X12_readField_72 {g : GP} {l : Launch} {d : Nat} {σ : St} {Q : Option AV → St → Prop} {x0 : Nat}
    (h : LC 12 σ x0 ∧ R32 (20 * (gI σ 1253 x0 0)) ∧ R32 ((20 * (gI σ 1253 x0 0)) + (gI σ 1254 x0 0)) ∧ Bd ((20 * (gI σ 1253 x0 0)) + (gI σ 1254 x0 0)) 40 ∧ ((14 ≤ (gI σ 1222 x0 ((20 * (gI σ 1253 x0 0)) + (gI σ 1254 x0 0)).toNat) → AW g l (d + 1) MX12_readField 100 [some (vR 12 (some x0)), none] [vI 0, vR 12 (some x0)] σ Q) ∧ (¬ 14 ≤ (gI σ 1222 x0 ((20 * (gI σ 1253 x0 0)) + (gI σ 1254 x0 0)).toNat) → AW g l (d + 1) MX12_readField 100 [some (vR 12 (some x0)), none] [vI 1, vR 12 (some x0)] σ Q))) :
    AW g l (d + 1) MX12_readField 72 [some (vR 12 (some x0)), none] [] σ Q := by
  refine aw_aload_n dX12_readField_72 rfl rfl ?_
  refine aw_aload_n dX12_readField_73 rfl rfl ?_
  obtain ⟨lc1, h⟩ := h
  refine aw_getA' rfl fk_1222 (by decide) lf_X12_80 dX12_readField_74 (LC.ne lc1 rfl rfl) ?_
  refine aw_bipush (x := 20) dX12_readField_77 rfl ?_
  refine aw_aload_n dX12_readField_79 rfl rfl ?_
  refine aw_getI' rfl fk_1253 lf_X12_173 dX12_readField_80 ?_
  obtain ⟨⟨c2, c2x⟩, h⟩ := h
  refine aw_imulc dX12_readField_83 c2 c2x ?_
  refine aw_aload_n dX12_readField_84 rfl rfl ?_
  refine aw_getI' rfl fk_1254 lf_X12_176 dX12_readField_85 ?_
  obtain ⟨⟨c3, c3x⟩, h⟩ := h
  refine aw_iaddc dX12_readField_88 c3 c3x ?_
  obtain ⟨⟨c4, c4x⟩, h⟩ := h
  refine aw_iaload (by decide) rfl dX12_readField_89 c4 (LC.lt lc1 rfl rfl c4x) ?_
  refine aw_bipush (x := 14) dX12_readField_90 rfl ?_
  refine aw_icmp_ge (tgt := 99) dX12_readField_92 (by decide) (fun k5 => ?_) (fun k5 => ?_)
  · replace h := h.1 k5
    refine aw_iconst (x := 0) dX12_readField_99 rfl ?_
    exact aw_fgt (L' := [some (vR 12 (some x0)), none]) ⟨rfl, trivial⟩ h
  · replace h := h.2 k5
    refine aw_iconst (x := 1) dX12_readField_95 rfl ?_
    refine aw_goto (tgt := 100) dX12_readField_96 (by decide) ?_
    exact aw_fgt (L' := [some (vR 12 (some x0)), none]) ⟨rfl, trivial⟩ h
set_option maxRecDepth 4000 in
theorem bk_X12_readField_100 {g : GP} {l : Launch} {d : Nat} {σ : St} {Q : Option AV → St → Prop} {x0 : Nat} {y0 : Int} {y1 : Option Nat}
    (h : ∃ r1, y1 = some r1 ∧ ACi g l d MX12_must [vR 12 (some r1), vI y0, vI 5] σ (fun v4 σ3 => ((¬ v4 = 0 → LC 12 σ3 x0 ∧ R32 (20 * (gI σ3 1253 x0 0)) ∧ R32 ((20 * (gI σ3 1253 x0 0)) + (gI σ3 1254 x0 0)) ∧ Bd ((20 * (gI σ3 1253 x0 0)) + (gI σ3 1254 x0 0)) 40 ∧ ACi g l d MX12_field [vR 12 (some x0), vI (gI σ3 1254 x0 0), vI (gI σ3 1222 x0 ((20 * (gI σ3 1253 x0 0)) + (gI σ3 1254 x0 0)).toNat)] σ3 (fun v11 σ10 => LC 12 σ10 x0 ∧ Bd v11 560 ∧ ACi g l d MX12_isWord [vR 12 (some x0), vJ 26982] (sI (sI (sI (sI (sI (sI (sI (sI (sI σ10 1232 x0 v11.toNat (-1)) 1233 x0 v11.toNat (-1)) 1234 x0 v11.toNat (-1)) 1230 x0 v11.toNat (-1)) 1236 x0 v11.toNat (-1)) 1231 x0 v11.toNat (-1)) 1237 x0 v11.toNat 0) 1228 x0 v11.toNat 0) 1256 x0 0 0) (fun v15 σ14 => ((v15 = 0 → AW g l (d + 1) MX12_readField 286 [some (vR 12 (some x0)), some (vI v11)] [] σ14 Q) ∧ (¬ v15 = 0 → ACv g l d MX12_next [vR 12 (some x0)] σ14 (fun σ17 => LC 12 σ17 x0 ∧ ACi g l d MX12_expr [vR 12 (some x0)] σ17 (fun v20 σ19 => LC 12 σ19 x0 ∧ ACv g l d MX12_take [vR 12 (some x0), vI 58] (sI σ19 1232 x0 v11.toNat v20) (fun σ22 => ((0 < (gI σ22 1251 x0 0) → Q none σ22) ∧ (¬ 0 < (gI σ22 1251 x0 0) → ACi g l d MX12_beginsCore [vR 12 (some x0)] σ22 (fun v25 σ24 => ACi g l d MX12_must [vR 12 (some x0), vI v25, vI 2] σ24 (fun v27 σ26 => ((¬ v27 = 0 → ACi g l d MX12_isName [vR 12 (some x0)] σ26 (fun v30 σ29 => ((v30 = 0 → AW g l (d + 1) MX12_readField 286 [some (vR 12 (some x0)), some (vI v11)] [] σ29 Q) ∧ (¬ v30 = 0 → LC 12 σ29 x0 ∧ Bd (gI σ29 1253 x0 0) 2 ∧ ACi g l d MX12_structNamed [vR 12 (some x0), vJ (gJ σ29 1216 x0 0), vI (gI σ29 1219 x0 (gI σ29 1253 x0 0).toNat)] σ29 (fun v35 σ34 => ((v35 < 0 → ACi g l d MX12_must [vR 12 (some x0), vI 0, vI 4] σ34 (fun v38 σ37 => ((¬ v38 = 0 → AW g l (d + 1) MX12_readField 286 [some (vR 12 (some x0)), some (vI v11)] [] σ37 Q) ∧ (v38 = 0 → Q none σ37)))) ∧ (¬ v35 < 0 → ACi g l d MX12_must [vR 12 (some x0), vI 1, vI 4] σ34 (fun v41 σ40 => ((¬ v41 = 0 → AW g l (d + 1) MX12_readField 286 [some (vR 12 (some x0)), some (vI v11)] [] σ40 Q) ∧ (v41 = 0 → Q none σ40)))))))))) ∧ (v27 = 0 → Q none σ26)))))))))))))) ∧ (v4 = 0 → Q none σ3)))) :
    AW g l (d + 1) MX12_readField 100 [some (vR 12 (some x0)), none] [vI y0, vR 12 y1] σ Q := by
  refine aw_iconst (x := 5) dX12_readField_100 rfl ?_
  obtain ⟨r1, e2, h⟩ := h
  refine aw_invVi (M := MX12_readField) (ci := 12) [vI y0, vI 5] e2 mo_X12_must rfl lm_X12_404 li_X12_must ls_X12_must (by decide +kernel) dX12_readField_101 rfl (Nat.le_of_ble_eq_true rfl) (ACi.mono (fun v4 σ3 h => ?_) h)
  refine aw_if_ne (tgt := 108) dX12_readField_104 (by decide) (fun k5 => ?_) (fun k5 => ?_)
  · replace h := h.1 k5
    refine aw_aload_n dX12_readField_108 rfl rfl ?_
    refine aw_aload_n dX12_readField_109 rfl rfl ?_
    refine aw_getI' rfl fk_1254 lf_X12_176 dX12_readField_110 ?_
    refine aw_aload_n dX12_readField_113 rfl rfl ?_
    obtain ⟨lc6, h⟩ := h
    refine aw_getA' rfl fk_1222 (by decide) lf_X12_80 dX12_readField_114 (LC.ne lc6 rfl rfl) ?_
    refine aw_bipush (x := 20) dX12_readField_117 rfl ?_
    refine aw_aload_n dX12_readField_119 rfl rfl ?_
    refine aw_getI' rfl fk_1253 lf_X12_173 dX12_readField_120 ?_
    obtain ⟨⟨c7, c7x⟩, h⟩ := h
    refine aw_imulc dX12_readField_123 c7 c7x ?_
    refine aw_aload_n dX12_readField_124 rfl rfl ?_
    refine aw_getI' rfl fk_1254 lf_X12_176 dX12_readField_125 ?_
    obtain ⟨⟨c8, c8x⟩, h⟩ := h
    refine aw_iaddc dX12_readField_128 c8 c8x ?_
    obtain ⟨⟨c9, c9x⟩, h⟩ := h
    refine aw_iaload (by decide) rfl dX12_readField_129 c9 (LC.lt lc6 rfl rfl c9x) ?_
    refine aw_invVi (M := MX12_readField) (ci := 12) [vI (gI σ3 1254 x0 0), vI (gI σ3 1222 x0 ((20 * (gI σ3 1253 x0 0)) + (gI σ3 1254 x0 0)).toNat)] rfl mo_X12_field rfl lm_X12_447 li_X12_field ls_X12_field (by decide +kernel) dX12_readField_130 rfl (Nat.le_of_ble_eq_true rfl) (ACi.mono (fun v11 σ10 h => ?_) h)
    refine aw_istore_n (L' := [some (vR 12 (some x0)), some (vI v11)]) dX12_readField_133 rfl (by decide) rfl ?_
    refine aw_aload_n dX12_readField_134 rfl rfl ?_
    obtain ⟨lc12, h⟩ := h
    refine aw_getA' rfl fk_1232 (by decide) lf_X12_110 dX12_readField_135 (LC.ne lc12 rfl rfl) ?_
    refine aw_iload_n dX12_readField_138 rfl rfl ?_
    refine aw_iconst (x := (-1)) dX12_readField_139 rfl ?_
    obtain ⟨⟨c13, c13x⟩, h⟩ := h
    refine aw_iastore (by decide) rfl dX12_readField_140 c13 (LC.lt lc12 rfl rfl c13x) ?_
    refine aw_aload_n dX12_readField_141 rfl rfl ?_
    refine aw_getA' rfl fk_1233 (by decide) lf_X12_113 dX12_readField_142 (LC.ne lc12 rfl rfl) ?_
    refine aw_iload_n dX12_readField_145 rfl rfl ?_
    refine aw_iconst (x := (-1)) dX12_readField_146 rfl ?_
    refine aw_iastore (by decide) rfl dX12_readField_147 c13 (LC.lt lc12 rfl rfl c13x) ?_
    refine aw_aload_n dX12_readField_148 rfl rfl ?_
    refine aw_getA' rfl fk_1234 (by decide) lf_X12_116 dX12_readField_149 (LC.ne lc12 rfl rfl) ?_
    refine aw_iload_n dX12_readField_152 rfl rfl ?_
    refine aw_iconst (x := (-1)) dX12_readField_153 rfl ?_
    refine aw_iastore (by decide) rfl dX12_readField_154 c13 (LC.lt lc12 rfl rfl c13x) ?_
    refine aw_aload_n dX12_readField_155 rfl rfl ?_
    refine aw_getA' rfl fk_1230 (by decide) lf_X12_104 dX12_readField_156 (LC.ne lc12 rfl rfl) ?_
    refine aw_iload_n dX12_readField_159 rfl rfl ?_
    refine aw_iconst (x := (-1)) dX12_readField_160 rfl ?_
    refine aw_iastore (by decide) rfl dX12_readField_161 c13 (LC.lt lc12 rfl rfl c13x) ?_
    refine aw_aload_n dX12_readField_162 rfl rfl ?_
    refine aw_getA' rfl fk_1236 (by decide) lf_X12_122 dX12_readField_163 (LC.ne lc12 rfl rfl) ?_
    refine aw_iload_n dX12_readField_166 rfl rfl ?_
    refine aw_iconst (x := (-1)) dX12_readField_167 rfl ?_
    refine aw_iastore (by decide) rfl dX12_readField_168 c13 (LC.lt lc12 rfl rfl c13x) ?_
    refine aw_aload_n dX12_readField_169 rfl rfl ?_
    refine aw_getA' rfl fk_1231 (by decide) lf_X12_107 dX12_readField_170 (LC.ne lc12 rfl rfl) ?_
    refine aw_iload_n dX12_readField_173 rfl rfl ?_
    refine aw_iconst (x := (-1)) dX12_readField_174 rfl ?_
    refine aw_iastore (by decide) rfl dX12_readField_175 c13 (LC.lt lc12 rfl rfl c13x) ?_
    refine aw_aload_n dX12_readField_176 rfl rfl ?_
    refine aw_getA' rfl fk_1237 (by decide) lf_X12_125 dX12_readField_177 (LC.ne lc12 rfl rfl) ?_
    refine aw_iload_n dX12_readField_180 rfl rfl ?_
    refine aw_iconst (x := 0) dX12_readField_181 rfl ?_
    refine aw_iastore (by decide) rfl dX12_readField_182 c13 (LC.lt lc12 rfl rfl c13x) ?_
    refine aw_aload_n dX12_readField_183 rfl rfl ?_
    refine aw_getA' rfl fk_1228 (by decide) lf_X12_98 dX12_readField_184 (LC.ne lc12 rfl rfl) ?_
    refine aw_iload_n dX12_readField_187 rfl rfl ?_
    refine aw_iconst (x := 0) dX12_readField_188 rfl ?_
    refine aw_iastore (by decide) rfl dX12_readField_189 c13 (LC.lt lc12 rfl rfl c13x) ?_
    refine aw_aload_n dX12_readField_190 rfl rfl ?_
    refine aw_iconst (x := 0) dX12_readField_191 rfl ?_
    refine aw_putZ' rfl fk_1256 (Or.inl rfl) lf_X12_182 dX12_readField_192 (Or.inl rfl) ?_
    refine aw_aload_n dX12_readField_195 rfl rfl ?_
    refine aw_ldc2 lk_X12_340 dX12_readField_196 ?_
    refine aw_invVi (M := MX12_readField) (ci := 12) [vJ 26982] rfl mo_X12_isWord rfl lm_X12_334 li_X12_isWord ls_X12_isWord (by decide +kernel) dX12_readField_199 rfl (Nat.le_of_ble_eq_true rfl) (ACi.mono (fun v15 σ14 h => ?_) h)
    refine aw_if_eq (tgt := 286) dX12_readField_202 (by decide) (fun k16 => ?_) (fun k16 => ?_)
    · replace h := h.1 k16
      exact aw_fgt (L' := [some (vR 12 (some x0)), some (vI v11)]) ⟨rfl, ⟨rfl, trivial⟩⟩ h
    · replace h := h.2 k16
      refine aw_aload_n dX12_readField_205 rfl rfl ?_
      refine aw_invVv (M := MX12_readField) (ci := 12) [] rfl mo_X12_next rfl lm_X12_408 li_X12_next ls_X12_next (by decide +kernel) dX12_readField_206 rfl (Nat.le_of_ble_eq_true rfl) (ACv.mono (fun σ17 h => ?_) h)
      refine aw_aload_n dX12_readField_209 rfl rfl ?_
      obtain ⟨lc18, h⟩ := h
      refine aw_getA' rfl fk_1232 (by decide) lf_X12_110 dX12_readField_210 (LC.ne lc18 rfl rfl) ?_
      refine aw_iload_n dX12_readField_213 rfl rfl ?_
      refine aw_aload_n dX12_readField_214 rfl rfl ?_
      refine aw_invVi (M := MX12_readField) (ci := 12) [] rfl mo_X12_expr rfl lm_X12_460 li_X12_expr ls_X12_expr (by decide +kernel) dX12_readField_215 rfl (Nat.le_of_ble_eq_true rfl) (ACi.mono (fun v20 σ19 h => ?_) h)
      obtain ⟨lc21, h⟩ := h
      refine aw_iastore (by decide) rfl dX12_readField_218 c13 (LC.lt lc21 rfl rfl c13x) ?_
      refine aw_aload_n dX12_readField_219 rfl rfl ?_
      refine aw_bipush (x := 58) dX12_readField_220 rfl ?_
      refine aw_invVv (M := MX12_readField) (ci := 12) [vI 58] rfl mo_X12_take rfl lm_X12_431 li_X12_take ls_X12_take (by decide +kernel) dX12_readField_222 rfl (Nat.le_of_ble_eq_true rfl) (ACv.mono (fun σ22 h => ?_) h)
      refine aw_aload_n dX12_readField_225 rfl rfl ?_
      refine aw_getI' rfl fk_1251 lf_X12_167 dX12_readField_226 ?_
      refine aw_if_gt (tgt := 244) dX12_readField_229 (by decide) (fun k23 => ?_) (fun k23 => ?_)
      · replace h := h.1 k23
        exact aw_ret h rfl dX12_readField_244
      · replace h := h.2 k23
        refine aw_aload_n dX12_readField_232 rfl rfl ?_
        refine aw_aload_n dX12_readField_233 rfl rfl ?_
        refine aw_invVi (M := MX12_readField) (ci := 12) [] rfl mo_X12_beginsCore rfl lm_X12_457 li_X12_beginsCore ls_X12_beginsCore (by decide +kernel) dX12_readField_234 rfl (Nat.le_of_ble_eq_true rfl) (ACi.mono (fun v25 σ24 h => ?_) h)
        refine aw_iconst (x := 2) dX12_readField_237 rfl ?_
        refine aw_invVi (M := MX12_readField) (ci := 12) [vI v25, vI 2] rfl mo_X12_must rfl lm_X12_404 li_X12_must ls_X12_must (by decide +kernel) dX12_readField_238 rfl (Nat.le_of_ble_eq_true rfl) (ACi.mono (fun v27 σ26 h => ?_) h)
        refine aw_if_ne (tgt := 245) dX12_readField_241 (by decide) (fun k28 => ?_) (fun k28 => ?_)
        · replace h := h.1 k28
          refine aw_aload_n dX12_readField_245 rfl rfl ?_
          refine aw_invVi (M := MX12_readField) (ci := 12) [] rfl mo_X12_isName rfl lm_X12_418 li_X12_isName ls_X12_isName (by decide +kernel) dX12_readField_246 rfl (Nat.le_of_ble_eq_true rfl) (ACi.mono (fun v30 σ29 h => ?_) h)
          refine aw_if_eq (tgt := 286) dX12_readField_249 (by decide) (fun k31 => ?_) (fun k31 => ?_)
          · replace h := h.1 k31
            exact aw_fgt (L' := [some (vR 12 (some x0)), some (vI v11)]) ⟨rfl, ⟨rfl, trivial⟩⟩ h
          · replace h := h.2 k31
            refine aw_aload_n dX12_readField_252 rfl rfl ?_
            refine aw_aload_n dX12_readField_253 rfl rfl ?_
            refine aw_aload_n dX12_readField_254 rfl rfl ?_
            refine aw_getJ' rfl fk_1216 lf_X12_60 dX12_readField_255 ?_
            refine aw_aload_n dX12_readField_258 rfl rfl ?_
            obtain ⟨lc32, h⟩ := h
            refine aw_getA' rfl fk_1219 (by decide) lf_X12_70 dX12_readField_259 (LC.ne lc32 rfl rfl) ?_
            refine aw_aload_n dX12_readField_262 rfl rfl ?_
            refine aw_getI' rfl fk_1253 lf_X12_173 dX12_readField_263 ?_
            obtain ⟨⟨c33, c33x⟩, h⟩ := h
            refine aw_iaload (by decide) rfl dX12_readField_266 c33 (LC.lt lc32 rfl rfl c33x) ?_
            refine aw_invVi (M := MX12_readField) (ci := 12) [vJ (gJ σ29 1216 x0 0), vI (gI σ29 1219 x0 (gI σ29 1253 x0 0).toNat)] rfl mo_X12_structNamed rfl lm_X12_414 li_X12_structNamed ls_X12_structNamed (by decide +kernel) dX12_readField_267 rfl (Nat.le_of_ble_eq_true rfl) (ACi.mono (fun v35 σ34 h => ?_) h)
            refine aw_if_lt (tgt := 277) dX12_readField_270 (by decide) (fun k36 => ?_) (fun k36 => ?_)
            · replace h := h.1 k36
              refine aw_iconst (x := 0) dX12_readField_277 rfl ?_
              refine aw_iconst (x := 4) dX12_readField_278 rfl ?_
              refine aw_invVi (M := MX12_readField) (ci := 12) [vI 0, vI 4] rfl mo_X12_must rfl lm_X12_404 li_X12_must ls_X12_must (by decide +kernel) dX12_readField_279 rfl (Nat.le_of_ble_eq_true rfl) (ACi.mono (fun v38 σ37 h => ?_) h)
              refine aw_if_ne (tgt := 286) dX12_readField_282 (by decide) (fun k39 => ?_) (fun k39 => ?_)
              · replace h := h.1 k39
                exact aw_fgt (L' := [some (vR 12 (some x0)), some (vI v11)]) ⟨rfl, ⟨rfl, trivial⟩⟩ h
              · replace h := h.2 k39
                exact aw_ret h rfl dX12_readField_285
            · replace h := h.2 k36
              refine aw_iconst (x := 1) dX12_readField_273 rfl ?_
              refine aw_goto (tgt := 278) dX12_readField_274 (by decide) ?_
              refine aw_iconst (x := 4) dX12_readField_278 rfl ?_
              refine aw_invVi (M := MX12_readField) (ci := 12) [vI 1, vI 4] rfl mo_X12_must rfl lm_X12_404 li_X12_must ls_X12_must (by decide +kernel) dX12_readField_279 rfl (Nat.le_of_ble_eq_true rfl) (ACi.mono (fun v41 σ40 h => ?_) h)
              refine aw_if_ne (tgt := 286) dX12_readField_282 (by decide) (fun k42 => ?_) (fun k42 => ?_)
              · replace h := h.1 k42
                exact aw_fgt (L' := [some (vR 12 (some x0)), some (vI v11)]) ⟨rfl, ⟨rfl, trivial⟩⟩ h
              · replace h := h.2 k42
                exact aw_ret h rfl dX12_readField_285
        · replace h := h.2 k28
          exact aw_ret h rfl dX12_readField_244
  · replace h := h.2 k5
    exact aw_ret h rfl dX12_readField_107
set_option maxRecDepth 4000 in
theorem bk_X12_readField_286 {g : GP} {l : Launch} {d : Nat} {σ : St} {Q : Option AV → St → Prop} {x0 : Nat} {x1 : Int}
    (h : ACv g l d MX12_core [vR 12 (some x0), vI x1] σ (fun σ1 => ACv g l d MX12_take [vR 12 (some x0), vI 59] σ1 (fun σ2 => LC 12 σ2 x0 ∧ R32 (20 * (gI σ2 1253 x0 0)) ∧ R32 ((20 * (gI σ2 1253 x0 0)) + (gI σ2 1254 x0 0)) ∧ Bd ((20 * (gI σ2 1253 x0 0)) + (gI σ2 1254 x0 0)) 40 ∧ R32 ((gI σ2 1222 x0 ((20 * (gI σ2 1253 x0 0)) + (gI σ2 1254 x0 0)).toNat) + 1) ∧ Q none (sI σ2 1222 x0 ((20 * (gI σ2 1253 x0 0)) + (gI σ2 1254 x0 0)).toNat ((gI σ2 1222 x0 ((20 * (gI σ2 1253 x0 0)) + (gI σ2 1254 x0 0)).toNat) + 1))))) :
    AW g l (d + 1) MX12_readField 286 [some (vR 12 (some x0)), some (vI x1)] [] σ Q := by
  refine aw_aload_n dX12_readField_286 rfl rfl ?_
  refine aw_iload_n dX12_readField_287 rfl rfl ?_
  refine aw_invVv (M := MX12_readField) (ci := 12) [vI x1] rfl mo_X12_core rfl lm_X12_463 li_X12_core ls_X12_core (by decide +kernel) dX12_readField_288 rfl (Nat.le_of_ble_eq_true rfl) (ACv.mono (fun σ1 h => ?_) h)
  refine aw_aload_n dX12_readField_291 rfl rfl ?_
  refine aw_bipush (x := 59) dX12_readField_292 rfl ?_
  refine aw_invVv (M := MX12_readField) (ci := 12) [vI 59] rfl mo_X12_take rfl lm_X12_431 li_X12_take ls_X12_take (by decide +kernel) dX12_readField_294 rfl (Nat.le_of_ble_eq_true rfl) (ACv.mono (fun σ2 h => ?_) h)
  refine aw_aload_n dX12_readField_297 rfl rfl ?_
  obtain ⟨lc3, h⟩ := h
  refine aw_getA' rfl fk_1222 (by decide) lf_X12_80 dX12_readField_298 (LC.ne lc3 rfl rfl) ?_
  refine aw_bipush (x := 20) dX12_readField_301 rfl ?_
  refine aw_aload_n dX12_readField_303 rfl rfl ?_
  refine aw_getI' rfl fk_1253 lf_X12_173 dX12_readField_304 ?_
  obtain ⟨⟨c4, c4x⟩, h⟩ := h
  refine aw_imulc dX12_readField_307 c4 c4x ?_
  refine aw_aload_n dX12_readField_308 rfl rfl ?_
  refine aw_getI' rfl fk_1254 lf_X12_176 dX12_readField_309 ?_
  obtain ⟨⟨c5, c5x⟩, h⟩ := h
  refine aw_iaddc dX12_readField_312 c5 c5x ?_
  refine aw_dup2 dX12_readField_313 rfl rfl ?_
  obtain ⟨⟨c6, c6x⟩, h⟩ := h
  refine aw_iaload (by decide) rfl dX12_readField_314 c6 (LC.lt lc3 rfl rfl c6x) ?_
  refine aw_iconst (x := 1) dX12_readField_315 rfl ?_
  obtain ⟨⟨c7, c7x⟩, h⟩ := h
  refine aw_iaddc dX12_readField_316 c7 c7x ?_
  refine aw_iastore (by decide) rfl dX12_readField_317 c6 (LC.lt lc3 rfl rfl c6x) ?_
  exact aw_ret h rfl dX12_readField_318
set_option maxRecDepth 4000 in
theorem bk_X12_readMagic_0 {g : GP} {l : Launch} {d : Nat} {σ : St} {Q : Option AV → St → Prop} {x0 : Nat} {x1 : Int}
    (h : ACv g l d MX12_next [vR 12 (some x0)] σ (fun σ1 => LC 12 σ1 x0 ∧ Bd x1 560 ∧ ACv g l d MX12_named [vR 12 (some x0), vI x1] (sI σ1 1228 x0 x1.toNat 10) (fun σ4 => ACv g l d MX12_take [vR 12 (some x0), vI 61] σ4 (fun σ5 => ((¬ (gI σ5 1251 x0 0) = 0 → AW g l (d + 1) MX12_readMagic 35 [some (vR 12 (some x0)), some (vI x1)] [] σ5 Q) ∧ ((gI σ5 1251 x0 0) = 0 → ACv g l d MX12_readByte [vR 12 (some x0), vI x1] σ5 (fun σ7 => AW g l (d + 1) MX12_readMagic 35 [some (vR 12 (some x0)), some (vI x1)] [] σ7 Q))))))) :
    AW g l (d + 1) MX12_readMagic 0 [some (vR 12 (some x0)), some (vI x1)] [] σ Q := by
  refine aw_aload_n dX12_readMagic_0 rfl rfl ?_
  refine aw_invVv (M := MX12_readMagic) (ci := 12) [] rfl mo_X12_next rfl lm_X12_408 li_X12_next ls_X12_next (by decide +kernel) dX12_readMagic_1 rfl (Nat.le_of_ble_eq_true rfl) (ACv.mono (fun σ1 h => ?_) h)
  refine aw_aload_n dX12_readMagic_4 rfl rfl ?_
  obtain ⟨lc2, h⟩ := h
  refine aw_getA' rfl fk_1228 (by decide) lf_X12_98 dX12_readMagic_5 (LC.ne lc2 rfl rfl) ?_
  refine aw_iload_n dX12_readMagic_8 rfl rfl ?_
  refine aw_bipush (x := 10) dX12_readMagic_9 rfl ?_
  obtain ⟨⟨c3, c3x⟩, h⟩ := h
  refine aw_iastore (by decide) rfl dX12_readMagic_11 c3 (LC.lt lc2 rfl rfl c3x) ?_
  refine aw_aload_n dX12_readMagic_12 rfl rfl ?_
  refine aw_iload_n dX12_readMagic_13 rfl rfl ?_
  refine aw_invVv (M := MX12_readMagic) (ci := 12) [vI x1] rfl mo_X12_named rfl lm_X12_466 li_X12_named ls_X12_named (by decide +kernel) dX12_readMagic_14 rfl (Nat.le_of_ble_eq_true rfl) (ACv.mono (fun σ4 h => ?_) h)
  refine aw_aload_n dX12_readMagic_17 rfl rfl ?_
  refine aw_bipush (x := 61) dX12_readMagic_18 rfl ?_
  refine aw_invVv (M := MX12_readMagic) (ci := 12) [vI 61] rfl mo_X12_take rfl lm_X12_431 li_X12_take ls_X12_take (by decide +kernel) dX12_readMagic_20 rfl (Nat.le_of_ble_eq_true rfl) (ACv.mono (fun σ5 h => ?_) h)
  refine aw_aload_n dX12_readMagic_23 rfl rfl ?_
  refine aw_getI' rfl fk_1251 lf_X12_167 dX12_readMagic_24 ?_
  refine aw_if_ne (tgt := 35) dX12_readMagic_27 (by decide) (fun k6 => ?_) (fun k6 => ?_)
  · replace h := h.1 k6
    exact aw_fgt (L' := [some (vR 12 (some x0)), some (vI x1)]) ⟨rfl, ⟨rfl, trivial⟩⟩ h
  · replace h := h.2 k6
    refine aw_aload_n dX12_readMagic_30 rfl rfl ?_
    refine aw_iload_n dX12_readMagic_31 rfl rfl ?_
    refine aw_invVv (M := MX12_readMagic) (ci := 12) [vI x1] rfl mo_X12_readByte rfl lm_X12_518 li_X12_readByte ls_X12_readByte (by decide +kernel) dX12_readMagic_32 rfl (Nat.le_of_ble_eq_true rfl) (ACv.mono (fun σ7 h => ?_) h)
    exact aw_fgt (L' := [some (vR 12 (some x0)), some (vI x1)]) ⟨rfl, ⟨rfl, trivial⟩⟩ h
set_option maxRecDepth 4000 in
theorem bk_X12_readMagic_35 {g : GP} {l : Launch} {d : Nat} {σ : St} {Q : Option AV → St → Prop} {x0 : Nat} {x1 : Int}
    (h : ((¬ (gI σ 1251 x0 0) = 0 → Q none σ) ∧ ((gI σ 1251 x0 0) = 0 → (((gI σ 1213 x0 0) = 2 → ACv g l d MX12_readByte [vR 12 (some x0), vI x1] σ (fun σ3 => AW g l (d + 1) MX12_readMagic 35 [some (vR 12 (some x0)), some (vI x1)] [] σ3 Q)) ∧ (¬ (gI σ 1213 x0 0) = 2 → ACi g l d MX12_isSign [vR 12 (some x0), vI 42] σ (fun v5 σ4 => ((v5 = 0 → Q none σ4) ∧ (¬ v5 = 0 → ACv g l d MX12_readByte [vR 12 (some x0), vI x1] σ4 (fun σ7 => AW g l (d + 1) MX12_readMagic 35 [some (vR 12 (some x0)), some (vI x1)] [] σ7 Q))))))))) :
    AW g l (d + 1) MX12_readMagic 35 [some (vR 12 (some x0)), some (vI x1)] [] σ Q := by
  refine aw_aload_n dX12_readMagic_35 rfl rfl ?_
  refine aw_getI' rfl fk_1251 lf_X12_167 dX12_readMagic_36 ?_
  refine aw_if_ne (tgt := 67) dX12_readMagic_39 (by decide) (fun k1 => ?_) (fun k1 => ?_)
  · replace h := h.1 k1
    exact aw_ret h rfl dX12_readMagic_67
  · replace h := h.2 k1
    refine aw_aload_n dX12_readMagic_42 rfl rfl ?_
    refine aw_getI' rfl fk_1213 lf_X12_51 dX12_readMagic_43 ?_
    refine aw_iconst (x := 2) dX12_readMagic_46 rfl ?_
    refine aw_icmp_eq (tgt := 59) dX12_readMagic_47 (by decide) (fun k2 => ?_) (fun k2 => ?_)
    · replace h := h.1 k2
      refine aw_aload_n dX12_readMagic_59 rfl rfl ?_
      refine aw_iload_n dX12_readMagic_60 rfl rfl ?_
      refine aw_invVv (M := MX12_readMagic) (ci := 12) [vI x1] rfl mo_X12_readByte rfl lm_X12_518 li_X12_readByte ls_X12_readByte (by decide +kernel) dX12_readMagic_61 rfl (Nat.le_of_ble_eq_true rfl) (ACv.mono (fun σ3 h => ?_) h)
      refine aw_goto (tgt := 35) dX12_readMagic_64 (by decide) ?_
      exact aw_fgt (L' := [some (vR 12 (some x0)), some (vI x1)]) ⟨rfl, ⟨rfl, trivial⟩⟩ h
    · replace h := h.2 k2
      refine aw_aload_n dX12_readMagic_50 rfl rfl ?_
      refine aw_bipush (x := 42) dX12_readMagic_51 rfl ?_
      refine aw_invVi (M := MX12_readMagic) (ci := 12) [vI 42] rfl mo_X12_isSign rfl lm_X12_401 li_X12_isSign ls_X12_isSign (by decide +kernel) dX12_readMagic_53 rfl (Nat.le_of_ble_eq_true rfl) (ACi.mono (fun v5 σ4 h => ?_) h)
      refine aw_if_eq (tgt := 67) dX12_readMagic_56 (by decide) (fun k6 => ?_) (fun k6 => ?_)
      · replace h := h.1 k6
        exact aw_ret h rfl dX12_readMagic_67
      · replace h := h.2 k6
        refine aw_aload_n dX12_readMagic_59 rfl rfl ?_
        refine aw_iload_n dX12_readMagic_60 rfl rfl ?_
        refine aw_invVv (M := MX12_readMagic) (ci := 12) [vI x1] rfl mo_X12_readByte rfl lm_X12_518 li_X12_readByte ls_X12_readByte (by decide +kernel) dX12_readMagic_61 rfl (Nat.le_of_ble_eq_true rfl) (ACv.mono (fun σ7 h => ?_) h)
        refine aw_goto (tgt := 35) dX12_readMagic_64 (by decide) ?_
        exact aw_fgt (L' := [some (vR 12 (some x0)), some (vI x1)]) ⟨rfl, ⟨rfl, trivial⟩⟩ h
set_option maxRecDepth 4000 in
theorem bk_X12_readPointer_0 {g : GP} {l : Launch} {d : Nat} {σ : St} {Q : Option AV → St → Prop} {x0 : Nat} {x1 : Int}
    (h : ACv g l d MX12_next [vR 12 (some x0)] σ (fun σ1 => LC 12 σ1 x0 ∧ Bd x1 560 ∧ ACi g l d MX12_isName [vR 12 (some x0)] (sI (sI σ1 1228 x0 x1.toNat 8) 1235 x0 x1.toNat 1) (fun v5 σ4 => ACi g l d MX12_must [vR 12 (some x0), vI v5, vI 2] σ4 (fun v7 σ6 => ((¬ v7 = 0 → LC 12 σ6 x0 ∧ Bd (gI σ6 1250 x0 0) 280 ∧ R32 ((gI σ6 1250 x0 0) + 1) ∧ ACv g l d MX12_next [vR 12 (some x0)] (sI (sI (sJ (sI σ6 1247 x0 (gI σ6 1250 x0 0).toNat x1) 1249 x0 (gI σ6 1250 x0 0).toNat (gJ σ6 1216 x0 0)) 1248 x0 (gI σ6 1250 x0 0).toNat (gI σ6 1214 x0 0)) 1250 x0 0 ((gI σ6 1250 x0 0) + 1)) (fun σ12 => ACv g l d MX12_named [vR 12 (some x0), vI x1] σ12 (fun σ13 => ((¬ (gI σ13 1251 x0 0) = 0 → AW g l (d + 1) MX12_readPointer 101 [some (vR 12 (some x0)), some (vI x1)] [] σ13 Q) ∧ ((gI σ13 1251 x0 0) = 0 → ACv g l d MX12_takeWord [vR 12 (some x0), vJ 25209] σ13 (fun σ15 => AW g l (d + 1) MX12_readPointer 101 [some (vR 12 (some x0)), some (vI x1)] [] σ15 Q)))))) ∧ (v7 = 0 → Q none σ6)))))) :
    AW g l (d + 1) MX12_readPointer 0 [some (vR 12 (some x0)), some (vI x1)] [] σ Q := by
  refine aw_aload_n dX12_readPointer_0 rfl rfl ?_
  refine aw_invVv (M := MX12_readPointer) (ci := 12) [] rfl mo_X12_next rfl lm_X12_408 li_X12_next ls_X12_next (by decide +kernel) dX12_readPointer_1 rfl (Nat.le_of_ble_eq_true rfl) (ACv.mono (fun σ1 h => ?_) h)
  refine aw_aload_n dX12_readPointer_4 rfl rfl ?_
  obtain ⟨lc2, h⟩ := h
  refine aw_getA' rfl fk_1228 (by decide) lf_X12_98 dX12_readPointer_5 (LC.ne lc2 rfl rfl) ?_
  refine aw_iload_n dX12_readPointer_8 rfl rfl ?_
  refine aw_bipush (x := 8) dX12_readPointer_9 rfl ?_
  obtain ⟨⟨c3, c3x⟩, h⟩ := h
  refine aw_iastore (by decide) rfl dX12_readPointer_11 c3 (LC.lt lc2 rfl rfl c3x) ?_
  refine aw_aload_n dX12_readPointer_12 rfl rfl ?_
  refine aw_getA' rfl fk_1235 (by decide) lf_X12_119 dX12_readPointer_13 (LC.ne lc2 rfl rfl) ?_
  refine aw_iload_n dX12_readPointer_16 rfl rfl ?_
  refine aw_iconst (x := 1) dX12_readPointer_17 rfl ?_
  refine aw_iastore (by decide) rfl dX12_readPointer_18 c3 (LC.lt lc2 rfl rfl c3x) ?_
  refine aw_aload_n dX12_readPointer_19 rfl rfl ?_
  refine aw_aload_n dX12_readPointer_20 rfl rfl ?_
  refine aw_invVi (M := MX12_readPointer) (ci := 12) [] rfl mo_X12_isName rfl lm_X12_418 li_X12_isName ls_X12_isName (by decide +kernel) dX12_readPointer_21 rfl (Nat.le_of_ble_eq_true rfl) (ACi.mono (fun v5 σ4 h => ?_) h)
  refine aw_iconst (x := 2) dX12_readPointer_24 rfl ?_
  refine aw_invVi (M := MX12_readPointer) (ci := 12) [vI v5, vI 2] rfl mo_X12_must rfl lm_X12_404 li_X12_must ls_X12_must (by decide +kernel) dX12_readPointer_25 rfl (Nat.le_of_ble_eq_true rfl) (ACi.mono (fun v7 σ6 h => ?_) h)
  refine aw_if_ne (tgt := 32) dX12_readPointer_28 (by decide) (fun k8 => ?_) (fun k8 => ?_)
  · replace h := h.1 k8
    refine aw_aload_n dX12_readPointer_32 rfl rfl ?_
    obtain ⟨lc9, h⟩ := h
    refine aw_getA' rfl fk_1247 (by decide) lf_X12_155 dX12_readPointer_33 (LC.ne lc9 rfl rfl) ?_
    refine aw_aload_n dX12_readPointer_36 rfl rfl ?_
    refine aw_getI' rfl fk_1250 lf_X12_164 dX12_readPointer_37 ?_
    refine aw_iload_n dX12_readPointer_40 rfl rfl ?_
    obtain ⟨⟨c10, c10x⟩, h⟩ := h
    refine aw_iastore (by decide) rfl dX12_readPointer_41 c10 (LC.lt lc9 rfl rfl c10x) ?_
    refine aw_aload_n dX12_readPointer_42 rfl rfl ?_
    refine aw_getA' rfl fk_1249 (by decide) lf_X12_161 dX12_readPointer_43 (LC.ne lc9 rfl rfl) ?_
    refine aw_aload_n dX12_readPointer_46 rfl rfl ?_
    refine aw_getIe (v := gI σ6 1250 x0 0) rfl fk_1250 lf_X12_164 dX12_readPointer_47 rfl ?_
    refine aw_aload_n dX12_readPointer_50 rfl rfl ?_
    refine aw_getJe (v := gJ σ6 1216 x0 0) rfl fk_1216 lf_X12_60 dX12_readPointer_51 rfl ?_
    refine aw_lastore (by decide) rfl dX12_readPointer_54 c10 (LC.lt lc9 rfl rfl c10x) ?_
    refine aw_aload_n dX12_readPointer_55 rfl rfl ?_
    refine aw_getA' rfl fk_1248 (by decide) lf_X12_158 dX12_readPointer_56 (LC.ne lc9 rfl rfl) ?_
    refine aw_aload_n dX12_readPointer_59 rfl rfl ?_
    refine aw_getIe (v := gI σ6 1250 x0 0) rfl fk_1250 lf_X12_164 dX12_readPointer_60 rfl ?_
    refine aw_aload_n dX12_readPointer_63 rfl rfl ?_
    refine aw_getIe (v := gI σ6 1214 x0 0) rfl fk_1214 lf_X12_54 dX12_readPointer_64 rfl ?_
    refine aw_iastore (by decide) rfl dX12_readPointer_67 c10 (LC.lt lc9 rfl rfl c10x) ?_
    refine aw_aload_n dX12_readPointer_68 rfl rfl ?_
    refine aw_dup dX12_readPointer_69 rfl ?_
    refine aw_getIe (v := gI σ6 1250 x0 0) rfl fk_1250 lf_X12_164 dX12_readPointer_70 rfl ?_
    refine aw_iconst (x := 1) dX12_readPointer_73 rfl ?_
    obtain ⟨⟨c11, c11x⟩, h⟩ := h
    refine aw_iaddc dX12_readPointer_74 c11 c11x ?_
    refine aw_putI' rfl fk_1250 (Or.inl rfl) lf_X12_164 dX12_readPointer_75 ?_
    refine aw_aload_n dX12_readPointer_78 rfl rfl ?_
    refine aw_invVv (M := MX12_readPointer) (ci := 12) [] rfl mo_X12_next rfl lm_X12_408 li_X12_next ls_X12_next (by decide +kernel) dX12_readPointer_79 rfl (Nat.le_of_ble_eq_true rfl) (ACv.mono (fun σ12 h => ?_) h)
    refine aw_aload_n dX12_readPointer_82 rfl rfl ?_
    refine aw_iload_n dX12_readPointer_83 rfl rfl ?_
    refine aw_invVv (M := MX12_readPointer) (ci := 12) [vI x1] rfl mo_X12_named rfl lm_X12_466 li_X12_named ls_X12_named (by decide +kernel) dX12_readPointer_84 rfl (Nat.le_of_ble_eq_true rfl) (ACv.mono (fun σ13 h => ?_) h)
    refine aw_aload_n dX12_readPointer_87 rfl rfl ?_
    refine aw_getI' rfl fk_1251 lf_X12_167 dX12_readPointer_88 ?_
    refine aw_if_ne (tgt := 101) dX12_readPointer_91 (by decide) (fun k14 => ?_) (fun k14 => ?_)
    · replace h := h.1 k14
      exact aw_fgt (L' := [some (vR 12 (some x0)), some (vI x1)]) ⟨rfl, ⟨rfl, trivial⟩⟩ h
    · replace h := h.2 k14
      refine aw_aload_n dX12_readPointer_94 rfl rfl ?_
      refine aw_ldc2 lk_X12_352 dX12_readPointer_95 ?_
      refine aw_invVv (M := MX12_readPointer) (ci := 12) [vJ 25209] rfl mo_X12_takeWord rfl lm_X12_506 li_X12_takeWord ls_X12_takeWord (by decide +kernel) dX12_readPointer_98 rfl (Nat.le_of_ble_eq_true rfl) (ACv.mono (fun σ15 h => ?_) h)
      exact aw_fgt (L' := [some (vR 12 (some x0)), some (vI x1)]) ⟨rfl, ⟨rfl, trivial⟩⟩ h
  · replace h := h.2 k8
    exact aw_ret h rfl dX12_readPointer_31
set_option maxRecDepth 4000 in
theorem bk_X12_readPointer_101 {g : GP} {l : Launch} {d : Nat} {σ : St} {Q : Option AV → St → Prop} {x0 : Nat} {x1 : Int}
    (h : ACv g l d MX12_readWhole [vR 12 (some x0), vI x1] σ (fun σ1 => ((¬ (gI σ1 1251 x0 0) = 0 → AW g l (d + 1) MX12_readPointer 137 [some (vR 12 (some x0)), some (vI x1)] [] σ1 Q) ∧ ((gI σ1 1251 x0 0) = 0 → ACi g l d MX12_isWord [vR 12 (some x0), vJ 1718775661] σ1 (fun v4 σ3 => ((v4 = 0 → AW g l (d + 1) MX12_readPointer 137 [some (vR 12 (some x0)), some (vI x1)] [] σ3 Q) ∧ (¬ v4 = 0 → ACv g l d MX12_next [vR 12 (some x0)] σ3 (fun σ6 => LC 12 σ6 x0 ∧ ACi g l d MX12_expr [vR 12 (some x0)] σ6 (fun v9 σ8 => LC 12 σ8 x0 ∧ Bd x1 560 ∧ AW g l (d + 1) MX12_readPointer 137 [some (vR 12 (some x0)), some (vI x1)] [] (sI σ8 1233 x0 x1.toNat v9) Q))))))))) :
    AW g l (d + 1) MX12_readPointer 101 [some (vR 12 (some x0)), some (vI x1)] [] σ Q := by
  refine aw_aload_n dX12_readPointer_101 rfl rfl ?_
  refine aw_iload_n dX12_readPointer_102 rfl rfl ?_
  refine aw_invVv (M := MX12_readPointer) (ci := 12) [vI x1] rfl mo_X12_readWhole rfl lm_X12_499 li_X12_readWhole ls_X12_readWhole (by decide +kernel) dX12_readPointer_103 rfl (Nat.le_of_ble_eq_true rfl) (ACv.mono (fun σ1 h => ?_) h)
  refine aw_aload_n dX12_readPointer_106 rfl rfl ?_
  refine aw_getI' rfl fk_1251 lf_X12_167 dX12_readPointer_107 ?_
  refine aw_if_ne (tgt := 137) dX12_readPointer_110 (by decide) (fun k2 => ?_) (fun k2 => ?_)
  · replace h := h.1 k2
    exact aw_fgt (L' := [some (vR 12 (some x0)), some (vI x1)]) ⟨rfl, ⟨rfl, trivial⟩⟩ h
  · replace h := h.2 k2
    refine aw_aload_n dX12_readPointer_113 rfl rfl ?_
    refine aw_ldc2 lk_X12_358 dX12_readPointer_114 ?_
    refine aw_invVi (M := MX12_readPointer) (ci := 12) [vJ 1718775661] rfl mo_X12_isWord rfl lm_X12_334 li_X12_isWord ls_X12_isWord (by decide +kernel) dX12_readPointer_117 rfl (Nat.le_of_ble_eq_true rfl) (ACi.mono (fun v4 σ3 h => ?_) h)
    refine aw_if_eq (tgt := 137) dX12_readPointer_120 (by decide) (fun k5 => ?_) (fun k5 => ?_)
    · replace h := h.1 k5
      exact aw_fgt (L' := [some (vR 12 (some x0)), some (vI x1)]) ⟨rfl, ⟨rfl, trivial⟩⟩ h
    · replace h := h.2 k5
      refine aw_aload_n dX12_readPointer_123 rfl rfl ?_
      refine aw_invVv (M := MX12_readPointer) (ci := 12) [] rfl mo_X12_next rfl lm_X12_408 li_X12_next ls_X12_next (by decide +kernel) dX12_readPointer_124 rfl (Nat.le_of_ble_eq_true rfl) (ACv.mono (fun σ6 h => ?_) h)
      refine aw_aload_n dX12_readPointer_127 rfl rfl ?_
      obtain ⟨lc7, h⟩ := h
      refine aw_getA' rfl fk_1233 (by decide) lf_X12_113 dX12_readPointer_128 (LC.ne lc7 rfl rfl) ?_
      refine aw_iload_n dX12_readPointer_131 rfl rfl ?_
      refine aw_aload_n dX12_readPointer_132 rfl rfl ?_
      refine aw_invVi (M := MX12_readPointer) (ci := 12) [] rfl mo_X12_expr rfl lm_X12_460 li_X12_expr ls_X12_expr (by decide +kernel) dX12_readPointer_133 rfl (Nat.le_of_ble_eq_true rfl) (ACi.mono (fun v9 σ8 h => ?_) h)
      obtain ⟨lc10, h⟩ := h
      obtain ⟨⟨c11, c11x⟩, h⟩ := h
      refine aw_iastore (by decide) rfl dX12_readPointer_136 c11 (LC.lt lc10 rfl rfl c11x) ?_
      exact aw_fgt (L' := [some (vR 12 (some x0)), some (vI x1)]) ⟨rfl, ⟨rfl, trivial⟩⟩ h
set_option maxRecDepth 4000 in
theorem bk_X12_readPointer_137 {g : GP} {l : Launch} {d : Nat} {σ : St} {Q : Option AV → St → Prop} {x0 : Nat} {x1 : Int}
    (h : ((¬ (gI σ 1251 x0 0) = 0 → Q none σ) ∧ ((gI σ 1251 x0 0) = 0 → ACi g l d MX12_isWord [vR 12 (some x0), vJ 499984983411] σ (fun v3 σ2 => ((v3 = 0 → Q none σ2) ∧ (¬ v3 = 0 → ACv g l d MX12_next [vR 12 (some x0)] σ2 (fun σ5 => ACv g l d MX12_bound [vR 12 (some x0), vI x1, vJ 1, vJ 4096] σ5 (fun σ6 => Q none σ6)))))))) :
    AW g l (d + 1) MX12_readPointer 137 [some (vR 12 (some x0)), some (vI x1)] [] σ Q := by
  refine aw_aload_n dX12_readPointer_137 rfl rfl ?_
  refine aw_getI' rfl fk_1251 lf_X12_167 dX12_readPointer_138 ?_
  refine aw_if_ne (tgt := 167) dX12_readPointer_141 (by decide) (fun k1 => ?_) (fun k1 => ?_)
  · replace h := h.1 k1
    exact aw_ret h rfl dX12_readPointer_167
  · replace h := h.2 k1
    refine aw_aload_n dX12_readPointer_144 rfl rfl ?_
    refine aw_ldc2 lk_X12_362 dX12_readPointer_145 ?_
    refine aw_invVi (M := MX12_readPointer) (ci := 12) [vJ 499984983411] rfl mo_X12_isWord rfl lm_X12_334 li_X12_isWord ls_X12_isWord (by decide +kernel) dX12_readPointer_148 rfl (Nat.le_of_ble_eq_true rfl) (ACi.mono (fun v3 σ2 h => ?_) h)
    refine aw_if_eq (tgt := 167) dX12_readPointer_151 (by decide) (fun k4 => ?_) (fun k4 => ?_)
    · replace h := h.1 k4
      exact aw_ret h rfl dX12_readPointer_167
    · replace h := h.2 k4
      refine aw_aload_n dX12_readPointer_154 rfl rfl ?_
      refine aw_invVv (M := MX12_readPointer) (ci := 12) [] rfl mo_X12_next rfl lm_X12_408 li_X12_next ls_X12_next (by decide +kernel) dX12_readPointer_155 rfl (Nat.le_of_ble_eq_true rfl) (ACv.mono (fun σ5 h => ?_) h)
      refine aw_aload_n dX12_readPointer_158 rfl rfl ?_
      refine aw_iload_n dX12_readPointer_159 rfl rfl ?_
      refine aw_lconst (x := 1) dX12_readPointer_160 rfl ?_
      refine aw_ldc2 lk_X12_516 dX12_readPointer_161 ?_
      refine aw_invVv (M := MX12_readPointer) (ci := 12) [vI x1, vJ 1, vJ 4096] rfl mo_X12_bound rfl lm_X12_489 li_X12_bound ls_X12_bound (by decide +kernel) dX12_readPointer_164 rfl (Nat.le_of_ble_eq_true rfl) (ACv.mono (fun σ6 h => ?_) h)
      exact aw_ret h rfl dX12_readPointer_167
set_option maxRecDepth 4000 in
theorem bk_X12_readStruct_0 {g : GP} {l : Launch} {d : Nat} {σ : St} {Q : Option AV → St → Prop} {x0 : Nat}
    (h : LC 12 σ x0 ∧ Bd (gI σ 1253 x0 0) 2 ∧ R32 (20 * (gI σ 1253 x0 0)) ∧ R32 ((20 * (gI σ 1253 x0 0)) + (gI σ 1219 x0 (gI σ 1253 x0 0).toNat)) ∧ Bd ((20 * (gI σ 1253 x0 0)) + (gI σ 1219 x0 (gI σ 1253 x0 0).toNat)) 40 ∧ ACv g l d MX12_next [vR 12 (some x0)] (sI (sJ (sI σ 1254 x0 0 (gI σ 1219 x0 (gI σ 1253 x0 0).toNat)) 1221 x0 ((20 * (gI σ 1253 x0 0)) + (gI σ 1219 x0 (gI σ 1253 x0 0).toNat)).toNat (gJ σ 1216 x0 0)) 1222 x0 ((20 * (gI σ 1253 x0 0)) + (gI σ 1219 x0 (gI σ 1253 x0 0).toNat)).toNat 0) (fun σ6 => ACv g l d MX12_take [vR 12 (some x0), vI 123] σ6 (fun σ7 => AW g l (d + 1) MX12_readStruct 62 [some (vR 12 (some x0))] [] σ7 Q))) :
    AW g l (d + 1) MX12_readStruct 0 [some (vR 12 (some x0))] [] σ Q := by
  refine aw_aload_n dX12_readStruct_0 rfl rfl ?_
  refine aw_aload_n dX12_readStruct_1 rfl rfl ?_
  obtain ⟨lc1, h⟩ := h
  refine aw_getA' rfl fk_1219 (by decide) lf_X12_70 dX12_readStruct_2 (LC.ne lc1 rfl rfl) ?_
  refine aw_aload_n dX12_readStruct_5 rfl rfl ?_
  refine aw_getI' rfl fk_1253 lf_X12_173 dX12_readStruct_6 ?_
  obtain ⟨⟨c2, c2x⟩, h⟩ := h
  refine aw_iaload (by decide) rfl dX12_readStruct_9 c2 (LC.lt lc1 rfl rfl c2x) ?_
  refine aw_putI' rfl fk_1254 (Or.inl rfl) lf_X12_176 dX12_readStruct_10 ?_
  refine aw_aload_n dX12_readStruct_13 rfl rfl ?_
  refine aw_getA' rfl fk_1221 (by decide) lf_X12_76 dX12_readStruct_14 (LC.ne lc1 rfl rfl) ?_
  refine aw_bipush (x := 20) dX12_readStruct_17 rfl ?_
  refine aw_aload_n dX12_readStruct_19 rfl rfl ?_
  refine aw_getIe (v := gI σ 1253 x0 0) rfl fk_1253 lf_X12_173 dX12_readStruct_20 rfl ?_
  obtain ⟨⟨c3, c3x⟩, h⟩ := h
  refine aw_imulc dX12_readStruct_23 c3 c3x ?_
  refine aw_aload_n dX12_readStruct_24 rfl rfl ?_
  refine aw_getIe (v := (gI σ 1219 x0 (gI σ 1253 x0 0).toNat)) rfl fk_1254 lf_X12_176 dX12_readStruct_25 (gI_slf σ 1254 x0 0 (gI σ 1219 x0 (gI σ 1253 x0 0).toNat)) ?_
  obtain ⟨⟨c4, c4x⟩, h⟩ := h
  refine aw_iaddc dX12_readStruct_28 c4 c4x ?_
  refine aw_aload_n dX12_readStruct_29 rfl rfl ?_
  refine aw_getJe (v := gJ σ 1216 x0 0) rfl fk_1216 lf_X12_60 dX12_readStruct_30 rfl ?_
  obtain ⟨⟨c5, c5x⟩, h⟩ := h
  refine aw_lastore (by decide) rfl dX12_readStruct_33 c5 (LC.lt lc1 rfl rfl c5x) ?_
  refine aw_aload_n dX12_readStruct_34 rfl rfl ?_
  refine aw_getA' rfl fk_1222 (by decide) lf_X12_80 dX12_readStruct_35 (LC.ne lc1 rfl rfl) ?_
  refine aw_bipush (x := 20) dX12_readStruct_38 rfl ?_
  refine aw_aload_n dX12_readStruct_40 rfl rfl ?_
  refine aw_getIe (v := gI σ 1253 x0 0) rfl fk_1253 lf_X12_173 dX12_readStruct_41 rfl ?_
  refine aw_imulc dX12_readStruct_44 c3 c3x ?_
  refine aw_aload_n dX12_readStruct_45 rfl rfl ?_
  refine aw_getIe (v := (gI σ 1219 x0 (gI σ 1253 x0 0).toNat)) rfl fk_1254 lf_X12_176 dX12_readStruct_46 (gI_slf σ 1254 x0 0 (gI σ 1219 x0 (gI σ 1253 x0 0).toNat)) ?_
  refine aw_iaddc dX12_readStruct_49 c4 c4x ?_
  refine aw_iconst (x := 0) dX12_readStruct_50 rfl ?_
  refine aw_iastore (by decide) rfl dX12_readStruct_51 c5 (LC.lt lc1 rfl rfl c5x) ?_
  refine aw_aload_n dX12_readStruct_52 rfl rfl ?_
  refine aw_invVv (M := MX12_readStruct) (ci := 12) [] rfl mo_X12_next rfl lm_X12_408 li_X12_next ls_X12_next (by decide +kernel) dX12_readStruct_53 rfl (Nat.le_of_ble_eq_true rfl) (ACv.mono (fun σ6 h => ?_) h)
  refine aw_aload_n dX12_readStruct_56 rfl rfl ?_
  refine aw_bipush (x := 123) dX12_readStruct_57 rfl ?_
  refine aw_invVv (M := MX12_readStruct) (ci := 12) [vI 123] rfl mo_X12_take rfl lm_X12_431 li_X12_take ls_X12_take (by decide +kernel) dX12_readStruct_59 rfl (Nat.le_of_ble_eq_true rfl) (ACv.mono (fun σ7 h => ?_) h)
  exact aw_fgt (L' := [some (vR 12 (some x0))]) ⟨rfl, trivial⟩ h
set_option maxRecDepth 4000 in
theorem bk_X12_readStruct_62 {g : GP} {l : Launch} {d : Nat} {σ : St} {Q : Option AV → St → Prop} {x0 : Nat}
    (h : ((¬ (gI σ 1251 x0 0) = 0 → AW g l (d + 1) MX12_readStruct 85 [some (vR 12 (some x0))] [] σ Q) ∧ ((gI σ 1251 x0 0) = 0 → ACi g l d MX12_isSign [vR 12 (some x0), vI 125] σ (fun v3 σ2 => ((¬ v3 = 0 → AW g l (d + 1) MX12_readStruct 85 [some (vR 12 (some x0))] [] σ2 Q) ∧ (v3 = 0 → ACv g l d MX12_readField [vR 12 (some x0)] σ2 (fun σ5 => AW g l (d + 1) MX12_readStruct 62 [some (vR 12 (some x0))] [] σ5 Q))))))) :
    AW g l (d + 1) MX12_readStruct 62 [some (vR 12 (some x0))] [] σ Q := by
  refine aw_aload_n dX12_readStruct_62 rfl rfl ?_
  refine aw_getI' rfl fk_1251 lf_X12_167 dX12_readStruct_63 ?_
  refine aw_if_ne (tgt := 85) dX12_readStruct_66 (by decide) (fun k1 => ?_) (fun k1 => ?_)
  · replace h := h.1 k1
    exact aw_fgt (L' := [some (vR 12 (some x0))]) ⟨rfl, trivial⟩ h
  · replace h := h.2 k1
    refine aw_aload_n dX12_readStruct_69 rfl rfl ?_
    refine aw_bipush (x := 125) dX12_readStruct_70 rfl ?_
    refine aw_invVi (M := MX12_readStruct) (ci := 12) [vI 125] rfl mo_X12_isSign rfl lm_X12_401 li_X12_isSign ls_X12_isSign (by decide +kernel) dX12_readStruct_72 rfl (Nat.le_of_ble_eq_true rfl) (ACi.mono (fun v3 σ2 h => ?_) h)
    refine aw_if_ne (tgt := 85) dX12_readStruct_75 (by decide) (fun k4 => ?_) (fun k4 => ?_)
    · replace h := h.1 k4
      exact aw_fgt (L' := [some (vR 12 (some x0))]) ⟨rfl, trivial⟩ h
    · replace h := h.2 k4
      refine aw_aload_n dX12_readStruct_78 rfl rfl ?_
      refine aw_invVv (M := MX12_readStruct) (ci := 12) [] rfl mo_X12_readField rfl lm_X12_441 li_X12_readField ls_X12_readField (by decide +kernel) dX12_readStruct_79 rfl (Nat.le_of_ble_eq_true rfl) (ACv.mono (fun σ5 h => ?_) h)
      refine aw_goto (tgt := 62) dX12_readStruct_82 (by decide) ?_
      exact aw_fgt (L' := [some (vR 12 (some x0))]) ⟨rfl, trivial⟩ h
set_option maxRecDepth 4000 in
theorem bk_X12_readStruct_85 {g : GP} {l : Launch} {d : Nat} {σ : St} {Q : Option AV → St → Prop} {x0 : Nat}
    (h : ACv g l d MX12_take [vR 12 (some x0), vI 125] σ (fun σ1 => (((gI σ1 1251 x0 0) ≤ 0 → LC 12 σ1 x0 ∧ R32 (20 * (gI σ1 1253 x0 0)) ∧ R32 ((20 * (gI σ1 1253 x0 0)) + (gI σ1 1254 x0 0)) ∧ ACi g l d MX12_sized [vR 12 (some x0), vI (gI σ1 1254 x0 0)] σ1 (fun v7 σ6 => LC 12 σ6 x0 ∧ Bd ((20 * (gI σ1 1253 x0 0)) + (gI σ1 1254 x0 0)) 40 ∧ Bd (gI σ6 1253 x0 0) 2 ∧ R32 ((gI σ6 1219 x0 (gI σ6 1253 x0 0).toNat) + 1) ∧ Q none (sI (sI σ6 1223 x0 ((20 * (gI σ1 1253 x0 0)) + (gI σ1 1254 x0 0)).toNat v7) 1219 x0 (gI σ6 1253 x0 0).toNat ((gI σ6 1219 x0 (gI σ6 1253 x0 0).toNat) + 1)))) ∧ (¬ (gI σ1 1251 x0 0) ≤ 0 → Q none σ1)))) :
    AW g l (d + 1) MX12_readStruct 85 [some (vR 12 (some x0))] [] σ Q := by
  refine aw_aload_n dX12_readStruct_85 rfl rfl ?_
  refine aw_bipush (x := 125) dX12_readStruct_86 rfl ?_
  refine aw_invVv (M := MX12_readStruct) (ci := 12) [vI 125] rfl mo_X12_take rfl lm_X12_431 li_X12_take ls_X12_take (by decide +kernel) dX12_readStruct_88 rfl (Nat.le_of_ble_eq_true rfl) (ACv.mono (fun σ1 h => ?_) h)
  refine aw_aload_n dX12_readStruct_91 rfl rfl ?_
  refine aw_getI' rfl fk_1251 lf_X12_167 dX12_readStruct_92 ?_
  refine aw_if_le (tgt := 99) dX12_readStruct_95 (by decide) (fun k2 => ?_) (fun k2 => ?_)
  · replace h := h.1 k2
    refine aw_aload_n dX12_readStruct_99 rfl rfl ?_
    obtain ⟨lc3, h⟩ := h
    refine aw_getA' rfl fk_1223 (by decide) lf_X12_83 dX12_readStruct_100 (LC.ne lc3 rfl rfl) ?_
    refine aw_bipush (x := 20) dX12_readStruct_103 rfl ?_
    refine aw_aload_n dX12_readStruct_105 rfl rfl ?_
    refine aw_getI' rfl fk_1253 lf_X12_173 dX12_readStruct_106 ?_
    obtain ⟨⟨c4, c4x⟩, h⟩ := h
    refine aw_imulc dX12_readStruct_109 c4 c4x ?_
    refine aw_aload_n dX12_readStruct_110 rfl rfl ?_
    refine aw_getI' rfl fk_1254 lf_X12_176 dX12_readStruct_111 ?_
    obtain ⟨⟨c5, c5x⟩, h⟩ := h
    refine aw_iaddc dX12_readStruct_114 c5 c5x ?_
    refine aw_aload_n dX12_readStruct_115 rfl rfl ?_
    refine aw_aload_n dX12_readStruct_116 rfl rfl ?_
    refine aw_getI' rfl fk_1254 lf_X12_176 dX12_readStruct_117 ?_
    refine aw_invVi (M := MX12_readStruct) (ci := 12) [vI (gI σ1 1254 x0 0)] rfl mo_X12_sized rfl lm_X12_444 li_X12_sized ls_X12_sized (by decide +kernel) dX12_readStruct_120 rfl (Nat.le_of_ble_eq_true rfl) (ACi.mono (fun v7 σ6 h => ?_) h)
    obtain ⟨lc8, h⟩ := h
    obtain ⟨⟨c9, c9x⟩, h⟩ := h
    refine aw_iastore (by decide) rfl dX12_readStruct_123 c9 (LC.lt lc8 rfl rfl c9x) ?_
    refine aw_aload_n dX12_readStruct_124 rfl rfl ?_
    refine aw_getA' rfl fk_1219 (by decide) lf_X12_70 dX12_readStruct_125 (LC.ne lc8 rfl rfl) ?_
    refine aw_aload_n dX12_readStruct_128 rfl rfl ?_
    refine aw_getIe (v := gI σ6 1253 x0 0) rfl fk_1253 lf_X12_173 dX12_readStruct_129 rfl ?_
    refine aw_dup2 dX12_readStruct_132 rfl rfl ?_
    obtain ⟨⟨c10, c10x⟩, h⟩ := h
    refine aw_ialoade (v := gI σ6 1219 x0 (gI σ6 1253 x0 0).toNat) (by decide) rfl dX12_readStruct_133 c10 (LC.lt lc8 rfl rfl c10x) rfl ?_
    refine aw_iconst (x := 1) dX12_readStruct_134 rfl ?_
    obtain ⟨⟨c11, c11x⟩, h⟩ := h
    refine aw_iaddc dX12_readStruct_135 c11 c11x ?_
    refine aw_iastore (by decide) rfl dX12_readStruct_136 c10 (LC.lt lc8 rfl rfl c10x) ?_
    exact aw_ret h rfl dX12_readStruct_137
  · replace h := h.2 k2
    exact aw_ret h rfl dX12_readStruct_98
set_option maxRecDepth 4000 in
theorem bk_X12_readSum_0 {g : GP} {l : Launch} {d : Nat} {σ : St} {Q : Option AV → St → Prop} {x0 : Nat} {x1 : Int}
    (h : ACv g l d MX12_next [vR 12 (some x0)] σ (fun σ1 => LC 12 σ1 x0 ∧ Bd x1 560 ∧ ACi g l d MX12_isWord [vR 12 (some x0), vJ 6382692] (sI σ1 1228 x0 x1.toNat 11) (fun v5 σ4 => ((v5 = 0 → ACi g l d MX12_isWord [vR 12 (some x0), vJ 7892850] σ4 (fun v8 σ7 => ((v8 = 0 → ACi g l d MX12_isWord [vR 12 (some x0), vJ 1869505907] σ7 (fun v11 σ10 => ((v11 = 0 → ACi g l d MX12_isWord [vR 12 (some x0), vJ 1919904876] σ10 (fun v14 σ13 => ((v14 = 0 → ((((-1) : Int) < 0 → AW g l (d + 1) MX12_readSum 80 [some (vR 12 (some x0)), some (vI x1), some (vI (-1))] [vI 0, vR 12 (some x0)] σ13 Q) ∧ (¬ ((-1) : Int) < 0 → AW g l (d + 1) MX12_readSum 80 [some (vR 12 (some x0)), some (vI x1), some (vI (-1))] [vI 1, vR 12 (some x0)] σ13 Q))) ∧ (¬ v14 = 0 → (((3 : Int) < 0 → AW g l (d + 1) MX12_readSum 80 [some (vR 12 (some x0)), some (vI x1), some (vI 3)] [vI 0, vR 12 (some x0)] σ13 Q) ∧ (¬ (3 : Int) < 0 → AW g l (d + 1) MX12_readSum 80 [some (vR 12 (some x0)), some (vI x1), some (vI 3)] [vI 1, vR 12 (some x0)] σ13 Q)))))) ∧ (¬ v11 = 0 → (((2 : Int) < 0 → AW g l (d + 1) MX12_readSum 80 [some (vR 12 (some x0)), some (vI x1), some (vI 2)] [vI 0, vR 12 (some x0)] σ10 Q) ∧ (¬ (2 : Int) < 0 → AW g l (d + 1) MX12_readSum 80 [some (vR 12 (some x0)), some (vI x1), some (vI 2)] [vI 1, vR 12 (some x0)] σ10 Q)))))) ∧ (¬ v8 = 0 → (((1 : Int) < 0 → AW g l (d + 1) MX12_readSum 80 [some (vR 12 (some x0)), some (vI x1), some (vI 1)] [vI 0, vR 12 (some x0)] σ7 Q) ∧ (¬ (1 : Int) < 0 → AW g l (d + 1) MX12_readSum 80 [some (vR 12 (some x0)), some (vI x1), some (vI 1)] [vI 1, vR 12 (some x0)] σ7 Q)))))) ∧ (¬ v5 = 0 → (((0 : Int) < 0 → AW g l (d + 1) MX12_readSum 80 [some (vR 12 (some x0)), some (vI x1), some (vI 0)] [vI 0, vR 12 (some x0)] σ4 Q) ∧ (¬ (0 : Int) < 0 → AW g l (d + 1) MX12_readSum 80 [some (vR 12 (some x0)), some (vI x1), some (vI 0)] [vI 1, vR 12 (some x0)] σ4 Q))))))) :
    AW g l (d + 1) MX12_readSum 0 [some (vR 12 (some x0)), some (vI x1), none] [] σ Q := by
  refine aw_aload_n dX12_readSum_0 rfl rfl ?_
  refine aw_invVv (M := MX12_readSum) (ci := 12) [] rfl mo_X12_next rfl lm_X12_408 li_X12_next ls_X12_next (by decide +kernel) dX12_readSum_1 rfl (Nat.le_of_ble_eq_true rfl) (ACv.mono (fun σ1 h => ?_) h)
  refine aw_aload_n dX12_readSum_4 rfl rfl ?_
  obtain ⟨lc2, h⟩ := h
  refine aw_getA' rfl fk_1228 (by decide) lf_X12_98 dX12_readSum_5 (LC.ne lc2 rfl rfl) ?_
  refine aw_iload_n dX12_readSum_8 rfl rfl ?_
  refine aw_bipush (x := 11) dX12_readSum_9 rfl ?_
  obtain ⟨⟨c3, c3x⟩, h⟩ := h
  refine aw_iastore (by decide) rfl dX12_readSum_11 c3 (LC.lt lc2 rfl rfl c3x) ?_
  refine aw_aload_n dX12_readSum_12 rfl rfl ?_
  refine aw_ldc2 lk_X12_370 dX12_readSum_13 ?_
  refine aw_invVi (M := MX12_readSum) (ci := 12) [vJ 6382692] rfl mo_X12_isWord rfl lm_X12_334 li_X12_isWord ls_X12_isWord (by decide +kernel) dX12_readSum_16 rfl (Nat.le_of_ble_eq_true rfl) (ACi.mono (fun v5 σ4 h => ?_) h)
  refine aw_if_eq (tgt := 26) dX12_readSum_19 (by decide) (fun k6 => ?_) (fun k6 => ?_)
  · replace h := h.1 k6
    refine aw_aload_n dX12_readSum_26 rfl rfl ?_
    refine aw_ldc2 lk_X12_372 dX12_readSum_27 ?_
    refine aw_invVi (M := MX12_readSum) (ci := 12) [vJ 7892850] rfl mo_X12_isWord rfl lm_X12_334 li_X12_isWord ls_X12_isWord (by decide +kernel) dX12_readSum_30 rfl (Nat.le_of_ble_eq_true rfl) (ACi.mono (fun v8 σ7 h => ?_) h)
    refine aw_if_eq (tgt := 40) dX12_readSum_33 (by decide) (fun k9 => ?_) (fun k9 => ?_)
    · replace h := h.1 k9
      refine aw_aload_n dX12_readSum_40 rfl rfl ?_
      refine aw_ldc2 lk_X12_374 dX12_readSum_41 ?_
      refine aw_invVi (M := MX12_readSum) (ci := 12) [vJ 1869505907] rfl mo_X12_isWord rfl lm_X12_334 li_X12_isWord ls_X12_isWord (by decide +kernel) dX12_readSum_44 rfl (Nat.le_of_ble_eq_true rfl) (ACi.mono (fun v11 σ10 h => ?_) h)
      refine aw_if_eq (tgt := 54) dX12_readSum_47 (by decide) (fun k12 => ?_) (fun k12 => ?_)
      · replace h := h.1 k12
        refine aw_aload_n dX12_readSum_54 rfl rfl ?_
        refine aw_ldc2 lk_X12_376 dX12_readSum_55 ?_
        refine aw_invVi (M := MX12_readSum) (ci := 12) [vJ 1919904876] rfl mo_X12_isWord rfl lm_X12_334 li_X12_isWord ls_X12_isWord (by decide +kernel) dX12_readSum_58 rfl (Nat.le_of_ble_eq_true rfl) (ACi.mono (fun v14 σ13 h => ?_) h)
        refine aw_if_eq (tgt := 68) dX12_readSum_61 (by decide) (fun k15 => ?_) (fun k15 => ?_)
        · replace h := h.1 k15
          refine aw_iconst (x := (-1)) dX12_readSum_68 rfl ?_
          refine aw_istore_n (L' := [some (vR 12 (some x0)), some (vI x1), some (vI (-1))]) dX12_readSum_69 rfl (by decide) rfl ?_
          refine aw_aload_n dX12_readSum_70 rfl rfl ?_
          refine aw_iload_n dX12_readSum_71 rfl rfl ?_
          refine aw_if_lt (tgt := 79) dX12_readSum_72 (by decide) (fun k16 => ?_) (fun k16 => ?_)
          · replace h := h.1 k16
            refine aw_iconst (x := 0) dX12_readSum_79 rfl ?_
            exact aw_fgt (L' := [some (vR 12 (some x0)), some (vI x1), some (vI (-1))]) ⟨rfl, ⟨rfl, ⟨rfl, trivial⟩⟩⟩ h
          · replace h := h.2 k16
            refine aw_iconst (x := 1) dX12_readSum_75 rfl ?_
            refine aw_goto (tgt := 80) dX12_readSum_76 (by decide) ?_
            exact aw_fgt (L' := [some (vR 12 (some x0)), some (vI x1), some (vI (-1))]) ⟨rfl, ⟨rfl, ⟨rfl, trivial⟩⟩⟩ h
        · replace h := h.2 k15
          refine aw_iconst (x := 3) dX12_readSum_64 rfl ?_
          refine aw_goto (tgt := 69) dX12_readSum_65 (by decide) ?_
          refine aw_istore_n (L' := [some (vR 12 (some x0)), some (vI x1), some (vI 3)]) dX12_readSum_69 rfl (by decide) rfl ?_
          refine aw_aload_n dX12_readSum_70 rfl rfl ?_
          refine aw_iload_n dX12_readSum_71 rfl rfl ?_
          refine aw_if_lt (tgt := 79) dX12_readSum_72 (by decide) (fun k17 => ?_) (fun k17 => ?_)
          · replace h := h.1 k17
            refine aw_iconst (x := 0) dX12_readSum_79 rfl ?_
            exact aw_fgt (L' := [some (vR 12 (some x0)), some (vI x1), some (vI 3)]) ⟨rfl, ⟨rfl, ⟨rfl, trivial⟩⟩⟩ h
          · replace h := h.2 k17
            refine aw_iconst (x := 1) dX12_readSum_75 rfl ?_
            refine aw_goto (tgt := 80) dX12_readSum_76 (by decide) ?_
            exact aw_fgt (L' := [some (vR 12 (some x0)), some (vI x1), some (vI 3)]) ⟨rfl, ⟨rfl, ⟨rfl, trivial⟩⟩⟩ h
      · replace h := h.2 k12
        refine aw_iconst (x := 2) dX12_readSum_50 rfl ?_
        refine aw_goto (tgt := 69) dX12_readSum_51 (by decide) ?_
        refine aw_istore_n (L' := [some (vR 12 (some x0)), some (vI x1), some (vI 2)]) dX12_readSum_69 rfl (by decide) rfl ?_
        refine aw_aload_n dX12_readSum_70 rfl rfl ?_
        refine aw_iload_n dX12_readSum_71 rfl rfl ?_
        refine aw_if_lt (tgt := 79) dX12_readSum_72 (by decide) (fun k18 => ?_) (fun k18 => ?_)
        · replace h := h.1 k18
          refine aw_iconst (x := 0) dX12_readSum_79 rfl ?_
          exact aw_fgt (L' := [some (vR 12 (some x0)), some (vI x1), some (vI 2)]) ⟨rfl, ⟨rfl, ⟨rfl, trivial⟩⟩⟩ h
        · replace h := h.2 k18
          refine aw_iconst (x := 1) dX12_readSum_75 rfl ?_
          refine aw_goto (tgt := 80) dX12_readSum_76 (by decide) ?_
          exact aw_fgt (L' := [some (vR 12 (some x0)), some (vI x1), some (vI 2)]) ⟨rfl, ⟨rfl, ⟨rfl, trivial⟩⟩⟩ h
    · replace h := h.2 k9
      refine aw_iconst (x := 1) dX12_readSum_36 rfl ?_
      refine aw_goto (tgt := 69) dX12_readSum_37 (by decide) ?_
      refine aw_istore_n (L' := [some (vR 12 (some x0)), some (vI x1), some (vI 1)]) dX12_readSum_69 rfl (by decide) rfl ?_
      refine aw_aload_n dX12_readSum_70 rfl rfl ?_
      refine aw_iload_n dX12_readSum_71 rfl rfl ?_
      refine aw_if_lt (tgt := 79) dX12_readSum_72 (by decide) (fun k19 => ?_) (fun k19 => ?_)
      · replace h := h.1 k19
        refine aw_iconst (x := 0) dX12_readSum_79 rfl ?_
        exact aw_fgt (L' := [some (vR 12 (some x0)), some (vI x1), some (vI 1)]) ⟨rfl, ⟨rfl, ⟨rfl, trivial⟩⟩⟩ h
      · replace h := h.2 k19
        refine aw_iconst (x := 1) dX12_readSum_75 rfl ?_
        refine aw_goto (tgt := 80) dX12_readSum_76 (by decide) ?_
        exact aw_fgt (L' := [some (vR 12 (some x0)), some (vI x1), some (vI 1)]) ⟨rfl, ⟨rfl, ⟨rfl, trivial⟩⟩⟩ h
  · replace h := h.2 k6
    refine aw_iconst (x := 0) dX12_readSum_22 rfl ?_
    refine aw_goto (tgt := 69) dX12_readSum_23 (by decide) ?_
    refine aw_istore_n (L' := [some (vR 12 (some x0)), some (vI x1), some (vI 0)]) dX12_readSum_69 rfl (by decide) rfl ?_
    refine aw_aload_n dX12_readSum_70 rfl rfl ?_
    refine aw_iload_n dX12_readSum_71 rfl rfl ?_
    refine aw_if_lt (tgt := 79) dX12_readSum_72 (by decide) (fun k20 => ?_) (fun k20 => ?_)
    · replace h := h.1 k20
      refine aw_iconst (x := 0) dX12_readSum_79 rfl ?_
      exact aw_fgt (L' := [some (vR 12 (some x0)), some (vI x1), some (vI 0)]) ⟨rfl, ⟨rfl, ⟨rfl, trivial⟩⟩⟩ h
    · replace h := h.2 k20
      refine aw_iconst (x := 1) dX12_readSum_75 rfl ?_
      refine aw_goto (tgt := 80) dX12_readSum_76 (by decide) ?_
      exact aw_fgt (L' := [some (vR 12 (some x0)), some (vI x1), some (vI 0)]) ⟨rfl, ⟨rfl, ⟨rfl, trivial⟩⟩⟩ h
set_option maxRecDepth 4000 in
theorem bk_X12_readSum_80 {g : GP} {l : Launch} {d : Nat} {σ : St} {Q : Option AV → St → Prop} {x0 : Nat} {x1 : Int} {x2 : Int} {y0 : Int} {y1 : Option Nat}
    (h : ∃ r1, y1 = some r1 ∧ ACi g l d MX12_must [vR 12 (some r1), vI y0, vI 2] σ (fun v4 σ3 => ((¬ v4 = 0 → LC 12 σ3 x0 ∧ Bd x1 560 ∧ ACv g l d MX12_next [vR 12 (some x0)] (sI σ3 1235 x0 x1.toNat x2) (fun σ8 => ACv g l d MX12_readWhole [vR 12 (some x0), vI x1] σ8 (fun σ9 => ACv g l d MX12_named [vR 12 (some x0), vI x1] σ9 (fun σ10 => ((¬ (gI σ10 1251 x0 0) = 0 → AW g l (d + 1) MX12_readSum 123 [some (vR 12 (some x0)), some (vI x1), none] [] σ10 Q) ∧ ((gI σ10 1251 x0 0) = 0 → ACv g l d MX12_takeWord [vR 12 (some x0), vJ 28518] σ10 (fun σ12 => AW g l (d + 1) MX12_readSum 123 [some (vR 12 (some x0)), some (vI x1), none] [] σ12 Q))))))) ∧ (v4 = 0 → Q none σ3)))) :
    AW g l (d + 1) MX12_readSum 80 [some (vR 12 (some x0)), some (vI x1), some (vI x2)] [vI y0, vR 12 y1] σ Q := by
  refine aw_iconst (x := 2) dX12_readSum_80 rfl ?_
  obtain ⟨r1, e2, h⟩ := h
  refine aw_invVi (M := MX12_readSum) (ci := 12) [vI y0, vI 2] e2 mo_X12_must rfl lm_X12_404 li_X12_must ls_X12_must (by decide +kernel) dX12_readSum_81 rfl (Nat.le_of_ble_eq_true rfl) (ACi.mono (fun v4 σ3 h => ?_) h)
  refine aw_if_ne (tgt := 88) dX12_readSum_84 (by decide) (fun k5 => ?_) (fun k5 => ?_)
  · replace h := h.1 k5
    refine aw_aload_n dX12_readSum_88 rfl rfl ?_
    obtain ⟨lc6, h⟩ := h
    refine aw_getA' rfl fk_1235 (by decide) lf_X12_119 dX12_readSum_89 (LC.ne lc6 rfl rfl) ?_
    refine aw_iload_n dX12_readSum_92 rfl rfl ?_
    refine aw_iload_n dX12_readSum_93 rfl rfl ?_
    obtain ⟨⟨c7, c7x⟩, h⟩ := h
    refine aw_iastore (by decide) rfl dX12_readSum_94 c7 (LC.lt lc6 rfl rfl c7x) ?_
    refine aw_aload_n dX12_readSum_95 rfl rfl ?_
    refine aw_invVv (M := MX12_readSum) (ci := 12) [] rfl mo_X12_next rfl lm_X12_408 li_X12_next ls_X12_next (by decide +kernel) dX12_readSum_96 rfl (Nat.le_of_ble_eq_true rfl) (ACv.mono (fun σ8 h => ?_) h)
    refine aw_aload_n dX12_readSum_99 rfl rfl ?_
    refine aw_iload_n dX12_readSum_100 rfl rfl ?_
    refine aw_invVv (M := MX12_readSum) (ci := 12) [vI x1] rfl mo_X12_readWhole rfl lm_X12_499 li_X12_readWhole ls_X12_readWhole (by decide +kernel) dX12_readSum_101 rfl (Nat.le_of_ble_eq_true rfl) (ACv.mono (fun σ9 h => ?_) h)
    refine aw_aload_n dX12_readSum_104 rfl rfl ?_
    refine aw_iload_n dX12_readSum_105 rfl rfl ?_
    refine aw_invVv (M := MX12_readSum) (ci := 12) [vI x1] rfl mo_X12_named rfl lm_X12_466 li_X12_named ls_X12_named (by decide +kernel) dX12_readSum_106 rfl (Nat.le_of_ble_eq_true rfl) (ACv.mono (fun σ10 h => ?_) h)
    refine aw_aload_n dX12_readSum_109 rfl rfl ?_
    refine aw_getI' rfl fk_1251 lf_X12_167 dX12_readSum_110 ?_
    refine aw_if_ne (tgt := 123) dX12_readSum_113 (by decide) (fun k11 => ?_) (fun k11 => ?_)
    · replace h := h.1 k11
      exact aw_fgt (L' := [some (vR 12 (some x0)), some (vI x1), none]) ⟨rfl, ⟨rfl, trivial⟩⟩ h
    · replace h := h.2 k11
      refine aw_aload_n dX12_readSum_116 rfl rfl ?_
      refine aw_ldc2 lk_X12_378 dX12_readSum_117 ?_
      refine aw_invVv (M := MX12_readSum) (ci := 12) [vJ 28518] rfl mo_X12_takeWord rfl lm_X12_506 li_X12_takeWord ls_X12_takeWord (by decide +kernel) dX12_readSum_120 rfl (Nat.le_of_ble_eq_true rfl) (ACv.mono (fun σ12 h => ?_) h)
      exact aw_fgt (L' := [some (vR 12 (some x0)), some (vI x1), none]) ⟨rfl, ⟨rfl, trivial⟩⟩ h
  · replace h := h.2 k5
    exact aw_ret h rfl dX12_readSum_87
set_option maxRecDepth 4000 in
theorem bk_X12_readSum_123 {g : GP} {l : Launch} {d : Nat} {σ : St} {Q : Option AV → St → Prop} {x0 : Nat} {x1 : Int}
    (h : ((¬ (gI σ 1251 x0 0) = 0 → AW g l (d + 1) MX12_readSum 140 [some (vR 12 (some x0)), some (vI x1), none] [] σ Q) ∧ ((gI σ 1251 x0 0) = 0 → LC 12 σ x0 ∧ ACi g l d MX12_expr [vR 12 (some x0)] σ (fun v4 σ3 => LC 12 σ3 x0 ∧ Bd x1 560 ∧ AW g l (d + 1) MX12_readSum 140 [some (vR 12 (some x0)), some (vI x1), none] [] (sI σ3 1233 x0 x1.toNat v4) Q)))) :
    AW g l (d + 1) MX12_readSum 123 [some (vR 12 (some x0)), some (vI x1), none] [] σ Q := by
  refine aw_aload_n dX12_readSum_123 rfl rfl ?_
  refine aw_getI' rfl fk_1251 lf_X12_167 dX12_readSum_124 ?_
  refine aw_if_ne (tgt := 140) dX12_readSum_127 (by decide) (fun k1 => ?_) (fun k1 => ?_)
  · replace h := h.1 k1
    exact aw_fgt (L' := [some (vR 12 (some x0)), some (vI x1), none]) ⟨rfl, ⟨rfl, trivial⟩⟩ h
  · replace h := h.2 k1
    refine aw_aload_n dX12_readSum_130 rfl rfl ?_
    obtain ⟨lc2, h⟩ := h
    refine aw_getA' rfl fk_1233 (by decide) lf_X12_113 dX12_readSum_131 (LC.ne lc2 rfl rfl) ?_
    refine aw_iload_n dX12_readSum_134 rfl rfl ?_
    refine aw_aload_n dX12_readSum_135 rfl rfl ?_
    refine aw_invVi (M := MX12_readSum) (ci := 12) [] rfl mo_X12_expr rfl lm_X12_460 li_X12_expr ls_X12_expr (by decide +kernel) dX12_readSum_136 rfl (Nat.le_of_ble_eq_true rfl) (ACi.mono (fun v4 σ3 h => ?_) h)
    obtain ⟨lc5, h⟩ := h
    obtain ⟨⟨c6, c6x⟩, h⟩ := h
    refine aw_iastore (by decide) rfl dX12_readSum_139 c6 (LC.lt lc5 rfl rfl c6x) ?_
    exact aw_fgt (L' := [some (vR 12 (some x0)), some (vI x1), none]) ⟨rfl, ⟨rfl, trivial⟩⟩ h
set_option maxRecDepth 4000 in
theorem bk_X12_readSum_140 {g : GP} {l : Launch} {d : Nat} {σ : St} {Q : Option AV → St → Prop} {x0 : Nat} {x1 : Int}
    (h : ACv g l d MX12_take [vR 12 (some x0), vI 44] σ (fun σ1 => ((¬ (gI σ1 1251 x0 0) = 0 → Q none σ1) ∧ ((gI σ1 1251 x0 0) = 0 → LC 12 σ1 x0 ∧ ACi g l d MX12_expr [vR 12 (some x0)] σ1 (fun v5 σ4 => LC 12 σ4 x0 ∧ Bd x1 560 ∧ Q none (sI σ4 1234 x0 x1.toNat v5)))))) :
    AW g l (d + 1) MX12_readSum 140 [some (vR 12 (some x0)), some (vI x1), none] [] σ Q := by
  refine aw_aload_n dX12_readSum_140 rfl rfl ?_
  refine aw_bipush (x := 44) dX12_readSum_141 rfl ?_
  refine aw_invVv (M := MX12_readSum) (ci := 12) [vI 44] rfl mo_X12_take rfl lm_X12_431 li_X12_take ls_X12_take (by decide +kernel) dX12_readSum_143 rfl (Nat.le_of_ble_eq_true rfl) (ACv.mono (fun σ1 h => ?_) h)
  refine aw_aload_n dX12_readSum_146 rfl rfl ?_
  refine aw_getI' rfl fk_1251 lf_X12_167 dX12_readSum_147 ?_
  refine aw_if_ne (tgt := 163) dX12_readSum_150 (by decide) (fun k2 => ?_) (fun k2 => ?_)
  · replace h := h.1 k2
    exact aw_ret h rfl dX12_readSum_163
  · replace h := h.2 k2
    refine aw_aload_n dX12_readSum_153 rfl rfl ?_
    obtain ⟨lc3, h⟩ := h
    refine aw_getA' rfl fk_1234 (by decide) lf_X12_116 dX12_readSum_154 (LC.ne lc3 rfl rfl) ?_
    refine aw_iload_n dX12_readSum_157 rfl rfl ?_
    refine aw_aload_n dX12_readSum_158 rfl rfl ?_
    refine aw_invVi (M := MX12_readSum) (ci := 12) [] rfl mo_X12_expr rfl lm_X12_460 li_X12_expr ls_X12_expr (by decide +kernel) dX12_readSum_159 rfl (Nat.le_of_ble_eq_true rfl) (ACi.mono (fun v5 σ4 h => ?_) h)
    obtain ⟨lc6, h⟩ := h
    obtain ⟨⟨c7, c7x⟩, h⟩ := h
    refine aw_iastore (by decide) rfl dX12_readSum_162 c7 (LC.lt lc6 rfl rfl c7x) ?_
    exact aw_ret h rfl dX12_readSum_163
set_option maxRecDepth 4000 in
theorem bk_X12_readText_0 {g : GP} {l : Launch} {d : Nat} {σ : St} {Q : Option AV → St → Prop} {x0 : Nat} {x1 : Int}
    (h : ACv g l d MX12_next [vR 12 (some x0)] σ (fun σ1 => LC 12 σ1 x0 ∧ Bd x1 560 ∧ ACv g l d MX12_named [vR 12 (some x0), vI x1] (sI σ1 1228 x0 x1.toNat 5) (fun σ4 => (((gI σ4 1251 x0 0) ≤ 0 → ACi g l d MX12_isWord [vR 12 (some x0), vJ 504364296556] σ4 (fun v7 σ6 => ((v7 = 0 → ACv g l d MX12_take [vR 12 (some x0), vI 91] σ6 (fun σ9 => ((¬ (gI σ9 1251 x0 0) = 0 → ACv g l d MX12_take [vR 12 (some x0), vI 93] σ9 (fun σ11 => Q none σ11)) ∧ ((gI σ9 1251 x0 0) = 0 → LC 12 σ9 x0 ∧ ACi g l d MX12_expr [vR 12 (some x0)] σ9 (fun v14 σ13 => LC 12 σ13 x0 ∧ ACv g l d MX12_take [vR 12 (some x0), vI 93] (sI σ13 1233 x0 x1.toNat v14) (fun σ16 => Q none σ16)))))) ∧ (¬ v7 = 0 → LC 12 σ6 x0 ∧ ACv g l d MX12_next [vR 12 (some x0)] (sI σ6 1228 x0 x1.toNat 6) (fun σ18 => ACv g l d MX12_bound [vR 12 (some x0), vI x1, vJ 0, vJ 255] σ18 (fun σ19 => Q none σ19)))))) ∧ (¬ (gI σ4 1251 x0 0) ≤ 0 → Q none σ4))))) :
    AW g l (d + 1) MX12_readText 0 [some (vR 12 (some x0)), some (vI x1)] [] σ Q := by
  refine aw_aload_n dX12_readText_0 rfl rfl ?_
  refine aw_invVv (M := MX12_readText) (ci := 12) [] rfl mo_X12_next rfl lm_X12_408 li_X12_next ls_X12_next (by decide +kernel) dX12_readText_1 rfl (Nat.le_of_ble_eq_true rfl) (ACv.mono (fun σ1 h => ?_) h)
  refine aw_aload_n dX12_readText_4 rfl rfl ?_
  obtain ⟨lc2, h⟩ := h
  refine aw_getA' rfl fk_1228 (by decide) lf_X12_98 dX12_readText_5 (LC.ne lc2 rfl rfl) ?_
  refine aw_iload_n dX12_readText_8 rfl rfl ?_
  refine aw_iconst (x := 5) dX12_readText_9 rfl ?_
  obtain ⟨⟨c3, c3x⟩, h⟩ := h
  refine aw_iastore (by decide) rfl dX12_readText_10 c3 (LC.lt lc2 rfl rfl c3x) ?_
  refine aw_aload_n dX12_readText_11 rfl rfl ?_
  refine aw_iload_n dX12_readText_12 rfl rfl ?_
  refine aw_invVv (M := MX12_readText) (ci := 12) [vI x1] rfl mo_X12_named rfl lm_X12_466 li_X12_named ls_X12_named (by decide +kernel) dX12_readText_13 rfl (Nat.le_of_ble_eq_true rfl) (ACv.mono (fun σ4 h => ?_) h)
  refine aw_aload_n dX12_readText_16 rfl rfl ?_
  refine aw_getI' rfl fk_1251 lf_X12_167 dX12_readText_17 ?_
  refine aw_if_le (tgt := 24) dX12_readText_20 (by decide) (fun k5 => ?_) (fun k5 => ?_)
  · replace h := h.1 k5
    refine aw_aload_n dX12_readText_24 rfl rfl ?_
    refine aw_ldc2 lk_X12_348 dX12_readText_25 ?_
    refine aw_invVi (M := MX12_readText) (ci := 12) [vJ 504364296556] rfl mo_X12_isWord rfl lm_X12_334 li_X12_isWord ls_X12_isWord (by decide +kernel) dX12_readText_28 rfl (Nat.le_of_ble_eq_true rfl) (ACi.mono (fun v7 σ6 h => ?_) h)
    refine aw_if_eq (tgt := 56) dX12_readText_31 (by decide) (fun k8 => ?_) (fun k8 => ?_)
    · replace h := h.1 k8
      refine aw_aload_n dX12_readText_56 rfl rfl ?_
      refine aw_bipush (x := 91) dX12_readText_57 rfl ?_
      refine aw_invVv (M := MX12_readText) (ci := 12) [vI 91] rfl mo_X12_take rfl lm_X12_431 li_X12_take ls_X12_take (by decide +kernel) dX12_readText_59 rfl (Nat.le_of_ble_eq_true rfl) (ACv.mono (fun σ9 h => ?_) h)
      refine aw_aload_n dX12_readText_62 rfl rfl ?_
      refine aw_getI' rfl fk_1251 lf_X12_167 dX12_readText_63 ?_
      refine aw_if_ne (tgt := 79) dX12_readText_66 (by decide) (fun k10 => ?_) (fun k10 => ?_)
      · replace h := h.1 k10
        refine aw_aload_n dX12_readText_79 rfl rfl ?_
        refine aw_bipush (x := 93) dX12_readText_80 rfl ?_
        refine aw_invVv (M := MX12_readText) (ci := 12) [vI 93] rfl mo_X12_take rfl lm_X12_431 li_X12_take ls_X12_take (by decide +kernel) dX12_readText_82 rfl (Nat.le_of_ble_eq_true rfl) (ACv.mono (fun σ11 h => ?_) h)
        exact aw_ret h rfl dX12_readText_85
      · replace h := h.2 k10
        refine aw_aload_n dX12_readText_69 rfl rfl ?_
        obtain ⟨lc12, h⟩ := h
        refine aw_getA' rfl fk_1233 (by decide) lf_X12_113 dX12_readText_70 (LC.ne lc12 rfl rfl) ?_
        refine aw_iload_n dX12_readText_73 rfl rfl ?_
        refine aw_aload_n dX12_readText_74 rfl rfl ?_
        refine aw_invVi (M := MX12_readText) (ci := 12) [] rfl mo_X12_expr rfl lm_X12_460 li_X12_expr ls_X12_expr (by decide +kernel) dX12_readText_75 rfl (Nat.le_of_ble_eq_true rfl) (ACi.mono (fun v14 σ13 h => ?_) h)
        obtain ⟨lc15, h⟩ := h
        refine aw_iastore (by decide) rfl dX12_readText_78 c3 (LC.lt lc15 rfl rfl c3x) ?_
        refine aw_aload_n dX12_readText_79 rfl rfl ?_
        refine aw_bipush (x := 93) dX12_readText_80 rfl ?_
        refine aw_invVv (M := MX12_readText) (ci := 12) [vI 93] rfl mo_X12_take rfl lm_X12_431 li_X12_take ls_X12_take (by decide +kernel) dX12_readText_82 rfl (Nat.le_of_ble_eq_true rfl) (ACv.mono (fun σ16 h => ?_) h)
        exact aw_ret h rfl dX12_readText_85
    · replace h := h.2 k8
      refine aw_aload_n dX12_readText_34 rfl rfl ?_
      obtain ⟨lc17, h⟩ := h
      refine aw_getA' rfl fk_1228 (by decide) lf_X12_98 dX12_readText_35 (LC.ne lc17 rfl rfl) ?_
      refine aw_iload_n dX12_readText_38 rfl rfl ?_
      refine aw_bipush (x := 6) dX12_readText_39 rfl ?_
      refine aw_iastore (by decide) rfl dX12_readText_41 c3 (LC.lt lc17 rfl rfl c3x) ?_
      refine aw_aload_n dX12_readText_42 rfl rfl ?_
      refine aw_invVv (M := MX12_readText) (ci := 12) [] rfl mo_X12_next rfl lm_X12_408 li_X12_next ls_X12_next (by decide +kernel) dX12_readText_43 rfl (Nat.le_of_ble_eq_true rfl) (ACv.mono (fun σ18 h => ?_) h)
      refine aw_aload_n dX12_readText_46 rfl rfl ?_
      refine aw_iload_n dX12_readText_47 rfl rfl ?_
      refine aw_lconst (x := 0) dX12_readText_48 rfl ?_
      refine aw_ldc2 lk_X12_297 dX12_readText_49 ?_
      refine aw_invVv (M := MX12_readText) (ci := 12) [vI x1, vJ 0, vJ 255] rfl mo_X12_bound rfl lm_X12_489 li_X12_bound ls_X12_bound (by decide +kernel) dX12_readText_52 rfl (Nat.le_of_ble_eq_true rfl) (ACv.mono (fun σ19 h => ?_) h)
      exact aw_ret h rfl dX12_readText_55
  · replace h := h.2 k5
    exact aw_ret h rfl dX12_readText_23
set_option maxRecDepth 4000 in
theorem bk_X12_readUnion_0 {g : GP} {l : Launch} {d : Nat} {σ : St} {Q : Option AV → St → Prop} {x0 : Nat} {x1 : Int}
    (h : ACv g l d MX12_next [vR 12 (some x0)] σ (fun σ1 => LC 12 σ1 x0 ∧ Bd x1 560 ∧ ACv g l d MX12_named [vR 12 (some x0), vI x1] (sI σ1 1228 x0 x1.toNat 7) (fun σ4 => ((¬ (gI σ4 1251 x0 0) = 0 → AW g l (d + 1) MX12_readUnion 31 [some (vR 12 (some x0)), some (vI x1)] [] σ4 Q) ∧ ((gI σ4 1251 x0 0) = 0 → ACv g l d MX12_takeWord [vR 12 (some x0), vJ 25209] σ4 (fun σ6 => AW g l (d + 1) MX12_readUnion 31 [some (vR 12 (some x0)), some (vI x1)] [] σ6 Q)))))) :
    AW g l (d + 1) MX12_readUnion 0 [some (vR 12 (some x0)), some (vI x1)] [] σ Q := by
  refine aw_aload_n dX12_readUnion_0 rfl rfl ?_
  refine aw_invVv (M := MX12_readUnion) (ci := 12) [] rfl mo_X12_next rfl lm_X12_408 li_X12_next ls_X12_next (by decide +kernel) dX12_readUnion_1 rfl (Nat.le_of_ble_eq_true rfl) (ACv.mono (fun σ1 h => ?_) h)
  refine aw_aload_n dX12_readUnion_4 rfl rfl ?_
  obtain ⟨lc2, h⟩ := h
  refine aw_getA' rfl fk_1228 (by decide) lf_X12_98 dX12_readUnion_5 (LC.ne lc2 rfl rfl) ?_
  refine aw_iload_n dX12_readUnion_8 rfl rfl ?_
  refine aw_bipush (x := 7) dX12_readUnion_9 rfl ?_
  obtain ⟨⟨c3, c3x⟩, h⟩ := h
  refine aw_iastore (by decide) rfl dX12_readUnion_11 c3 (LC.lt lc2 rfl rfl c3x) ?_
  refine aw_aload_n dX12_readUnion_12 rfl rfl ?_
  refine aw_iload_n dX12_readUnion_13 rfl rfl ?_
  refine aw_invVv (M := MX12_readUnion) (ci := 12) [vI x1] rfl mo_X12_named rfl lm_X12_466 li_X12_named ls_X12_named (by decide +kernel) dX12_readUnion_14 rfl (Nat.le_of_ble_eq_true rfl) (ACv.mono (fun σ4 h => ?_) h)
  refine aw_aload_n dX12_readUnion_17 rfl rfl ?_
  refine aw_getI' rfl fk_1251 lf_X12_167 dX12_readUnion_18 ?_
  refine aw_if_ne (tgt := 31) dX12_readUnion_21 (by decide) (fun k5 => ?_) (fun k5 => ?_)
  · replace h := h.1 k5
    exact aw_fgt (L' := [some (vR 12 (some x0)), some (vI x1)]) ⟨rfl, ⟨rfl, trivial⟩⟩ h
  · replace h := h.2 k5
    refine aw_aload_n dX12_readUnion_24 rfl rfl ?_
    refine aw_ldc2 lk_X12_352 dX12_readUnion_25 ?_
    refine aw_invVv (M := MX12_readUnion) (ci := 12) [vJ 25209] rfl mo_X12_takeWord rfl lm_X12_506 li_X12_takeWord ls_X12_takeWord (by decide +kernel) dX12_readUnion_28 rfl (Nat.le_of_ble_eq_true rfl) (ACv.mono (fun σ6 h => ?_) h)
    exact aw_fgt (L' := [some (vR 12 (some x0)), some (vI x1)]) ⟨rfl, ⟨rfl, trivial⟩⟩ h
set_option maxRecDepth 4000 in
theorem bk_X12_readUnion_31 {g : GP} {l : Launch} {d : Nat} {σ : St} {Q : Option AV → St → Prop} {x0 : Nat} {x1 : Int}
    (h : ((¬ (gI σ 1251 x0 0) = 0 → AW g l (d + 1) MX12_readUnion 48 [some (vR 12 (some x0)), some (vI x1)] [] σ Q) ∧ ((gI σ 1251 x0 0) = 0 → LC 12 σ x0 ∧ ACi g l d MX12_expr [vR 12 (some x0)] σ (fun v4 σ3 => LC 12 σ3 x0 ∧ Bd x1 560 ∧ AW g l (d + 1) MX12_readUnion 48 [some (vR 12 (some x0)), some (vI x1)] [] (sI σ3 1233 x0 x1.toNat v4) Q)))) :
    AW g l (d + 1) MX12_readUnion 31 [some (vR 12 (some x0)), some (vI x1)] [] σ Q := by
  refine aw_aload_n dX12_readUnion_31 rfl rfl ?_
  refine aw_getI' rfl fk_1251 lf_X12_167 dX12_readUnion_32 ?_
  refine aw_if_ne (tgt := 48) dX12_readUnion_35 (by decide) (fun k1 => ?_) (fun k1 => ?_)
  · replace h := h.1 k1
    exact aw_fgt (L' := [some (vR 12 (some x0)), some (vI x1)]) ⟨rfl, ⟨rfl, trivial⟩⟩ h
  · replace h := h.2 k1
    refine aw_aload_n dX12_readUnion_38 rfl rfl ?_
    obtain ⟨lc2, h⟩ := h
    refine aw_getA' rfl fk_1233 (by decide) lf_X12_113 dX12_readUnion_39 (LC.ne lc2 rfl rfl) ?_
    refine aw_iload_n dX12_readUnion_42 rfl rfl ?_
    refine aw_aload_n dX12_readUnion_43 rfl rfl ?_
    refine aw_invVi (M := MX12_readUnion) (ci := 12) [] rfl mo_X12_expr rfl lm_X12_460 li_X12_expr ls_X12_expr (by decide +kernel) dX12_readUnion_44 rfl (Nat.le_of_ble_eq_true rfl) (ACi.mono (fun v4 σ3 h => ?_) h)
    obtain ⟨lc5, h⟩ := h
    obtain ⟨⟨c6, c6x⟩, h⟩ := h
    refine aw_iastore (by decide) rfl dX12_readUnion_47 c6 (LC.lt lc5 rfl rfl c6x) ?_
    exact aw_fgt (L' := [some (vR 12 (some x0)), some (vI x1)]) ⟨rfl, ⟨rfl, trivial⟩⟩ h
set_option maxRecDepth 4000 in
theorem bk_X12_readUnion_48 {g : GP} {l : Launch} {d : Nat} {σ : St} {Q : Option AV → St → Prop} {x0 : Nat} {x1 : Int}
    (h : ACv g l d MX12_take [vR 12 (some x0), vI 123] σ (fun σ1 => ((¬ (gI σ1 1251 x0 0) = 0 → AW g l (d + 1) MX12_readUnion 66 [some (vR 12 (some x0)), some (vI x1)] [] σ1 Q) ∧ ((gI σ1 1251 x0 0) = 0 → ACv g l d MX12_readCase [vR 12 (some x0), vI x1] σ1 (fun σ3 => AW g l (d + 1) MX12_readUnion 66 [some (vR 12 (some x0)), some (vI x1)] [] σ3 Q))))) :
    AW g l (d + 1) MX12_readUnion 48 [some (vR 12 (some x0)), some (vI x1)] [] σ Q := by
  refine aw_aload_n dX12_readUnion_48 rfl rfl ?_
  refine aw_bipush (x := 123) dX12_readUnion_49 rfl ?_
  refine aw_invVv (M := MX12_readUnion) (ci := 12) [vI 123] rfl mo_X12_take rfl lm_X12_431 li_X12_take ls_X12_take (by decide +kernel) dX12_readUnion_51 rfl (Nat.le_of_ble_eq_true rfl) (ACv.mono (fun σ1 h => ?_) h)
  refine aw_aload_n dX12_readUnion_54 rfl rfl ?_
  refine aw_getI' rfl fk_1251 lf_X12_167 dX12_readUnion_55 ?_
  refine aw_if_ne (tgt := 66) dX12_readUnion_58 (by decide) (fun k2 => ?_) (fun k2 => ?_)
  · replace h := h.1 k2
    exact aw_fgt (L' := [some (vR 12 (some x0)), some (vI x1)]) ⟨rfl, ⟨rfl, trivial⟩⟩ h
  · replace h := h.2 k2
    refine aw_aload_n dX12_readUnion_61 rfl rfl ?_
    refine aw_iload_n dX12_readUnion_62 rfl rfl ?_
    refine aw_invVv (M := MX12_readUnion) (ci := 12) [vI x1] rfl mo_X12_readCase rfl lm_X12_510 li_X12_readCase ls_X12_readCase (by decide +kernel) dX12_readUnion_63 rfl (Nat.le_of_ble_eq_true rfl) (ACv.mono (fun σ3 h => ?_) h)
    exact aw_fgt (L' := [some (vR 12 (some x0)), some (vI x1)]) ⟨rfl, ⟨rfl, trivial⟩⟩ h
set_option maxRecDepth 4000 in
theorem bk_X12_readUnion_66 {g : GP} {l : Launch} {d : Nat} {σ : St} {Q : Option AV → St → Prop} {x0 : Nat} {x1 : Int}
    (h : ((¬ (gI σ 1251 x0 0) = 0 → AW g l (d + 1) MX12_readUnion 98 [some (vR 12 (some x0)), some (vI x1)] [] σ Q) ∧ ((gI σ 1251 x0 0) = 0 → ACi g l d MX12_isSign [vR 12 (some x0), vI 45] σ (fun v3 σ2 => ((¬ v3 = 0 → ACv g l d MX12_readCase [vR 12 (some x0), vI x1] σ2 (fun σ5 => AW g l (d + 1) MX12_readUnion 66 [some (vR 12 (some x0)), some (vI x1)] [] σ5 Q)) ∧ (v3 = 0 → ((¬ (gI σ2 1213 x0 0) = 2 → AW g l (d + 1) MX12_readUnion 98 [some (vR 12 (some x0)), some (vI x1)] [] σ2 Q) ∧ ((gI σ2 1213 x0 0) = 2 → ACv g l d MX12_readCase [vR 12 (some x0), vI x1] σ2 (fun σ7 => AW g l (d + 1) MX12_readUnion 66 [some (vR 12 (some x0)), some (vI x1)] [] σ7 Q))))))))) :
    AW g l (d + 1) MX12_readUnion 66 [some (vR 12 (some x0)), some (vI x1)] [] σ Q := by
  refine aw_aload_n dX12_readUnion_66 rfl rfl ?_
  refine aw_getI' rfl fk_1251 lf_X12_167 dX12_readUnion_67 ?_
  refine aw_if_ne (tgt := 98) dX12_readUnion_70 (by decide) (fun k1 => ?_) (fun k1 => ?_)
  · replace h := h.1 k1
    exact aw_fgt (L' := [some (vR 12 (some x0)), some (vI x1)]) ⟨rfl, ⟨rfl, trivial⟩⟩ h
  · replace h := h.2 k1
    refine aw_aload_n dX12_readUnion_73 rfl rfl ?_
    refine aw_bipush (x := 45) dX12_readUnion_74 rfl ?_
    refine aw_invVi (M := MX12_readUnion) (ci := 12) [vI 45] rfl mo_X12_isSign rfl lm_X12_401 li_X12_isSign ls_X12_isSign (by decide +kernel) dX12_readUnion_76 rfl (Nat.le_of_ble_eq_true rfl) (ACi.mono (fun v3 σ2 h => ?_) h)
    refine aw_if_ne (tgt := 90) dX12_readUnion_79 (by decide) (fun k4 => ?_) (fun k4 => ?_)
    · replace h := h.1 k4
      refine aw_aload_n dX12_readUnion_90 rfl rfl ?_
      refine aw_iload_n dX12_readUnion_91 rfl rfl ?_
      refine aw_invVv (M := MX12_readUnion) (ci := 12) [vI x1] rfl mo_X12_readCase rfl lm_X12_510 li_X12_readCase ls_X12_readCase (by decide +kernel) dX12_readUnion_92 rfl (Nat.le_of_ble_eq_true rfl) (ACv.mono (fun σ5 h => ?_) h)
      refine aw_goto (tgt := 66) dX12_readUnion_95 (by decide) ?_
      exact aw_fgt (L' := [some (vR 12 (some x0)), some (vI x1)]) ⟨rfl, ⟨rfl, trivial⟩⟩ h
    · replace h := h.2 k4
      refine aw_aload_n dX12_readUnion_82 rfl rfl ?_
      refine aw_getI' rfl fk_1213 lf_X12_51 dX12_readUnion_83 ?_
      refine aw_iconst (x := 2) dX12_readUnion_86 rfl ?_
      refine aw_icmp_ne (tgt := 98) dX12_readUnion_87 (by decide) (fun k6 => ?_) (fun k6 => ?_)
      · replace h := h.1 k6
        exact aw_fgt (L' := [some (vR 12 (some x0)), some (vI x1)]) ⟨rfl, ⟨rfl, trivial⟩⟩ h
      · replace h := h.2 k6
        refine aw_aload_n dX12_readUnion_90 rfl rfl ?_
        refine aw_iload_n dX12_readUnion_91 rfl rfl ?_
        refine aw_invVv (M := MX12_readUnion) (ci := 12) [vI x1] rfl mo_X12_readCase rfl lm_X12_510 li_X12_readCase ls_X12_readCase (by decide +kernel) dX12_readUnion_92 rfl (Nat.le_of_ble_eq_true rfl) (ACv.mono (fun σ7 h => ?_) h)
        refine aw_goto (tgt := 66) dX12_readUnion_95 (by decide) ?_
        exact aw_fgt (L' := [some (vR 12 (some x0)), some (vI x1)]) ⟨rfl, ⟨rfl, trivial⟩⟩ h
set_option maxRecDepth 4000 in
theorem bk_X12_readUnion_98 {g : GP} {l : Launch} {d : Nat} {σ : St} {Q : Option AV → St → Prop} {x0 : Nat} {x1 : Int}
    (h : ((¬ (gI σ 1251 x0 0) = 0 → ACv g l d MX12_take [vR 12 (some x0), vI 125] σ (fun σ2 => Q none σ2)) ∧ ((gI σ 1251 x0 0) = 0 → ACi g l d MX12_isWord [vR 12 (some x0), vJ 1701606245] σ (fun v4 σ3 => ((v4 = 0 → ACv g l d MX12_take [vR 12 (some x0), vI 125] σ3 (fun σ6 => Q none σ6)) ∧ (¬ v4 = 0 → ACv g l d MX12_next [vR 12 (some x0)] σ3 (fun σ7 => LC 12 σ7 x0 ∧ ACi g l d MX12_ended [vR 12 (some x0)] σ7 (fun v10 σ9 => LC 12 σ9 x0 ∧ Bd x1 560 ∧ ACv g l d MX12_take [vR 12 (some x0), vI 59] (sI σ9 1236 x0 x1.toNat v10) (fun σ13 => ACv g l d MX12_take [vR 12 (some x0), vI 125] σ13 (fun σ14 => Q none σ14)))))))))) :
    AW g l (d + 1) MX12_readUnion 98 [some (vR 12 (some x0)), some (vI x1)] [] σ Q := by
  refine aw_aload_n dX12_readUnion_98 rfl rfl ?_
  refine aw_getI' rfl fk_1251 lf_X12_167 dX12_readUnion_99 ?_
  refine aw_if_ne (tgt := 135) dX12_readUnion_102 (by decide) (fun k1 => ?_) (fun k1 => ?_)
  · replace h := h.1 k1
    refine aw_aload_n dX12_readUnion_135 rfl rfl ?_
    refine aw_bipush (x := 125) dX12_readUnion_136 rfl ?_
    refine aw_invVv (M := MX12_readUnion) (ci := 12) [vI 125] rfl mo_X12_take rfl lm_X12_431 li_X12_take ls_X12_take (by decide +kernel) dX12_readUnion_138 rfl (Nat.le_of_ble_eq_true rfl) (ACv.mono (fun σ2 h => ?_) h)
    exact aw_ret h rfl dX12_readUnion_141
  · replace h := h.2 k1
    refine aw_aload_n dX12_readUnion_105 rfl rfl ?_
    refine aw_ldc2 lk_X12_354 dX12_readUnion_106 ?_
    refine aw_invVi (M := MX12_readUnion) (ci := 12) [vJ 1701606245] rfl mo_X12_isWord rfl lm_X12_334 li_X12_isWord ls_X12_isWord (by decide +kernel) dX12_readUnion_109 rfl (Nat.le_of_ble_eq_true rfl) (ACi.mono (fun v4 σ3 h => ?_) h)
    refine aw_if_eq (tgt := 135) dX12_readUnion_112 (by decide) (fun k5 => ?_) (fun k5 => ?_)
    · replace h := h.1 k5
      refine aw_aload_n dX12_readUnion_135 rfl rfl ?_
      refine aw_bipush (x := 125) dX12_readUnion_136 rfl ?_
      refine aw_invVv (M := MX12_readUnion) (ci := 12) [vI 125] rfl mo_X12_take rfl lm_X12_431 li_X12_take ls_X12_take (by decide +kernel) dX12_readUnion_138 rfl (Nat.le_of_ble_eq_true rfl) (ACv.mono (fun σ6 h => ?_) h)
      exact aw_ret h rfl dX12_readUnion_141
    · replace h := h.2 k5
      refine aw_aload_n dX12_readUnion_115 rfl rfl ?_
      refine aw_invVv (M := MX12_readUnion) (ci := 12) [] rfl mo_X12_next rfl lm_X12_408 li_X12_next ls_X12_next (by decide +kernel) dX12_readUnion_116 rfl (Nat.le_of_ble_eq_true rfl) (ACv.mono (fun σ7 h => ?_) h)
      refine aw_aload_n dX12_readUnion_119 rfl rfl ?_
      obtain ⟨lc8, h⟩ := h
      refine aw_getA' rfl fk_1236 (by decide) lf_X12_122 dX12_readUnion_120 (LC.ne lc8 rfl rfl) ?_
      refine aw_iload_n dX12_readUnion_123 rfl rfl ?_
      refine aw_aload_n dX12_readUnion_124 rfl rfl ?_
      refine aw_invVi (M := MX12_readUnion) (ci := 12) [] rfl mo_X12_ended rfl lm_X12_513 li_X12_ended ls_X12_ended (by decide +kernel) dX12_readUnion_125 rfl (Nat.le_of_ble_eq_true rfl) (ACi.mono (fun v10 σ9 h => ?_) h)
      obtain ⟨lc11, h⟩ := h
      obtain ⟨⟨c12, c12x⟩, h⟩ := h
      refine aw_iastore (by decide) rfl dX12_readUnion_128 c12 (LC.lt lc11 rfl rfl c12x) ?_
      refine aw_aload_n dX12_readUnion_129 rfl rfl ?_
      refine aw_bipush (x := 59) dX12_readUnion_130 rfl ?_
      refine aw_invVv (M := MX12_readUnion) (ci := 12) [vI 59] rfl mo_X12_take rfl lm_X12_431 li_X12_take ls_X12_take (by decide +kernel) dX12_readUnion_132 rfl (Nat.le_of_ble_eq_true rfl) (ACv.mono (fun σ13 h => ?_) h)
      refine aw_aload_n dX12_readUnion_135 rfl rfl ?_
      refine aw_bipush (x := 125) dX12_readUnion_136 rfl ?_
      refine aw_invVv (M := MX12_readUnion) (ci := 12) [vI 125] rfl mo_X12_take rfl lm_X12_431 li_X12_take ls_X12_take (by decide +kernel) dX12_readUnion_138 rfl (Nat.le_of_ble_eq_true rfl) (ACv.mono (fun σ14 h => ?_) h)
      exact aw_ret h rfl dX12_readUnion_141
set_option maxRecDepth 4000 in
theorem bk_X12_readWhole_0 {g : GP} {l : Launch} {d : Nat} {σ : St} {Q : Option AV → St → Prop} {x0 : Nat} {x1 : Int}
    (h : ((0 < (gI σ 1251 x0 0) → Q none σ) ∧ (¬ 0 < (gI σ 1251 x0 0) → ACi g l d MX12_whole [vR 12 (some x0)] σ (fun v3 σ2 => ((v3 ≤ 0 → AW g l (d + 1) MX12_readWhole 20 [some (vR 12 (some x0)), some (vI x1)] [vI 0, vR 12 (some x0)] σ2 Q) ∧ (¬ v3 ≤ 0 → AW g l (d + 1) MX12_readWhole 20 [some (vR 12 (some x0)), some (vI x1)] [vI 1, vR 12 (some x0)] σ2 Q)))))) :
    AW g l (d + 1) MX12_readWhole 0 [some (vR 12 (some x0)), some (vI x1)] [] σ Q := by
  refine aw_aload_n dX12_readWhole_0 rfl rfl ?_
  refine aw_getI' rfl fk_1251 lf_X12_167 dX12_readWhole_1 ?_
  refine aw_if_gt (tgt := 27) dX12_readWhole_4 (by decide) (fun k1 => ?_) (fun k1 => ?_)
  · replace h := h.1 k1
    exact aw_ret h rfl dX12_readWhole_27
  · replace h := h.2 k1
    refine aw_aload_n dX12_readWhole_7 rfl rfl ?_
    refine aw_aload_n dX12_readWhole_8 rfl rfl ?_
    refine aw_invVi (M := MX12_readWhole) (ci := 12) [] rfl mo_X12_whole rfl lm_X12_390 li_X12_whole ls_X12_whole (by decide +kernel) dX12_readWhole_9 rfl (Nat.le_of_ble_eq_true rfl) (ACi.mono (fun v3 σ2 h => ?_) h)
    refine aw_if_le (tgt := 19) dX12_readWhole_12 (by decide) (fun k4 => ?_) (fun k4 => ?_)
    · replace h := h.1 k4
      refine aw_iconst (x := 0) dX12_readWhole_19 rfl ?_
      exact aw_fgt (L' := [some (vR 12 (some x0)), some (vI x1)]) ⟨rfl, ⟨rfl, trivial⟩⟩ h
    · replace h := h.2 k4
      refine aw_iconst (x := 1) dX12_readWhole_15 rfl ?_
      refine aw_goto (tgt := 20) dX12_readWhole_16 (by decide) ?_
      exact aw_fgt (L' := [some (vR 12 (some x0)), some (vI x1)]) ⟨rfl, ⟨rfl, trivial⟩⟩ h
set_option maxRecDepth 4000 in
theorem bk_X12_readWhole_20 {g : GP} {l : Launch} {d : Nat} {σ : St} {Q : Option AV → St → Prop} {x0 : Nat} {x1 : Int} {y0 : Int} {y1 : Option Nat}
    (h : ∃ r1, y1 = some r1 ∧ ACi g l d MX12_must [vR 12 (some r1), vI y0, vI 2] σ (fun v4 σ3 => ((¬ v4 = 0 → LC 12 σ3 x0 ∧ ACi g l d MX12_whole [vR 12 (some x0)] σ3 (fun v8 σ7 => LC 12 σ7 x0 ∧ Bd x1 560 ∧ ACv g l d MX12_next [vR 12 (some x0)] (sI σ7 1229 x0 x1.toNat v8) (fun σ11 => Q none σ11))) ∧ (v4 = 0 → Q none σ3)))) :
    AW g l (d + 1) MX12_readWhole 20 [some (vR 12 (some x0)), some (vI x1)] [vI y0, vR 12 y1] σ Q := by
  refine aw_iconst (x := 2) dX12_readWhole_20 rfl ?_
  obtain ⟨r1, e2, h⟩ := h
  refine aw_invVi (M := MX12_readWhole) (ci := 12) [vI y0, vI 2] e2 mo_X12_must rfl lm_X12_404 li_X12_must ls_X12_must (by decide +kernel) dX12_readWhole_21 rfl (Nat.le_of_ble_eq_true rfl) (ACi.mono (fun v4 σ3 h => ?_) h)
  refine aw_if_ne (tgt := 28) dX12_readWhole_24 (by decide) (fun k5 => ?_) (fun k5 => ?_)
  · replace h := h.1 k5
    refine aw_aload_n dX12_readWhole_28 rfl rfl ?_
    obtain ⟨lc6, h⟩ := h
    refine aw_getA' rfl fk_1229 (by decide) lf_X12_101 dX12_readWhole_29 (LC.ne lc6 rfl rfl) ?_
    refine aw_iload_n dX12_readWhole_32 rfl rfl ?_
    refine aw_aload_n dX12_readWhole_33 rfl rfl ?_
    refine aw_invVi (M := MX12_readWhole) (ci := 12) [] rfl mo_X12_whole rfl lm_X12_390 li_X12_whole ls_X12_whole (by decide +kernel) dX12_readWhole_34 rfl (Nat.le_of_ble_eq_true rfl) (ACi.mono (fun v8 σ7 h => ?_) h)
    obtain ⟨lc9, h⟩ := h
    obtain ⟨⟨c10, c10x⟩, h⟩ := h
    refine aw_iastore (by decide) rfl dX12_readWhole_37 c10 (LC.lt lc9 rfl rfl c10x) ?_
    refine aw_aload_n dX12_readWhole_38 rfl rfl ?_
    refine aw_invVv (M := MX12_readWhole) (ci := 12) [] rfl mo_X12_next rfl lm_X12_408 li_X12_next ls_X12_next (by decide +kernel) dX12_readWhole_39 rfl (Nat.le_of_ble_eq_true rfl) (ACv.mono (fun σ11 h => ?_) h)
    exact aw_ret h rfl dX12_readWhole_42
  · replace h := h.2 k5
    exact aw_ret h rfl dX12_readWhole_27
set_option maxRecDepth 4000 in
theorem bk_X12_relay_0 {g : GP} {l : Launch} {d : Nat} {σ : St} {Q : Option AV → St → Prop} {x0 : Nat} {x1 : Int}
    (h : ((x1 < 0 → Q (some (vI (-1))) σ) ∧ (¬ x1 < 0 → ((x1 < (gI σ 1264 x0 0) → LC 12 σ x0 ∧ Bd x1 7 ∧ R32 (400 * x1) ∧ Bd (400 * x1) 2800 ∧ ACi g l d MX12_laidAt [vR 12 (some x0), vI 6, vI (gI σ 1265 x0 x1.toNat), vI (gI σ 1273 x0 (400 * x1).toNat), vI (gI σ 1268 x0 (400 * x1).toNat)] σ (fun v8 σ7 => ((¬ v8 = 0 → LC 12 σ7 x0 ∧ R32 (6 - x1) ∧ R32 (400 * (6 - x1)) ∧ AW g l (d + 1) MX12_relay 80 [some (vR 12 (some x0)), some (vI x1), some (vI (400 * (6 - x1))), some (vI (400 * x1)), none] [] (sI σ7 1266 x0 x1.toNat (gI σ7 1266 x0 6)) Q) ∧ (v8 = 0 → Q (some (vI (-6))) σ7)))) ∧ (¬ x1 < (gI σ 1264 x0 0) → Q (some (vI (-1))) σ))))) :
    AW g l (d + 1) MX12_relay 0 [some (vR 12 (some x0)), some (vI x1), none, none, none] [] σ Q := by
  refine aw_iload_n dX12_relay_0 rfl rfl ?_
  refine aw_if_lt (tgt := 12) dX12_relay_1 (by decide) (fun k1 => ?_) (fun k1 => ?_)
  · replace h := h.1 k1
    refine aw_iconst (x := (-1)) dX12_relay_12 rfl ?_
    exact aw_ireturn dX12_relay_13 rfl h
  · replace h := h.2 k1
    refine aw_iload_n dX12_relay_4 rfl rfl ?_
    refine aw_aload_n dX12_relay_5 rfl rfl ?_
    refine aw_getI' rfl fk_1264 lf_X12_208 dX12_relay_6 ?_
    refine aw_icmp_lt (tgt := 14) dX12_relay_9 (by decide) (fun k2 => ?_) (fun k2 => ?_)
    · replace h := h.1 k2
      refine aw_aload_n dX12_relay_14 rfl rfl ?_
      refine aw_bipush (x := 6) dX12_relay_15 rfl ?_
      refine aw_aload_n dX12_relay_17 rfl rfl ?_
      obtain ⟨lc3, h⟩ := h
      refine aw_getA' rfl fk_1265 (by decide) lf_X12_211 dX12_relay_18 (LC.ne lc3 rfl rfl) ?_
      refine aw_iload_n dX12_relay_21 rfl rfl ?_
      obtain ⟨⟨c4, c4x⟩, h⟩ := h
      refine aw_iaload (by decide) rfl dX12_relay_22 c4 (LC.lt lc3 rfl rfl c4x) ?_
      refine aw_aload_n dX12_relay_23 rfl rfl ?_
      refine aw_getA' rfl fk_1273 (by decide) lf_X12_235 dX12_relay_24 (LC.ne lc3 rfl rfl) ?_
      refine aw_sipush (x := 400) dX12_relay_27 rfl ?_
      refine aw_iload_n dX12_relay_30 rfl rfl ?_
      obtain ⟨⟨c5, c5x⟩, h⟩ := h
      refine aw_imulc dX12_relay_31 c5 c5x ?_
      obtain ⟨⟨c6, c6x⟩, h⟩ := h
      refine aw_iaload (by decide) rfl dX12_relay_32 c6 (LC.lt lc3 rfl rfl c6x) ?_
      refine aw_aload_n dX12_relay_33 rfl rfl ?_
      refine aw_getA' rfl fk_1268 (by decide) lf_X12_220 dX12_relay_34 (LC.ne lc3 rfl rfl) ?_
      refine aw_sipush (x := 400) dX12_relay_37 rfl ?_
      refine aw_iload_n dX12_relay_40 rfl rfl ?_
      refine aw_imulc dX12_relay_41 c5 c5x ?_
      refine aw_iaload (by decide) rfl dX12_relay_42 c6 (LC.lt lc3 rfl rfl c6x) ?_
      refine aw_invVi (M := MX12_relay) (ci := 12) [vI 6, vI (gI σ 1265 x0 x1.toNat), vI (gI σ 1273 x0 (400 * x1).toNat), vI (gI σ 1268 x0 (400 * x1).toNat)] rfl mo_X12_laidAt rfl lm_X12_678 li_X12_laidAt ls_X12_laidAt (by decide +kernel) dX12_relay_43 rfl (Nat.le_of_ble_eq_true rfl) (ACi.mono (fun v8 σ7 h => ?_) h)
      refine aw_if_ne (tgt := 52) dX12_relay_46 (by decide) (fun k9 => ?_) (fun k9 => ?_)
      · replace h := h.1 k9
        refine aw_aload_n dX12_relay_52 rfl rfl ?_
        obtain ⟨lc10, h⟩ := h
        refine aw_getA' rfl fk_1266 (by decide) lf_X12_214 dX12_relay_53 (LC.ne lc10 rfl rfl) ?_
        refine aw_iload_n dX12_relay_56 rfl rfl ?_
        refine aw_aload_n dX12_relay_57 rfl rfl ?_
        refine aw_getA' rfl fk_1266 (by decide) lf_X12_214 dX12_relay_58 (LC.ne lc10 rfl rfl) ?_
        refine aw_bipush (x := 6) dX12_relay_61 rfl ?_
        refine aw_iaload (by decide) rfl dX12_relay_63 (by decide) (LC.lt lc10 rfl rfl (by decide)) ?_
        refine aw_iastore (by decide) rfl dX12_relay_64 c4 (LC.lt lc10 rfl rfl c4x) ?_
        refine aw_sipush (x := 400) dX12_relay_65 rfl ?_
        refine aw_bipush (x := 6) dX12_relay_68 rfl ?_
        refine aw_iload_n dX12_relay_70 rfl rfl ?_
        obtain ⟨⟨c11, c11x⟩, h⟩ := h
        refine aw_isubc dX12_relay_71 c11 c11x ?_
        obtain ⟨⟨c12, c12x⟩, h⟩ := h
        refine aw_imulc dX12_relay_72 c12 c12x ?_
        refine aw_istore_n (L' := [some (vR 12 (some x0)), some (vI x1), some (vI (400 * (6 - x1))), none, none]) dX12_relay_73 rfl (by decide) rfl ?_
        refine aw_sipush (x := 400) dX12_relay_74 rfl ?_
        refine aw_iload_n dX12_relay_77 rfl rfl ?_
        refine aw_imulc dX12_relay_78 c5 c5x ?_
        refine aw_istore_n (L' := [some (vR 12 (some x0)), some (vI x1), some (vI (400 * (6 - x1))), some (vI (400 * x1)), none]) dX12_relay_79 rfl (by decide) rfl ?_
        exact aw_fgt (L' := [some (vR 12 (some x0)), some (vI x1), some (vI (400 * (6 - x1))), some (vI (400 * x1)), none]) ⟨rfl, ⟨rfl, ⟨rfl, ⟨rfl, trivial⟩⟩⟩⟩ h
      · replace h := h.2 k9
        refine aw_bipush (x := (-6)) dX12_relay_49 rfl ?_
        exact aw_ireturn dX12_relay_51 rfl h
    · replace h := h.2 k2
      refine aw_iconst (x := (-1)) dX12_relay_12 rfl ?_
      exact aw_ireturn dX12_relay_13 rfl h
set_option maxRecDepth 4000 in
theorem bk_X12_relay_80 {g : GP} {l : Launch} {d : Nat} {σ : St} {Q : Option AV → St → Prop} {x0 : Nat} {x1 : Int} {x2 : Int} {x3 : Int}
    (h : R32 (400 * x1) ∧ LC 12 σ x0 ∧ Bd x1 7 ∧ R32 ((400 * x1) + (gI σ 1266 x0 x1.toNat)) ∧ ((((400 * x1) + (gI σ 1266 x0 x1.toNat)) ≤ x3 → Q (some (vI (gI σ 1266 x0 x1.toNat))) σ) ∧ (¬ ((400 * x1) + (gI σ 1266 x0 x1.toNat)) ≤ x3 → R32 (x3 + x2) ∧ Bd (x3 + x2) 2800 ∧ Bd x3 2800 ∧ ACi g l d MX12_moved [vR 12 (some x0), vI (gI σ 1270 x0 (x3 + x2).toNat), vI x2] (sI (sI (sI σ 1267 x0 x3.toNat (gI σ 1267 x0 (x3 + x2).toNat)) 1268 x0 x3.toNat (gI σ 1268 x0 (x3 + x2).toNat)) 1269 x0 x3.toNat (gI σ 1269 x0 (x3 + x2).toNat)) (fun v10 σ9 => LC 12 σ9 x0 ∧ ACi g l d MX12_moved [vR 12 (some x0), vI (gI σ9 1276 x0 (x3 + x2).toNat), vI x2] (sI (sI (sI (sI (sI (sI σ9 1270 x0 x3.toNat v10) 1271 x0 x3.toNat (gI σ9 1271 x0 (x3 + x2).toNat)) 1272 x0 x3.toNat (gI σ9 1272 x0 (x3 + x2).toNat)) 1273 x0 x3.toNat (gI σ9 1273 x0 (x3 + x2).toNat)) 1274 x0 x3.toNat (gI σ9 1274 x0 (x3 + x2).toNat)) 1275 x0 x3.toNat (gI σ9 1275 x0 (x3 + x2).toNat)) (fun v13 σ12 => LC 12 σ12 x0 ∧ ACi g l d MX12_moved [vR 12 (some x0), vI (gI σ12 1277 x0 (x3 + x2).toNat), vI x2] (sI σ12 1276 x0 x3.toNat v13) (fun v16 σ15 => LC 12 σ15 x0 ∧ ACi g l d MX12_moved [vR 12 (some x0), vI (gI σ15 1278 x0 (x3 + x2).toNat), vI x2] (sI σ15 1277 x0 x3.toNat v16) (fun v19 σ18 => LC 12 σ18 x0 ∧ ((gI σ18 1279 x0 (x3 + x2).toNat) = 0 ∨ (gI σ18 1279 x0 (x3 + x2).toNat) = 1) ∧ R32 (x3 + 1) ∧ AW g l (d + 1) MX12_relay 80 [some (vR 12 (some x0)), some (vI x1), some (vI x2), some (vI (x3 + 1)), none] [] (sI (sI σ18 1278 x0 x3.toNat v19) 1279 x0 x3.toNat (gI σ18 1279 x0 (x3 + x2).toNat)) Q))))))) :
    AW g l (d + 1) MX12_relay 80 [some (vR 12 (some x0)), some (vI x1), some (vI x2), some (vI x3), none] [] σ Q := by
  refine aw_iload_n dX12_relay_80 rfl rfl ?_
  refine aw_sipush (x := 400) dX12_relay_81 rfl ?_
  refine aw_iload_n dX12_relay_84 rfl rfl ?_
  obtain ⟨⟨c1, c1x⟩, h⟩ := h
  refine aw_imulc dX12_relay_85 c1 c1x ?_
  refine aw_aload_n dX12_relay_86 rfl rfl ?_
  obtain ⟨lc2, h⟩ := h
  refine aw_getA' rfl fk_1266 (by decide) lf_X12_214 dX12_relay_87 (LC.ne lc2 rfl rfl) ?_
  refine aw_iload_n dX12_relay_90 rfl rfl ?_
  obtain ⟨⟨c3, c3x⟩, h⟩ := h
  refine aw_iaload (by decide) rfl dX12_relay_91 c3 (LC.lt lc2 rfl rfl c3x) ?_
  obtain ⟨⟨c4, c4x⟩, h⟩ := h
  refine aw_iaddc dX12_relay_92 c4 c4x ?_
  refine aw_icmp_ge (tgt := 296) dX12_relay_93 (by decide) (fun k5 => ?_) (fun k5 => ?_)
  · replace h := h.1 k5
    refine aw_aload_n dX12_relay_296 rfl rfl ?_
    refine aw_getA' rfl fk_1266 (by decide) lf_X12_214 dX12_relay_297 (LC.ne lc2 rfl rfl) ?_
    refine aw_iload_n dX12_relay_300 rfl rfl ?_
    refine aw_iaload (by decide) rfl dX12_relay_301 c3 (LC.lt lc2 rfl rfl c3x) ?_
    exact aw_ireturn dX12_relay_302 rfl h
  · replace h := h.2 k5
    refine aw_iload_n dX12_relay_96 rfl rfl ?_
    refine aw_iload_n dX12_relay_97 rfl rfl ?_
    obtain ⟨⟨c6, c6x⟩, h⟩ := h
    refine aw_iaddc dX12_relay_98 c6 c6x ?_
    refine aw_istore (L' := [some (vR 12 (some x0)), some (vI x1), some (vI x2), some (vI x3), some (vI (x3 + x2))]) dX12_relay_99 (by decide) rfl ?_
    refine aw_aload_n dX12_relay_101 rfl rfl ?_
    refine aw_getA' rfl fk_1267 (by decide) lf_X12_217 dX12_relay_102 (LC.ne lc2 rfl rfl) ?_
    refine aw_iload_n dX12_relay_105 rfl rfl ?_
    refine aw_aload_n dX12_relay_106 rfl rfl ?_
    refine aw_getA' rfl fk_1267 (by decide) lf_X12_217 dX12_relay_107 (LC.ne lc2 rfl rfl) ?_
    refine aw_iload dX12_relay_110 rfl ?_
    obtain ⟨⟨c7, c7x⟩, h⟩ := h
    refine aw_iaload (by decide) rfl dX12_relay_112 c7 (LC.lt lc2 rfl rfl c7x) ?_
    obtain ⟨⟨c8, c8x⟩, h⟩ := h
    refine aw_iastore (by decide) rfl dX12_relay_113 c8 (LC.lt lc2 rfl rfl c8x) ?_
    refine aw_aload_n dX12_relay_114 rfl rfl ?_
    refine aw_getA' rfl fk_1268 (by decide) lf_X12_220 dX12_relay_115 (LC.ne lc2 rfl rfl) ?_
    refine aw_iload_n dX12_relay_118 rfl rfl ?_
    refine aw_aload_n dX12_relay_119 rfl rfl ?_
    refine aw_getA' rfl fk_1268 (by decide) lf_X12_220 dX12_relay_120 (LC.ne lc2 rfl rfl) ?_
    refine aw_iload dX12_relay_123 rfl ?_
    refine aw_ialoade (v := gI σ 1268 x0 (x3 + x2).toNat) (by decide) rfl dX12_relay_125 c7 (LC.lt lc2 rfl rfl c7x) rfl ?_
    refine aw_iastore (by decide) rfl dX12_relay_126 c8 (LC.lt lc2 rfl rfl c8x) ?_
    refine aw_aload_n dX12_relay_127 rfl rfl ?_
    refine aw_getA' rfl fk_1269 (by decide) lf_X12_223 dX12_relay_128 (LC.ne lc2 rfl rfl) ?_
    refine aw_iload_n dX12_relay_131 rfl rfl ?_
    refine aw_aload_n dX12_relay_132 rfl rfl ?_
    refine aw_getA' rfl fk_1269 (by decide) lf_X12_223 dX12_relay_133 (LC.ne lc2 rfl rfl) ?_
    refine aw_iload dX12_relay_136 rfl ?_
    refine aw_ialoade (v := gI σ 1269 x0 (x3 + x2).toNat) (by decide) rfl dX12_relay_138 c7 (LC.lt lc2 rfl rfl c7x) rfl ?_
    refine aw_iastore (by decide) rfl dX12_relay_139 c8 (LC.lt lc2 rfl rfl c8x) ?_
    refine aw_aload_n dX12_relay_140 rfl rfl ?_
    refine aw_getA' rfl fk_1270 (by decide) lf_X12_226 dX12_relay_141 (LC.ne lc2 rfl rfl) ?_
    refine aw_iload_n dX12_relay_144 rfl rfl ?_
    refine aw_aload_n dX12_relay_145 rfl rfl ?_
    refine aw_aload_n dX12_relay_146 rfl rfl ?_
    refine aw_getA' rfl fk_1270 (by decide) lf_X12_226 dX12_relay_147 (LC.ne lc2 rfl rfl) ?_
    refine aw_iload dX12_relay_150 rfl ?_
    refine aw_ialoade (v := gI σ 1270 x0 (x3 + x2).toNat) (by decide) rfl dX12_relay_152 c7 (LC.lt lc2 rfl rfl c7x) rfl ?_
    refine aw_iload_n dX12_relay_153 rfl rfl ?_
    refine aw_invVi (M := MX12_relay) (ci := 12) [vI (gI σ 1270 x0 (x3 + x2).toNat), vI x2] rfl mo_X12_moved rfl lm_X12_685 li_X12_moved ls_X12_moved (by decide +kernel) dX12_relay_154 rfl (Nat.le_of_ble_eq_true rfl) (ACi.mono (fun v10 σ9 h => ?_) h)
    obtain ⟨lc11, h⟩ := h
    refine aw_iastore (by decide) rfl dX12_relay_157 c8 (LC.lt lc11 rfl rfl c8x) ?_
    refine aw_aload_n dX12_relay_158 rfl rfl ?_
    refine aw_getA' rfl fk_1271 (by decide) lf_X12_229 dX12_relay_159 (LC.ne lc11 rfl rfl) ?_
    refine aw_iload_n dX12_relay_162 rfl rfl ?_
    refine aw_aload_n dX12_relay_163 rfl rfl ?_
    refine aw_getA' rfl fk_1271 (by decide) lf_X12_229 dX12_relay_164 (LC.ne lc11 rfl rfl) ?_
    refine aw_iload dX12_relay_167 rfl ?_
    refine aw_ialoade (v := gI σ9 1271 x0 (x3 + x2).toNat) (by decide) rfl dX12_relay_169 c7 (LC.lt lc11 rfl rfl c7x) rfl ?_
    refine aw_iastore (by decide) rfl dX12_relay_170 c8 (LC.lt lc11 rfl rfl c8x) ?_
    refine aw_aload_n dX12_relay_171 rfl rfl ?_
    refine aw_getA' rfl fk_1272 (by decide) lf_X12_232 dX12_relay_172 (LC.ne lc11 rfl rfl) ?_
    refine aw_iload_n dX12_relay_175 rfl rfl ?_
    refine aw_aload_n dX12_relay_176 rfl rfl ?_
    refine aw_getA' rfl fk_1272 (by decide) lf_X12_232 dX12_relay_177 (LC.ne lc11 rfl rfl) ?_
    refine aw_iload dX12_relay_180 rfl ?_
    refine aw_ialoade (v := gI σ9 1272 x0 (x3 + x2).toNat) (by decide) rfl dX12_relay_182 c7 (LC.lt lc11 rfl rfl c7x) rfl ?_
    refine aw_iastore (by decide) rfl dX12_relay_183 c8 (LC.lt lc11 rfl rfl c8x) ?_
    refine aw_aload_n dX12_relay_184 rfl rfl ?_
    refine aw_getA' rfl fk_1273 (by decide) lf_X12_235 dX12_relay_185 (LC.ne lc11 rfl rfl) ?_
    refine aw_iload_n dX12_relay_188 rfl rfl ?_
    refine aw_aload_n dX12_relay_189 rfl rfl ?_
    refine aw_getA' rfl fk_1273 (by decide) lf_X12_235 dX12_relay_190 (LC.ne lc11 rfl rfl) ?_
    refine aw_iload dX12_relay_193 rfl ?_
    refine aw_ialoade (v := gI σ9 1273 x0 (x3 + x2).toNat) (by decide) rfl dX12_relay_195 c7 (LC.lt lc11 rfl rfl c7x) rfl ?_
    refine aw_iastore (by decide) rfl dX12_relay_196 c8 (LC.lt lc11 rfl rfl c8x) ?_
    refine aw_aload_n dX12_relay_197 rfl rfl ?_
    refine aw_getA' rfl fk_1274 (by decide) lf_X12_238 dX12_relay_198 (LC.ne lc11 rfl rfl) ?_
    refine aw_iload_n dX12_relay_201 rfl rfl ?_
    refine aw_aload_n dX12_relay_202 rfl rfl ?_
    refine aw_getA' rfl fk_1274 (by decide) lf_X12_238 dX12_relay_203 (LC.ne lc11 rfl rfl) ?_
    refine aw_iload dX12_relay_206 rfl ?_
    refine aw_ialoade (v := gI σ9 1274 x0 (x3 + x2).toNat) (by decide) rfl dX12_relay_208 c7 (LC.lt lc11 rfl rfl c7x) rfl ?_
    refine aw_iastore (by decide) rfl dX12_relay_209 c8 (LC.lt lc11 rfl rfl c8x) ?_
    refine aw_aload_n dX12_relay_210 rfl rfl ?_
    refine aw_getA' rfl fk_1275 (by decide) lf_X12_241 dX12_relay_211 (LC.ne lc11 rfl rfl) ?_
    refine aw_iload_n dX12_relay_214 rfl rfl ?_
    refine aw_aload_n dX12_relay_215 rfl rfl ?_
    refine aw_getA' rfl fk_1275 (by decide) lf_X12_241 dX12_relay_216 (LC.ne lc11 rfl rfl) ?_
    refine aw_iload dX12_relay_219 rfl ?_
    refine aw_ialoade (v := gI σ9 1275 x0 (x3 + x2).toNat) (by decide) rfl dX12_relay_221 c7 (LC.lt lc11 rfl rfl c7x) rfl ?_
    refine aw_iastore (by decide) rfl dX12_relay_222 c8 (LC.lt lc11 rfl rfl c8x) ?_
    refine aw_aload_n dX12_relay_223 rfl rfl ?_
    refine aw_getA' rfl fk_1276 (by decide) lf_X12_244 dX12_relay_224 (LC.ne lc11 rfl rfl) ?_
    refine aw_iload_n dX12_relay_227 rfl rfl ?_
    refine aw_aload_n dX12_relay_228 rfl rfl ?_
    refine aw_aload_n dX12_relay_229 rfl rfl ?_
    refine aw_getA' rfl fk_1276 (by decide) lf_X12_244 dX12_relay_230 (LC.ne lc11 rfl rfl) ?_
    refine aw_iload dX12_relay_233 rfl ?_
    refine aw_ialoade (v := gI σ9 1276 x0 (x3 + x2).toNat) (by decide) rfl dX12_relay_235 c7 (LC.lt lc11 rfl rfl c7x) rfl ?_
    refine aw_iload_n dX12_relay_236 rfl rfl ?_
    refine aw_invVi (M := MX12_relay) (ci := 12) [vI (gI σ9 1276 x0 (x3 + x2).toNat), vI x2] rfl mo_X12_moved rfl lm_X12_685 li_X12_moved ls_X12_moved (by decide +kernel) dX12_relay_237 rfl (Nat.le_of_ble_eq_true rfl) (ACi.mono (fun v13 σ12 h => ?_) h)
    obtain ⟨lc14, h⟩ := h
    refine aw_iastore (by decide) rfl dX12_relay_240 c8 (LC.lt lc14 rfl rfl c8x) ?_
    refine aw_aload_n dX12_relay_241 rfl rfl ?_
    refine aw_getA' rfl fk_1277 (by decide) lf_X12_247 dX12_relay_242 (LC.ne lc14 rfl rfl) ?_
    refine aw_iload_n dX12_relay_245 rfl rfl ?_
    refine aw_aload_n dX12_relay_246 rfl rfl ?_
    refine aw_aload_n dX12_relay_247 rfl rfl ?_
    refine aw_getA' rfl fk_1277 (by decide) lf_X12_247 dX12_relay_248 (LC.ne lc14 rfl rfl) ?_
    refine aw_iload dX12_relay_251 rfl ?_
    refine aw_ialoade (v := gI σ12 1277 x0 (x3 + x2).toNat) (by decide) rfl dX12_relay_253 c7 (LC.lt lc14 rfl rfl c7x) rfl ?_
    refine aw_iload_n dX12_relay_254 rfl rfl ?_
    refine aw_invVi (M := MX12_relay) (ci := 12) [vI (gI σ12 1277 x0 (x3 + x2).toNat), vI x2] rfl mo_X12_moved rfl lm_X12_685 li_X12_moved ls_X12_moved (by decide +kernel) dX12_relay_255 rfl (Nat.le_of_ble_eq_true rfl) (ACi.mono (fun v16 σ15 h => ?_) h)
    obtain ⟨lc17, h⟩ := h
    refine aw_iastore (by decide) rfl dX12_relay_258 c8 (LC.lt lc17 rfl rfl c8x) ?_
    refine aw_aload_n dX12_relay_259 rfl rfl ?_
    refine aw_getA' rfl fk_1278 (by decide) lf_X12_250 dX12_relay_260 (LC.ne lc17 rfl rfl) ?_
    refine aw_iload_n dX12_relay_263 rfl rfl ?_
    refine aw_aload_n dX12_relay_264 rfl rfl ?_
    refine aw_aload_n dX12_relay_265 rfl rfl ?_
    refine aw_getA' rfl fk_1278 (by decide) lf_X12_250 dX12_relay_266 (LC.ne lc17 rfl rfl) ?_
    refine aw_iload dX12_relay_269 rfl ?_
    refine aw_ialoade (v := gI σ15 1278 x0 (x3 + x2).toNat) (by decide) rfl dX12_relay_271 c7 (LC.lt lc17 rfl rfl c7x) rfl ?_
    refine aw_iload_n dX12_relay_272 rfl rfl ?_
    refine aw_invVi (M := MX12_relay) (ci := 12) [vI (gI σ15 1278 x0 (x3 + x2).toNat), vI x2] rfl mo_X12_moved rfl lm_X12_685 li_X12_moved ls_X12_moved (by decide +kernel) dX12_relay_273 rfl (Nat.le_of_ble_eq_true rfl) (ACi.mono (fun v19 σ18 h => ?_) h)
    obtain ⟨lc20, h⟩ := h
    refine aw_iastore (by decide) rfl dX12_relay_276 c8 (LC.lt lc20 rfl rfl c8x) ?_
    refine aw_aload_n dX12_relay_277 rfl rfl ?_
    refine aw_getA' rfl fk_1279 (by decide) lf_X12_253 dX12_relay_278 (LC.ne lc20 rfl rfl) ?_
    refine aw_iload_n dX12_relay_281 rfl rfl ?_
    refine aw_aload_n dX12_relay_282 rfl rfl ?_
    refine aw_getA' rfl fk_1279 (by decide) lf_X12_253 dX12_relay_283 (LC.ne lc20 rfl rfl) ?_
    refine aw_iload dX12_relay_286 rfl ?_
    refine aw_baloade (v := gI σ18 1279 x0 (x3 + x2).toNat) (by decide) rfl dX12_relay_288 c7 (LC.lt lc20 rfl rfl c7x) rfl ?_
    obtain ⟨hz, h⟩ := h
    refine aw_bastore (by decide) rfl dX12_relay_289 hz c8 (LC.lt lc20 rfl rfl c8x) ?_
    obtain ⟨⟨c21, c21x⟩, h⟩ := h
    refine aw_iincc (L' := [some (vR 12 (some x0)), some (vI x1), some (vI x2), some (vI (x3 + 1)), some (vI (x3 + x2))]) dX12_relay_290 rfl (by decide) rfl c21 c21x rfl ?_
    refine aw_goto (tgt := 80) dX12_relay_293 (by decide) ?_
    exact aw_fgt (L' := [some (vR 12 (some x0)), some (vI x1), some (vI x2), some (vI (x3 + 1)), none]) ⟨rfl, ⟨rfl, ⟨rfl, ⟨rfl, trivial⟩⟩⟩⟩ h
set_option maxRecDepth 4000 in
theorem bk_X12_search_0 {g : GP} {l : Launch} {d : Nat} {σ : St} {Q : Option AV → St → Prop} {x0 : Nat} {x1 : Int} {x2 : Int64} {x4 : Int} {x5 : Int} {x6 : Int}
    (h : ACi g l d MX12_isImage [vR 12 (some x0), vI x1] σ (fun v2 σ1 => ((v2 = 0 → Q (some (vI (-1))) σ1) ∧ (¬ v2 = 0 → ((x4 < 1 → Q (some (vI (-1))) σ1) ∧ (¬ x4 < 1 → ((8 < x4 → Q (some (vI (-1))) σ1) ∧ (¬ 8 < x4 → ((0 ≤ x6 → AW g l (d + 1) MX12_search 40 [some (vR 12 (some x0)), none, some (vJ x2), none, some (vI x4), some (vI x5), none, some (vI x6), some (vI 0)] [] (sI σ1 1281 x0 0 x1) Q) ∧ (¬ 0 ≤ x6 → Q (some (vI (-1))) σ1)))))))))) :
    AW g l (d + 1) MX12_search 0 [some (vR 12 (some x0)), some (vI x1), some (vJ x2), none, some (vI x4), some (vI x5), some (vI x6), none, none] [] σ Q := by
  refine aw_aload_n dX12_search_0 rfl rfl ?_
  refine aw_iload_n dX12_search_1 rfl rfl ?_
  refine aw_invVi (M := MX12_search) (ci := 12) [vI x1] rfl mo_X12_isImage rfl lm_X12_293 li_X12_isImage ls_X12_isImage (by decide +kernel) dX12_search_2 rfl (Nat.le_of_ble_eq_true rfl) (ACi.mono (fun v2 σ1 h => ?_) h)
  refine aw_if_eq (tgt := 26) dX12_search_5 (by decide) (fun k3 => ?_) (fun k3 => ?_)
  · replace h := h.1 k3
    refine aw_iconst (x := (-1)) dX12_search_26 rfl ?_
    exact aw_ireturn dX12_search_27 rfl h
  · replace h := h.2 k3
    refine aw_iload dX12_search_8 rfl ?_
    refine aw_iconst (x := 1) dX12_search_10 rfl ?_
    refine aw_icmp_lt (tgt := 26) dX12_search_11 (by decide) (fun k4 => ?_) (fun k4 => ?_)
    · replace h := h.1 k4
      refine aw_iconst (x := (-1)) dX12_search_26 rfl ?_
      exact aw_ireturn dX12_search_27 rfl h
    · replace h := h.2 k4
      refine aw_iload dX12_search_14 rfl ?_
      refine aw_bipush (x := 8) dX12_search_16 rfl ?_
      refine aw_icmp_gt (tgt := 26) dX12_search_18 (by decide) (fun k5 => ?_) (fun k5 => ?_)
      · replace h := h.1 k5
        refine aw_iconst (x := (-1)) dX12_search_26 rfl ?_
        exact aw_ireturn dX12_search_27 rfl h
      · replace h := h.2 k5
        refine aw_iload dX12_search_21 rfl ?_
        refine aw_if_ge (tgt := 28) dX12_search_23 (by decide) (fun k6 => ?_) (fun k6 => ?_)
        · replace h := h.1 k6
          refine aw_aload_n dX12_search_28 rfl rfl ?_
          refine aw_iload_n dX12_search_29 rfl rfl ?_
          refine aw_putI' rfl fk_1281 (Or.inl rfl) lf_X12_259 dX12_search_30 ?_
          refine aw_iload dX12_search_33 rfl ?_
          refine aw_istore (L' := [some (vR 12 (some x0)), some (vI x1), some (vJ x2), none, some (vI x4), some (vI x5), some (vI x6), some (vI x6), none]) dX12_search_35 (by decide) rfl ?_
          refine aw_iconst (x := 0) dX12_search_37 rfl ?_
          refine aw_istore (L' := [some (vR 12 (some x0)), some (vI x1), some (vJ x2), none, some (vI x4), some (vI x5), some (vI x6), some (vI x6), some (vI 0)]) dX12_search_38 (by decide) rfl ?_
          exact aw_fgt (L' := [some (vR 12 (some x0)), none, some (vJ x2), none, some (vI x4), some (vI x5), none, some (vI x6), some (vI 0)]) ⟨rfl, ⟨rfl, ⟨rfl, ⟨rfl, ⟨rfl, ⟨rfl, trivial⟩⟩⟩⟩⟩⟩ h
        · replace h := h.2 k6
          refine aw_iconst (x := (-1)) dX12_search_26 rfl ?_
          exact aw_ireturn dX12_search_27 rfl h
set_option maxRecDepth 4000 in
theorem bk_X12_search_40 {g : GP} {l : Launch} {d : Nat} {σ : St} {Q : Option AV → St → Prop} {x0 : Nat} {x2 : Int64} {x4 : Int} {x5 : Int} {x7 : Int} {x8 : Int}
    (h : R32 (x8 + x4) ∧ LC 12 σ x0 ∧ Bd (gI σ 1281 x0 0) 6 ∧ (((gI σ 1201 x0 (gI σ 1281 x0 0).toNat) < (x8 + x4) → Q (some (vI (-1))) σ) ∧ (¬ (gI σ 1201 x0 (gI σ 1281 x0 0).toNat) < (x8 + x4) → ((x5 = 0 → AW g l (d + 1) MX12_search 73 [some (vR 12 (some x0)), none, some (vJ x2), none, some (vI x4), some (vI x5), none, some (vI x7), some (vI x8)] [vI 0, vI x4, vI x8, vR 12 (some x0)] σ Q) ∧ (¬ x5 = 0 → AW g l (d + 1) MX12_search 73 [some (vR 12 (some x0)), none, some (vJ x2), none, some (vI x4), some (vI x5), none, some (vI x7), some (vI x8)] [vI 32, vI x4, vI x8, vR 12 (some x0)] σ Q))))) :
    AW g l (d + 1) MX12_search 40 [some (vR 12 (some x0)), none, some (vJ x2), none, some (vI x4), some (vI x5), none, some (vI x7), some (vI x8)] [] σ Q := by
  refine aw_iload dX12_search_40 rfl ?_
  refine aw_iload dX12_search_42 rfl ?_
  obtain ⟨⟨c1, c1x⟩, h⟩ := h
  refine aw_iaddc dX12_search_44 c1 c1x ?_
  refine aw_aload_n dX12_search_45 rfl rfl ?_
  obtain ⟨lc2, h⟩ := h
  refine aw_getA' rfl fk_1201 (by decide) lf_X12_13 dX12_search_46 (LC.ne lc2 rfl rfl) ?_
  refine aw_aload_n dX12_search_49 rfl rfl ?_
  refine aw_getI' rfl fk_1281 lf_X12_259 dX12_search_50 ?_
  obtain ⟨⟨c3, c3x⟩, h⟩ := h
  refine aw_iaload (by decide) rfl dX12_search_53 c3 (LC.lt lc2 rfl rfl c3x) ?_
  refine aw_icmp_gt (tgt := 113) dX12_search_54 (by decide) (fun k4 => ?_) (fun k4 => ?_)
  · replace h := h.1 k4
    refine aw_iconst (x := (-1)) dX12_search_113 rfl ?_
    exact aw_ireturn dX12_search_114 rfl h
  · replace h := h.2 k4
    refine aw_aload_n dX12_search_57 rfl rfl ?_
    refine aw_iload dX12_search_58 rfl ?_
    refine aw_iload dX12_search_60 rfl ?_
    refine aw_iload dX12_search_62 rfl ?_
    refine aw_if_eq (tgt := 72) dX12_search_64 (by decide) (fun k5 => ?_) (fun k5 => ?_)
    · replace h := h.1 k5
      refine aw_iconst (x := 0) dX12_search_72 rfl ?_
      exact aw_fgt (L' := [some (vR 12 (some x0)), none, some (vJ x2), none, some (vI x4), some (vI x5), none, some (vI x7), some (vI x8)]) ⟨rfl, ⟨rfl, ⟨rfl, ⟨rfl, ⟨rfl, ⟨rfl, trivial⟩⟩⟩⟩⟩⟩ h
    · replace h := h.2 k5
      refine aw_bipush (x := 32) dX12_search_67 rfl ?_
      refine aw_goto (tgt := 73) dX12_search_69 (by decide) ?_
      exact aw_fgt (L' := [some (vR 12 (some x0)), none, some (vJ x2), none, some (vI x4), some (vI x5), none, some (vI x7), some (vI x8)]) ⟨rfl, ⟨rfl, ⟨rfl, ⟨rfl, ⟨rfl, ⟨rfl, trivial⟩⟩⟩⟩⟩⟩ h
set_option maxRecDepth 4000 in
theorem bk_X12_search_73 {g : GP} {l : Launch} {d : Nat} {σ : St} {Q : Option AV → St → Prop} {x0 : Nat} {x2 : Int64} {x4 : Int} {x5 : Int} {x7 : Int} {x8 : Int} {y0 : Int} {y1 : Int} {y2 : Int} {y3 : Option Nat}
    (h : R32 (y1 + y0) ∧ ∃ r2, y3 = some r2 ∧ ACj g l d MX12_raw [vR 12 (some r2), vI y2, vI (y1 + y0)] σ (fun v5 σ4 => R32 (8 * x4) ∧ ACj g l d MX12_mask [vR 12 (some x0), vJ (i2j (8 * x4))] σ4 (fun v8 σ7 => ((v5 = (x2 &&& v8) → ((¬ x7 = 0 → R32 (x7 + (-1)) ∧ R32 (x8 + 1) ∧ AW g l (d + 1) MX12_search 40 [some (vR 12 (some x0)), none, some (vJ x2), none, some (vI x4), some (vI x5), none, some (vI (x7 + (-1))), some (vI (x8 + 1))] [] σ7 Q) ∧ (x7 = 0 → Q (some (vI x8)) σ7))) ∧ (¬ v5 = (x2 &&& v8) → R32 (x8 + 1) ∧ AW g l (d + 1) MX12_search 40 [some (vR 12 (some x0)), none, some (vJ x2), none, some (vI x4), some (vI x5), none, some (vI x7), some (vI (x8 + 1))] [] σ7 Q))))) :
    AW g l (d + 1) MX12_search 73 [some (vR 12 (some x0)), none, some (vJ x2), none, some (vI x4), some (vI x5), none, some (vI x7), some (vI x8)] [vI y0, vI y1, vI y2, vR 12 y3] σ Q := by
  obtain ⟨⟨c1, c1x⟩, h⟩ := h
  refine aw_iaddc dX12_search_73 c1 c1x ?_
  obtain ⟨r2, e3, h⟩ := h
  refine aw_invVj (M := MX12_search) (ci := 12) [vI y2, vI (y1 + y0)] e3 mo_X12_raw rfl lm_X12_657 li_X12_raw ls_X12_raw (by decide +kernel) dX12_search_74 rfl (Nat.le_of_ble_eq_true rfl) (ACj.mono (fun v5 σ4 h => ?_) h)
  refine aw_lload_n dX12_search_77 rfl rfl ?_
  refine aw_aload_n dX12_search_78 rfl rfl ?_
  refine aw_bipush (x := 8) dX12_search_79 rfl ?_
  refine aw_iload dX12_search_81 rfl ?_
  obtain ⟨⟨c6, c6x⟩, h⟩ := h
  refine aw_imulc dX12_search_83 c6 c6x ?_
  refine aw_i2l dX12_search_84 ?_
  refine aw_invVj (M := MX12_search) (ci := 12) [vJ (i2j (8 * x4))] rfl mo_X12_mask rfl lm_X12_663 li_X12_mask ls_X12_mask (by decide +kernel) dX12_search_85 rfl (Nat.le_of_ble_eq_true rfl) (ACj.mono (fun v8 σ7 h => ?_) h)
  refine aw_land dX12_search_88 ?_
  refine aw_lcmp_eq (M := MX12_search) (tgt := 96) dX12_search_89 dX12_search_90 (by decide) (fun k9 => ?_) (fun k9 => ?_)
  · replace h := h.1 k9
    refine aw_iload dX12_search_96 rfl ?_
    refine aw_if_ne (tgt := 104) dX12_search_98 (by decide) (fun k10 => ?_) (fun k10 => ?_)
    · replace h := h.1 k10
      obtain ⟨⟨c11, c11x⟩, h⟩ := h
      refine aw_iincc (L' := [some (vR 12 (some x0)), none, some (vJ x2), none, some (vI x4), some (vI x5), none, some (vI (x7 + (-1))), some (vI x8)]) dX12_search_104 rfl (by decide) rfl c11 c11x rfl ?_
      obtain ⟨⟨c12, c12x⟩, h⟩ := h
      refine aw_iincc (L' := [some (vR 12 (some x0)), none, some (vJ x2), none, some (vI x4), some (vI x5), none, some (vI (x7 + (-1))), some (vI (x8 + 1))]) dX12_search_107 rfl (by decide) rfl c12 c12x rfl ?_
      refine aw_goto (tgt := 40) dX12_search_110 (by decide) ?_
      exact aw_fgt (L' := [some (vR 12 (some x0)), none, some (vJ x2), none, some (vI x4), some (vI x5), none, some (vI (x7 + (-1))), some (vI (x8 + 1))]) ⟨rfl, ⟨rfl, ⟨rfl, ⟨rfl, ⟨rfl, ⟨rfl, trivial⟩⟩⟩⟩⟩⟩ h
    · replace h := h.2 k10
      refine aw_iload dX12_search_101 rfl ?_
      exact aw_ireturn dX12_search_103 rfl h
  · replace h := h.2 k9
    refine aw_goto (tgt := 107) dX12_search_93 (by decide) ?_
    obtain ⟨⟨c13, c13x⟩, h⟩ := h
    refine aw_iincc (L' := [some (vR 12 (some x0)), none, some (vJ x2), none, some (vI x4), some (vI x5), none, some (vI x7), some (vI (x8 + 1))]) dX12_search_107 rfl (by decide) rfl c13 c13x rfl ?_
    refine aw_goto (tgt := 40) dX12_search_110 (by decide) ?_
    exact aw_fgt (L' := [some (vR 12 (some x0)), none, some (vJ x2), none, some (vI x4), some (vI x5), none, some (vI x7), some (vI (x8 + 1))]) ⟨rfl, ⟨rfl, ⟨rfl, ⟨rfl, ⟨rfl, ⟨rfl, trivial⟩⟩⟩⟩⟩⟩ h
set_option maxRecDepth 4000 in
theorem bk_X12_set_0 {g : GP} {l : Launch} {d : Nat} {σ : St} {Q : Option AV → St → Prop} {x0 : Nat} {x1 : Int} {x2 : Int} {x3 : Int64}
    (h : ACi g l d MX12_isNode [vR 12 (some x0), vI x1, vI x2] σ (fun v2 σ1 => ((¬ v2 = 0 → R32 (400 * x1) ∧ R32 ((400 * x1) + x2) ∧ LC 12 σ1 x0 ∧ Bd ((400 * x1) + x2) 2800 ∧ ∀ z8 : Int, z8 = gI σ1 1267 x0 ((400 * x1) + x2).toNat → ((z8 = 1 → AW g l (d + 1) MX12_set 64 [some (vR 12 (some x0)), none, none, some (vJ x3), none, some (vI ((400 * x1) + x2)), some (vI z8), none, none, none, none, none, none, none, none] [] σ1 Q) ∧ (¬ z8 = 1 → ((z8 = 3 → AW g l (d + 1) MX12_set 64 [some (vR 12 (some x0)), none, none, some (vJ x3), none, some (vI ((400 * x1) + x2)), some (vI z8), none, none, none, none, none, none, none, none] [] σ1 Q) ∧ (¬ z8 = 3 → ((z8 = 4 → AW g l (d + 1) MX12_set 64 [some (vR 12 (some x0)), none, none, some (vJ x3), none, some (vI ((400 * x1) + x2)), some (vI z8), none, none, none, none, none, none, none, none] [] σ1 Q) ∧ (¬ z8 = 4 → ((z8 = 7 → AW g l (d + 1) MX12_set 64 [some (vR 12 (some x0)), none, none, some (vJ x3), none, some (vI ((400 * x1) + x2)), some (vI z8), none, none, none, none, none, none, none, none] [] σ1 Q) ∧ (¬ z8 = 7 → ((z8 = 10 → AW g l (d + 1) MX12_set 64 [some (vR 12 (some x0)), none, none, some (vJ x3), none, some (vI ((400 * x1) + x2)), some (vI z8), none, none, none, none, none, none, none, none] [] σ1 Q) ∧ (¬ z8 = 10 → Q (some (vI (-4))) σ1))))))))))) ∧ (v2 = 0 → Q (some (vI (-1))) σ1)))) :
    AW g l (d + 1) MX12_set 0 [some (vR 12 (some x0)), some (vI x1), some (vI x2), some (vJ x3), none, none, none, none, none, none, none, none, none, none, none] [] σ Q := by
  refine aw_aload_n dX12_set_0 rfl rfl ?_
  refine aw_iload_n dX12_set_1 rfl rfl ?_
  refine aw_iload_n dX12_set_2 rfl rfl ?_
  refine aw_invVi (M := MX12_set) (ci := 12) [vI x1, vI x2] rfl mo_X12_isNode rfl lm_X12_688 li_X12_isNode ls_X12_isNode (by decide +kernel) dX12_set_3 rfl (Nat.le_of_ble_eq_true rfl) (ACi.mono (fun v2 σ1 h => ?_) h)
  refine aw_if_ne (tgt := 11) dX12_set_6 (by decide) (fun k3 => ?_) (fun k3 => ?_)
  · replace h := h.1 k3
    refine aw_sipush (x := 400) dX12_set_11 rfl ?_
    refine aw_iload_n dX12_set_14 rfl rfl ?_
    obtain ⟨⟨c4, c4x⟩, h⟩ := h
    refine aw_imulc dX12_set_15 c4 c4x ?_
    refine aw_iload_n dX12_set_16 rfl rfl ?_
    obtain ⟨⟨c5, c5x⟩, h⟩ := h
    refine aw_iaddc dX12_set_17 c5 c5x ?_
    refine aw_istore (L' := [some (vR 12 (some x0)), some (vI x1), some (vI x2), some (vJ x3), none, some (vI ((400 * x1) + x2)), none, none, none, none, none, none, none, none, none]) dX12_set_18 (by decide) rfl ?_
    refine aw_aload_n dX12_set_20 rfl rfl ?_
    obtain ⟨lc6, h⟩ := h
    refine aw_getA' rfl fk_1267 (by decide) lf_X12_217 dX12_set_21 (LC.ne lc6 rfl rfl) ?_
    refine aw_iload dX12_set_24 rfl ?_
    obtain ⟨⟨c7, c7x⟩, h⟩ := h
    refine aw_iaload (by decide) rfl dX12_set_26 c7 (LC.lt lc6 rfl rfl c7x) ?_
    refine aw_istore (L' := [some (vR 12 (some x0)), some (vI x1), some (vI x2), some (vJ x3), none, some (vI ((400 * x1) + x2)), some (vI (gI σ1 1267 x0 ((400 * x1) + x2).toNat)), none, none, none, none, none, none, none, none]) dX12_set_27 (by decide) rfl ?_
    obtain ⟨z8, hz8⟩ : ∃ z : Int, z = gI σ1 1267 x0 ((400 * x1) + x2).toNat := ⟨_, rfl⟩
    rw [← hz8]
    replace h := h z8 hz8
    refine aw_iload dX12_set_29 rfl ?_
    refine aw_iconst (x := 1) dX12_set_31 rfl ?_
    refine aw_icmp_eq (tgt := 64) dX12_set_32 (by decide) (fun k9 => ?_) (fun k9 => ?_)
    · replace h := h.1 k9
      exact aw_fgt (L' := [some (vR 12 (some x0)), none, none, some (vJ x3), none, some (vI ((400 * x1) + x2)), some (vI z8), none, none, none, none, none, none, none, none]) ⟨rfl, ⟨rfl, ⟨rfl, ⟨rfl, trivial⟩⟩⟩⟩ h
    · replace h := h.2 k9
      refine aw_iload dX12_set_35 rfl ?_
      refine aw_iconst (x := 3) dX12_set_37 rfl ?_
      refine aw_icmp_eq (tgt := 64) dX12_set_38 (by decide) (fun k10 => ?_) (fun k10 => ?_)
      · replace h := h.1 k10
        exact aw_fgt (L' := [some (vR 12 (some x0)), none, none, some (vJ x3), none, some (vI ((400 * x1) + x2)), some (vI z8), none, none, none, none, none, none, none, none]) ⟨rfl, ⟨rfl, ⟨rfl, ⟨rfl, trivial⟩⟩⟩⟩ h
      · replace h := h.2 k10
        refine aw_iload dX12_set_41 rfl ?_
        refine aw_iconst (x := 4) dX12_set_43 rfl ?_
        refine aw_icmp_eq (tgt := 64) dX12_set_44 (by decide) (fun k11 => ?_) (fun k11 => ?_)
        · replace h := h.1 k11
          exact aw_fgt (L' := [some (vR 12 (some x0)), none, none, some (vJ x3), none, some (vI ((400 * x1) + x2)), some (vI z8), none, none, none, none, none, none, none, none]) ⟨rfl, ⟨rfl, ⟨rfl, ⟨rfl, trivial⟩⟩⟩⟩ h
        · replace h := h.2 k11
          refine aw_iload dX12_set_47 rfl ?_
          refine aw_bipush (x := 7) dX12_set_49 rfl ?_
          refine aw_icmp_eq (tgt := 64) dX12_set_51 (by decide) (fun k12 => ?_) (fun k12 => ?_)
          · replace h := h.1 k12
            exact aw_fgt (L' := [some (vR 12 (some x0)), none, none, some (vJ x3), none, some (vI ((400 * x1) + x2)), some (vI z8), none, none, none, none, none, none, none, none]) ⟨rfl, ⟨rfl, ⟨rfl, ⟨rfl, trivial⟩⟩⟩⟩ h
          · replace h := h.2 k12
            refine aw_iload dX12_set_54 rfl ?_
            refine aw_bipush (x := 10) dX12_set_56 rfl ?_
            refine aw_icmp_eq (tgt := 64) dX12_set_58 (by decide) (fun k13 => ?_) (fun k13 => ?_)
            · replace h := h.1 k13
              exact aw_fgt (L' := [some (vR 12 (some x0)), none, none, some (vJ x3), none, some (vI ((400 * x1) + x2)), some (vI z8), none, none, none, none, none, none, none, none]) ⟨rfl, ⟨rfl, ⟨rfl, ⟨rfl, trivial⟩⟩⟩⟩ h
            · replace h := h.2 k13
              refine aw_bipush (x := (-4)) dX12_set_61 rfl ?_
              exact aw_ireturn dX12_set_63 rfl h
  · replace h := h.2 k3
    refine aw_iconst (x := (-1)) dX12_set_9 rfl ?_
    exact aw_ireturn dX12_set_10 rfl h
set_option maxRecDepth 4000 in
theorem bk_X12_set_64 {g : GP} {l : Launch} {d : Nat} {σ : St} {Q : Option AV → St → Prop} {x0 : Nat} {x3 : Int64} {x5 : Int} {x6 : Int}
    (h : LC 12 σ x0 ∧ Bd x5 2800 ∧ ((¬ (gI σ 1272 x0 x5.toNat) = 1 → Bd (gI σ 1274 x0 x5.toNat) 560 ∧ ∀ z5 : Int, z5 = gI σ 1229 x0 (gI σ 1274 x0 x5.toNat).toNat → ((¬ x6 = 4 → (((i_and z5 16) ≤ 0 → ACi g l d MX12_has_ [vR 12 (some x0), vJ x3, vI (i_and z5 15), vI 0] σ (fun v9 σ8 => ((¬ v9 = 0 → AW g l (d + 1) MX12_set 228 [some (vR 12 (some x0)), none, none, none, none, some (vI x5), none, none, some (vI z5), some (vJ x3), none, none, none, none, none] [] σ8 Q) ∧ (v9 = 0 → Q (some (vI (-3))) σ8)))) ∧ (¬ (i_and z5 16) ≤ 0 → ((x6 = 3 → ACi g l d MX12_has_ [vR 12 (some x0), vJ x3, vI (i_and z5 15), vI 0] σ (fun v13 σ12 => ((¬ v13 = 0 → AW g l (d + 1) MX12_set 228 [some (vR 12 (some x0)), none, none, none, none, some (vI x5), none, none, some (vI z5), some (vJ x3), none, none, none, none, none] [] σ12 Q) ∧ (v13 = 0 → Q (some (vI (-3))) σ12)))) ∧ (¬ x6 = 3 → ACi g l d MX12_has_ [vR 12 (some x0), vJ x3, vI (i_and z5 15), vI 1] σ (fun v16 σ15 => ((¬ v16 = 0 → AW g l (d + 1) MX12_set 228 [some (vR 12 (some x0)), none, none, none, none, some (vI x5), none, none, some (vI z5), some (vJ x3), none, none, none, none, none] [] σ15 Q) ∧ (v16 = 0 → Q (some (vI (-3))) σ15)))))))) ∧ (x6 = 4 → R32 (16 * (gI σ 1274 x0 x5.toNat)) ∧ R32 ((16 * (gI σ 1274 x0 x5.toNat)) + (gI σ 1275 x0 x5.toNat)) ∧ R32 (((16 * (gI σ 1274 x0 x5.toNat)) + (gI σ 1275 x0 x5.toNat)) - 1) ∧ Bd (((16 * (gI σ 1274 x0 x5.toNat)) + (gI σ 1275 x0 x5.toNat)) - 1) 8960 ∧ ACj g l d MX12_mask [vR 12 (some x0), vJ (gJ σ 1240 x0 (((16 * (gI σ 1274 x0 x5.toNat)) + (gI σ 1275 x0 x5.toNat)) - 1).toNat)] σ (fun v23 σ22 => (((x3 &&& v23) = x3 → LC 12 σ22 x0 ∧ ACj g l d MX12_raw [vR 12 (some x0), vI (gI σ22 1268 x0 x5.toNat), vI z5] σ22 (fun v27 σ26 => ACi g l d MX12_shift [vR 12 (some x0), vI x5] σ26 (fun v29 σ28 => ACi g l d MX12_shift [vR 12 (some x0), vI x5] σ28 (fun v31 σ30 => AW g l (d + 1) MX12_set 228 [some (vR 12 (some x0)), none, none, none, none, some (vI x5), none, none, some (vI z5), some (vJ ((v27 &&& ((j_shl v23 v29) ^^^ ((-1) : Int64))) ||| (j_shl x3 v31))), none, none, none, none, none] [] σ30 Q)))) ∧ (¬ (x3 &&& v23) = x3 → Q (some (vI (-3))) σ22)))))) ∧ ((gI σ 1272 x0 x5.toNat) = 1 → Q (some (vI (-5))) σ))) :
    AW g l (d + 1) MX12_set 64 [some (vR 12 (some x0)), none, none, some (vJ x3), none, some (vI x5), some (vI x6), none, none, none, none, none, none, none, none] [] σ Q := by
  refine aw_aload_n dX12_set_64 rfl rfl ?_
  obtain ⟨lc1, h⟩ := h
  refine aw_getA' rfl fk_1272 (by decide) lf_X12_232 dX12_set_65 (LC.ne lc1 rfl rfl) ?_
  refine aw_iload dX12_set_68 rfl ?_
  obtain ⟨⟨c2, c2x⟩, h⟩ := h
  refine aw_iaload (by decide) rfl dX12_set_70 c2 (LC.lt lc1 rfl rfl c2x) ?_
  refine aw_iconst (x := 1) dX12_set_71 rfl ?_
  refine aw_icmp_ne (tgt := 78) dX12_set_72 (by decide) (fun k3 => ?_) (fun k3 => ?_)
  · replace h := h.1 k3
    refine aw_aload_n dX12_set_78 rfl rfl ?_
    refine aw_getA' rfl fk_1274 (by decide) lf_X12_238 dX12_set_79 (LC.ne lc1 rfl rfl) ?_
    refine aw_iload dX12_set_82 rfl ?_
    refine aw_iaload (by decide) rfl dX12_set_84 c2 (LC.lt lc1 rfl rfl c2x) ?_
    refine aw_istore (L' := [some (vR 12 (some x0)), none, none, some (vJ x3), none, some (vI x5), some (vI x6), some (vI (gI σ 1274 x0 x5.toNat)), none, none, none, none, none, none, none]) dX12_set_85 (by decide) rfl ?_
    refine aw_aload_n dX12_set_87 rfl rfl ?_
    refine aw_getA' rfl fk_1229 (by decide) lf_X12_101 dX12_set_88 (LC.ne lc1 rfl rfl) ?_
    refine aw_iload dX12_set_91 rfl ?_
    obtain ⟨⟨c4, c4x⟩, h⟩ := h
    refine aw_iaload (by decide) rfl dX12_set_93 c4 (LC.lt lc1 rfl rfl c4x) ?_
    refine aw_istore (L' := [some (vR 12 (some x0)), none, none, some (vJ x3), none, some (vI x5), some (vI x6), some (vI (gI σ 1274 x0 x5.toNat)), some (vI (gI σ 1229 x0 (gI σ 1274 x0 x5.toNat).toNat)), none, none, none, none, none, none]) dX12_set_94 (by decide) rfl ?_
    obtain ⟨z5, hz5⟩ : ∃ z : Int, z = gI σ 1229 x0 (gI σ 1274 x0 x5.toNat).toNat := ⟨_, rfl⟩
    rw [← hz5]
    replace h := h z5 hz5
    refine aw_iload dX12_set_96 rfl ?_
    refine aw_i2l dX12_set_98 ?_
    refine aw_lstore (L' := [some (vR 12 (some x0)), none, none, some (vJ x3), none, some (vI x5), some (vI x6), some (vI (gI σ 1274 x0 x5.toNat)), some (vI z5), some (vJ (i2j x6)), none, none, none, none, none]) dX12_set_99 (by decide) rfl ?_
    refine aw_iload dX12_set_101 rfl ?_
    refine aw_iconst (x := 4) dX12_set_103 rfl ?_
    refine aw_icmp_ne (tgt := 190) dX12_set_104 (by decide) (fun k6 => ?_) (fun k6 => ?_)
    · replace h := h.1 k6
      refine aw_aload_n dX12_set_190 rfl rfl ?_
      refine aw_lload_n dX12_set_191 rfl rfl ?_
      refine aw_iload dX12_set_192 rfl ?_
      refine aw_bipush (x := 15) dX12_set_194 rfl ?_
      refine aw_iand dX12_set_196 ?_
      refine aw_iload dX12_set_197 rfl ?_
      refine aw_bipush (x := 16) dX12_set_199 rfl ?_
      refine aw_iand dX12_set_201 ?_
      refine aw_if_le (tgt := 215) dX12_set_202 (by decide) (fun k7 => ?_) (fun k7 => ?_)
      · replace h := h.1 k7
        refine aw_iconst (x := 0) dX12_set_215 rfl ?_
        refine aw_invVi (M := MX12_set) (ci := 12) [vJ x3, vI (i_and z5 15), vI 0] rfl mo_X12_has_ rfl lm_X12_701 li_X12_has_ ls_X12_has_ (by decide +kernel) dX12_set_216 rfl (Nat.le_of_ble_eq_true rfl) (ACi.mono (fun v9 σ8 h => ?_) h)
        refine aw_if_ne (tgt := 225) dX12_set_219 (by decide) (fun k10 => ?_) (fun k10 => ?_)
        · replace h := h.1 k10
          refine aw_lload_n dX12_set_225 rfl rfl ?_
          refine aw_lstore (L' := [some (vR 12 (some x0)), none, none, some (vJ x3), none, some (vI x5), some (vI x6), some (vI (gI σ 1274 x0 x5.toNat)), some (vI z5), some (vJ x3), none, none, none, none, none]) dX12_set_226 (by decide) rfl ?_
          exact aw_fgt (L' := [some (vR 12 (some x0)), none, none, none, none, some (vI x5), none, none, some (vI z5), some (vJ x3), none, none, none, none, none]) ⟨rfl, ⟨rfl, ⟨rfl, ⟨rfl, trivial⟩⟩⟩⟩ h
        · replace h := h.2 k10
          refine aw_bipush (x := (-3)) dX12_set_222 rfl ?_
          exact aw_ireturn dX12_set_224 rfl h
      · replace h := h.2 k7
        refine aw_iload dX12_set_205 rfl ?_
        refine aw_iconst (x := 3) dX12_set_207 rfl ?_
        refine aw_icmp_eq (tgt := 215) dX12_set_208 (by decide) (fun k11 => ?_) (fun k11 => ?_)
        · replace h := h.1 k11
          refine aw_iconst (x := 0) dX12_set_215 rfl ?_
          refine aw_invVi (M := MX12_set) (ci := 12) [vJ x3, vI (i_and z5 15), vI 0] rfl mo_X12_has_ rfl lm_X12_701 li_X12_has_ ls_X12_has_ (by decide +kernel) dX12_set_216 rfl (Nat.le_of_ble_eq_true rfl) (ACi.mono (fun v13 σ12 h => ?_) h)
          refine aw_if_ne (tgt := 225) dX12_set_219 (by decide) (fun k14 => ?_) (fun k14 => ?_)
          · replace h := h.1 k14
            refine aw_lload_n dX12_set_225 rfl rfl ?_
            refine aw_lstore (L' := [some (vR 12 (some x0)), none, none, some (vJ x3), none, some (vI x5), some (vI x6), some (vI (gI σ 1274 x0 x5.toNat)), some (vI z5), some (vJ x3), none, none, none, none, none]) dX12_set_226 (by decide) rfl ?_
            exact aw_fgt (L' := [some (vR 12 (some x0)), none, none, none, none, some (vI x5), none, none, some (vI z5), some (vJ x3), none, none, none, none, none]) ⟨rfl, ⟨rfl, ⟨rfl, ⟨rfl, trivial⟩⟩⟩⟩ h
          · replace h := h.2 k14
            refine aw_bipush (x := (-3)) dX12_set_222 rfl ?_
            exact aw_ireturn dX12_set_224 rfl h
        · replace h := h.2 k11
          refine aw_iconst (x := 1) dX12_set_211 rfl ?_
          refine aw_goto (tgt := 216) dX12_set_212 (by decide) ?_
          refine aw_invVi (M := MX12_set) (ci := 12) [vJ x3, vI (i_and z5 15), vI 1] rfl mo_X12_has_ rfl lm_X12_701 li_X12_has_ ls_X12_has_ (by decide +kernel) dX12_set_216 rfl (Nat.le_of_ble_eq_true rfl) (ACi.mono (fun v16 σ15 h => ?_) h)
          refine aw_if_ne (tgt := 225) dX12_set_219 (by decide) (fun k17 => ?_) (fun k17 => ?_)
          · replace h := h.1 k17
            refine aw_lload_n dX12_set_225 rfl rfl ?_
            refine aw_lstore (L' := [some (vR 12 (some x0)), none, none, some (vJ x3), none, some (vI x5), some (vI x6), some (vI (gI σ 1274 x0 x5.toNat)), some (vI z5), some (vJ x3), none, none, none, none, none]) dX12_set_226 (by decide) rfl ?_
            exact aw_fgt (L' := [some (vR 12 (some x0)), none, none, none, none, some (vI x5), none, none, some (vI z5), some (vJ x3), none, none, none, none, none]) ⟨rfl, ⟨rfl, ⟨rfl, ⟨rfl, trivial⟩⟩⟩⟩ h
          · replace h := h.2 k17
            refine aw_bipush (x := (-3)) dX12_set_222 rfl ?_
            exact aw_ireturn dX12_set_224 rfl h
    · replace h := h.2 k6
      refine aw_aload_n dX12_set_107 rfl rfl ?_
      refine aw_aload_n dX12_set_108 rfl rfl ?_
      refine aw_getA' rfl fk_1240 (by decide) lf_X12_134 dX12_set_109 (LC.ne lc1 rfl rfl) ?_
      refine aw_bipush (x := 16) dX12_set_112 rfl ?_
      refine aw_iload dX12_set_114 rfl ?_
      obtain ⟨⟨c18, c18x⟩, h⟩ := h
      refine aw_imulc dX12_set_116 c18 c18x ?_
      refine aw_aload_n dX12_set_117 rfl rfl ?_
      refine aw_getA' rfl fk_1275 (by decide) lf_X12_241 dX12_set_118 (LC.ne lc1 rfl rfl) ?_
      refine aw_iload dX12_set_121 rfl ?_
      refine aw_iaload (by decide) rfl dX12_set_123 c2 (LC.lt lc1 rfl rfl c2x) ?_
      obtain ⟨⟨c19, c19x⟩, h⟩ := h
      refine aw_iaddc dX12_set_124 c19 c19x ?_
      refine aw_iconst (x := 1) dX12_set_125 rfl ?_
      obtain ⟨⟨c20, c20x⟩, h⟩ := h
      refine aw_isubc dX12_set_126 c20 c20x ?_
      obtain ⟨⟨c21, c21x⟩, h⟩ := h
      refine aw_laload (by decide) rfl dX12_set_127 c21 (LC.lt lc1 rfl rfl c21x) ?_
      refine aw_invVj (M := MX12_set) (ci := 12) [vJ (gJ σ 1240 x0 (((16 * (gI σ 1274 x0 x5.toNat)) + (gI σ 1275 x0 x5.toNat)) - 1).toNat)] rfl mo_X12_mask rfl lm_X12_663 li_X12_mask ls_X12_mask (by decide +kernel) dX12_set_128 rfl (Nat.le_of_ble_eq_true rfl) (ACj.mono (fun v23 σ22 h => ?_) h)
      refine aw_lstore (L' := [some (vR 12 (some x0)), none, none, some (vJ x3), none, some (vI x5), some (vI x6), some (vI (gI σ 1274 x0 x5.toNat)), some (vI z5), some (vJ (i2j x6)), none, some (vJ v23), none, none, none]) dX12_set_131 (by decide) rfl ?_
      refine aw_lload_n dX12_set_133 rfl rfl ?_
      refine aw_lload dX12_set_134 rfl ?_
      refine aw_land dX12_set_136 ?_
      refine aw_lload_n dX12_set_137 rfl rfl ?_
      refine aw_lcmp_eq (M := MX12_set) (tgt := 145) dX12_set_138 dX12_set_139 (by decide) (fun k24 => ?_) (fun k24 => ?_)
      · replace h := h.1 k24
        refine aw_aload_n dX12_set_145 rfl rfl ?_
        refine aw_aload_n dX12_set_146 rfl rfl ?_
        obtain ⟨lc25, h⟩ := h
        refine aw_getA' rfl fk_1268 (by decide) lf_X12_220 dX12_set_147 (LC.ne lc25 rfl rfl) ?_
        refine aw_iload dX12_set_150 rfl ?_
        refine aw_iaload (by decide) rfl dX12_set_152 c2 (LC.lt lc25 rfl rfl c2x) ?_
        refine aw_iload dX12_set_153 rfl ?_
        refine aw_invVj (M := MX12_set) (ci := 12) [vI (gI σ22 1268 x0 x5.toNat), vI z5] rfl mo_X12_raw rfl lm_X12_657 li_X12_raw ls_X12_raw (by decide +kernel) dX12_set_155 rfl (Nat.le_of_ble_eq_true rfl) (ACj.mono (fun v27 σ26 h => ?_) h)
        refine aw_lload dX12_set_158 rfl ?_
        refine aw_aload_n dX12_set_160 rfl rfl ?_
        refine aw_iload dX12_set_161 rfl ?_
        refine aw_invVi (M := MX12_set) (ci := 12) [vI x5] rfl mo_X12_shift rfl lm_X12_660 li_X12_shift ls_X12_shift (by decide +kernel) dX12_set_163 rfl (Nat.le_of_ble_eq_true rfl) (ACi.mono (fun v29 σ28 h => ?_) h)
        refine aw_lshl dX12_set_166 ?_
        refine aw_ldc2 lk_X12_521 dX12_set_167 ?_
        refine aw_lxor dX12_set_170 ?_
        refine aw_land dX12_set_171 ?_
        refine aw_lstore (L' := [some (vR 12 (some x0)), none, none, some (vJ x3), none, some (vI x5), some (vI x6), some (vI (gI σ 1274 x0 x5.toNat)), some (vI z5), some (vJ (i2j x6)), none, some (vJ v23), none, some (vJ (v27 &&& ((j_shl v23 v29) ^^^ ((-1) : Int64)))), none]) dX12_set_172 (by decide) rfl ?_
        refine aw_lload dX12_set_174 rfl ?_
        refine aw_lload_n dX12_set_176 rfl rfl ?_
        refine aw_aload_n dX12_set_177 rfl rfl ?_
        refine aw_iload dX12_set_178 rfl ?_
        refine aw_invVi (M := MX12_set) (ci := 12) [vI x5] rfl mo_X12_shift rfl lm_X12_660 li_X12_shift ls_X12_shift (by decide +kernel) dX12_set_180 rfl (Nat.le_of_ble_eq_true rfl) (ACi.mono (fun v31 σ30 h => ?_) h)
        refine aw_lshl dX12_set_183 ?_
        refine aw_lor dX12_set_184 ?_
        refine aw_lstore (L' := [some (vR 12 (some x0)), none, none, some (vJ x3), none, some (vI x5), some (vI x6), some (vI (gI σ 1274 x0 x5.toNat)), some (vI z5), some (vJ ((v27 &&& ((j_shl v23 v29) ^^^ ((-1) : Int64))) ||| (j_shl x3 v31))), none, some (vJ v23), none, some (vJ (v27 &&& ((j_shl v23 v29) ^^^ ((-1) : Int64)))), none]) dX12_set_185 (by decide) rfl ?_
        refine aw_goto (tgt := 228) dX12_set_187 (by decide) ?_
        exact aw_fgt (L' := [some (vR 12 (some x0)), none, none, none, none, some (vI x5), none, none, some (vI z5), some (vJ ((v27 &&& ((j_shl v23 v29) ^^^ ((-1) : Int64))) ||| (j_shl x3 v31))), none, none, none, none, none]) ⟨rfl, ⟨rfl, ⟨rfl, ⟨rfl, trivial⟩⟩⟩⟩ h
      · replace h := h.2 k24
        refine aw_bipush (x := (-3)) dX12_set_142 rfl ?_
        exact aw_ireturn dX12_set_144 rfl h
  · replace h := h.2 k3
    refine aw_bipush (x := (-5)) dX12_set_75 rfl ?_
    exact aw_ireturn dX12_set_77 rfl h
set_option maxRecDepth 4000 in
theorem bk_X12_set_228 {g : GP} {l : Launch} {d : Nat} {σ : St} {Q : Option AV → St → Prop} {x0 : Nat} {x5 : Int} {x8 : Int} {x9 : Int64}
    (h : LC 12 σ x0 ∧ Bd x5 2800 ∧ ACv g l d MX12_put [vR 12 (some x0), vI (gI σ 1268 x0 x5.toNat), vJ x9, vI x8] σ (fun σ3 => Q (some (vI 0)) σ3)) :
    AW g l (d + 1) MX12_set 228 [some (vR 12 (some x0)), none, none, none, none, some (vI x5), none, none, some (vI x8), some (vJ x9), none, none, none, none, none] [] σ Q := by
  refine aw_aload_n dX12_set_228 rfl rfl ?_
  refine aw_aload_n dX12_set_229 rfl rfl ?_
  obtain ⟨lc1, h⟩ := h
  refine aw_getA' rfl fk_1268 (by decide) lf_X12_220 dX12_set_230 (LC.ne lc1 rfl rfl) ?_
  refine aw_iload dX12_set_233 rfl ?_
  obtain ⟨⟨c2, c2x⟩, h⟩ := h
  refine aw_iaload (by decide) rfl dX12_set_235 c2 (LC.lt lc1 rfl rfl c2x) ?_
  refine aw_lload dX12_set_236 rfl ?_
  refine aw_iload dX12_set_238 rfl ?_
  refine aw_invVv (M := MX12_set) (ci := 12) [vI (gI σ 1268 x0 x5.toNat), vJ x9, vI x8] rfl mo_X12_put rfl lm_X12_704 li_X12_put ls_X12_put (by decide +kernel) dX12_set_240 rfl (Nat.le_of_ble_eq_true rfl) (ACv.mono (fun σ3 h => ?_) h)
  refine aw_iconst (x := 0) dX12_set_243 rfl ?_
  exact aw_ireturn dX12_set_244 rfl h
set_option maxRecDepth 4000 in
theorem bk_X12_shift_0 {g : GP} {l : Launch} {d : Nat} {σ : St} {Q : Option AV → St → Prop} {x0 : Nat} {x1 : Int}
    (h : AW g l d MX12_shift 4 [some (vR 12 (some x0)), some (vI x1), some (vI 0), some (vI 0)] [] σ Q) :
    AW g l d MX12_shift 0 [some (vR 12 (some x0)), some (vI x1), none, none] [] σ Q := by
  refine aw_iconst (x := 0) dX12_shift_0 rfl ?_
  refine aw_istore_n (L' := [some (vR 12 (some x0)), some (vI x1), some (vI 0), none]) dX12_shift_1 rfl (by decide) rfl ?_
  refine aw_iconst (x := 0) dX12_shift_2 rfl ?_
  refine aw_istore_n (L' := [some (vR 12 (some x0)), some (vI x1), some (vI 0), some (vI 0)]) dX12_shift_3 rfl (by decide) rfl ?_
  exact aw_fgt (L' := [some (vR 12 (some x0)), some (vI x1), some (vI 0), some (vI 0)]) ⟨rfl, ⟨rfl, ⟨rfl, ⟨rfl, trivial⟩⟩⟩⟩ h
set_option maxRecDepth 4000 in
theorem bk_X12_shift_4 {g : GP} {l : Launch} {d : Nat} {σ : St} {Q : Option AV → St → Prop} {x0 : Nat} {x1 : Int} {x2 : Int} {x3 : Int}
    (h : LC 12 σ x0 ∧ Bd x1 2800 ∧ R32 ((gI σ 1275 x0 x1.toNat) - 1) ∧ ((((gI σ 1275 x0 x1.toNat) - 1) ≤ x3 → Q (some (vI x2)) σ) ∧ (¬ ((gI σ 1275 x0 x1.toNat) - 1) ≤ x3 → R32 (16 * (gI σ 1274 x0 x1.toNat)) ∧ R32 ((16 * (gI σ 1274 x0 x1.toNat)) + x3) ∧ Bd ((16 * (gI σ 1274 x0 x1.toNat)) + x3) 8960 ∧ R32 (x2 + (j2i (gJ σ 1240 x0 ((16 * (gI σ 1274 x0 x1.toNat)) + x3).toNat))) ∧ ∀ z9 : Int, z9 = x2 + (j2i (gJ σ 1240 x0 ((16 * (gI σ 1274 x0 x1.toNat)) + x3).toNat)) → R32 (x3 + 1) ∧ AW g l d MX12_shift 4 [some (vR 12 (some x0)), some (vI x1), some (vI z9), some (vI (x3 + 1))] [] σ Q))) :
    AW g l d MX12_shift 4 [some (vR 12 (some x0)), some (vI x1), some (vI x2), some (vI x3)] [] σ Q := by
  refine aw_iload_n dX12_shift_4 rfl rfl ?_
  refine aw_aload_n dX12_shift_5 rfl rfl ?_
  obtain ⟨lc1, h⟩ := h
  refine aw_getA' rfl fk_1275 (by decide) lf_X12_241 dX12_shift_6 (LC.ne lc1 rfl rfl) ?_
  refine aw_iload_n dX12_shift_9 rfl rfl ?_
  obtain ⟨⟨c2, c2x⟩, h⟩ := h
  refine aw_iaload (by decide) rfl dX12_shift_10 c2 (LC.lt lc1 rfl rfl c2x) ?_
  refine aw_iconst (x := 1) dX12_shift_11 rfl ?_
  obtain ⟨⟨c3, c3x⟩, h⟩ := h
  refine aw_isubc dX12_shift_12 c3 c3x ?_
  refine aw_icmp_ge (tgt := 42) dX12_shift_13 (by decide) (fun k4 => ?_) (fun k4 => ?_)
  · replace h := h.1 k4
    refine aw_iload_n dX12_shift_42 rfl rfl ?_
    exact aw_ireturn dX12_shift_43 rfl h
  · replace h := h.2 k4
    refine aw_iload_n dX12_shift_16 rfl rfl ?_
    refine aw_aload_n dX12_shift_17 rfl rfl ?_
    refine aw_getA' rfl fk_1240 (by decide) lf_X12_134 dX12_shift_18 (LC.ne lc1 rfl rfl) ?_
    refine aw_bipush (x := 16) dX12_shift_21 rfl ?_
    refine aw_aload_n dX12_shift_23 rfl rfl ?_
    refine aw_getA' rfl fk_1274 (by decide) lf_X12_238 dX12_shift_24 (LC.ne lc1 rfl rfl) ?_
    refine aw_iload_n dX12_shift_27 rfl rfl ?_
    refine aw_iaload (by decide) rfl dX12_shift_28 c2 (LC.lt lc1 rfl rfl c2x) ?_
    obtain ⟨⟨c5, c5x⟩, h⟩ := h
    refine aw_imulc dX12_shift_29 c5 c5x ?_
    refine aw_iload_n dX12_shift_30 rfl rfl ?_
    obtain ⟨⟨c6, c6x⟩, h⟩ := h
    refine aw_iaddc dX12_shift_31 c6 c6x ?_
    obtain ⟨⟨c7, c7x⟩, h⟩ := h
    refine aw_laload (by decide) rfl dX12_shift_32 c7 (LC.lt lc1 rfl rfl c7x) ?_
    refine aw_l2i dX12_shift_33 ?_
    obtain ⟨⟨c8, c8x⟩, h⟩ := h
    refine aw_iaddc dX12_shift_34 c8 c8x ?_
    refine aw_istore_n (L' := [some (vR 12 (some x0)), some (vI x1), some (vI (x2 + (j2i (gJ σ 1240 x0 ((16 * (gI σ 1274 x0 x1.toNat)) + x3).toNat)))), some (vI x3)]) dX12_shift_35 rfl (by decide) rfl ?_
    obtain ⟨z9, hz9⟩ : ∃ z : Int, z = x2 + (j2i (gJ σ 1240 x0 ((16 * (gI σ 1274 x0 x1.toNat)) + x3).toNat)) := ⟨_, rfl⟩
    rw [← hz9]
    replace h := h z9 hz9
    obtain ⟨⟨c10, c10x⟩, h⟩ := h
    refine aw_iincc (L' := [some (vR 12 (some x0)), some (vI x1), some (vI z9), some (vI (x3 + 1))]) dX12_shift_36 rfl (by decide) rfl c10 c10x rfl ?_
    refine aw_goto (tgt := 4) dX12_shift_39 (by decide) ?_
    exact aw_fgt (L' := [some (vR 12 (some x0)), some (vI x1), some (vI z9), some (vI (x3 + 1))]) ⟨rfl, ⟨rfl, ⟨rfl, ⟨rfl, trivial⟩⟩⟩⟩ h
set_option maxRecDepth 4000 in
theorem bk_X12_sign_0 {g : GP} {l : Launch} {d : Nat} {σ : St} {Q : Option AV → St → Prop} {x0 : Nat} {x1 : Int}
    (h : ((x1 = 123 → Q (some (vI 1)) σ) ∧ (¬ x1 = 123 → ((x1 = 125 → Q (some (vI 1)) σ) ∧ (¬ x1 = 125 → ((x1 = 40 → Q (some (vI 1)) σ) ∧ (¬ x1 = 40 → ((x1 = 41 → Q (some (vI 1)) σ) ∧ (¬ x1 = 41 → ((x1 = 91 → Q (some (vI 1)) σ) ∧ (¬ x1 = 91 → ((x1 = 93 → Q (some (vI 1)) σ) ∧ (¬ x1 = 93 → ((x1 = 59 → Q (some (vI 1)) σ) ∧ (¬ x1 = 59 → ((x1 = 58 → Q (some (vI 1)) σ) ∧ (¬ x1 = 58 → ((x1 = 44 → Q (some (vI 1)) σ) ∧ (¬ x1 = 44 → ((x1 = 61 → Q (some (vI 1)) σ) ∧ (¬ x1 = 61 → ((x1 = 60 → Q (some (vI 1)) σ) ∧ (¬ x1 = 60 → ((x1 = 62 → Q (some (vI 1)) σ) ∧ (¬ x1 = 62 → ((x1 = 43 → Q (some (vI 1)) σ) ∧ (¬ x1 = 43 → ((x1 = 45 → Q (some (vI 1)) σ) ∧ (¬ x1 = 45 → ((x1 = 42 → Q (some (vI 1)) σ) ∧ (¬ x1 = 42 → ((x1 = 47 → Q (some (vI 1)) σ) ∧ (¬ x1 = 47 → ((x1 = 37 → Q (some (vI 1)) σ) ∧ (¬ x1 = 37 → ((¬ x1 = 38 → Q (some (vI 0)) σ) ∧ (x1 = 38 → Q (some (vI 1)) σ))))))))))))))))))))))))))))))))))))) :
    AW g l d MX12_sign 0 [some (vR 12 (some x0)), some (vI x1)] [] σ Q := by
  refine aw_iload_n dX12_sign_0 rfl rfl ?_
  refine aw_bipush (x := 123) dX12_sign_1 rfl ?_
  refine aw_icmp_eq (tgt := 108) dX12_sign_3 (by decide) (fun k1 => ?_) (fun k1 => ?_)
  · replace h := h.1 k1
    refine aw_iconst (x := 1) dX12_sign_108 rfl ?_
    refine aw_goto (tgt := 113) dX12_sign_109 (by decide) ?_
    exact aw_zreturn dX12_sign_113 rfl (Or.inr rfl) h
  · replace h := h.2 k1
    refine aw_iload_n dX12_sign_6 rfl rfl ?_
    refine aw_bipush (x := 125) dX12_sign_7 rfl ?_
    refine aw_icmp_eq (tgt := 108) dX12_sign_9 (by decide) (fun k2 => ?_) (fun k2 => ?_)
    · replace h := h.1 k2
      refine aw_iconst (x := 1) dX12_sign_108 rfl ?_
      refine aw_goto (tgt := 113) dX12_sign_109 (by decide) ?_
      exact aw_zreturn dX12_sign_113 rfl (Or.inr rfl) h
    · replace h := h.2 k2
      refine aw_iload_n dX12_sign_12 rfl rfl ?_
      refine aw_bipush (x := 40) dX12_sign_13 rfl ?_
      refine aw_icmp_eq (tgt := 108) dX12_sign_15 (by decide) (fun k3 => ?_) (fun k3 => ?_)
      · replace h := h.1 k3
        refine aw_iconst (x := 1) dX12_sign_108 rfl ?_
        refine aw_goto (tgt := 113) dX12_sign_109 (by decide) ?_
        exact aw_zreturn dX12_sign_113 rfl (Or.inr rfl) h
      · replace h := h.2 k3
        refine aw_iload_n dX12_sign_18 rfl rfl ?_
        refine aw_bipush (x := 41) dX12_sign_19 rfl ?_
        refine aw_icmp_eq (tgt := 108) dX12_sign_21 (by decide) (fun k4 => ?_) (fun k4 => ?_)
        · replace h := h.1 k4
          refine aw_iconst (x := 1) dX12_sign_108 rfl ?_
          refine aw_goto (tgt := 113) dX12_sign_109 (by decide) ?_
          exact aw_zreturn dX12_sign_113 rfl (Or.inr rfl) h
        · replace h := h.2 k4
          refine aw_iload_n dX12_sign_24 rfl rfl ?_
          refine aw_bipush (x := 91) dX12_sign_25 rfl ?_
          refine aw_icmp_eq (tgt := 108) dX12_sign_27 (by decide) (fun k5 => ?_) (fun k5 => ?_)
          · replace h := h.1 k5
            refine aw_iconst (x := 1) dX12_sign_108 rfl ?_
            refine aw_goto (tgt := 113) dX12_sign_109 (by decide) ?_
            exact aw_zreturn dX12_sign_113 rfl (Or.inr rfl) h
          · replace h := h.2 k5
            refine aw_iload_n dX12_sign_30 rfl rfl ?_
            refine aw_bipush (x := 93) dX12_sign_31 rfl ?_
            refine aw_icmp_eq (tgt := 108) dX12_sign_33 (by decide) (fun k6 => ?_) (fun k6 => ?_)
            · replace h := h.1 k6
              refine aw_iconst (x := 1) dX12_sign_108 rfl ?_
              refine aw_goto (tgt := 113) dX12_sign_109 (by decide) ?_
              exact aw_zreturn dX12_sign_113 rfl (Or.inr rfl) h
            · replace h := h.2 k6
              refine aw_iload_n dX12_sign_36 rfl rfl ?_
              refine aw_bipush (x := 59) dX12_sign_37 rfl ?_
              refine aw_icmp_eq (tgt := 108) dX12_sign_39 (by decide) (fun k7 => ?_) (fun k7 => ?_)
              · replace h := h.1 k7
                refine aw_iconst (x := 1) dX12_sign_108 rfl ?_
                refine aw_goto (tgt := 113) dX12_sign_109 (by decide) ?_
                exact aw_zreturn dX12_sign_113 rfl (Or.inr rfl) h
              · replace h := h.2 k7
                refine aw_iload_n dX12_sign_42 rfl rfl ?_
                refine aw_bipush (x := 58) dX12_sign_43 rfl ?_
                refine aw_icmp_eq (tgt := 108) dX12_sign_45 (by decide) (fun k8 => ?_) (fun k8 => ?_)
                · replace h := h.1 k8
                  refine aw_iconst (x := 1) dX12_sign_108 rfl ?_
                  refine aw_goto (tgt := 113) dX12_sign_109 (by decide) ?_
                  exact aw_zreturn dX12_sign_113 rfl (Or.inr rfl) h
                · replace h := h.2 k8
                  refine aw_iload_n dX12_sign_48 rfl rfl ?_
                  refine aw_bipush (x := 44) dX12_sign_49 rfl ?_
                  refine aw_icmp_eq (tgt := 108) dX12_sign_51 (by decide) (fun k9 => ?_) (fun k9 => ?_)
                  · replace h := h.1 k9
                    refine aw_iconst (x := 1) dX12_sign_108 rfl ?_
                    refine aw_goto (tgt := 113) dX12_sign_109 (by decide) ?_
                    exact aw_zreturn dX12_sign_113 rfl (Or.inr rfl) h
                  · replace h := h.2 k9
                    refine aw_iload_n dX12_sign_54 rfl rfl ?_
                    refine aw_bipush (x := 61) dX12_sign_55 rfl ?_
                    refine aw_icmp_eq (tgt := 108) dX12_sign_57 (by decide) (fun k10 => ?_) (fun k10 => ?_)
                    · replace h := h.1 k10
                      refine aw_iconst (x := 1) dX12_sign_108 rfl ?_
                      refine aw_goto (tgt := 113) dX12_sign_109 (by decide) ?_
                      exact aw_zreturn dX12_sign_113 rfl (Or.inr rfl) h
                    · replace h := h.2 k10
                      refine aw_iload_n dX12_sign_60 rfl rfl ?_
                      refine aw_bipush (x := 60) dX12_sign_61 rfl ?_
                      refine aw_icmp_eq (tgt := 108) dX12_sign_63 (by decide) (fun k11 => ?_) (fun k11 => ?_)
                      · replace h := h.1 k11
                        refine aw_iconst (x := 1) dX12_sign_108 rfl ?_
                        refine aw_goto (tgt := 113) dX12_sign_109 (by decide) ?_
                        exact aw_zreturn dX12_sign_113 rfl (Or.inr rfl) h
                      · replace h := h.2 k11
                        refine aw_iload_n dX12_sign_66 rfl rfl ?_
                        refine aw_bipush (x := 62) dX12_sign_67 rfl ?_
                        refine aw_icmp_eq (tgt := 108) dX12_sign_69 (by decide) (fun k12 => ?_) (fun k12 => ?_)
                        · replace h := h.1 k12
                          refine aw_iconst (x := 1) dX12_sign_108 rfl ?_
                          refine aw_goto (tgt := 113) dX12_sign_109 (by decide) ?_
                          exact aw_zreturn dX12_sign_113 rfl (Or.inr rfl) h
                        · replace h := h.2 k12
                          refine aw_iload_n dX12_sign_72 rfl rfl ?_
                          refine aw_bipush (x := 43) dX12_sign_73 rfl ?_
                          refine aw_icmp_eq (tgt := 108) dX12_sign_75 (by decide) (fun k13 => ?_) (fun k13 => ?_)
                          · replace h := h.1 k13
                            refine aw_iconst (x := 1) dX12_sign_108 rfl ?_
                            refine aw_goto (tgt := 113) dX12_sign_109 (by decide) ?_
                            exact aw_zreturn dX12_sign_113 rfl (Or.inr rfl) h
                          · replace h := h.2 k13
                            refine aw_iload_n dX12_sign_78 rfl rfl ?_
                            refine aw_bipush (x := 45) dX12_sign_79 rfl ?_
                            refine aw_icmp_eq (tgt := 108) dX12_sign_81 (by decide) (fun k14 => ?_) (fun k14 => ?_)
                            · replace h := h.1 k14
                              refine aw_iconst (x := 1) dX12_sign_108 rfl ?_
                              refine aw_goto (tgt := 113) dX12_sign_109 (by decide) ?_
                              exact aw_zreturn dX12_sign_113 rfl (Or.inr rfl) h
                            · replace h := h.2 k14
                              refine aw_iload_n dX12_sign_84 rfl rfl ?_
                              refine aw_bipush (x := 42) dX12_sign_85 rfl ?_
                              refine aw_icmp_eq (tgt := 108) dX12_sign_87 (by decide) (fun k15 => ?_) (fun k15 => ?_)
                              · replace h := h.1 k15
                                refine aw_iconst (x := 1) dX12_sign_108 rfl ?_
                                refine aw_goto (tgt := 113) dX12_sign_109 (by decide) ?_
                                exact aw_zreturn dX12_sign_113 rfl (Or.inr rfl) h
                              · replace h := h.2 k15
                                refine aw_iload_n dX12_sign_90 rfl rfl ?_
                                refine aw_bipush (x := 47) dX12_sign_91 rfl ?_
                                refine aw_icmp_eq (tgt := 108) dX12_sign_93 (by decide) (fun k16 => ?_) (fun k16 => ?_)
                                · replace h := h.1 k16
                                  refine aw_iconst (x := 1) dX12_sign_108 rfl ?_
                                  refine aw_goto (tgt := 113) dX12_sign_109 (by decide) ?_
                                  exact aw_zreturn dX12_sign_113 rfl (Or.inr rfl) h
                                · replace h := h.2 k16
                                  refine aw_iload_n dX12_sign_96 rfl rfl ?_
                                  refine aw_bipush (x := 37) dX12_sign_97 rfl ?_
                                  refine aw_icmp_eq (tgt := 108) dX12_sign_99 (by decide) (fun k17 => ?_) (fun k17 => ?_)
                                  · replace h := h.1 k17
                                    refine aw_iconst (x := 1) dX12_sign_108 rfl ?_
                                    refine aw_goto (tgt := 113) dX12_sign_109 (by decide) ?_
                                    exact aw_zreturn dX12_sign_113 rfl (Or.inr rfl) h
                                  · replace h := h.2 k17
                                    refine aw_iload_n dX12_sign_102 rfl rfl ?_
                                    refine aw_bipush (x := 38) dX12_sign_103 rfl ?_
                                    refine aw_icmp_ne (tgt := 112) dX12_sign_105 (by decide) (fun k18 => ?_) (fun k18 => ?_)
                                    · replace h := h.1 k18
                                      refine aw_iconst (x := 0) dX12_sign_112 rfl ?_
                                      exact aw_zreturn dX12_sign_113 rfl (Or.inl rfl) h
                                    · replace h := h.2 k18
                                      refine aw_iconst (x := 1) dX12_sign_108 rfl ?_
                                      refine aw_goto (tgt := 113) dX12_sign_109 (by decide) ?_
                                      exact aw_zreturn dX12_sign_113 rfl (Or.inr rfl) h
