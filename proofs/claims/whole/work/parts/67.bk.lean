set_option maxRecDepth 4000 in
theorem bk_X9_init_0 {g : GP} {l : Launch} {d : Nat} {σ : St} {Q : Option AV → St → Prop} {x0 : Nat} (hS : SOK g)
    (h : (gL σ 900 x0 = 0 ∧ hs σ + 1 ≤ gB g + 600000 ∧ sl σ + 3000 ≤ 7302250) ∧ (gL (sArr σ 900 x0 3000) 902 x0 = 0 ∧ hs (sArr σ 900 x0 3000) + 1 ≤ gB g + 600000 ∧ sl (sArr σ 900 x0 3000) + 3001 ≤ 7302250) ∧ (gL (sArr (sArr σ 900 x0 3000) 902 x0 3001) 903 x0 = 0 ∧ hs (sArr (sArr σ 900 x0 3000) 902 x0 3001) + 1 ≤ gB g + 600000 ∧ sl (sArr (sArr σ 900 x0 3000) 902 x0 3001) + 3001 ≤ 7302250) ∧ (gL (sArr (sArr (sArr σ 900 x0 3000) 902 x0 3001) 903 x0 3001) 904 x0 = 0 ∧ hs (sArr (sArr (sArr σ 900 x0 3000) 902 x0 3001) 903 x0 3001) + 1 ≤ gB g + 600000 ∧ sl (sArr (sArr (sArr σ 900 x0 3000) 902 x0 3001) 903 x0 3001) + 3001 ≤ 7302250) ∧ (gL (sArr (sArr (sArr (sArr σ 900 x0 3000) 902 x0 3001) 903 x0 3001) 904 x0 3001) 906 x0 = 0 ∧ hs (sArr (sArr (sArr (sArr σ 900 x0 3000) 902 x0 3001) 903 x0 3001) 904 x0 3001) + 1 ≤ gB g + 600000 ∧ sl (sArr (sArr (sArr (sArr σ 900 x0 3000) 902 x0 3001) 903 x0 3001) 904 x0 3001) + 27 ≤ 7302250) ∧ AW g l (d + 1) MX9_init 54 [some (vR 9 (some x0)), some (vI 0), some (vI 0), some (vI 0)] [] (sArr (sArr (sArr (sArr (sArr σ 900 x0 3000) 902 x0 3001) 903 x0 3001) 904 x0 3001) 906 x0 27) Q) :
    AW g l (d + 1) MX9_init 0 [some (vR 9 (some x0)), none, none, none] [] σ Q := by
  refine aw_aload_n dX9_init_0 rfl rfl ?_
  refine aw_objInit (M := MX9_init) lm_X9_3 loi_i loi_c dX9_init_1 (Nat.le_of_ble_eq_true rfl) ?_
  refine aw_aload_n dX9_init_4 rfl rfl ?_
  refine aw_sipush (x := 3000) dX9_init_5 rfl ?_
  obtain ⟨⟨h0, h1, h2⟩, h⟩ := h
  refine aw_mkArr (M := MX9_init) (n := 3000) fk_900 (by decide +kernel) rfl (fun _ _ h => h) la_int ⟨rfl, rfl⟩ lf_X9_9 dX9_init_8 dX9_init_10 rfl (by decide) (by decide) h0 h1 h2 ?_
  refine aw_aload_n dX9_init_13 rfl rfl ?_
  refine aw_sipush (x := 3001) dX9_init_14 rfl ?_
  obtain ⟨⟨h0, h1, h2⟩, h⟩ := h
  refine aw_mkArr (M := MX9_init) (n := 3001) fk_902 (by decide +kernel) rfl (fun _ _ h => h) la_int ⟨rfl, rfl⟩ lf_X9_15 dX9_init_17 dX9_init_19 rfl (by decide) (by decide) h0 h1 h2 ?_
  refine aw_aload_n dX9_init_22 rfl rfl ?_
  refine aw_sipush (x := 3001) dX9_init_23 rfl ?_
  obtain ⟨⟨h0, h1, h2⟩, h⟩ := h
  refine aw_mkArr (M := MX9_init) (n := 3001) fk_903 (by decide +kernel) rfl (fun _ _ h => h) la_int ⟨rfl, rfl⟩ lf_X9_18 dX9_init_26 dX9_init_28 rfl (by decide) (by decide) h0 h1 h2 ?_
  refine aw_aload_n dX9_init_31 rfl rfl ?_
  refine aw_sipush (x := 3001) dX9_init_32 rfl ?_
  obtain ⟨⟨h0, h1, h2⟩, h⟩ := h
  refine aw_mkArr (M := MX9_init) (n := 3001) fk_904 (by decide +kernel) rfl (fun _ _ h => h) la_long ⟨rfl, rfl⟩ lf_X9_21 dX9_init_35 dX9_init_37 rfl (by decide) (by decide) h0 h1 h2 ?_
  refine aw_aload_n dX9_init_40 rfl rfl ?_
  refine aw_bipush (x := 27) dX9_init_41 rfl ?_
  obtain ⟨⟨h0, h1, h2⟩, h⟩ := h
  refine aw_mkArr (M := MX9_init) (n := 27) fk_906 (by decide +kernel) rfl (fun _ _ h => h) la_long ⟨rfl, rfl⟩ lf_X9_25 dX9_init_43 dX9_init_45 rfl (by decide) (by decide) h0 h1 h2 ?_
  refine aw_iconst (x := 0) dX9_init_48 rfl ?_
  refine aw_istore_n (L' := [some (vR 9 (some x0)), some (vI 0), none, none]) dX9_init_49 rfl (by decide) rfl ?_
  refine aw_iconst (x := 0) dX9_init_50 rfl ?_
  refine aw_istore_n (L' := [some (vR 9 (some x0)), some (vI 0), some (vI 0), none]) dX9_init_51 rfl (by decide) rfl ?_
  refine aw_iconst (x := 0) dX9_init_52 rfl ?_
  refine aw_istore_n (L' := [some (vR 9 (some x0)), some (vI 0), some (vI 0), some (vI 0)]) dX9_init_53 rfl (by decide) rfl ?_
  exact aw_fgt (L' := [some (vR 9 (some x0)), some (vI 0), some (vI 0), some (vI 0)]) ⟨rfl, ⟨rfl, ⟨rfl, ⟨rfl, trivial⟩⟩⟩⟩ h
set_option maxRecDepth 4000 in
theorem bk_X9_init_54 {g : GP} {l : Launch} {d : Nat} {σ : St} {Q : Option AV → St → Prop} {x0 : Nat} {x1 : Int} {x2 : Int} {x3 : Int} (hS : SOK g)
    (h : ACi g l d MJ0_length_8abf5 [vA 9028 0] σ (fun v2 σ1 => ((v2 ≤ x3 → Q none σ1) ∧ (¬ v2 ≤ x3 → ((27 ≤ x1 → Q none σ1) ∧ (¬ 27 ≤ x1 → ACi g l d MJ0_charAt_5068e [vA 9028 0, vI x3] σ1 (fun v6 σ5 => ((¬ v6 = 32 → LC 9 σ5 x0 ∧ Bd x1 27 ∧ ACi g l d MJ0_charAt_5068e [vA 9028 0, vI x3] σ5 (fun v11 σ10 => R32 (8 * x2) ∧ LC 9 σ10 x0 ∧ R32 (x2 + 1) ∧ R32 (x3 + 1) ∧ AW g l (d + 1) MX9_init 54 [some (vR 9 (some x0)), some (vI x1), some (vI (x2 + 1)), some (vI (x3 + 1))] [] (sJ σ10 906 x0 x1.toNat ((gJ σ5 906 x0 x1.toNat) ||| (j_shl (i2j v11) (8 * x2)))) Q)) ∧ (v6 = 32 → R32 (x1 + 1) ∧ R32 (x3 + 1) ∧ AW g l (d + 1) MX9_init 54 [some (vR 9 (some x0)), some (vI (x1 + 1)), some (vI 0), some (vI (x3 + 1))] [] σ5 Q))))))))) :
    AW g l (d + 1) MX9_init 54 [some (vR 9 (some x0)), some (vI x1), some (vI x2), some (vI x3)] [] σ Q := by
  refine aw_iload_n dX9_init_54 rfl rfl ?_
  refine aw_ldcS (e := 28) (by decide) hS.1 rfl dX9_init_55 ?_
  refine aw_strV (M := MX9_init) (e := 28) [] (by decide) hS.1 mo_J0_length_8abf5 rfl lm_X9_30 li_J0_length_8abf5 ls_J0_length_8abf5 rfl dX9_init_57 rfl (Nat.le_of_ble_eq_true rfl) (ACi.mono (fun v2 σ1 h => ?_) h)
  refine aw_icmp_ge (tgt := 118) dX9_init_60 (by decide) (fun k3 => ?_) (fun k3 => ?_)
  · replace h := h.1 k3
    exact aw_ret h rfl dX9_init_118
  · replace h := h.2 k3
    refine aw_iload_n dX9_init_63 rfl rfl ?_
    refine aw_bipush (x := 27) dX9_init_64 rfl ?_
    refine aw_icmp_ge (tgt := 118) dX9_init_66 (by decide) (fun k4 => ?_) (fun k4 => ?_)
    · replace h := h.1 k4
      exact aw_ret h rfl dX9_init_118
    · replace h := h.2 k4
      refine aw_ldcS (e := 28) (by decide) hS.1 rfl dX9_init_69 ?_
      refine aw_iload_n dX9_init_71 rfl rfl ?_
      refine aw_strV (M := MX9_init) (e := 28) [vI x3] (by decide) hS.1 mo_J0_charAt_5068e rfl lm_X9_36 li_J0_charAt_5068e ls_J0_charAt_5068e rfl dX9_init_72 rfl (Nat.le_of_ble_eq_true rfl) (ACi.mono (fun v6 σ5 h => ?_) h)
      refine aw_bipush (x := 32) dX9_init_75 rfl ?_
      refine aw_icmp_ne (tgt := 88) dX9_init_77 (by decide) (fun k7 => ?_) (fun k7 => ?_)
      · replace h := h.1 k7
        refine aw_aload_n dX9_init_88 rfl rfl ?_
        obtain ⟨lc8, h⟩ := h
        refine aw_getA' rfl fk_906 (by decide) lf_X9_25 dX9_init_89 (LC.ne lc8 rfl rfl) ?_
        refine aw_iload_n dX9_init_92 rfl rfl ?_
        refine aw_dup2 dX9_init_93 rfl rfl ?_
        obtain ⟨⟨c9, c9x⟩, h⟩ := h
        refine aw_laload (by decide) rfl dX9_init_94 c9 (LC.lt lc8 rfl rfl c9x) ?_
        refine aw_ldcS (e := 28) (by decide) hS.1 rfl dX9_init_95 ?_
        refine aw_iload_n dX9_init_97 rfl rfl ?_
        refine aw_strV (M := MX9_init) (e := 28) [vI x3] (by decide) hS.1 mo_J0_charAt_5068e rfl lm_X9_36 li_J0_charAt_5068e ls_J0_charAt_5068e rfl dX9_init_98 rfl (Nat.le_of_ble_eq_true rfl) (ACi.mono (fun v11 σ10 h => ?_) h)
        refine aw_i2l dX9_init_101 ?_
        refine aw_bipush (x := 8) dX9_init_102 rfl ?_
        refine aw_iload_n dX9_init_104 rfl rfl ?_
        obtain ⟨⟨c12, c12x⟩, h⟩ := h
        refine aw_imulc dX9_init_105 c12 c12x ?_
        refine aw_lshl dX9_init_106 ?_
        refine aw_lor dX9_init_107 ?_
        obtain ⟨lc13, h⟩ := h
        refine aw_lastore (by decide) rfl dX9_init_108 c9 (LC.lt lc13 rfl rfl c9x) ?_
        obtain ⟨⟨c14, c14x⟩, h⟩ := h
        refine aw_iincc (L' := [some (vR 9 (some x0)), some (vI x1), some (vI (x2 + 1)), some (vI x3)]) dX9_init_109 rfl (by decide) rfl c14 c14x rfl ?_
        obtain ⟨⟨c15, c15x⟩, h⟩ := h
        refine aw_iincc (L' := [some (vR 9 (some x0)), some (vI x1), some (vI (x2 + 1)), some (vI (x3 + 1))]) dX9_init_112 rfl (by decide) rfl c15 c15x rfl ?_
        refine aw_goto (tgt := 54) dX9_init_115 (by decide) ?_
        exact aw_fgt (L' := [some (vR 9 (some x0)), some (vI x1), some (vI (x2 + 1)), some (vI (x3 + 1))]) ⟨rfl, ⟨rfl, ⟨rfl, ⟨rfl, trivial⟩⟩⟩⟩ h
      · replace h := h.2 k7
        obtain ⟨⟨c16, c16x⟩, h⟩ := h
        refine aw_iincc (L' := [some (vR 9 (some x0)), some (vI (x1 + 1)), some (vI x2), some (vI x3)]) dX9_init_80 rfl (by decide) rfl c16 c16x rfl ?_
        refine aw_iconst (x := 0) dX9_init_83 rfl ?_
        refine aw_istore_n (L' := [some (vR 9 (some x0)), some (vI (x1 + 1)), some (vI 0), some (vI x3)]) dX9_init_84 rfl (by decide) rfl ?_
        refine aw_goto (tgt := 112) dX9_init_85 (by decide) ?_
        obtain ⟨⟨c17, c17x⟩, h⟩ := h
        refine aw_iincc (L' := [some (vR 9 (some x0)), some (vI (x1 + 1)), some (vI 0), some (vI (x3 + 1))]) dX9_init_112 rfl (by decide) rfl c17 c17x rfl ?_
        refine aw_goto (tgt := 54) dX9_init_115 (by decide) ?_
        exact aw_fgt (L' := [some (vR 9 (some x0)), some (vI (x1 + 1)), some (vI 0), some (vI (x3 + 1))]) ⟨rfl, ⟨rfl, ⟨rfl, ⟨rfl, trivial⟩⟩⟩⟩ h
set_option maxRecDepth 4000 in
theorem bk_X9_split_0 {g : GP} {l : Launch} {d : Nat} {σ : St} {Q : Option AV → St → Prop} {x0 : Nat} (hS : SOK g)
    (h : AW g l (d + 1) MX9_split 9 [some (vR 9 (some x0)), none, some (vI 0), none, none] [] (sI σ 905 x0 0 0) Q) :
    AW g l (d + 1) MX9_split 0 [some (vR 9 (some x0)), none, none, none, none] [] σ Q := by
  refine aw_aload_n dX9_split_0 rfl rfl ?_
  refine aw_iconst (x := 0) dX9_split_1 rfl ?_
  refine aw_putI' rfl fk_905 (Or.inl rfl) lf_X9_48 dX9_split_2 ?_
  refine aw_iconst (x := 0) dX9_split_5 rfl ?_
  refine aw_istore_n (L' := [some (vR 9 (some x0)), some (vI 0), none, none, none]) dX9_split_6 rfl (by decide) rfl ?_
  refine aw_iconst (x := 0) dX9_split_7 rfl ?_
  refine aw_istore_n (L' := [some (vR 9 (some x0)), some (vI 0), some (vI 0), none, none]) dX9_split_8 rfl (by decide) rfl ?_
  exact aw_fgt (L' := [some (vR 9 (some x0)), none, some (vI 0), none, none]) ⟨rfl, ⟨rfl, trivial⟩⟩ h
set_option maxRecDepth 4000 in
theorem bk_X9_split_9 {g : GP} {l : Launch} {d : Nat} {σ : St} {Q : Option AV → St → Prop} {x0 : Nat} {x2 : Int} (hS : SOK g)
    (h : (((gI σ 901 x0 0) ≤ x2 → ACv g l d MX9_addToken [vR 9 (some x0), vI 0, vI (gI σ 901 x0 0), vJ 0] σ (fun σ2 => Q none (sI σ2 901 x0 0 0))) ∧ (¬ (gI σ 901 x0 0) ≤ x2 → R32 (x2 + 1) ∧ LC 9 σ x0 ∧ Bd x2 3000 ∧ ACi g l d MX9_isSmall [vI (gI σ 900 x0 x2.toNat)] σ (fun v7 σ6 => ((v7 = 0 → LC 9 σ6 x0 ∧ ACi g l d MX9_isDigit [vI (gI σ6 900 x0 x2.toNat)] σ6 (fun v11 σ10 => ((v11 = 0 → LC 9 σ10 x0 ∧ (((gI σ10 900 x0 x2.toNat) = 32 → ACi g l d MJ9_max_7cf53 [vI (x2 + 1), vI (x2 + 1)] σ10 (fun v16 σ15 => AW g l (d + 1) MX9_split 9 [some (vR 9 (some x0)), none, some (vI v16), none, none] [] σ15 Q)) ∧ (¬ (gI σ10 900 x0 x2.toNat) = 32 → (((gI σ10 900 x0 x2.toNat) = 10 → ACi g l d MJ9_max_7cf53 [vI (x2 + 1), vI (x2 + 1)] σ10 (fun v19 σ18 => AW g l (d + 1) MX9_split 9 [some (vR 9 (some x0)), none, some (vI v19), none, none] [] σ18 Q)) ∧ (¬ (gI σ10 900 x0 x2.toNat) = 10 → ACi g l d MJ0_indexOf_0f7a4 [vA 9076 0, vI (i_2c (gI σ10 900 x0 x2.toNat))] σ10 (fun v21 σ20 => ((0 ≤ v21 → LC 9 σ20 x0 ∧ AW g l (d + 1) MX9_split 143 [some (vR 9 (some x0)), some (vI (x2 + 1)), some (vI x2), none, none] [vI (gI σ20 900 x0 x2.toNat), vR 9 (some x0)] σ20 Q) ∧ (¬ 0 ≤ v21 → AW g l (d + 1) MX9_split 143 [some (vR 9 (some x0)), some (vI (x2 + 1)), some (vI x2), none, none] [vI 1, vR 9 (some x0)] σ20 Q)))))))) ∧ (¬ v11 = 0 → ACi g l d MX9_rowEnd [vR 9 (some x0), vI x2] σ10 (fun v25 σ24 => ACj g l d MX9_numberIn [vR 9 (some x0), vI x2, vI v25] σ24 (fun v27 σ26 => ((¬ v27 = ((-1) : Int64) → AW g l (d + 1) MX9_split 87 [some (vR 9 (some x0)), some (vI v25), some (vI x2), some (vJ v27), none] [vI 3, vR 9 (some x0)] σ26 Q) ∧ (v27 = ((-1) : Int64) → AW g l (d + 1) MX9_split 87 [some (vR 9 (some x0)), some (vI v25), some (vI x2), some (vJ v27), none] [vI 1, vR 9 (some x0)] σ26 Q)))))))) ∧ (¬ v7 = 0 → ACi g l d MX9_rowEnd [vR 9 (some x0), vI x2] σ6 (fun v30 σ29 => ACv g l d MX9_addWord [vR 9 (some x0), vI x2, vI v30] σ29 (fun σ31 => ACi g l d MJ9_max_7cf53 [vI (x2 + 1), vI v30] σ31 (fun v33 σ32 => AW g l (d + 1) MX9_split 9 [some (vR 9 (some x0)), none, some (vI v33), none, none] [] σ32 Q))))))))) :
    AW g l (d + 1) MX9_split 9 [some (vR 9 (some x0)), none, some (vI x2), none, none] [] σ Q := by
  refine aw_iload_n dX9_split_9 rfl rfl ?_
  refine aw_aload_n dX9_split_10 rfl rfl ?_
  refine aw_getI' rfl fk_901 lf_X9_40 dX9_split_11 ?_
  refine aw_icmp_ge (tgt := 159) dX9_split_14 (by decide) (fun k1 => ?_) (fun k1 => ?_)
  · replace h := h.1 k1
    refine aw_aload_n dX9_split_159 rfl rfl ?_
    refine aw_iconst (x := 0) dX9_split_160 rfl ?_
    refine aw_aload_n dX9_split_161 rfl rfl ?_
    refine aw_getI' rfl fk_901 lf_X9_40 dX9_split_162 ?_
    refine aw_lconst (x := 0) dX9_split_165 rfl ?_
    refine aw_invVv (M := MX9_split) (ci := 9) [vI 0, vI (gI σ 901 x0 0), vJ 0] rfl mo_X9_addToken rfl lm_X9_72 li_X9_addToken ls_X9_addToken (by decide +kernel) dX9_split_166 rfl (Nat.le_of_ble_eq_true rfl) (ACv.mono (fun σ2 h => ?_) h)
    refine aw_aload_n dX9_split_169 rfl rfl ?_
    refine aw_iconst (x := 0) dX9_split_170 rfl ?_
    refine aw_putI' rfl fk_901 (Or.inl rfl) lf_X9_40 dX9_split_171 ?_
    exact aw_ret h rfl dX9_split_174
  · replace h := h.2 k1
    refine aw_iload_n dX9_split_17 rfl rfl ?_
    refine aw_iconst (x := 1) dX9_split_18 rfl ?_
    obtain ⟨⟨c3, c3x⟩, h⟩ := h
    refine aw_iaddc dX9_split_19 c3 c3x ?_
    refine aw_istore_n (L' := [some (vR 9 (some x0)), some (vI (x2 + 1)), some (vI x2), none, none]) dX9_split_20 rfl (by decide) rfl ?_
    refine aw_aload_n dX9_split_21 rfl rfl ?_
    obtain ⟨lc4, h⟩ := h
    refine aw_getA' rfl fk_900 (by decide) lf_X9_9 dX9_split_22 (LC.ne lc4 rfl rfl) ?_
    refine aw_iload_n dX9_split_25 rfl rfl ?_
    obtain ⟨⟨c5, c5x⟩, h⟩ := h
    refine aw_iaload (by decide) rfl dX9_split_26 c5 (LC.lt lc4 rfl rfl c5x) ?_
    refine aw_invSi (M := MX9_split) [vI (gI σ 900 x0 x2.toNat)] mo_X9_isSmall rfl lm_X9_51 lt_X9_isSmall dX9_split_27 rfl (Nat.le_of_ble_eq_true rfl) (ACi.mono (fun v7 σ6 h => ?_) h)
    refine aw_if_eq (tgt := 48) dX9_split_30 (by decide) (fun k8 => ?_) (fun k8 => ?_)
    · replace h := h.1 k8
      refine aw_aload_n dX9_split_48 rfl rfl ?_
      obtain ⟨lc9, h⟩ := h
      refine aw_getA' rfl fk_900 (by decide) lf_X9_9 dX9_split_49 (LC.ne lc9 rfl rfl) ?_
      refine aw_iload_n dX9_split_52 rfl rfl ?_
      refine aw_iaload (by decide) rfl dX9_split_53 c5 (LC.lt lc9 rfl rfl c5x) ?_
      refine aw_invSi (M := MX9_split) [vI (gI σ6 900 x0 x2.toNat)] mo_X9_isDigit rfl lm_X9_63 lt_X9_isDigit dX9_split_54 rfl (Nat.le_of_ble_eq_true rfl) (ACi.mono (fun v11 σ10 h => ?_) h)
      refine aw_if_eq (tgt := 95) dX9_split_57 (by decide) (fun k12 => ?_) (fun k12 => ?_)
      · replace h := h.1 k12
        refine aw_aload_n dX9_split_95 rfl rfl ?_
        obtain ⟨lc13, h⟩ := h
        refine aw_getA' rfl fk_900 (by decide) lf_X9_9 dX9_split_96 (LC.ne lc13 rfl rfl) ?_
        refine aw_iload_n dX9_split_99 rfl rfl ?_
        refine aw_iaload (by decide) rfl dX9_split_100 c5 (LC.lt lc13 rfl rfl c5x) ?_
        refine aw_bipush (x := 32) dX9_split_101 rfl ?_
        refine aw_icmp_eq (tgt := 148) dX9_split_103 (by decide) (fun k14 => ?_) (fun k14 => ?_)
        · replace h := h.1 k14
          refine aw_iload_n dX9_split_148 rfl rfl ?_
          refine aw_iconst (x := 1) dX9_split_149 rfl ?_
          refine aw_iaddc dX9_split_150 c3 c3x ?_
          refine aw_iload_n dX9_split_151 rfl rfl ?_
          refine aw_invSi (M := MX9_split) [vI (x2 + 1), vI (x2 + 1)] mo_J9_max_7cf53 rfl lm_X9_81 lt_J9_max_7cf53 dX9_split_152 rfl (Nat.le_of_ble_eq_true rfl) (ACi.mono (fun v16 σ15 h => ?_) h)
          refine aw_istore_n (L' := [some (vR 9 (some x0)), some (vI (x2 + 1)), some (vI v16), none, none]) dX9_split_155 rfl (by decide) rfl ?_
          refine aw_goto (tgt := 9) dX9_split_156 (by decide) ?_
          exact aw_fgt (L' := [some (vR 9 (some x0)), none, some (vI v16), none, none]) ⟨rfl, ⟨rfl, trivial⟩⟩ h
        · replace h := h.2 k14
          refine aw_aload_n dX9_split_106 rfl rfl ?_
          refine aw_getA' rfl fk_900 (by decide) lf_X9_9 dX9_split_107 (LC.ne lc13 rfl rfl) ?_
          refine aw_iload_n dX9_split_110 rfl rfl ?_
          refine aw_iaload (by decide) rfl dX9_split_111 c5 (LC.lt lc13 rfl rfl c5x) ?_
          refine aw_bipush (x := 10) dX9_split_112 rfl ?_
          refine aw_icmp_eq (tgt := 148) dX9_split_114 (by decide) (fun k17 => ?_) (fun k17 => ?_)
          · replace h := h.1 k17
            refine aw_iload_n dX9_split_148 rfl rfl ?_
            refine aw_iconst (x := 1) dX9_split_149 rfl ?_
            refine aw_iaddc dX9_split_150 c3 c3x ?_
            refine aw_iload_n dX9_split_151 rfl rfl ?_
            refine aw_invSi (M := MX9_split) [vI (x2 + 1), vI (x2 + 1)] mo_J9_max_7cf53 rfl lm_X9_81 lt_J9_max_7cf53 dX9_split_152 rfl (Nat.le_of_ble_eq_true rfl) (ACi.mono (fun v19 σ18 h => ?_) h)
            refine aw_istore_n (L' := [some (vR 9 (some x0)), some (vI (x2 + 1)), some (vI v19), none, none]) dX9_split_155 rfl (by decide) rfl ?_
            refine aw_goto (tgt := 9) dX9_split_156 (by decide) ?_
            exact aw_fgt (L' := [some (vR 9 (some x0)), none, some (vI v19), none, none]) ⟨rfl, ⟨rfl, trivial⟩⟩ h
          · replace h := h.2 k17
            refine aw_aload_n dX9_split_117 rfl rfl ?_
            refine aw_ldcS (e := 76) (by decide) hS.2.1 rfl dX9_split_118 ?_
            refine aw_aload_n dX9_split_120 rfl rfl ?_
            refine aw_getA' rfl fk_900 (by decide) lf_X9_9 dX9_split_121 (LC.ne lc13 rfl rfl) ?_
            refine aw_iload_n dX9_split_124 rfl rfl ?_
            refine aw_iaload (by decide) rfl dX9_split_125 c5 (LC.lt lc13 rfl rfl c5x) ?_
            refine aw_i2c dX9_split_126 ?_
            refine aw_strV (M := MX9_split) (e := 76) [vI (i_2c (gI σ10 900 x0 x2.toNat))] (by decide) hS.2.1 mo_J0_indexOf_0f7a4 rfl lm_X9_78 li_J0_indexOf_0f7a4 ls_J0_indexOf_0f7a4 rfl dX9_split_127 rfl (Nat.le_of_ble_eq_true rfl) (ACi.mono (fun v21 σ20 h => ?_) h)
            refine aw_if_ge (tgt := 137) dX9_split_130 (by decide) (fun k22 => ?_) (fun k22 => ?_)
            · replace h := h.1 k22
              refine aw_aload_n dX9_split_137 rfl rfl ?_
              obtain ⟨lc23, h⟩ := h
              refine aw_getA' rfl fk_900 (by decide) lf_X9_9 dX9_split_138 (LC.ne lc23 rfl rfl) ?_
              refine aw_iload_n dX9_split_141 rfl rfl ?_
              refine aw_iaload (by decide) rfl dX9_split_142 c5 (LC.lt lc23 rfl rfl c5x) ?_
              exact aw_fgt (L' := [some (vR 9 (some x0)), some (vI (x2 + 1)), some (vI x2), none, none]) ⟨rfl, ⟨rfl, ⟨rfl, trivial⟩⟩⟩ h
            · replace h := h.2 k22
              refine aw_iconst (x := 1) dX9_split_133 rfl ?_
              refine aw_goto (tgt := 143) dX9_split_134 (by decide) ?_
              exact aw_fgt (L' := [some (vR 9 (some x0)), some (vI (x2 + 1)), some (vI x2), none, none]) ⟨rfl, ⟨rfl, ⟨rfl, trivial⟩⟩⟩ h
      · replace h := h.2 k12
        refine aw_aload_n dX9_split_60 rfl rfl ?_
        refine aw_iload_n dX9_split_61 rfl rfl ?_
        refine aw_invVi (M := MX9_split) (ci := 9) [vI x2] rfl mo_X9_rowEnd rfl lm_X9_55 li_X9_rowEnd ls_X9_rowEnd (by decide +kernel) dX9_split_62 rfl (Nat.le_of_ble_eq_true rfl) (ACi.mono (fun v25 σ24 h => ?_) h)
        refine aw_istore_n (L' := [some (vR 9 (some x0)), some (vI v25), some (vI x2), none, none]) dX9_split_65 rfl (by decide) rfl ?_
        refine aw_aload_n dX9_split_66 rfl rfl ?_
        refine aw_iload_n dX9_split_67 rfl rfl ?_
        refine aw_iload_n dX9_split_68 rfl rfl ?_
        refine aw_invVj (M := MX9_split) (ci := 9) [vI x2, vI v25] rfl mo_X9_numberIn rfl lm_X9_66 li_X9_numberIn ls_X9_numberIn (by decide +kernel) dX9_split_69 rfl (Nat.le_of_ble_eq_true rfl) (ACj.mono (fun v27 σ26 h => ?_) h)
        refine aw_lstore_n (L' := [some (vR 9 (some x0)), some (vI v25), some (vI x2), some (vJ v27), none]) dX9_split_72 rfl (by decide) rfl ?_
        refine aw_aload_n dX9_split_73 rfl rfl ?_
        refine aw_lload_n dX9_split_74 rfl rfl ?_
        refine aw_ldc2 lk_X9_70 dX9_split_75 ?_
        refine aw_lcmp_ne (M := MX9_split) (tgt := 86) dX9_split_78 dX9_split_79 (by decide) (fun k28 => ?_) (fun k28 => ?_)
        · replace h := h.1 k28
          refine aw_iconst (x := 3) dX9_split_86 rfl ?_
          exact aw_fgt (L' := [some (vR 9 (some x0)), some (vI v25), some (vI x2), some (vJ v27), none]) ⟨rfl, ⟨rfl, ⟨rfl, ⟨rfl, trivial⟩⟩⟩⟩ h
        · replace h := h.2 k28
          refine aw_iconst (x := 1) dX9_split_82 rfl ?_
          refine aw_goto (tgt := 87) dX9_split_83 (by decide) ?_
          exact aw_fgt (L' := [some (vR 9 (some x0)), some (vI v25), some (vI x2), some (vJ v27), none]) ⟨rfl, ⟨rfl, ⟨rfl, ⟨rfl, trivial⟩⟩⟩⟩ h
    · replace h := h.2 k8
      refine aw_aload_n dX9_split_33 rfl rfl ?_
      refine aw_iload_n dX9_split_34 rfl rfl ?_
      refine aw_invVi (M := MX9_split) (ci := 9) [vI x2] rfl mo_X9_rowEnd rfl lm_X9_55 li_X9_rowEnd ls_X9_rowEnd (by decide +kernel) dX9_split_35 rfl (Nat.le_of_ble_eq_true rfl) (ACi.mono (fun v30 σ29 h => ?_) h)
      refine aw_istore_n (L' := [some (vR 9 (some x0)), some (vI v30), some (vI x2), none, none]) dX9_split_38 rfl (by decide) rfl ?_
      refine aw_aload_n dX9_split_39 rfl rfl ?_
      refine aw_iload_n dX9_split_40 rfl rfl ?_
      refine aw_iload_n dX9_split_41 rfl rfl ?_
      refine aw_invVv (M := MX9_split) (ci := 9) [vI x2, vI v30] rfl mo_X9_addWord rfl lm_X9_59 li_X9_addWord ls_X9_addWord (by decide +kernel) dX9_split_42 rfl (Nat.le_of_ble_eq_true rfl) (ACv.mono (fun σ31 h => ?_) h)
      refine aw_goto (tgt := 148) dX9_split_45 (by decide) ?_
      refine aw_iload_n dX9_split_148 rfl rfl ?_
      refine aw_iconst (x := 1) dX9_split_149 rfl ?_
      refine aw_iaddc dX9_split_150 c3 c3x ?_
      refine aw_iload_n dX9_split_151 rfl rfl ?_
      refine aw_invSi (M := MX9_split) [vI (x2 + 1), vI v30] mo_J9_max_7cf53 rfl lm_X9_81 lt_J9_max_7cf53 dX9_split_152 rfl (Nat.le_of_ble_eq_true rfl) (ACi.mono (fun v33 σ32 h => ?_) h)
      refine aw_istore_n (L' := [some (vR 9 (some x0)), some (vI v30), some (vI v33), none, none]) dX9_split_155 rfl (by decide) rfl ?_
      refine aw_goto (tgt := 9) dX9_split_156 (by decide) ?_
      exact aw_fgt (L' := [some (vR 9 (some x0)), none, some (vI v33), none, none]) ⟨rfl, ⟨rfl, trivial⟩⟩ h
set_option maxRecDepth 4000 in
theorem bk_X9_split_87 {g : GP} {l : Launch} {d : Nat} {σ : St} {Q : Option AV → St → Prop} {x0 : Nat} {x1 : Int} {x2 : Int} {x3 : Int64} {y0 : Int} {y1 : Option Nat} (hS : SOK g)
    (h : ∃ r1, y1 = some r1 ∧ ACv g l d MX9_addToken [vR 9 (some r1), vI y0, vI x2, vJ x3] σ (fun σ3 => R32 (x2 + 1) ∧ ACi g l d MJ9_max_7cf53 [vI (x2 + 1), vI x1] σ3 (fun v6 σ5 => AW g l (d + 1) MX9_split 9 [some (vR 9 (some x0)), none, some (vI v6), none, none] [] σ5 Q))) :
    AW g l (d + 1) MX9_split 87 [some (vR 9 (some x0)), some (vI x1), some (vI x2), some (vJ x3), none] [vI y0, vR 9 y1] σ Q := by
  refine aw_iload_n dX9_split_87 rfl rfl ?_
  refine aw_lload_n dX9_split_88 rfl rfl ?_
  obtain ⟨r1, e2, h⟩ := h
  refine aw_invVv (M := MX9_split) (ci := 9) [vI y0, vI x2, vJ x3] e2 mo_X9_addToken rfl lm_X9_72 li_X9_addToken ls_X9_addToken (by decide +kernel) dX9_split_89 rfl (Nat.le_of_ble_eq_true rfl) (ACv.mono (fun σ3 h => ?_) h)
  refine aw_goto (tgt := 148) dX9_split_92 (by decide) ?_
  refine aw_iload_n dX9_split_148 rfl rfl ?_
  refine aw_iconst (x := 1) dX9_split_149 rfl ?_
  obtain ⟨⟨c4, c4x⟩, h⟩ := h
  refine aw_iaddc dX9_split_150 c4 c4x ?_
  refine aw_iload_n dX9_split_151 rfl rfl ?_
  refine aw_invSi (M := MX9_split) [vI (x2 + 1), vI x1] mo_J9_max_7cf53 rfl lm_X9_81 lt_J9_max_7cf53 dX9_split_152 rfl (Nat.le_of_ble_eq_true rfl) (ACi.mono (fun v6 σ5 h => ?_) h)
  refine aw_istore_n (L' := [some (vR 9 (some x0)), some (vI x1), some (vI v6), some (vJ x3), none]) dX9_split_155 rfl (by decide) rfl ?_
  refine aw_goto (tgt := 9) dX9_split_156 (by decide) ?_
  exact aw_fgt (L' := [some (vR 9 (some x0)), none, some (vI v6), none, none]) ⟨rfl, ⟨rfl, trivial⟩⟩ h
set_option maxRecDepth 4000 in
theorem bk_X9_split_143 {g : GP} {l : Launch} {d : Nat} {σ : St} {Q : Option AV → St → Prop} {x0 : Nat} {x1 : Int} {x2 : Int} {y0 : Int} {y1 : Option Nat} (hS : SOK g)
    (h : ∃ r1, y1 = some r1 ∧ ACv g l d MX9_addToken [vR 9 (some r1), vI y0, vI x2, vJ 0] σ (fun σ3 => R32 (x2 + 1) ∧ ACi g l d MJ9_max_7cf53 [vI (x2 + 1), vI x1] σ3 (fun v6 σ5 => AW g l (d + 1) MX9_split 9 [some (vR 9 (some x0)), none, some (vI v6), none, none] [] σ5 Q))) :
    AW g l (d + 1) MX9_split 143 [some (vR 9 (some x0)), some (vI x1), some (vI x2), none, none] [vI y0, vR 9 y1] σ Q := by
  refine aw_iload_n dX9_split_143 rfl rfl ?_
  refine aw_lconst (x := 0) dX9_split_144 rfl ?_
  obtain ⟨r1, e2, h⟩ := h
  refine aw_invVv (M := MX9_split) (ci := 9) [vI y0, vI x2, vJ 0] e2 mo_X9_addToken rfl lm_X9_72 li_X9_addToken ls_X9_addToken (by decide +kernel) dX9_split_145 rfl (Nat.le_of_ble_eq_true rfl) (ACv.mono (fun σ3 h => ?_) h)
  refine aw_iload_n dX9_split_148 rfl rfl ?_
  refine aw_iconst (x := 1) dX9_split_149 rfl ?_
  obtain ⟨⟨c4, c4x⟩, h⟩ := h
  refine aw_iaddc dX9_split_150 c4 c4x ?_
  refine aw_iload_n dX9_split_151 rfl rfl ?_
  refine aw_invSi (M := MX9_split) [vI (x2 + 1), vI x1] mo_J9_max_7cf53 rfl lm_X9_81 lt_J9_max_7cf53 dX9_split_152 rfl (Nat.le_of_ble_eq_true rfl) (ACi.mono (fun v6 σ5 h => ?_) h)
  refine aw_istore_n (L' := [some (vR 9 (some x0)), some (vI x1), some (vI v6), none, none]) dX9_split_155 rfl (by decide) rfl ?_
  refine aw_goto (tgt := 9) dX9_split_156 (by decide) ?_
  exact aw_fgt (L' := [some (vR 9 (some x0)), none, some (vI v6), none, none]) ⟨rfl, ⟨rfl, trivial⟩⟩ h
