set_option maxRecDepth 4000 in
theorem bk_X6_readUnion_0 {g : GP} {l : Launch} {d : Nat} {σ : St} {Q : Option AV → St → Prop} {x0 : Nat}
    (h : ∃ r1, gR σ 609 x0 0 = some r1 ∧ ∃ r3, gR σ 606 x0 0 = some r3 ∧ ACv g l d MX6_pass [vR 6 (some x0)] (sI (sI σ 201 r1 0 6) 213 r1 0 (gI σ 109 r3 0)) (fun σ5 => ACi g l d MX6_takeOwnName [vR 6 (some x0)] σ5 (fun v7 σ6 => ((v7 = 0 → Q (some (vI 0)) σ6) ∧ (¬ v7 = 0 → ACi g l d MX6_take [vR 6 (some x0), vI 208] σ6 (fun v10 σ9 => ((¬ v10 = 0 → ACi g l d MX6_readExpression [vR 6 (some x0)] σ9 (fun v13 σ12 => ∃ r14, gR σ9 609 x0 0 = some r14 ∧ ∃ r16, gR σ12 609 x0 0 = some r16 ∧ (((gI (sI σ12 209 r14 0 v13) 209 r16 0) = (-1) → Q (some (vI 0)) (sI σ12 209 r14 0 v13)) ∧ (¬ (gI (sI σ12 209 r14 0 v13) 209 r16 0) = (-1) → ACi g l d MX6_take [vR 6 (some x0), vI 123] (sI σ12 209 r14 0 v13) (fun v20 σ19 => ((¬ v20 = 0 → AW g l (d + 1) MX6_readUnion 83 [some (vR 6 (some x0)), some (vI 1), some (vI 0)] [] σ19 Q) ∧ (v20 = 0 → Q (some (vI 0)) σ19))))))) ∧ (v10 = 0 → Q (some (vI 0)) σ9)))))))) :
    AW g l (d + 1) MX6_readUnion 0 [some (vR 6 (some x0)), none, none] [] σ Q := by
  refine aw_aload_n dX6_readUnion_0 rfl rfl ?_
  refine aw_getR' (ci := 2) rfl fk_609 (by decide +kernel) lf_X6_106 dX6_readUnion_1 ?_
  refine aw_bipush (x := 6) dX6_readUnion_4 rfl ?_
  obtain ⟨r1, e2, h⟩ := h
  refine aw_putI' e2 fk_201 (Or.inl rfl) lf_X6_229 dX6_readUnion_6 ?_
  refine aw_aload_n dX6_readUnion_9 rfl rfl ?_
  refine aw_getRe (ci := 2) (v := gR σ 609 x0 0) rfl fk_609 (by decide +kernel) lf_X6_106 dX6_readUnion_10 rfl ?_
  refine aw_aload_n dX6_readUnion_13 rfl rfl ?_
  refine aw_getRe (ci := 1) (v := gR σ 606 x0 0) rfl fk_606 (by decide +kernel) lf_X6_66 dX6_readUnion_14 rfl ?_
  obtain ⟨r3, e4, h⟩ := h
  refine aw_getIe (v := gI σ 109 r3 0) e4 fk_109 lf_X6_139 dX6_readUnion_17 rfl ?_
  refine aw_putI' e2 fk_213 (Or.inl rfl) lf_X6_230 dX6_readUnion_20 ?_
  refine aw_aload_n dX6_readUnion_23 rfl rfl ?_
  refine aw_invVv (M := MX6_readUnion) (ci := 6) [] rfl mo_X6_pass rfl lm_X6_100 li_X6_pass ls_X6_pass (by decide +kernel) dX6_readUnion_24 rfl (Nat.le_of_ble_eq_true rfl) (ACv.mono (fun σ5 h => ?_) h)
  refine aw_aload_n dX6_readUnion_27 rfl rfl ?_
  refine aw_invVi (M := MX6_readUnion) (ci := 6) [] rfl mo_X6_takeOwnName rfl lm_X6_237 li_X6_takeOwnName ls_X6_takeOwnName (by decide +kernel) dX6_readUnion_28 rfl (Nat.le_of_ble_eq_true rfl) (ACi.mono (fun v7 σ6 h => ?_) h)
  refine aw_if_eq (tgt := 44) dX6_readUnion_31 (by decide) (fun k8 => ?_) (fun k8 => ?_)
  · replace h := h.1 k8
    refine aw_iconst (x := 0) dX6_readUnion_44 rfl ?_
    exact aw_zreturn dX6_readUnion_45 rfl (Or.inl rfl) h
  · replace h := h.2 k8
    refine aw_aload_n dX6_readUnion_34 rfl rfl ?_
    refine aw_sipush (x := 208) dX6_readUnion_35 rfl ?_
    refine aw_invVi (M := MX6_readUnion) (ci := 6) [vI 208] rfl mo_X6_take rfl lm_X6_116 li_X6_take ls_X6_take (by decide +kernel) dX6_readUnion_38 rfl (Nat.le_of_ble_eq_true rfl) (ACi.mono (fun v10 σ9 h => ?_) h)
    refine aw_if_ne (tgt := 46) dX6_readUnion_41 (by decide) (fun k11 => ?_) (fun k11 => ?_)
    · replace h := h.1 k11
      refine aw_aload_n dX6_readUnion_46 rfl rfl ?_
      refine aw_getR' (ci := 2) rfl fk_609 (by decide +kernel) lf_X6_106 dX6_readUnion_47 ?_
      refine aw_aload_n dX6_readUnion_50 rfl rfl ?_
      refine aw_invVi (M := MX6_readUnion) (ci := 6) [] rfl mo_X6_readExpression rfl lm_X6_58 li_X6_readExpression ls_X6_readExpression (by decide +kernel) dX6_readUnion_51 rfl (Nat.le_of_ble_eq_true rfl) (ACi.mono (fun v13 σ12 h => ?_) h)
      obtain ⟨r14, e15, h⟩ := h
      refine aw_putI' e15 fk_209 (Or.inl rfl) lf_X6_251 dX6_readUnion_54 ?_
      refine aw_aload_n dX6_readUnion_57 rfl rfl ?_
      refine aw_getRe (ci := 2) (v := gR σ12 609 x0 0) rfl fk_609 (by decide +kernel) lf_X6_106 dX6_readUnion_58 rfl ?_
      obtain ⟨r16, e17, h⟩ := h
      refine aw_getI' e17 fk_209 lf_X6_251 dX6_readUnion_61 ?_
      refine aw_iconst (x := (-1)) dX6_readUnion_64 rfl ?_
      refine aw_icmp_eq (tgt := 77) dX6_readUnion_65 (by decide) (fun k18 => ?_) (fun k18 => ?_)
      · replace h := h.1 k18
        refine aw_iconst (x := 0) dX6_readUnion_77 rfl ?_
        exact aw_zreturn dX6_readUnion_78 rfl (Or.inl rfl) h
      · replace h := h.2 k18
        refine aw_aload_n dX6_readUnion_68 rfl rfl ?_
        refine aw_bipush (x := 123) dX6_readUnion_69 rfl ?_
        refine aw_invVi (M := MX6_readUnion) (ci := 6) [vI 123] rfl mo_X6_take rfl lm_X6_116 li_X6_take ls_X6_take (by decide +kernel) dX6_readUnion_71 rfl (Nat.le_of_ble_eq_true rfl) (ACi.mono (fun v20 σ19 h => ?_) h)
        refine aw_if_ne (tgt := 79) dX6_readUnion_74 (by decide) (fun k21 => ?_) (fun k21 => ?_)
        · replace h := h.1 k21
          refine aw_iconst (x := 1) dX6_readUnion_79 rfl ?_
          refine aw_istore_n (L' := [some (vR 6 (some x0)), some (vI 1), none]) dX6_readUnion_80 rfl (by decide) rfl ?_
          refine aw_iconst (x := 0) dX6_readUnion_81 rfl ?_
          refine aw_istore_n (L' := [some (vR 6 (some x0)), some (vI 1), some (vI 0)]) dX6_readUnion_82 rfl (by decide) rfl ?_
          exact aw_fgt (L' := [some (vR 6 (some x0)), some (vI 1), some (vI 0)]) ⟨rfl, ⟨rfl, ⟨rfl, trivial⟩⟩⟩ h
        · replace h := h.2 k21
          refine aw_iconst (x := 0) dX6_readUnion_77 rfl ?_
          exact aw_zreturn dX6_readUnion_78 rfl (Or.inl rfl) h
    · replace h := h.2 k11
      refine aw_iconst (x := 0) dX6_readUnion_44 rfl ?_
      exact aw_zreturn dX6_readUnion_45 rfl (Or.inl rfl) h
set_option maxRecDepth 4000 in
theorem bk_X6_readUnion_83 {g : GP} {l : Launch} {d : Nat} {σ : St} {Q : Option AV → St → Prop} {x0 : Nat} {x1 : Int} {x2 : Int}
    (h : ((8 < x2 → AW g l (d + 1) MX6_readUnion 131 [some (vR 6 (some x0)), none, none] [] σ Q) ∧ (¬ 8 < x2 → ((x1 = 0 → AW g l (d + 1) MX6_readUnion 131 [some (vR 6 (some x0)), none, none] [] σ Q) ∧ (¬ x1 = 0 → ACi g l d MX6_readCase [vR 6 (some x0)] σ (fun v4 σ3 => ((¬ v4 = 0 → (((gI σ3 604 x0 0) = 3 → R32 (x2 + 1) ∧ AW g l (d + 1) MX6_readUnion 83 [some (vR 6 (some x0)), some (vI 1), some (vI (x2 + 1))] [] σ3 Q) ∧ (¬ (gI σ3 604 x0 0) = 3 → ((¬ (gI σ3 604 x0 0) = 45 → R32 (x2 + 1) ∧ AW g l (d + 1) MX6_readUnion 83 [some (vR 6 (some x0)), some (vI 0), some (vI (x2 + 1))] [] σ3 Q) ∧ ((gI σ3 604 x0 0) = 45 → R32 (x2 + 1) ∧ AW g l (d + 1) MX6_readUnion 83 [some (vR 6 (some x0)), some (vI 1), some (vI (x2 + 1))] [] σ3 Q))))) ∧ (v4 = 0 → Q (some (vI 0)) σ3)))))))) :
    AW g l (d + 1) MX6_readUnion 83 [some (vR 6 (some x0)), some (vI x1), some (vI x2)] [] σ Q := by
  refine aw_iload_n dX6_readUnion_83 rfl rfl ?_
  refine aw_bipush (x := 8) dX6_readUnion_84 rfl ?_
  refine aw_icmp_gt (tgt := 131) dX6_readUnion_86 (by decide) (fun k1 => ?_) (fun k1 => ?_)
  · replace h := h.1 k1
    exact aw_fgt (L' := [some (vR 6 (some x0)), none, none]) ⟨rfl, trivial⟩ h
  · replace h := h.2 k1
    refine aw_iload_n dX6_readUnion_89 rfl rfl ?_
    refine aw_if_eq (tgt := 131) dX6_readUnion_90 (by decide) (fun k2 => ?_) (fun k2 => ?_)
    · replace h := h.1 k2
      exact aw_fgt (L' := [some (vR 6 (some x0)), none, none]) ⟨rfl, trivial⟩ h
    · replace h := h.2 k2
      refine aw_aload_n dX6_readUnion_93 rfl rfl ?_
      refine aw_invVi (M := MX6_readUnion) (ci := 6) [] rfl mo_X6_readCase rfl lm_X6_277 li_X6_readCase ls_X6_readCase (by decide +kernel) dX6_readUnion_94 rfl (Nat.le_of_ble_eq_true rfl) (ACi.mono (fun v4 σ3 h => ?_) h)
      refine aw_if_ne (tgt := 102) dX6_readUnion_97 (by decide) (fun k5 => ?_) (fun k5 => ?_)
      · replace h := h.1 k5
        refine aw_aload_n dX6_readUnion_102 rfl rfl ?_
        refine aw_getI' rfl fk_604 lf_X6_24 dX6_readUnion_103 ?_
        refine aw_iconst (x := 3) dX6_readUnion_106 rfl ?_
        refine aw_icmp_eq (tgt := 119) dX6_readUnion_107 (by decide) (fun k6 => ?_) (fun k6 => ?_)
        · replace h := h.1 k6
          refine aw_iconst (x := 1) dX6_readUnion_119 rfl ?_
          refine aw_goto (tgt := 124) dX6_readUnion_120 (by decide) ?_
          refine aw_istore_n (L' := [some (vR 6 (some x0)), some (vI 1), some (vI x2)]) dX6_readUnion_124 rfl (by decide) rfl ?_
          obtain ⟨⟨c7, c7x⟩, h⟩ := h
          refine aw_iincc (L' := [some (vR 6 (some x0)), some (vI 1), some (vI (x2 + 1))]) dX6_readUnion_125 rfl (by decide) rfl c7 c7x rfl ?_
          refine aw_goto (tgt := 83) dX6_readUnion_128 (by decide) ?_
          exact aw_fgt (L' := [some (vR 6 (some x0)), some (vI 1), some (vI (x2 + 1))]) ⟨rfl, ⟨rfl, ⟨rfl, trivial⟩⟩⟩ h
        · replace h := h.2 k6
          refine aw_aload_n dX6_readUnion_110 rfl rfl ?_
          refine aw_getI' rfl fk_604 lf_X6_24 dX6_readUnion_111 ?_
          refine aw_bipush (x := 45) dX6_readUnion_114 rfl ?_
          refine aw_icmp_ne (tgt := 123) dX6_readUnion_116 (by decide) (fun k8 => ?_) (fun k8 => ?_)
          · replace h := h.1 k8
            refine aw_iconst (x := 0) dX6_readUnion_123 rfl ?_
            refine aw_istore_n (L' := [some (vR 6 (some x0)), some (vI 0), some (vI x2)]) dX6_readUnion_124 rfl (by decide) rfl ?_
            obtain ⟨⟨c9, c9x⟩, h⟩ := h
            refine aw_iincc (L' := [some (vR 6 (some x0)), some (vI 0), some (vI (x2 + 1))]) dX6_readUnion_125 rfl (by decide) rfl c9 c9x rfl ?_
            refine aw_goto (tgt := 83) dX6_readUnion_128 (by decide) ?_
            exact aw_fgt (L' := [some (vR 6 (some x0)), some (vI 0), some (vI (x2 + 1))]) ⟨rfl, ⟨rfl, ⟨rfl, trivial⟩⟩⟩ h
          · replace h := h.2 k8
            refine aw_iconst (x := 1) dX6_readUnion_119 rfl ?_
            refine aw_goto (tgt := 124) dX6_readUnion_120 (by decide) ?_
            refine aw_istore_n (L' := [some (vR 6 (some x0)), some (vI 1), some (vI x2)]) dX6_readUnion_124 rfl (by decide) rfl ?_
            obtain ⟨⟨c10, c10x⟩, h⟩ := h
            refine aw_iincc (L' := [some (vR 6 (some x0)), some (vI 1), some (vI (x2 + 1))]) dX6_readUnion_125 rfl (by decide) rfl c10 c10x rfl ?_
            refine aw_goto (tgt := 83) dX6_readUnion_128 (by decide) ?_
            exact aw_fgt (L' := [some (vR 6 (some x0)), some (vI 1), some (vI (x2 + 1))]) ⟨rfl, ⟨rfl, ⟨rfl, trivial⟩⟩⟩ h
      · replace h := h.2 k5
        refine aw_iconst (x := 0) dX6_readUnion_100 rfl ?_
        exact aw_zreturn dX6_readUnion_101 rfl (Or.inl rfl) h
set_option maxRecDepth 4000 in
theorem bk_X6_readUnion_131 {g : GP} {l : Launch} {d : Nat} {σ : St} {Q : Option AV → St → Prop} {x0 : Nat}
    (h : ACi g l d MX6_takeIf [vR 6 (some x0), vI 209] σ (fun v2 σ1 => ((v2 = 0 → ACi g l d MX6_take [vR 6 (some x0), vI 125] σ1 (fun v5 σ4 => ((v5 = 0 ∨ v5 = 1) ∧ Q (some (vI v5)) σ4))) ∧ (¬ v2 = 0 → ACi g l d MX6_takeStructure [vR 6 (some x0)] σ1 (fun v7 σ6 => ∃ r8, gR σ1 609 x0 0 = some r8 ∧ ∃ r10, gR σ6 609 x0 0 = some r10 ∧ (((gI (sI σ6 212 r8 0 v7) 212 r10 0) = (-1) → Q (some (vI 0)) (sI σ6 212 r8 0 v7)) ∧ (¬ (gI (sI σ6 212 r8 0 v7) 212 r10 0) = (-1) → ACi g l d MX6_take [vR 6 (some x0), vI 59] (sI σ6 212 r8 0 v7) (fun v14 σ13 => ((¬ v14 = 0 → ACi g l d MX6_take [vR 6 (some x0), vI 125] σ13 (fun v17 σ16 => ((v17 = 0 ∨ v17 = 1) ∧ Q (some (vI v17)) σ16))) ∧ (v14 = 0 → Q (some (vI 0)) σ13)))))))))) :
    AW g l (d + 1) MX6_readUnion 131 [some (vR 6 (some x0)), none, none] [] σ Q := by
  refine aw_aload_n dX6_readUnion_131 rfl rfl ?_
  refine aw_sipush (x := 209) dX6_readUnion_132 rfl ?_
  refine aw_invVi (M := MX6_readUnion) (ci := 6) [vI 209] rfl mo_X6_takeIf rfl lm_X6_148 li_X6_takeIf ls_X6_takeIf (by decide +kernel) dX6_readUnion_135 rfl (Nat.le_of_ble_eq_true rfl) (ACi.mono (fun v2 σ1 h => ?_) h)
  refine aw_if_eq (tgt := 174) dX6_readUnion_138 (by decide) (fun k3 => ?_) (fun k3 => ?_)
  · replace h := h.1 k3
    refine aw_aload_n dX6_readUnion_174 rfl rfl ?_
    refine aw_bipush (x := 125) dX6_readUnion_175 rfl ?_
    refine aw_invVi (M := MX6_readUnion) (ci := 6) [vI 125] rfl mo_X6_take rfl lm_X6_116 li_X6_take ls_X6_take (by decide +kernel) dX6_readUnion_177 rfl (Nat.le_of_ble_eq_true rfl) (ACi.mono (fun v5 σ4 h => ?_) h)
    exact aw_zreturn dX6_readUnion_180 rfl h.1 h.2
  · replace h := h.2 k3
    refine aw_aload_n dX6_readUnion_141 rfl rfl ?_
    refine aw_getR' (ci := 2) rfl fk_609 (by decide +kernel) lf_X6_106 dX6_readUnion_142 ?_
    refine aw_aload_n dX6_readUnion_145 rfl rfl ?_
    refine aw_invVi (M := MX6_readUnion) (ci := 6) [] rfl mo_X6_takeStructure rfl lm_X6_240 li_X6_takeStructure ls_X6_takeStructure (by decide +kernel) dX6_readUnion_146 rfl (Nat.le_of_ble_eq_true rfl) (ACi.mono (fun v7 σ6 h => ?_) h)
    obtain ⟨r8, e9, h⟩ := h
    refine aw_putI' e9 fk_212 (Or.inl rfl) lf_X6_280 dX6_readUnion_149 ?_
    refine aw_aload_n dX6_readUnion_152 rfl rfl ?_
    refine aw_getRe (ci := 2) (v := gR σ6 609 x0 0) rfl fk_609 (by decide +kernel) lf_X6_106 dX6_readUnion_153 rfl ?_
    obtain ⟨r10, e11, h⟩ := h
    refine aw_getI' e11 fk_212 lf_X6_280 dX6_readUnion_156 ?_
    refine aw_iconst (x := (-1)) dX6_readUnion_159 rfl ?_
    refine aw_icmp_eq (tgt := 172) dX6_readUnion_160 (by decide) (fun k12 => ?_) (fun k12 => ?_)
    · replace h := h.1 k12
      refine aw_iconst (x := 0) dX6_readUnion_172 rfl ?_
      exact aw_zreturn dX6_readUnion_173 rfl (Or.inl rfl) h
    · replace h := h.2 k12
      refine aw_aload_n dX6_readUnion_163 rfl rfl ?_
      refine aw_bipush (x := 59) dX6_readUnion_164 rfl ?_
      refine aw_invVi (M := MX6_readUnion) (ci := 6) [vI 59] rfl mo_X6_take rfl lm_X6_116 li_X6_take ls_X6_take (by decide +kernel) dX6_readUnion_166 rfl (Nat.le_of_ble_eq_true rfl) (ACi.mono (fun v14 σ13 h => ?_) h)
      refine aw_if_ne (tgt := 174) dX6_readUnion_169 (by decide) (fun k15 => ?_) (fun k15 => ?_)
      · replace h := h.1 k15
        refine aw_aload_n dX6_readUnion_174 rfl rfl ?_
        refine aw_bipush (x := 125) dX6_readUnion_175 rfl ?_
        refine aw_invVi (M := MX6_readUnion) (ci := 6) [vI 125] rfl mo_X6_take rfl lm_X6_116 li_X6_take ls_X6_take (by decide +kernel) dX6_readUnion_177 rfl (Nat.le_of_ble_eq_true rfl) (ACi.mono (fun v17 σ16 h => ?_) h)
        exact aw_zreturn dX6_readUnion_180 rfl h.1 h.2
      · replace h := h.2 k15
        refine aw_iconst (x := 0) dX6_readUnion_172 rfl ?_
        exact aw_zreturn dX6_readUnion_173 rfl (Or.inl rfl) h
set_option maxRecDepth 4000 in
theorem bk_X6_readWhole_0 {g : GP} {l : Launch} {d : Nat} {σ : St} {Q : Option AV → St → Prop} {x0 : Nat}
    (h : ∃ r1, gR σ 609 x0 0 = some r1 ∧ ACi g l d MX6_takeType [vR 6 (some x0)] (sI σ 201 r1 0 1) (fun v4 σ3 => ((v4 = 0 → Q (some (vI 0)) σ3) ∧ (¬ v4 = 0 → ACi g l d MX6_takeOwnName [vR 6 (some x0)] σ3 (fun v7 σ6 => ((v7 = 0 → Q (some (vI 0)) σ6) ∧ (¬ v7 = 0 → Q (some (vI 1)) σ6))))))) :
    AW g l (d + 1) MX6_readWhole 0 [some (vR 6 (some x0))] [] σ Q := by
  refine aw_aload_n dX6_readWhole_0 rfl rfl ?_
  refine aw_getR' (ci := 2) rfl fk_609 (by decide +kernel) lf_X6_106 dX6_readWhole_1 ?_
  refine aw_iconst (x := 1) dX6_readWhole_4 rfl ?_
  obtain ⟨r1, e2, h⟩ := h
  refine aw_putI' e2 fk_201 (Or.inl rfl) lf_X6_229 dX6_readWhole_5 ?_
  refine aw_aload_n dX6_readWhole_8 rfl rfl ?_
  refine aw_invVi (M := MX6_readWhole) (ci := 6) [] rfl mo_X6_takeType rfl lm_X6_234 li_X6_takeType ls_X6_takeType (by decide +kernel) dX6_readWhole_9 rfl (Nat.le_of_ble_eq_true rfl) (ACi.mono (fun v4 σ3 h => ?_) h)
  refine aw_if_eq (tgt := 26) dX6_readWhole_12 (by decide) (fun k5 => ?_) (fun k5 => ?_)
  · replace h := h.1 k5
    refine aw_iconst (x := 0) dX6_readWhole_26 rfl ?_
    exact aw_zreturn dX6_readWhole_27 rfl (Or.inl rfl) h
  · replace h := h.2 k5
    refine aw_aload_n dX6_readWhole_15 rfl rfl ?_
    refine aw_invVi (M := MX6_readWhole) (ci := 6) [] rfl mo_X6_takeOwnName rfl lm_X6_237 li_X6_takeOwnName ls_X6_takeOwnName (by decide +kernel) dX6_readWhole_16 rfl (Nat.le_of_ble_eq_true rfl) (ACi.mono (fun v7 σ6 h => ?_) h)
    refine aw_if_eq (tgt := 26) dX6_readWhole_19 (by decide) (fun k8 => ?_) (fun k8 => ?_)
    · replace h := h.1 k8
      refine aw_iconst (x := 0) dX6_readWhole_26 rfl ?_
      exact aw_zreturn dX6_readWhole_27 rfl (Or.inl rfl) h
    · replace h := h.2 k8
      refine aw_iconst (x := 1) dX6_readWhole_22 rfl ?_
      refine aw_goto (tgt := 27) dX6_readWhole_23 (by decide) ?_
      exact aw_zreturn dX6_readWhole_27 rfl (Or.inr rfl) h
set_option maxRecDepth 4000 in
theorem bk_X6_start_0 {g : GP} {l : Launch} {d : Nat} {σ : St} {Q : Option AV → St → Prop} {x0 : Nat} {x1 : Option Nat} {x2 : Option Nat} {x3 : Option Nat}
    (h : ∃ r1, x1 = some r1 ∧ LC 9 σ r1 ∧ Q none (sJ (sI (sI (sI (sI (sR (sR (sR σ 602 x0 0 x1) 606 x0 0 x2) 607 x0 0 x3) 600 x0 0 0) 601 x0 0 0) 603 x0 0 0) 604 x0 0 (gI σ 902 r1 0)) 605 x0 0 (gJ σ 904 r1 0))) :
    AW g l d MX6_start 0 [some (vR 6 (some x0)), some (vR 9 x1), some (vR 1 x2), some (vR 0 x3)] [] σ Q := by
  refine aw_aload_n dX6_start_0 rfl rfl ?_
  refine aw_aload_n dX6_start_1 rfl rfl ?_
  refine aw_putR' rfl fk_602 (by decide +kernel) (Or.inl rfl) lf_X6_62 dX6_start_2 ?_
  refine aw_aload_n dX6_start_5 rfl rfl ?_
  refine aw_aload_n dX6_start_6 rfl rfl ?_
  refine aw_putR' rfl fk_606 (by decide +kernel) (Or.inl rfl) lf_X6_66 dX6_start_7 ?_
  refine aw_aload_n dX6_start_10 rfl rfl ?_
  refine aw_aload_n dX6_start_11 rfl rfl ?_
  refine aw_putR' rfl fk_607 (by decide +kernel) (Or.inl rfl) lf_X6_70 dX6_start_12 ?_
  refine aw_aload_n dX6_start_15 rfl rfl ?_
  refine aw_iconst (x := 0) dX6_start_16 rfl ?_
  refine aw_putI' rfl fk_600 (Or.inl rfl) lf_X6_71 dX6_start_17 ?_
  refine aw_aload_n dX6_start_20 rfl rfl ?_
  refine aw_iconst (x := 0) dX6_start_21 rfl ?_
  refine aw_putI' rfl fk_601 (Or.inl rfl) lf_X6_74 dX6_start_22 ?_
  refine aw_aload_n dX6_start_25 rfl rfl ?_
  refine aw_iconst (x := 0) dX6_start_26 rfl ?_
  refine aw_putI' rfl fk_603 (Or.inl rfl) lf_X6_77 dX6_start_27 ?_
  refine aw_aload_n dX6_start_30 rfl rfl ?_
  refine aw_aload_n dX6_start_31 rfl rfl ?_
  obtain ⟨r1, e2, h⟩ := h
  obtain ⟨lc3, h⟩ := h
  refine aw_getA' e2 fk_902 (by decide) lf_X6_80 dX6_start_32 (LC.ne lc3 rfl rfl) ?_
  refine aw_iconst (x := 0) dX6_start_35 rfl ?_
  refine aw_ialoade (v := gI σ 902 r1 0) (by decide) rfl dX6_start_36 (by decide) (LC.lt lc3 rfl rfl (by decide)) rfl ?_
  refine aw_putI' rfl fk_604 (Or.inl rfl) lf_X6_24 dX6_start_37 ?_
  refine aw_aload_n dX6_start_40 rfl rfl ?_
  refine aw_aload_n dX6_start_41 rfl rfl ?_
  refine aw_getA' e2 fk_904 (by decide) lf_X6_86 dX6_start_42 (LC.ne lc3 rfl rfl) ?_
  refine aw_iconst (x := 0) dX6_start_45 rfl ?_
  refine aw_laloade (v := gJ σ 904 r1 0) (by decide) rfl dX6_start_46 (by decide) (LC.lt lc3 rfl rfl (by decide)) rfl ?_
  refine aw_putJ' rfl fk_605 (Or.inl rfl) lf_X6_90 dX6_start_47 ?_
  exact aw_ret h rfl dX6_start_50
set_option maxRecDepth 4000 in
theorem bk_X6_startsCore_0 {g : GP} {l : Launch} {d : Nat} {σ : St} {Q : Option AV → St → Prop} {x0 : Nat}
    (h : (((gI σ 604 x0 0) = 2 → ∃ r1, gR σ 606 x0 0 = some r1 ∧ ACi g l d MX1_structureNamed [vR 1 (some r1), vJ (gJ σ 605 x0 0)] σ (fun v4 σ3 => ((v4 = (-1) → ACi g l d MX6_check [vR 6 (some x0), vI 0, vI 4] σ3 (fun v7 σ6 => ((v7 = 0 ∨ v7 = 1) ∧ Q (some (vI v7)) σ6))) ∧ (¬ v4 = (-1) → ACi g l d MX6_check [vR 6 (some x0), vI 1, vI 4] σ3 (fun v9 σ8 => ((v9 = 0 ∨ v9 = 1) ∧ Q (some (vI v9)) σ8)))))) ∧ ((gI σ 604 x0 0) = 4 → Q (some (vI 1)) σ) ∧ ((gI σ 604 x0 0) = 204 → Q (some (vI 1)) σ) ∧ ((gI σ 604 x0 0) = 205 → Q (some (vI 1)) σ) ∧ ((gI σ 604 x0 0) = 207 → Q (some (vI 1)) σ) ∧ ((gI σ 604 x0 0) = 210 → Q (some (vI 1)) σ) ∧ ((gI σ 604 x0 0) = 214 → Q (some (vI 1)) σ) ∧ ((gI σ 604 x0 0) = 215 → Q (some (vI 1)) σ) ∧ ((gI σ 604 x0 0) = 216 → Q (some (vI 1)) σ) ∧ (¬ (gI σ 604 x0 0) = 2 → ¬ (gI σ 604 x0 0) = 4 → ¬ (gI σ 604 x0 0) = 204 → ¬ (gI σ 604 x0 0) = 205 → ¬ (gI σ 604 x0 0) = 207 → ¬ (gI σ 604 x0 0) = 210 → ¬ (gI σ 604 x0 0) = 214 → ¬ (gI σ 604 x0 0) = 215 → ¬ (gI σ 604 x0 0) = 216 → ACi g l d MX6_check [vR 6 (some x0), vI 0, vI 2] σ (fun v11 σ10 => ((v11 = 0 ∨ v11 = 1) ∧ Q (some (vI v11)) σ10))))) :
    AW g l (d + 1) MX6_startsCore 0 [some (vR 6 (some x0))] [] σ Q := by
  refine aw_aload_n dX6_startsCore_0 rfl rfl ?_
  refine aw_getI' rfl fk_604 lf_X6_24 dX6_startsCore_1 ?_
  obtain ⟨h0, h1, h2, h3, h4, h5, h6, h7, h8, hd⟩ := h
  refine aw_lookup (M := MX6_startsCore) (dt := 116) [(2, 90), (4, 88), (204, 88), (205, 88), (207, 88), (210, 88), (214, 88), (215, 88), (216, 88)] dX6_startsCore_4 (by decide) (by decide) (by decide) ⟨fun hc => ?_, fun n0 => ⟨fun hc => ?_, fun n1 => ⟨fun hc => ?_, fun n2 => ⟨fun hc => ?_, fun n3 => ⟨fun hc => ?_, fun n4 => ⟨fun hc => ?_, fun n5 => ⟨fun hc => ?_, fun n6 => ⟨fun hc => ?_, fun n7 => ⟨fun hc => ?_, fun n8 => ?_⟩⟩⟩⟩⟩⟩⟩⟩⟩
  · have h := h0 hc; clear h0 h1 h2 h3 h4 h5 h6 h7 h8 hd
    refine aw_aload_n dX6_startsCore_90 rfl rfl ?_
    refine aw_aload_n dX6_startsCore_91 rfl rfl ?_
    refine aw_getR' (ci := 1) rfl fk_606 (by decide +kernel) lf_X6_66 dX6_startsCore_92 ?_
    refine aw_aload_n dX6_startsCore_95 rfl rfl ?_
    refine aw_getJ' rfl fk_605 lf_X6_90 dX6_startsCore_96 ?_
    obtain ⟨r1, e2, h⟩ := h
    refine aw_invVi (M := MX6_startsCore) (ci := 1) [vJ (gJ σ 605 x0 0)] e2 mo_X1_structureNamed rfl lm_X6_120 li_X1_structureNamed ls_X1_structureNamed (by decide +kernel) dX6_startsCore_99 rfl (Nat.le_of_ble_eq_true rfl) (ACi.mono (fun v4 σ3 h => ?_) h)
    refine aw_iconst (x := (-1)) dX6_startsCore_102 rfl ?_
    refine aw_icmp_eq (tgt := 110) dX6_startsCore_103 (by decide) (fun k5 => ?_) (fun k5 => ?_)
    · replace h := h.1 k5
      refine aw_iconst (x := 0) dX6_startsCore_110 rfl ?_
      refine aw_iconst (x := 4) dX6_startsCore_111 rfl ?_
      refine aw_invVi (M := MX6_startsCore) (ci := 6) [vI 0, vI 4] rfl mo_X6_check rfl lm_X6_28 li_X6_check ls_X6_check (by decide +kernel) dX6_startsCore_112 rfl (Nat.le_of_ble_eq_true rfl) (ACi.mono (fun v7 σ6 h => ?_) h)
      exact aw_zreturn dX6_startsCore_115 rfl h.1 h.2
    · replace h := h.2 k5
      refine aw_iconst (x := 1) dX6_startsCore_106 rfl ?_
      refine aw_goto (tgt := 111) dX6_startsCore_107 (by decide) ?_
      refine aw_iconst (x := 4) dX6_startsCore_111 rfl ?_
      refine aw_invVi (M := MX6_startsCore) (ci := 6) [vI 1, vI 4] rfl mo_X6_check rfl lm_X6_28 li_X6_check ls_X6_check (by decide +kernel) dX6_startsCore_112 rfl (Nat.le_of_ble_eq_true rfl) (ACi.mono (fun v9 σ8 h => ?_) h)
      exact aw_zreturn dX6_startsCore_115 rfl h.1 h.2
  · have h := h1 hc; clear h0 h1 h2 h3 h4 h5 h6 h7 h8 hd
    refine aw_iconst (x := 1) dX6_startsCore_88 rfl ?_
    exact aw_zreturn dX6_startsCore_89 rfl (Or.inr rfl) h
  · have h := h2 hc; clear h0 h1 h2 h3 h4 h5 h6 h7 h8 hd
    refine aw_iconst (x := 1) dX6_startsCore_88 rfl ?_
    exact aw_zreturn dX6_startsCore_89 rfl (Or.inr rfl) h
  · have h := h3 hc; clear h0 h1 h2 h3 h4 h5 h6 h7 h8 hd
    refine aw_iconst (x := 1) dX6_startsCore_88 rfl ?_
    exact aw_zreturn dX6_startsCore_89 rfl (Or.inr rfl) h
  · have h := h4 hc; clear h0 h1 h2 h3 h4 h5 h6 h7 h8 hd
    refine aw_iconst (x := 1) dX6_startsCore_88 rfl ?_
    exact aw_zreturn dX6_startsCore_89 rfl (Or.inr rfl) h
  · have h := h5 hc; clear h0 h1 h2 h3 h4 h5 h6 h7 h8 hd
    refine aw_iconst (x := 1) dX6_startsCore_88 rfl ?_
    exact aw_zreturn dX6_startsCore_89 rfl (Or.inr rfl) h
  · have h := h6 hc; clear h0 h1 h2 h3 h4 h5 h6 h7 h8 hd
    refine aw_iconst (x := 1) dX6_startsCore_88 rfl ?_
    exact aw_zreturn dX6_startsCore_89 rfl (Or.inr rfl) h
  · have h := h7 hc; clear h0 h1 h2 h3 h4 h5 h6 h7 h8 hd
    refine aw_iconst (x := 1) dX6_startsCore_88 rfl ?_
    exact aw_zreturn dX6_startsCore_89 rfl (Or.inr rfl) h
  · have h := h8 hc; clear h0 h1 h2 h3 h4 h5 h6 h7 h8 hd
    refine aw_iconst (x := 1) dX6_startsCore_88 rfl ?_
    exact aw_zreturn dX6_startsCore_89 rfl (Or.inr rfl) h
  · have h := hd n0 n1 n2 n3 n4 n5 n6 n7 n8; clear h0 h1 h2 h3 h4 h5 h6 h7 h8 hd
    refine aw_aload_n dX6_startsCore_116 rfl rfl ?_
    refine aw_iconst (x := 0) dX6_startsCore_117 rfl ?_
    refine aw_iconst (x := 2) dX6_startsCore_118 rfl ?_
    refine aw_invVi (M := MX6_startsCore) (ci := 6) [vI 0, vI 2] rfl mo_X6_check rfl lm_X6_28 li_X6_check ls_X6_check (by decide +kernel) dX6_startsCore_119 rfl (Nat.le_of_ble_eq_true rfl) (ACi.mono (fun v11 σ10 h => ?_) h)
    exact aw_zreturn dX6_startsCore_122 rfl h.1 h.2
set_option maxRecDepth 4000 in
theorem bk_X6_take_0 {g : GP} {l : Launch} {d : Nat} {σ : St} {Q : Option AV → St → Prop} {x0 : Nat} {x1 : Int}
    (h : ((¬ (gI σ 604 x0 0) = x1 → AW g l (d + 1) MX6_take 14 [some (vR 6 (some x0)), none] [vI 0, vR 6 (some x0)] σ Q) ∧ ((gI σ 604 x0 0) = x1 → AW g l (d + 1) MX6_take 14 [some (vR 6 (some x0)), none] [vI 1, vR 6 (some x0)] σ Q))) :
    AW g l (d + 1) MX6_take 0 [some (vR 6 (some x0)), some (vI x1)] [] σ Q := by
  refine aw_aload_n dX6_take_0 rfl rfl ?_
  refine aw_aload_n dX6_take_1 rfl rfl ?_
  refine aw_getI' rfl fk_604 lf_X6_24 dX6_take_2 ?_
  refine aw_iload_n dX6_take_5 rfl rfl ?_
  refine aw_icmp_ne (tgt := 13) dX6_take_6 (by decide) (fun k1 => ?_) (fun k1 => ?_)
  · replace h := h.1 k1
    refine aw_iconst (x := 0) dX6_take_13 rfl ?_
    exact aw_fgt (L' := [some (vR 6 (some x0)), none]) ⟨rfl, trivial⟩ h
  · replace h := h.2 k1
    refine aw_iconst (x := 1) dX6_take_9 rfl ?_
    refine aw_goto (tgt := 14) dX6_take_10 (by decide) ?_
    exact aw_fgt (L' := [some (vR 6 (some x0)), none]) ⟨rfl, trivial⟩ h
set_option maxRecDepth 4000 in
theorem bk_X6_take_14 {g : GP} {l : Launch} {d : Nat} {σ : St} {Q : Option AV → St → Prop} {x0 : Nat} {y0 : Int} {y1 : Option Nat}
    (h : ∃ r1, y1 = some r1 ∧ ACi g l d MX6_check [vR 6 (some r1), vI y0, vI 2] σ (fun v4 σ3 => ((¬ v4 = 0 → ACv g l d MX6_pass [vR 6 (some x0)] σ3 (fun σ6 => Q (some (vI 1)) σ6)) ∧ (v4 = 0 → Q (some (vI 0)) σ3)))) :
    AW g l (d + 1) MX6_take 14 [some (vR 6 (some x0)), none] [vI y0, vR 6 y1] σ Q := by
  refine aw_iconst (x := 2) dX6_take_14 rfl ?_
  obtain ⟨r1, e2, h⟩ := h
  refine aw_invVi (M := MX6_take) (ci := 6) [vI y0, vI 2] e2 mo_X6_check rfl lm_X6_28 li_X6_check ls_X6_check (by decide +kernel) dX6_take_15 rfl (Nat.le_of_ble_eq_true rfl) (ACi.mono (fun v4 σ3 h => ?_) h)
  refine aw_if_ne (tgt := 23) dX6_take_18 (by decide) (fun k5 => ?_) (fun k5 => ?_)
  · replace h := h.1 k5
    refine aw_aload_n dX6_take_23 rfl rfl ?_
    refine aw_invVv (M := MX6_take) (ci := 6) [] rfl mo_X6_pass rfl lm_X6_100 li_X6_pass ls_X6_pass (by decide +kernel) dX6_take_24 rfl (Nat.le_of_ble_eq_true rfl) (ACv.mono (fun σ6 h => ?_) h)
    refine aw_iconst (x := 1) dX6_take_27 rfl ?_
    exact aw_zreturn dX6_take_28 rfl (Or.inr rfl) h
  · replace h := h.2 k5
    refine aw_iconst (x := 0) dX6_take_21 rfl ?_
    exact aw_zreturn dX6_take_22 rfl (Or.inl rfl) h
set_option maxRecDepth 4000 in
theorem bk_X6_takeEnum_0 {g : GP} {l : Launch} {d : Nat} {σ : St} {Q : Option AV → St → Prop} {x0 : Nat}
    (h : ∃ r1, gR σ 606 x0 0 = some r1 ∧ ACi g l d MX1_enumNamed [vR 1 (some r1), vJ (gJ σ 605 x0 0)] σ (fun v4 σ3 => ((¬ (gI σ3 604 x0 0) = 2 → AW g l (d + 1) MX6_takeEnum 26 [some (vR 6 (some x0)), some (vI v4)] [vI 0, vR 6 (some x0)] σ3 Q) ∧ ((gI σ3 604 x0 0) = 2 → AW g l (d + 1) MX6_takeEnum 26 [some (vR 6 (some x0)), some (vI v4)] [vI 1, vR 6 (some x0)] σ3 Q)))) :
    AW g l (d + 1) MX6_takeEnum 0 [some (vR 6 (some x0)), none] [] σ Q := by
  refine aw_aload_n dX6_takeEnum_0 rfl rfl ?_
  refine aw_getR' (ci := 1) rfl fk_606 (by decide +kernel) lf_X6_66 dX6_takeEnum_1 ?_
  refine aw_aload_n dX6_takeEnum_4 rfl rfl ?_
  refine aw_getJ' rfl fk_605 lf_X6_90 dX6_takeEnum_5 ?_
  obtain ⟨r1, e2, h⟩ := h
  refine aw_invVi (M := MX6_takeEnum) (ci := 1) [vJ (gJ σ 605 x0 0)] e2 mo_X1_enumNamed rfl lm_X6_124 li_X1_enumNamed ls_X1_enumNamed (by decide +kernel) dX6_takeEnum_8 rfl (Nat.le_of_ble_eq_true rfl) (ACi.mono (fun v4 σ3 h => ?_) h)
  refine aw_istore_n (L' := [some (vR 6 (some x0)), some (vI v4)]) dX6_takeEnum_11 rfl (by decide) rfl ?_
  refine aw_aload_n dX6_takeEnum_12 rfl rfl ?_
  refine aw_aload_n dX6_takeEnum_13 rfl rfl ?_
  refine aw_getI' rfl fk_604 lf_X6_24 dX6_takeEnum_14 ?_
  refine aw_iconst (x := 2) dX6_takeEnum_17 rfl ?_
  refine aw_icmp_ne (tgt := 25) dX6_takeEnum_18 (by decide) (fun k5 => ?_) (fun k5 => ?_)
  · replace h := h.1 k5
    refine aw_iconst (x := 0) dX6_takeEnum_25 rfl ?_
    exact aw_fgt (L' := [some (vR 6 (some x0)), some (vI v4)]) ⟨rfl, ⟨rfl, trivial⟩⟩ h
  · replace h := h.2 k5
    refine aw_iconst (x := 1) dX6_takeEnum_21 rfl ?_
    refine aw_goto (tgt := 26) dX6_takeEnum_22 (by decide) ?_
    exact aw_fgt (L' := [some (vR 6 (some x0)), some (vI v4)]) ⟨rfl, ⟨rfl, trivial⟩⟩ h
set_option maxRecDepth 4000 in
theorem bk_X6_takeEnum_26 {g : GP} {l : Launch} {d : Nat} {σ : St} {Q : Option AV → St → Prop} {x0 : Nat} {x1 : Int} {y0 : Int} {y1 : Option Nat}
    (h : ∃ r1, y1 = some r1 ∧ ACi g l d MX6_check [vR 6 (some r1), vI y0, vI 2] σ (fun v4 σ3 => ((v4 = 0 → Q (some (vI (-1))) σ3) ∧ (¬ v4 = 0 → ((x1 = (-1) → AW g l (d + 1) MX6_takeEnum 44 [some (vR 6 (some x0)), some (vI x1)] [vI 0, vR 6 (some x0)] σ3 Q) ∧ (¬ x1 = (-1) → AW g l (d + 1) MX6_takeEnum 44 [some (vR 6 (some x0)), some (vI x1)] [vI 1, vR 6 (some x0)] σ3 Q)))))) :
    AW g l (d + 1) MX6_takeEnum 26 [some (vR 6 (some x0)), some (vI x1)] [vI y0, vR 6 y1] σ Q := by
  refine aw_iconst (x := 2) dX6_takeEnum_26 rfl ?_
  obtain ⟨r1, e2, h⟩ := h
  refine aw_invVi (M := MX6_takeEnum) (ci := 6) [vI y0, vI 2] e2 mo_X6_check rfl lm_X6_28 li_X6_check ls_X6_check (by decide +kernel) dX6_takeEnum_27 rfl (Nat.le_of_ble_eq_true rfl) (ACi.mono (fun v4 σ3 h => ?_) h)
  refine aw_if_eq (tgt := 51) dX6_takeEnum_30 (by decide) (fun k5 => ?_) (fun k5 => ?_)
  · replace h := h.1 k5
    refine aw_iconst (x := (-1)) dX6_takeEnum_51 rfl ?_
    exact aw_ireturn dX6_takeEnum_52 rfl h
  · replace h := h.2 k5
    refine aw_aload_n dX6_takeEnum_33 rfl rfl ?_
    refine aw_iload_n dX6_takeEnum_34 rfl rfl ?_
    refine aw_iconst (x := (-1)) dX6_takeEnum_35 rfl ?_
    refine aw_icmp_eq (tgt := 43) dX6_takeEnum_36 (by decide) (fun k6 => ?_) (fun k6 => ?_)
    · replace h := h.1 k6
      refine aw_iconst (x := 0) dX6_takeEnum_43 rfl ?_
      exact aw_fgt (L' := [some (vR 6 (some x0)), some (vI x1)]) ⟨rfl, ⟨rfl, trivial⟩⟩ h
    · replace h := h.2 k6
      refine aw_iconst (x := 1) dX6_takeEnum_39 rfl ?_
      refine aw_goto (tgt := 44) dX6_takeEnum_40 (by decide) ?_
      exact aw_fgt (L' := [some (vR 6 (some x0)), some (vI x1)]) ⟨rfl, ⟨rfl, trivial⟩⟩ h
set_option maxRecDepth 4000 in
theorem bk_X6_takeEnum_44 {g : GP} {l : Launch} {d : Nat} {σ : St} {Q : Option AV → St → Prop} {x0 : Nat} {x1 : Int} {y0 : Int} {y1 : Option Nat}
    (h : ∃ r1, y1 = some r1 ∧ ACi g l d MX6_check [vR 6 (some r1), vI y0, vI 4] σ (fun v4 σ3 => ((¬ v4 = 0 → ACv g l d MX6_pass [vR 6 (some x0)] σ3 (fun σ6 => Q (some (vI x1)) σ6)) ∧ (v4 = 0 → Q (some (vI (-1))) σ3)))) :
    AW g l (d + 1) MX6_takeEnum 44 [some (vR 6 (some x0)), some (vI x1)] [vI y0, vR 6 y1] σ Q := by
  refine aw_iconst (x := 4) dX6_takeEnum_44 rfl ?_
  obtain ⟨r1, e2, h⟩ := h
  refine aw_invVi (M := MX6_takeEnum) (ci := 6) [vI y0, vI 4] e2 mo_X6_check rfl lm_X6_28 li_X6_check ls_X6_check (by decide +kernel) dX6_takeEnum_45 rfl (Nat.le_of_ble_eq_true rfl) (ACi.mono (fun v4 σ3 h => ?_) h)
  refine aw_if_ne (tgt := 53) dX6_takeEnum_48 (by decide) (fun k5 => ?_) (fun k5 => ?_)
  · replace h := h.1 k5
    refine aw_aload_n dX6_takeEnum_53 rfl rfl ?_
    refine aw_invVv (M := MX6_takeEnum) (ci := 6) [] rfl mo_X6_pass rfl lm_X6_100 li_X6_pass ls_X6_pass (by decide +kernel) dX6_takeEnum_54 rfl (Nat.le_of_ble_eq_true rfl) (ACv.mono (fun σ6 h => ?_) h)
    refine aw_iload_n dX6_takeEnum_57 rfl rfl ?_
    exact aw_ireturn dX6_takeEnum_58 rfl h
  · replace h := h.2 k5
    refine aw_iconst (x := (-1)) dX6_takeEnum_51 rfl ?_
    exact aw_ireturn dX6_takeEnum_52 rfl h
set_option maxRecDepth 4000 in
theorem bk_X6_takeIf_0 {g : GP} {l : Launch} {d : Nat} {σ : St} {Q : Option AV → St → Prop} {x0 : Nat} {x1 : Int}
    (h : ((¬ (gI σ 604 x0 0) = x1 → AW g l (d + 1) MX6_takeIf 13 [some (vR 6 (some x0)), none, none] [vI 0] σ Q) ∧ ((gI σ 604 x0 0) = x1 → AW g l (d + 1) MX6_takeIf 13 [some (vR 6 (some x0)), none, none] [vI 1] σ Q))) :
    AW g l (d + 1) MX6_takeIf 0 [some (vR 6 (some x0)), some (vI x1), none] [] σ Q := by
  refine aw_aload_n dX6_takeIf_0 rfl rfl ?_
  refine aw_getI' rfl fk_604 lf_X6_24 dX6_takeIf_1 ?_
  refine aw_iload_n dX6_takeIf_4 rfl rfl ?_
  refine aw_icmp_ne (tgt := 12) dX6_takeIf_5 (by decide) (fun k1 => ?_) (fun k1 => ?_)
  · replace h := h.1 k1
    refine aw_iconst (x := 0) dX6_takeIf_12 rfl ?_
    exact aw_fgt (L' := [some (vR 6 (some x0)), none, none]) ⟨rfl, trivial⟩ h
  · replace h := h.2 k1
    refine aw_iconst (x := 1) dX6_takeIf_8 rfl ?_
    refine aw_goto (tgt := 13) dX6_takeIf_9 (by decide) ?_
    exact aw_fgt (L' := [some (vR 6 (some x0)), none, none]) ⟨rfl, trivial⟩ h
set_option maxRecDepth 4000 in
theorem bk_X6_takeIf_13 {g : GP} {l : Launch} {d : Nat} {σ : St} {Q : Option AV → St → Prop} {x0 : Nat} {y0 : Int}
    (h : ((y0 = 0 → ((y0 = 0 ∨ y0 = 1) ∧ Q (some (vI y0)) σ)) ∧ (¬ y0 = 0 → ACv g l d MX6_pass [vR 6 (some x0)] σ (fun σ2 => ((y0 = 0 ∨ y0 = 1) ∧ Q (some (vI y0)) σ2))))) :
    AW g l (d + 1) MX6_takeIf 13 [some (vR 6 (some x0)), none, none] [vI y0] σ Q := by
  refine aw_istore_n (L' := [some (vR 6 (some x0)), none, some (vI y0)]) dX6_takeIf_13 rfl (by decide) rfl ?_
  refine aw_iload_n dX6_takeIf_14 rfl rfl ?_
  refine aw_if_eq (tgt := 22) dX6_takeIf_15 (by decide) (fun k1 => ?_) (fun k1 => ?_)
  · replace h := h.1 k1
    refine aw_iload_n dX6_takeIf_22 rfl rfl ?_
    exact aw_zreturn dX6_takeIf_23 rfl h.1 h.2
  · replace h := h.2 k1
    refine aw_aload_n dX6_takeIf_18 rfl rfl ?_
    refine aw_invVv (M := MX6_takeIf) (ci := 6) [] rfl mo_X6_pass rfl lm_X6_100 li_X6_pass ls_X6_pass (by decide +kernel) dX6_takeIf_19 rfl (Nat.le_of_ble_eq_true rfl) (ACv.mono (fun σ2 h => ?_) h)
    refine aw_iload_n dX6_takeIf_22 rfl rfl ?_
    exact aw_zreturn dX6_takeIf_23 rfl h.1 h.2
set_option maxRecDepth 4000 in
theorem bk_X6_takeNumber_0 {g : GP} {l : Launch} {d : Nat} {σ : St} {Q : Option AV → St → Prop} {x0 : Nat} {x1 : Int64} {x3 : Int64}
    (h : ((¬ (gI σ 604 x0 0) = 3 → AW g l (d + 1) MX6_takeNumber 22 [some (vR 6 (some x0)), some (vJ x1), none, some (vJ x3), none] [vI 0, vR 6 (some x0)] (sJ σ 610 x0 0 (gJ σ 605 x0 0)) Q) ∧ ((gI σ 604 x0 0) = 3 → AW g l (d + 1) MX6_takeNumber 22 [some (vR 6 (some x0)), some (vJ x1), none, some (vJ x3), none] [vI 1, vR 6 (some x0)] (sJ σ 610 x0 0 (gJ σ 605 x0 0)) Q))) :
    AW g l (d + 1) MX6_takeNumber 0 [some (vR 6 (some x0)), some (vJ x1), none, some (vJ x3), none] [] σ Q := by
  refine aw_aload_n dX6_takeNumber_0 rfl rfl ?_
  refine aw_aload_n dX6_takeNumber_1 rfl rfl ?_
  refine aw_getJ' rfl fk_605 lf_X6_90 dX6_takeNumber_2 ?_
  refine aw_putJ' rfl fk_610 (Or.inl rfl) lf_X6_103 dX6_takeNumber_5 ?_
  refine aw_aload_n dX6_takeNumber_8 rfl rfl ?_
  refine aw_aload_n dX6_takeNumber_9 rfl rfl ?_
  refine aw_getIe (v := gI σ 604 x0 0) rfl fk_604 lf_X6_24 dX6_takeNumber_10 rfl ?_
  refine aw_iconst (x := 3) dX6_takeNumber_13 rfl ?_
  refine aw_icmp_ne (tgt := 21) dX6_takeNumber_14 (by decide) (fun k1 => ?_) (fun k1 => ?_)
  · replace h := h.1 k1
    refine aw_iconst (x := 0) dX6_takeNumber_21 rfl ?_
    exact aw_fgt (L' := [some (vR 6 (some x0)), some (vJ x1), none, some (vJ x3), none]) ⟨rfl, ⟨rfl, ⟨rfl, trivial⟩⟩⟩ h
  · replace h := h.2 k1
    refine aw_iconst (x := 1) dX6_takeNumber_17 rfl ?_
    refine aw_goto (tgt := 22) dX6_takeNumber_18 (by decide) ?_
    exact aw_fgt (L' := [some (vR 6 (some x0)), some (vJ x1), none, some (vJ x3), none]) ⟨rfl, ⟨rfl, ⟨rfl, trivial⟩⟩⟩ h
set_option maxRecDepth 4000 in
theorem bk_X6_takeNumber_22 {g : GP} {l : Launch} {d : Nat} {σ : St} {Q : Option AV → St → Prop} {x0 : Nat} {x1 : Int64} {x3 : Int64} {y0 : Int} {y1 : Option Nat}
    (h : ∃ r1, y1 = some r1 ∧ ACi g l d MX6_check [vR 6 (some r1), vI y0, vI 2] σ (fun v4 σ3 => ((v4 = 0 → Q (some (vI 0)) σ3) ∧ (¬ v4 = 0 → (((gJ σ3 610 x0 0).toInt < x1.toInt → AW g l (d + 1) MX6_takeNumber 53 [some (vR 6 (some x0)), none, none, none, none] [vI 0, vR 6 (some x0)] σ3 Q) ∧ (¬ (gJ σ3 610 x0 0).toInt < x1.toInt → ((x3.toInt < (gJ σ3 610 x0 0).toInt → AW g l (d + 1) MX6_takeNumber 53 [some (vR 6 (some x0)), none, none, none, none] [vI 0, vR 6 (some x0)] σ3 Q) ∧ (¬ x3.toInt < (gJ σ3 610 x0 0).toInt → AW g l (d + 1) MX6_takeNumber 53 [some (vR 6 (some x0)), none, none, none, none] [vI 1, vR 6 (some x0)] σ3 Q)))))))) :
    AW g l (d + 1) MX6_takeNumber 22 [some (vR 6 (some x0)), some (vJ x1), none, some (vJ x3), none] [vI y0, vR 6 y1] σ Q := by
  refine aw_iconst (x := 2) dX6_takeNumber_22 rfl ?_
  obtain ⟨r1, e2, h⟩ := h
  refine aw_invVi (M := MX6_takeNumber) (ci := 6) [vI y0, vI 2] e2 mo_X6_check rfl lm_X6_28 li_X6_check ls_X6_check (by decide +kernel) dX6_takeNumber_23 rfl (Nat.le_of_ble_eq_true rfl) (ACi.mono (fun v4 σ3 h => ?_) h)
  refine aw_if_eq (tgt := 60) dX6_takeNumber_26 (by decide) (fun k5 => ?_) (fun k5 => ?_)
  · replace h := h.1 k5
    refine aw_iconst (x := 0) dX6_takeNumber_60 rfl ?_
    exact aw_zreturn dX6_takeNumber_61 rfl (Or.inl rfl) h
  · replace h := h.2 k5
    refine aw_aload_n dX6_takeNumber_29 rfl rfl ?_
    refine aw_aload_n dX6_takeNumber_30 rfl rfl ?_
    refine aw_getJ' rfl fk_610 lf_X6_103 dX6_takeNumber_31 ?_
    refine aw_lload_n dX6_takeNumber_34 rfl rfl ?_
    refine aw_lcmp_lt (M := MX6_takeNumber) (tgt := 52) dX6_takeNumber_35 dX6_takeNumber_36 (by decide) (fun k6 => ?_) (fun k6 => ?_)
    · replace h := h.1 k6
      refine aw_iconst (x := 0) dX6_takeNumber_52 rfl ?_
      exact aw_fgt (L' := [some (vR 6 (some x0)), none, none, none, none]) ⟨rfl, trivial⟩ h
    · replace h := h.2 k6
      refine aw_aload_n dX6_takeNumber_39 rfl rfl ?_
      refine aw_getJ' rfl fk_610 lf_X6_103 dX6_takeNumber_40 ?_
      refine aw_lload_n dX6_takeNumber_43 rfl rfl ?_
      refine aw_lcmp_gt (M := MX6_takeNumber) (tgt := 52) dX6_takeNumber_44 dX6_takeNumber_45 (by decide) (fun k7 => ?_) (fun k7 => ?_)
      · replace h := h.1 k7
        refine aw_iconst (x := 0) dX6_takeNumber_52 rfl ?_
        exact aw_fgt (L' := [some (vR 6 (some x0)), none, none, none, none]) ⟨rfl, trivial⟩ h
      · replace h := h.2 k7
        refine aw_iconst (x := 1) dX6_takeNumber_48 rfl ?_
        refine aw_goto (tgt := 53) dX6_takeNumber_49 (by decide) ?_
        exact aw_fgt (L' := [some (vR 6 (some x0)), none, none, none, none]) ⟨rfl, trivial⟩ h
set_option maxRecDepth 4000 in
theorem bk_X6_takeNumber_53 {g : GP} {l : Launch} {d : Nat} {σ : St} {Q : Option AV → St → Prop} {x0 : Nat} {y0 : Int} {y1 : Option Nat}
    (h : ∃ r1, y1 = some r1 ∧ ACi g l d MX6_check [vR 6 (some r1), vI y0, vI 5] σ (fun v4 σ3 => ((¬ v4 = 0 → ACv g l d MX6_pass [vR 6 (some x0)] σ3 (fun σ6 => Q (some (vI 1)) σ6)) ∧ (v4 = 0 → Q (some (vI 0)) σ3)))) :
    AW g l (d + 1) MX6_takeNumber 53 [some (vR 6 (some x0)), none, none, none, none] [vI y0, vR 6 y1] σ Q := by
  refine aw_iconst (x := 5) dX6_takeNumber_53 rfl ?_
  obtain ⟨r1, e2, h⟩ := h
  refine aw_invVi (M := MX6_takeNumber) (ci := 6) [vI y0, vI 5] e2 mo_X6_check rfl lm_X6_28 li_X6_check ls_X6_check (by decide +kernel) dX6_takeNumber_54 rfl (Nat.le_of_ble_eq_true rfl) (ACi.mono (fun v4 σ3 h => ?_) h)
  refine aw_if_ne (tgt := 62) dX6_takeNumber_57 (by decide) (fun k5 => ?_) (fun k5 => ?_)
  · replace h := h.1 k5
    refine aw_aload_n dX6_takeNumber_62 rfl rfl ?_
    refine aw_invVv (M := MX6_takeNumber) (ci := 6) [] rfl mo_X6_pass rfl lm_X6_100 li_X6_pass ls_X6_pass (by decide +kernel) dX6_takeNumber_63 rfl (Nat.le_of_ble_eq_true rfl) (ACv.mono (fun σ6 h => ?_) h)
    refine aw_iconst (x := 1) dX6_takeNumber_66 rfl ?_
    exact aw_zreturn dX6_takeNumber_67 rfl (Or.inr rfl) h
  · replace h := h.2 k5
    refine aw_iconst (x := 0) dX6_takeNumber_60 rfl ?_
    exact aw_zreturn dX6_takeNumber_61 rfl (Or.inl rfl) h
set_option maxRecDepth 4000 in
theorem bk_X6_takeOwnName_0 {g : GP} {l : Launch} {d : Nat} {σ : St} {Q : Option AV → St → Prop} {x0 : Nat}
    (h : ((¬ (gI σ 604 x0 0) = 2 → AW g l (d + 1) MX6_takeOwnName 14 [some (vR 6 (some x0))] [vI 0, vR 6 (some x0)] σ Q) ∧ ((gI σ 604 x0 0) = 2 → AW g l (d + 1) MX6_takeOwnName 14 [some (vR 6 (some x0))] [vI 1, vR 6 (some x0)] σ Q))) :
    AW g l (d + 1) MX6_takeOwnName 0 [some (vR 6 (some x0))] [] σ Q := by
  refine aw_aload_n dX6_takeOwnName_0 rfl rfl ?_
  refine aw_aload_n dX6_takeOwnName_1 rfl rfl ?_
  refine aw_getI' rfl fk_604 lf_X6_24 dX6_takeOwnName_2 ?_
  refine aw_iconst (x := 2) dX6_takeOwnName_5 rfl ?_
  refine aw_icmp_ne (tgt := 13) dX6_takeOwnName_6 (by decide) (fun k1 => ?_) (fun k1 => ?_)
  · replace h := h.1 k1
    refine aw_iconst (x := 0) dX6_takeOwnName_13 rfl ?_
    exact aw_fgt (L' := [some (vR 6 (some x0))]) ⟨rfl, trivial⟩ h
  · replace h := h.2 k1
    refine aw_iconst (x := 1) dX6_takeOwnName_9 rfl ?_
    refine aw_goto (tgt := 14) dX6_takeOwnName_10 (by decide) ?_
    exact aw_fgt (L' := [some (vR 6 (some x0))]) ⟨rfl, trivial⟩ h
set_option maxRecDepth 4000 in
theorem bk_X6_takeOwnName_14 {g : GP} {l : Launch} {d : Nat} {σ : St} {Q : Option AV → St → Prop} {x0 : Nat} {y0 : Int} {y1 : Option Nat}
    (h : ∃ r1, y1 = some r1 ∧ ACi g l d MX6_check [vR 6 (some r1), vI y0, vI 2] σ (fun v4 σ3 => ((v4 = 0 → Q (some (vI 0)) σ3) ∧ (¬ v4 = 0 → ACi g l d MX6_isTold [vR 6 (some x0), vJ (gJ σ3 605 x0 0)] σ3 (fun v7 σ6 => ((¬ v7 = 0 → AW g l (d + 1) MX6_takeOwnName 38 [some (vR 6 (some x0))] [vI 0, vR 6 (some x0)] σ6 Q) ∧ (v7 = 0 → AW g l (d + 1) MX6_takeOwnName 38 [some (vR 6 (some x0))] [vI 1, vR 6 (some x0)] σ6 Q))))))) :
    AW g l (d + 1) MX6_takeOwnName 14 [some (vR 6 (some x0))] [vI y0, vR 6 y1] σ Q := by
  refine aw_iconst (x := 2) dX6_takeOwnName_14 rfl ?_
  obtain ⟨r1, e2, h⟩ := h
  refine aw_invVi (M := MX6_takeOwnName) (ci := 6) [vI y0, vI 2] e2 mo_X6_check rfl lm_X6_28 li_X6_check ls_X6_check (by decide +kernel) dX6_takeOwnName_15 rfl (Nat.le_of_ble_eq_true rfl) (ACi.mono (fun v4 σ3 h => ?_) h)
  refine aw_if_eq (tgt := 45) dX6_takeOwnName_18 (by decide) (fun k5 => ?_) (fun k5 => ?_)
  · replace h := h.1 k5
    refine aw_iconst (x := 0) dX6_takeOwnName_45 rfl ?_
    exact aw_zreturn dX6_takeOwnName_46 rfl (Or.inl rfl) h
  · replace h := h.2 k5
    refine aw_aload_n dX6_takeOwnName_21 rfl rfl ?_
    refine aw_aload_n dX6_takeOwnName_22 rfl rfl ?_
    refine aw_aload_n dX6_takeOwnName_23 rfl rfl ?_
    refine aw_getJ' rfl fk_605 lf_X6_90 dX6_takeOwnName_24 ?_
    refine aw_invVi (M := MX6_takeOwnName) (ci := 6) [vJ (gJ σ3 605 x0 0)] rfl mo_X6_isTold rfl lm_X6_224 li_X6_isTold ls_X6_isTold (by decide +kernel) dX6_takeOwnName_27 rfl (Nat.le_of_ble_eq_true rfl) (ACi.mono (fun v7 σ6 h => ?_) h)
    refine aw_if_ne (tgt := 37) dX6_takeOwnName_30 (by decide) (fun k8 => ?_) (fun k8 => ?_)
    · replace h := h.1 k8
      refine aw_iconst (x := 0) dX6_takeOwnName_37 rfl ?_
      exact aw_fgt (L' := [some (vR 6 (some x0))]) ⟨rfl, trivial⟩ h
    · replace h := h.2 k8
      refine aw_iconst (x := 1) dX6_takeOwnName_33 rfl ?_
      refine aw_goto (tgt := 38) dX6_takeOwnName_34 (by decide) ?_
      exact aw_fgt (L' := [some (vR 6 (some x0))]) ⟨rfl, trivial⟩ h
set_option maxRecDepth 4000 in
theorem bk_X6_takeOwnName_38 {g : GP} {l : Launch} {d : Nat} {σ : St} {Q : Option AV → St → Prop} {x0 : Nat} {y0 : Int} {y1 : Option Nat}
    (h : ∃ r1, y1 = some r1 ∧ ACi g l d MX6_check [vR 6 (some r1), vI y0, vI 3] σ (fun v4 σ3 => ((¬ v4 = 0 → ∃ r6, gR σ3 609 x0 0 = some r6 ∧ ACv g l d MX6_pass [vR 6 (some x0)] (sJ σ3 202 r6 0 (gJ σ3 605 x0 0)) (fun σ8 => Q (some (vI 1)) σ8)) ∧ (v4 = 0 → Q (some (vI 0)) σ3)))) :
    AW g l (d + 1) MX6_takeOwnName 38 [some (vR 6 (some x0))] [vI y0, vR 6 y1] σ Q := by
  refine aw_iconst (x := 3) dX6_takeOwnName_38 rfl ?_
  obtain ⟨r1, e2, h⟩ := h
  refine aw_invVi (M := MX6_takeOwnName) (ci := 6) [vI y0, vI 3] e2 mo_X6_check rfl lm_X6_28 li_X6_check ls_X6_check (by decide +kernel) dX6_takeOwnName_39 rfl (Nat.le_of_ble_eq_true rfl) (ACi.mono (fun v4 σ3 h => ?_) h)
  refine aw_if_ne (tgt := 47) dX6_takeOwnName_42 (by decide) (fun k5 => ?_) (fun k5 => ?_)
  · replace h := h.1 k5
    refine aw_aload_n dX6_takeOwnName_47 rfl rfl ?_
    refine aw_getR' (ci := 2) rfl fk_609 (by decide +kernel) lf_X6_106 dX6_takeOwnName_48 ?_
    refine aw_aload_n dX6_takeOwnName_51 rfl rfl ?_
    refine aw_getJ' rfl fk_605 lf_X6_90 dX6_takeOwnName_52 ?_
    obtain ⟨r6, e7, h⟩ := h
    refine aw_putJ' e7 fk_202 (Or.inl rfl) lf_X6_228 dX6_takeOwnName_55 ?_
    refine aw_aload_n dX6_takeOwnName_58 rfl rfl ?_
    refine aw_invVv (M := MX6_takeOwnName) (ci := 6) [] rfl mo_X6_pass rfl lm_X6_100 li_X6_pass ls_X6_pass (by decide +kernel) dX6_takeOwnName_59 rfl (Nat.le_of_ble_eq_true rfl) (ACv.mono (fun σ8 h => ?_) h)
    refine aw_iconst (x := 1) dX6_takeOwnName_62 rfl ?_
    exact aw_zreturn dX6_takeOwnName_63 rfl (Or.inr rfl) h
  · replace h := h.2 k5
    refine aw_iconst (x := 0) dX6_takeOwnName_45 rfl ?_
    exact aw_zreturn dX6_takeOwnName_46 rfl (Or.inl rfl) h
set_option maxRecDepth 4000 in
theorem bk_X6_takeSigned_0 {g : GP} {l : Launch} {d : Nat} {σ : St} {Q : Option AV → St → Prop} {x0 : Nat}
    (h : ((¬ (gI σ 604 x0 0) = 45 → (((0 : Int) = 0 → AW g l (d + 1) MX6_takeSigned 23 [some (vR 6 (some x0)), some (vI 0)] [] σ Q) ∧ (¬ (0 : Int) = 0 → ACv g l d MX6_pass [vR 6 (some x0)] σ (fun σ3 => AW g l (d + 1) MX6_takeSigned 23 [some (vR 6 (some x0)), some (vI 0)] [] σ3 Q)))) ∧ ((gI σ 604 x0 0) = 45 → (((1 : Int) = 0 → AW g l (d + 1) MX6_takeSigned 23 [some (vR 6 (some x0)), some (vI 1)] [] σ Q) ∧ (¬ (1 : Int) = 0 → ACv g l d MX6_pass [vR 6 (some x0)] σ (fun σ5 => AW g l (d + 1) MX6_takeSigned 23 [some (vR 6 (some x0)), some (vI 1)] [] σ5 Q)))))) :
    AW g l (d + 1) MX6_takeSigned 0 [some (vR 6 (some x0)), none] [] σ Q := by
  refine aw_aload_n dX6_takeSigned_0 rfl rfl ?_
  refine aw_getI' rfl fk_604 lf_X6_24 dX6_takeSigned_1 ?_
  refine aw_bipush (x := 45) dX6_takeSigned_4 rfl ?_
  refine aw_icmp_ne (tgt := 13) dX6_takeSigned_6 (by decide) (fun k1 => ?_) (fun k1 => ?_)
  · replace h := h.1 k1
    refine aw_iconst (x := 0) dX6_takeSigned_13 rfl ?_
    refine aw_istore_n (L' := [some (vR 6 (some x0)), some (vI 0)]) dX6_takeSigned_14 rfl (by decide) rfl ?_
    refine aw_iload_n dX6_takeSigned_15 rfl rfl ?_
    refine aw_if_eq (tgt := 23) dX6_takeSigned_16 (by decide) (fun k2 => ?_) (fun k2 => ?_)
    · replace h := h.1 k2
      exact aw_fgt (L' := [some (vR 6 (some x0)), some (vI 0)]) ⟨rfl, ⟨rfl, trivial⟩⟩ h
    · replace h := h.2 k2
      refine aw_aload_n dX6_takeSigned_19 rfl rfl ?_
      refine aw_invVv (M := MX6_takeSigned) (ci := 6) [] rfl mo_X6_pass rfl lm_X6_100 li_X6_pass ls_X6_pass (by decide +kernel) dX6_takeSigned_20 rfl (Nat.le_of_ble_eq_true rfl) (ACv.mono (fun σ3 h => ?_) h)
      exact aw_fgt (L' := [some (vR 6 (some x0)), some (vI 0)]) ⟨rfl, ⟨rfl, trivial⟩⟩ h
  · replace h := h.2 k1
    refine aw_iconst (x := 1) dX6_takeSigned_9 rfl ?_
    refine aw_goto (tgt := 14) dX6_takeSigned_10 (by decide) ?_
    refine aw_istore_n (L' := [some (vR 6 (some x0)), some (vI 1)]) dX6_takeSigned_14 rfl (by decide) rfl ?_
    refine aw_iload_n dX6_takeSigned_15 rfl rfl ?_
    refine aw_if_eq (tgt := 23) dX6_takeSigned_16 (by decide) (fun k4 => ?_) (fun k4 => ?_)
    · replace h := h.1 k4
      exact aw_fgt (L' := [some (vR 6 (some x0)), some (vI 1)]) ⟨rfl, ⟨rfl, trivial⟩⟩ h
    · replace h := h.2 k4
      refine aw_aload_n dX6_takeSigned_19 rfl rfl ?_
      refine aw_invVv (M := MX6_takeSigned) (ci := 6) [] rfl mo_X6_pass rfl lm_X6_100 li_X6_pass ls_X6_pass (by decide +kernel) dX6_takeSigned_20 rfl (Nat.le_of_ble_eq_true rfl) (ACv.mono (fun σ5 h => ?_) h)
      exact aw_fgt (L' := [some (vR 6 (some x0)), some (vI 1)]) ⟨rfl, ⟨rfl, trivial⟩⟩ h
set_option maxRecDepth 4000 in
theorem bk_X6_takeSigned_23 {g : GP} {l : Launch} {d : Nat} {σ : St} {Q : Option AV → St → Prop} {x0 : Nat} {x1 : Int}
    (h : ((x1 = 0 → ((¬ (gI σ 604 x0 0) = 3 → AW g l (d + 1) MX6_takeSigned 57 [some (vR 6 (some x0)), none] [vI 0, vR 6 (some x0)] (sJ σ 610 x0 0 (gJ σ 605 x0 0)) Q) ∧ ((gI σ 604 x0 0) = 3 → AW g l (d + 1) MX6_takeSigned 57 [some (vR 6 (some x0)), none] [vI 1, vR 6 (some x0)] (sJ σ 610 x0 0 (gJ σ 605 x0 0)) Q))) ∧ (¬ x1 = 0 → ((¬ (gI σ 604 x0 0) = 3 → AW g l (d + 1) MX6_takeSigned 57 [some (vR 6 (some x0)), none] [vI 0, vR 6 (some x0)] (sJ σ 610 x0 0 (-(gJ σ 605 x0 0))) Q) ∧ ((gI σ 604 x0 0) = 3 → AW g l (d + 1) MX6_takeSigned 57 [some (vR 6 (some x0)), none] [vI 1, vR 6 (some x0)] (sJ σ 610 x0 0 (-(gJ σ 605 x0 0))) Q))))) :
    AW g l (d + 1) MX6_takeSigned 23 [some (vR 6 (some x0)), some (vI x1)] [] σ Q := by
  refine aw_aload_n dX6_takeSigned_23 rfl rfl ?_
  refine aw_iload_n dX6_takeSigned_24 rfl rfl ?_
  refine aw_if_eq (tgt := 36) dX6_takeSigned_25 (by decide) (fun k1 => ?_) (fun k1 => ?_)
  · replace h := h.1 k1
    refine aw_aload_n dX6_takeSigned_36 rfl rfl ?_
    refine aw_getJ' rfl fk_605 lf_X6_90 dX6_takeSigned_37 ?_
    refine aw_putJ' rfl fk_610 (Or.inl rfl) lf_X6_103 dX6_takeSigned_40 ?_
    refine aw_aload_n dX6_takeSigned_43 rfl rfl ?_
    refine aw_aload_n dX6_takeSigned_44 rfl rfl ?_
    refine aw_getIe (v := gI σ 604 x0 0) rfl fk_604 lf_X6_24 dX6_takeSigned_45 rfl ?_
    refine aw_iconst (x := 3) dX6_takeSigned_48 rfl ?_
    refine aw_icmp_ne (tgt := 56) dX6_takeSigned_49 (by decide) (fun k2 => ?_) (fun k2 => ?_)
    · replace h := h.1 k2
      refine aw_iconst (x := 0) dX6_takeSigned_56 rfl ?_
      exact aw_fgt (L' := [some (vR 6 (some x0)), none]) ⟨rfl, trivial⟩ h
    · replace h := h.2 k2
      refine aw_iconst (x := 1) dX6_takeSigned_52 rfl ?_
      refine aw_goto (tgt := 57) dX6_takeSigned_53 (by decide) ?_
      exact aw_fgt (L' := [some (vR 6 (some x0)), none]) ⟨rfl, trivial⟩ h
  · replace h := h.2 k1
    refine aw_aload_n dX6_takeSigned_28 rfl rfl ?_
    refine aw_getJ' rfl fk_605 lf_X6_90 dX6_takeSigned_29 ?_
    refine aw_lneg dX6_takeSigned_32 ?_
    refine aw_goto (tgt := 40) dX6_takeSigned_33 (by decide) ?_
    refine aw_putJ' rfl fk_610 (Or.inl rfl) lf_X6_103 dX6_takeSigned_40 ?_
    refine aw_aload_n dX6_takeSigned_43 rfl rfl ?_
    refine aw_aload_n dX6_takeSigned_44 rfl rfl ?_
    refine aw_getIe (v := gI σ 604 x0 0) rfl fk_604 lf_X6_24 dX6_takeSigned_45 rfl ?_
    refine aw_iconst (x := 3) dX6_takeSigned_48 rfl ?_
    refine aw_icmp_ne (tgt := 56) dX6_takeSigned_49 (by decide) (fun k3 => ?_) (fun k3 => ?_)
    · replace h := h.1 k3
      refine aw_iconst (x := 0) dX6_takeSigned_56 rfl ?_
      exact aw_fgt (L' := [some (vR 6 (some x0)), none]) ⟨rfl, trivial⟩ h
    · replace h := h.2 k3
      refine aw_iconst (x := 1) dX6_takeSigned_52 rfl ?_
      refine aw_goto (tgt := 57) dX6_takeSigned_53 (by decide) ?_
      exact aw_fgt (L' := [some (vR 6 (some x0)), none]) ⟨rfl, trivial⟩ h
set_option maxRecDepth 4000 in
theorem bk_X6_takeSigned_57 {g : GP} {l : Launch} {d : Nat} {σ : St} {Q : Option AV → St → Prop} {x0 : Nat} {y0 : Int} {y1 : Option Nat}
    (h : ∃ r1, y1 = some r1 ∧ ACi g l d MX6_check [vR 6 (some r1), vI y0, vI 2] σ (fun v4 σ3 => ((¬ v4 = 0 → ACv g l d MX6_pass [vR 6 (some x0)] σ3 (fun σ6 => Q (some (vI 1)) σ6)) ∧ (v4 = 0 → Q (some (vI 0)) σ3)))) :
    AW g l (d + 1) MX6_takeSigned 57 [some (vR 6 (some x0)), none] [vI y0, vR 6 y1] σ Q := by
  refine aw_iconst (x := 2) dX6_takeSigned_57 rfl ?_
  obtain ⟨r1, e2, h⟩ := h
  refine aw_invVi (M := MX6_takeSigned) (ci := 6) [vI y0, vI 2] e2 mo_X6_check rfl lm_X6_28 li_X6_check ls_X6_check (by decide +kernel) dX6_takeSigned_58 rfl (Nat.le_of_ble_eq_true rfl) (ACi.mono (fun v4 σ3 h => ?_) h)
  refine aw_if_ne (tgt := 66) dX6_takeSigned_61 (by decide) (fun k5 => ?_) (fun k5 => ?_)
  · replace h := h.1 k5
    refine aw_aload_n dX6_takeSigned_66 rfl rfl ?_
    refine aw_invVv (M := MX6_takeSigned) (ci := 6) [] rfl mo_X6_pass rfl lm_X6_100 li_X6_pass ls_X6_pass (by decide +kernel) dX6_takeSigned_67 rfl (Nat.le_of_ble_eq_true rfl) (ACv.mono (fun σ6 h => ?_) h)
    refine aw_iconst (x := 1) dX6_takeSigned_70 rfl ?_
    exact aw_zreturn dX6_takeSigned_71 rfl (Or.inr rfl) h
  · replace h := h.2 k5
    refine aw_iconst (x := 0) dX6_takeSigned_64 rfl ?_
    exact aw_zreturn dX6_takeSigned_65 rfl (Or.inl rfl) h
set_option maxRecDepth 4000 in
theorem bk_X6_takeStructure_0 {g : GP} {l : Launch} {d : Nat} {σ : St} {Q : Option AV → St → Prop} {x0 : Nat}
    (h : ∃ r1, gR σ 606 x0 0 = some r1 ∧ ACi g l d MX1_structureNamed [vR 1 (some r1), vJ (gJ σ 605 x0 0)] σ (fun v4 σ3 => ((¬ (gI σ3 604 x0 0) = 2 → AW g l (d + 1) MX6_takeStructure 26 [some (vR 6 (some x0)), some (vI v4)] [vI 0, vR 6 (some x0)] σ3 Q) ∧ ((gI σ3 604 x0 0) = 2 → AW g l (d + 1) MX6_takeStructure 26 [some (vR 6 (some x0)), some (vI v4)] [vI 1, vR 6 (some x0)] σ3 Q)))) :
    AW g l (d + 1) MX6_takeStructure 0 [some (vR 6 (some x0)), none] [] σ Q := by
  refine aw_aload_n dX6_takeStructure_0 rfl rfl ?_
  refine aw_getR' (ci := 1) rfl fk_606 (by decide +kernel) lf_X6_66 dX6_takeStructure_1 ?_
  refine aw_aload_n dX6_takeStructure_4 rfl rfl ?_
  refine aw_getJ' rfl fk_605 lf_X6_90 dX6_takeStructure_5 ?_
  obtain ⟨r1, e2, h⟩ := h
  refine aw_invVi (M := MX6_takeStructure) (ci := 1) [vJ (gJ σ 605 x0 0)] e2 mo_X1_structureNamed rfl lm_X6_120 li_X1_structureNamed ls_X1_structureNamed (by decide +kernel) dX6_takeStructure_8 rfl (Nat.le_of_ble_eq_true rfl) (ACi.mono (fun v4 σ3 h => ?_) h)
  refine aw_istore_n (L' := [some (vR 6 (some x0)), some (vI v4)]) dX6_takeStructure_11 rfl (by decide) rfl ?_
  refine aw_aload_n dX6_takeStructure_12 rfl rfl ?_
  refine aw_aload_n dX6_takeStructure_13 rfl rfl ?_
  refine aw_getI' rfl fk_604 lf_X6_24 dX6_takeStructure_14 ?_
  refine aw_iconst (x := 2) dX6_takeStructure_17 rfl ?_
  refine aw_icmp_ne (tgt := 25) dX6_takeStructure_18 (by decide) (fun k5 => ?_) (fun k5 => ?_)
  · replace h := h.1 k5
    refine aw_iconst (x := 0) dX6_takeStructure_25 rfl ?_
    exact aw_fgt (L' := [some (vR 6 (some x0)), some (vI v4)]) ⟨rfl, ⟨rfl, trivial⟩⟩ h
  · replace h := h.2 k5
    refine aw_iconst (x := 1) dX6_takeStructure_21 rfl ?_
    refine aw_goto (tgt := 26) dX6_takeStructure_22 (by decide) ?_
    exact aw_fgt (L' := [some (vR 6 (some x0)), some (vI v4)]) ⟨rfl, ⟨rfl, trivial⟩⟩ h
set_option maxRecDepth 4000 in
theorem bk_X6_takeStructure_26 {g : GP} {l : Launch} {d : Nat} {σ : St} {Q : Option AV → St → Prop} {x0 : Nat} {x1 : Int} {y0 : Int} {y1 : Option Nat}
    (h : ∃ r1, y1 = some r1 ∧ ACi g l d MX6_check [vR 6 (some r1), vI y0, vI 2] σ (fun v4 σ3 => ((v4 = 0 → Q (some (vI (-1))) σ3) ∧ (¬ v4 = 0 → ((x1 = (-1) → AW g l (d + 1) MX6_takeStructure 44 [some (vR 6 (some x0)), some (vI x1)] [vI 0, vR 6 (some x0)] σ3 Q) ∧ (¬ x1 = (-1) → AW g l (d + 1) MX6_takeStructure 44 [some (vR 6 (some x0)), some (vI x1)] [vI 1, vR 6 (some x0)] σ3 Q)))))) :
    AW g l (d + 1) MX6_takeStructure 26 [some (vR 6 (some x0)), some (vI x1)] [vI y0, vR 6 y1] σ Q := by
  refine aw_iconst (x := 2) dX6_takeStructure_26 rfl ?_
  obtain ⟨r1, e2, h⟩ := h
  refine aw_invVi (M := MX6_takeStructure) (ci := 6) [vI y0, vI 2] e2 mo_X6_check rfl lm_X6_28 li_X6_check ls_X6_check (by decide +kernel) dX6_takeStructure_27 rfl (Nat.le_of_ble_eq_true rfl) (ACi.mono (fun v4 σ3 h => ?_) h)
  refine aw_if_eq (tgt := 51) dX6_takeStructure_30 (by decide) (fun k5 => ?_) (fun k5 => ?_)
  · replace h := h.1 k5
    refine aw_iconst (x := (-1)) dX6_takeStructure_51 rfl ?_
    exact aw_ireturn dX6_takeStructure_52 rfl h
  · replace h := h.2 k5
    refine aw_aload_n dX6_takeStructure_33 rfl rfl ?_
    refine aw_iload_n dX6_takeStructure_34 rfl rfl ?_
    refine aw_iconst (x := (-1)) dX6_takeStructure_35 rfl ?_
    refine aw_icmp_eq (tgt := 43) dX6_takeStructure_36 (by decide) (fun k6 => ?_) (fun k6 => ?_)
    · replace h := h.1 k6
      refine aw_iconst (x := 0) dX6_takeStructure_43 rfl ?_
      exact aw_fgt (L' := [some (vR 6 (some x0)), some (vI x1)]) ⟨rfl, ⟨rfl, trivial⟩⟩ h
    · replace h := h.2 k6
      refine aw_iconst (x := 1) dX6_takeStructure_39 rfl ?_
      refine aw_goto (tgt := 44) dX6_takeStructure_40 (by decide) ?_
      exact aw_fgt (L' := [some (vR 6 (some x0)), some (vI x1)]) ⟨rfl, ⟨rfl, trivial⟩⟩ h
set_option maxRecDepth 4000 in
theorem bk_X6_takeStructure_44 {g : GP} {l : Launch} {d : Nat} {σ : St} {Q : Option AV → St → Prop} {x0 : Nat} {x1 : Int} {y0 : Int} {y1 : Option Nat}
    (h : ∃ r1, y1 = some r1 ∧ ACi g l d MX6_check [vR 6 (some r1), vI y0, vI 4] σ (fun v4 σ3 => ((¬ v4 = 0 → ACv g l d MX6_pass [vR 6 (some x0)] σ3 (fun σ6 => Q (some (vI x1)) σ6)) ∧ (v4 = 0 → Q (some (vI (-1))) σ3)))) :
    AW g l (d + 1) MX6_takeStructure 44 [some (vR 6 (some x0)), some (vI x1)] [vI y0, vR 6 y1] σ Q := by
  refine aw_iconst (x := 4) dX6_takeStructure_44 rfl ?_
  obtain ⟨r1, e2, h⟩ := h
  refine aw_invVi (M := MX6_takeStructure) (ci := 6) [vI y0, vI 4] e2 mo_X6_check rfl lm_X6_28 li_X6_check ls_X6_check (by decide +kernel) dX6_takeStructure_45 rfl (Nat.le_of_ble_eq_true rfl) (ACi.mono (fun v4 σ3 h => ?_) h)
  refine aw_if_ne (tgt := 53) dX6_takeStructure_48 (by decide) (fun k5 => ?_) (fun k5 => ?_)
  · replace h := h.1 k5
    refine aw_aload_n dX6_takeStructure_53 rfl rfl ?_
    refine aw_invVv (M := MX6_takeStructure) (ci := 6) [] rfl mo_X6_pass rfl lm_X6_100 li_X6_pass ls_X6_pass (by decide +kernel) dX6_takeStructure_54 rfl (Nat.le_of_ble_eq_true rfl) (ACv.mono (fun σ6 h => ?_) h)
    refine aw_iload_n dX6_takeStructure_57 rfl rfl ?_
    exact aw_ireturn dX6_takeStructure_58 rfl h
  · replace h := h.2 k5
    refine aw_iconst (x := (-1)) dX6_takeStructure_51 rfl ?_
    exact aw_ireturn dX6_takeStructure_52 rfl h
set_option maxRecDepth 4000 in
theorem bk_X6_takeType_0 {g : GP} {l : Launch} {d : Nat} {σ : St} {Q : Option AV → St → Prop} {x0 : Nat}
    (h : ∃ r1, gR σ 609 x0 0 = some r1 ∧ ACv g l d MX2_setType [vR 2 (some r1), vJ (gJ σ 605 x0 0)] σ (fun σ3 => ACi g l d MX6_take [vR 6 (some x0), vI 4] σ3 (fun v5 σ4 => ((v5 = 0 ∨ v5 = 1) ∧ Q (some (vI v5)) σ4)))) :
    AW g l (d + 1) MX6_takeType 0 [some (vR 6 (some x0))] [] σ Q := by
  refine aw_aload_n dX6_takeType_0 rfl rfl ?_
  refine aw_getR' (ci := 2) rfl fk_609 (by decide +kernel) lf_X6_106 dX6_takeType_1 ?_
  refine aw_aload_n dX6_takeType_4 rfl rfl ?_
  refine aw_getJ' rfl fk_605 lf_X6_90 dX6_takeType_5 ?_
  obtain ⟨r1, e2, h⟩ := h
  refine aw_invVv (M := MX6_takeType) (ci := 2) [vJ (gJ σ 605 x0 0)] e2 mo_X2_setType rfl lm_X6_110 li_X2_setType ls_X2_setType (by decide +kernel) dX6_takeType_8 rfl (Nat.le_of_ble_eq_true rfl) (ACv.mono (fun σ3 h => ?_) h)
  refine aw_aload_n dX6_takeType_11 rfl rfl ?_
  refine aw_iconst (x := 4) dX6_takeType_12 rfl ?_
  refine aw_invVi (M := MX6_takeType) (ci := 6) [vI 4] rfl mo_X6_take rfl lm_X6_116 li_X6_take ls_X6_take (by decide +kernel) dX6_takeType_13 rfl (Nat.le_of_ble_eq_true rfl) (ACi.mono (fun v5 σ4 h => ?_) h)
  exact aw_zreturn dX6_takeType_16 rfl h.1 h.2
set_option maxRecDepth 4000 in
theorem bk_X7_init_0 {g : GP} {l : Launch} {d : Nat} {σ : St} {Q : Option AV → St → Prop} {x0 : Nat}
    (h : (gL σ 701 x0 = 0 ∧ hs σ + 1 ≤ gB g + 600000 ∧ sl σ + 102 ≤ 7302250) ∧ Q none (sArr σ 701 x0 102)) :
    AW g l (d + 1) MX7_init 0 [some (vR 7 (some x0))] [] σ Q := by
  refine aw_aload_n dX7_init_0 rfl rfl ?_
  refine aw_objInit (M := MX7_init) lm_X7_3 loi_i loi_c dX7_init_1 (Nat.le_of_ble_eq_true rfl) ?_
  refine aw_aload_n dX7_init_4 rfl rfl ?_
  refine aw_bipush (x := 102) dX7_init_5 rfl ?_
  obtain ⟨⟨h0, h1, h2⟩, h⟩ := h
  refine aw_mkArr (M := MX7_init) (n := 102) fk_701 (by decide +kernel) rfl (fun _ _ h => h) la_long ⟨rfl, rfl⟩ lf_X7_9 dX7_init_7 dX7_init_9 rfl (by decide) (by decide) h0 h1 h2 ?_
  exact aw_ret h rfl dX7_init_12
set_option maxRecDepth 4000 in
theorem bk_X7_joined_0 {g : GP} {l : Launch} {d : Nat} {σ : St} {Q : Option AV → St → Prop} {x0 : Int} {x1 : Int64} {x3 : Int64}
    (h : ((x0 = 37 → ¬ x3 = 0 ∧ Q (some (vJ (j_rem x1 x3))) σ) ∧ (x0 = 42 → Q (some (vJ (x1 * x3))) σ) ∧ (x0 = 43 → Q (some (vJ (x1 + x3))) σ) ∧ (x0 = 45 → Q (some (vJ (x1 - x3))) σ) ∧ (x0 = 47 → ¬ x3 = 0 ∧ Q (some (vJ (x1 / x3))) σ) ∧ (x0 = 60 → ((x3.toInt ≤ x1.toInt → Q (some (vJ 0)) σ) ∧ (¬ x3.toInt ≤ x1.toInt → Q (some (vJ 1)) σ))) ∧ (x0 = 61 → ((¬ x1 = x3 → Q (some (vJ 0)) σ) ∧ (x1 = x3 → Q (some (vJ 1)) σ))) ∧ (x0 = 62 → ((x1.toInt ≤ x3.toInt → Q (some (vJ 0)) σ) ∧ (¬ x1.toInt ≤ x3.toInt → Q (some (vJ 1)) σ))) ∧ (x0 = 224 → ((x1 = (0 : Int64) → Q (some (vJ 0)) σ) ∧ (¬ x1 = (0 : Int64) → ((x3 = (0 : Int64) → Q (some (vJ 0)) σ) ∧ (¬ x3 = (0 : Int64) → Q (some (vJ 1)) σ))))) ∧ (x0 = 225 → ((¬ x1 = (0 : Int64) → Q (some (vJ 1)) σ) ∧ (x1 = (0 : Int64) → ((x3 = (0 : Int64) → Q (some (vJ 0)) σ) ∧ (¬ x3 = (0 : Int64) → Q (some (vJ 1)) σ))))) ∧ (¬ x0 = 37 → ¬ x0 = 42 → ¬ x0 = 43 → ¬ x0 = 45 → ¬ x0 = 47 → ¬ x0 = 60 → ¬ x0 = 61 → ¬ x0 = 62 → ¬ x0 = 224 → ¬ x0 = 225 → Q (some (vJ (x1 &&& x3))) σ))) :
    AW g l d MX7_joined 0 [some (vI x0), some (vJ x1), none, some (vJ x3), none] [] σ Q := by
  refine aw_iload_n dX7_joined_0 rfl rfl ?_
  obtain ⟨h0, h1, h2, h3, h4, h5, h6, h7, h8, h9, hd⟩ := h
  refine aw_lookup (M := MX7_joined) (dt := 184) [(37, 180), (42, 172), (43, 164), (45, 168), (47, 176), (60, 140), (61, 128), (62, 152), (224, 110), (225, 92)] dX7_joined_1 (by decide) (by decide) (by decide) ⟨fun hc => ?_, fun n0 => ⟨fun hc => ?_, fun n1 => ⟨fun hc => ?_, fun n2 => ⟨fun hc => ?_, fun n3 => ⟨fun hc => ?_, fun n4 => ⟨fun hc => ?_, fun n5 => ⟨fun hc => ?_, fun n6 => ⟨fun hc => ?_, fun n7 => ⟨fun hc => ?_, fun n8 => ⟨fun hc => ?_, fun n9 => ?_⟩⟩⟩⟩⟩⟩⟩⟩⟩⟩
  · have h := h0 hc; clear h0 h1 h2 h3 h4 h5 h6 h7 h8 h9 hd
    refine aw_lload_n dX7_joined_180 rfl rfl ?_
    refine aw_lload_n dX7_joined_181 rfl rfl ?_
    obtain ⟨h0, h⟩ := h
    refine aw_lrem dX7_joined_182 h0 ?_
    exact aw_lreturn dX7_joined_183 rfl h
  · have h := h1 hc; clear h0 h1 h2 h3 h4 h5 h6 h7 h8 h9 hd
    refine aw_lload_n dX7_joined_172 rfl rfl ?_
    refine aw_lload_n dX7_joined_173 rfl rfl ?_
    refine aw_lmul dX7_joined_174 ?_
    exact aw_lreturn dX7_joined_175 rfl h
  · have h := h2 hc; clear h0 h1 h2 h3 h4 h5 h6 h7 h8 h9 hd
    refine aw_lload_n dX7_joined_164 rfl rfl ?_
    refine aw_lload_n dX7_joined_165 rfl rfl ?_
    refine aw_ladd dX7_joined_166 ?_
    exact aw_lreturn dX7_joined_167 rfl h
  · have h := h3 hc; clear h0 h1 h2 h3 h4 h5 h6 h7 h8 h9 hd
    refine aw_lload_n dX7_joined_168 rfl rfl ?_
    refine aw_lload_n dX7_joined_169 rfl rfl ?_
    refine aw_lsub dX7_joined_170 ?_
    exact aw_lreturn dX7_joined_171 rfl h
  · have h := h4 hc; clear h0 h1 h2 h3 h4 h5 h6 h7 h8 h9 hd
    refine aw_lload_n dX7_joined_176 rfl rfl ?_
    refine aw_lload_n dX7_joined_177 rfl rfl ?_
    obtain ⟨h0, h⟩ := h
    refine aw_ldiv dX7_joined_178 h0 ?_
    exact aw_lreturn dX7_joined_179 rfl h
  · have h := h5 hc; clear h0 h1 h2 h3 h4 h5 h6 h7 h8 h9 hd
    refine aw_lload_n dX7_joined_140 rfl rfl ?_
    refine aw_lload_n dX7_joined_141 rfl rfl ?_
    refine aw_lcmp_ge (M := MX7_joined) (tgt := 150) dX7_joined_142 dX7_joined_143 (by decide) (fun k1 => ?_) (fun k1 => ?_)
    · replace h := h.1 k1
      refine aw_lconst (x := 0) dX7_joined_150 rfl ?_
      exact aw_lreturn dX7_joined_151 rfl h
    · replace h := h.2 k1
      refine aw_lconst (x := 1) dX7_joined_146 rfl ?_
      refine aw_goto (tgt := 151) dX7_joined_147 (by decide) ?_
      exact aw_lreturn dX7_joined_151 rfl h
  · have h := h6 hc; clear h0 h1 h2 h3 h4 h5 h6 h7 h8 h9 hd
    refine aw_lload_n dX7_joined_128 rfl rfl ?_
    refine aw_lload_n dX7_joined_129 rfl rfl ?_
    refine aw_lcmp_ne (M := MX7_joined) (tgt := 138) dX7_joined_130 dX7_joined_131 (by decide) (fun k2 => ?_) (fun k2 => ?_)
    · replace h := h.1 k2
      refine aw_lconst (x := 0) dX7_joined_138 rfl ?_
      exact aw_lreturn dX7_joined_139 rfl h
    · replace h := h.2 k2
      refine aw_lconst (x := 1) dX7_joined_134 rfl ?_
      refine aw_goto (tgt := 139) dX7_joined_135 (by decide) ?_
      exact aw_lreturn dX7_joined_139 rfl h
  · have h := h7 hc; clear h0 h1 h2 h3 h4 h5 h6 h7 h8 h9 hd
    refine aw_lload_n dX7_joined_152 rfl rfl ?_
    refine aw_lload_n dX7_joined_153 rfl rfl ?_
    refine aw_lcmp_le (M := MX7_joined) (tgt := 162) dX7_joined_154 dX7_joined_155 (by decide) (fun k3 => ?_) (fun k3 => ?_)
    · replace h := h.1 k3
      refine aw_lconst (x := 0) dX7_joined_162 rfl ?_
      exact aw_lreturn dX7_joined_163 rfl h
    · replace h := h.2 k3
      refine aw_lconst (x := 1) dX7_joined_158 rfl ?_
      refine aw_goto (tgt := 163) dX7_joined_159 (by decide) ?_
      exact aw_lreturn dX7_joined_163 rfl h
  · have h := h8 hc; clear h0 h1 h2 h3 h4 h5 h6 h7 h8 h9 hd
    refine aw_lload_n dX7_joined_110 rfl rfl ?_
    refine aw_lconst (x := 0) dX7_joined_111 rfl ?_
    refine aw_lcmp_eq (M := MX7_joined) (tgt := 126) dX7_joined_112 dX7_joined_113 (by decide) (fun k4 => ?_) (fun k4 => ?_)
    · replace h := h.1 k4
      refine aw_lconst (x := 0) dX7_joined_126 rfl ?_
      exact aw_lreturn dX7_joined_127 rfl h
    · replace h := h.2 k4
      refine aw_lload_n dX7_joined_116 rfl rfl ?_
      refine aw_lconst (x := 0) dX7_joined_117 rfl ?_
      refine aw_lcmp_eq (M := MX7_joined) (tgt := 126) dX7_joined_118 dX7_joined_119 (by decide) (fun k5 => ?_) (fun k5 => ?_)
      · replace h := h.1 k5
        refine aw_lconst (x := 0) dX7_joined_126 rfl ?_
        exact aw_lreturn dX7_joined_127 rfl h
      · replace h := h.2 k5
        refine aw_lconst (x := 1) dX7_joined_122 rfl ?_
        refine aw_goto (tgt := 127) dX7_joined_123 (by decide) ?_
        exact aw_lreturn dX7_joined_127 rfl h
  · have h := h9 hc; clear h0 h1 h2 h3 h4 h5 h6 h7 h8 h9 hd
    refine aw_lload_n dX7_joined_92 rfl rfl ?_
    refine aw_lconst (x := 0) dX7_joined_93 rfl ?_
    refine aw_lcmp_ne (M := MX7_joined) (tgt := 104) dX7_joined_94 dX7_joined_95 (by decide) (fun k6 => ?_) (fun k6 => ?_)
    · replace h := h.1 k6
      refine aw_lconst (x := 1) dX7_joined_104 rfl ?_
      refine aw_goto (tgt := 109) dX7_joined_105 (by decide) ?_
      exact aw_lreturn dX7_joined_109 rfl h
    · replace h := h.2 k6
      refine aw_lload_n dX7_joined_98 rfl rfl ?_
      refine aw_lconst (x := 0) dX7_joined_99 rfl ?_
      refine aw_lcmp_eq (M := MX7_joined) (tgt := 108) dX7_joined_100 dX7_joined_101 (by decide) (fun k7 => ?_) (fun k7 => ?_)
      · replace h := h.1 k7
        refine aw_lconst (x := 0) dX7_joined_108 rfl ?_
        exact aw_lreturn dX7_joined_109 rfl h
      · replace h := h.2 k7
        refine aw_lconst (x := 1) dX7_joined_104 rfl ?_
        refine aw_goto (tgt := 109) dX7_joined_105 (by decide) ?_
        exact aw_lreturn dX7_joined_109 rfl h
  · have h := hd n0 n1 n2 n3 n4 n5 n6 n7 n8 n9; clear h0 h1 h2 h3 h4 h5 h6 h7 h8 h9 hd
    refine aw_lload_n dX7_joined_184 rfl rfl ?_
    refine aw_lload_n dX7_joined_185 rfl rfl ?_
    refine aw_land dX7_joined_186 ?_
    exact aw_lreturn dX7_joined_187 rfl h
set_option maxRecDepth 4000 in
theorem bk_X7_stackUp_0 {g : GP} {l : Launch} {d : Nat} {σ : St} {Q : Option AV → St → Prop} {x0 : Nat} {x1 : Int64}
    (h : LC 7 σ x0 ∧ (((gI σ 702 x0 0) < 102 → Bd (gI σ 702 x0 0) 102 ∧ R32 ((gI σ 702 x0 0) + 1) ∧ Q none (sI (sJ σ 701 x0 (gI σ 702 x0 0).toNat x1) 702 x0 0 ((gI σ 702 x0 0) + 1))) ∧ (¬ (gI σ 702 x0 0) < 102 → Q none (sI σ 700 x0 0 1)))) :
    AW g l d MX7_stackUp 0 [some (vR 7 (some x0)), some (vJ x1), none] [] σ Q := by
  refine aw_aload_n dX7_stackUp_0 rfl rfl ?_
  refine aw_getI' rfl fk_702 lf_X7_19 dX7_stackUp_1 ?_
  refine aw_aload_n dX7_stackUp_4 rfl rfl ?_
  obtain ⟨lc1, h⟩ := h
  refine aw_getA' rfl fk_701 (by decide) lf_X7_9 dX7_stackUp_5 (LC.ne lc1 rfl rfl) ?_
  refine aw_alen (n := 102) (by decide) rfl dX7_stackUp_8 (lc1 701 rfl) (by decide) ?_
  refine aw_icmp_lt (tgt := 18) dX7_stackUp_9 (by decide) (fun k2 => ?_) (fun k2 => ?_)
  · replace h := h.1 k2
    refine aw_aload_n dX7_stackUp_18 rfl rfl ?_
    refine aw_getA' rfl fk_701 (by decide) lf_X7_9 dX7_stackUp_19 (LC.ne lc1 rfl rfl) ?_
    refine aw_aload_n dX7_stackUp_22 rfl rfl ?_
    refine aw_getI' rfl fk_702 lf_X7_19 dX7_stackUp_23 ?_
    refine aw_lload_n dX7_stackUp_26 rfl rfl ?_
    obtain ⟨⟨c3, c3x⟩, h⟩ := h
    refine aw_lastore (by decide) rfl dX7_stackUp_27 c3 (LC.lt lc1 rfl rfl c3x) ?_
    refine aw_aload_n dX7_stackUp_28 rfl rfl ?_
    refine aw_dup dX7_stackUp_29 rfl ?_
    refine aw_getIe (v := gI σ 702 x0 0) rfl fk_702 lf_X7_19 dX7_stackUp_30 rfl ?_
    refine aw_iconst (x := 1) dX7_stackUp_33 rfl ?_
    obtain ⟨⟨c4, c4x⟩, h⟩ := h
    refine aw_iaddc dX7_stackUp_34 c4 c4x ?_
    refine aw_putI' rfl fk_702 (Or.inl rfl) lf_X7_19 dX7_stackUp_35 ?_
    exact aw_ret h rfl dX7_stackUp_38
  · replace h := h.2 k2
    refine aw_aload_n dX7_stackUp_12 rfl rfl ?_
    refine aw_iconst (x := 1) dX7_stackUp_13 rfl ?_
    refine aw_putZ' rfl fk_700 (Or.inl rfl) lf_X7_15 dX7_stackUp_14 (Or.inr rfl) ?_
    exact aw_ret h rfl dX7_stackUp_17
set_option maxRecDepth 4000 in
theorem bk_X7_work_0 {g : GP} {l : Launch} {d : Nat} {σ : St} {Q : Option AV → St → Prop} {x0 : Nat} {x1 : Option Nat} {x2 : Int} {x3 : Option Nat} {x4 : Int} {x5 : Option Nat}
    (h : ((0 ≤ x2 → AW g l (d + 1) MX7_work 21 [some (vR 7 (some x0)), some (vR 0 x1), none, some (vR 5 x3), some (vI x4), some (vR 3 x5), some (vI x2), none, none] [] (sI (sI σ 700 x0 0 0) 702 x0 0 0) Q) ∧ (¬ 0 ≤ x2 → AW g l (d + 1) MX7_work 21 [some (vR 7 (some x0)), some (vR 0 x1), none, some (vR 5 x3), some (vI x4), some (vR 3 x5), some (vI x2), none, none] [] (sI (sI σ 700 x0 0 1) 702 x0 0 0) Q))) :
    AW g l (d + 1) MX7_work 0 [some (vR 7 (some x0)), some (vR 0 x1), some (vI x2), some (vR 5 x3), some (vI x4), some (vR 3 x5), none, none, none] [] σ Q := by
  refine aw_aload_n dX7_work_0 rfl rfl ?_
  refine aw_iload_n dX7_work_1 rfl rfl ?_
  refine aw_if_ge (tgt := 9) dX7_work_2 (by decide) (fun k1 => ?_) (fun k1 => ?_)
  · replace h := h.1 k1
    refine aw_iconst (x := 0) dX7_work_9 rfl ?_
    refine aw_putZ' rfl fk_700 (Or.inl rfl) lf_X7_15 dX7_work_10 (Or.inl rfl) ?_
    refine aw_aload_n dX7_work_13 rfl rfl ?_
    refine aw_iconst (x := 0) dX7_work_14 rfl ?_
    refine aw_putI' rfl fk_702 (Or.inl rfl) lf_X7_19 dX7_work_15 ?_
    refine aw_iload_n dX7_work_18 rfl rfl ?_
    refine aw_istore (L' := [some (vR 7 (some x0)), some (vR 0 x1), some (vI x2), some (vR 5 x3), some (vI x4), some (vR 3 x5), some (vI x2), none, none]) dX7_work_19 (by decide) rfl ?_
    exact aw_fgt (L' := [some (vR 7 (some x0)), some (vR 0 x1), none, some (vR 5 x3), some (vI x4), some (vR 3 x5), some (vI x2), none, none]) ⟨rfl, ⟨rfl, ⟨rfl, ⟨rfl, ⟨rfl, ⟨rfl, trivial⟩⟩⟩⟩⟩⟩ h
  · replace h := h.2 k1
    refine aw_iconst (x := 1) dX7_work_5 rfl ?_
    refine aw_goto (tgt := 10) dX7_work_6 (by decide) ?_
    refine aw_putZ' rfl fk_700 (Or.inl rfl) lf_X7_15 dX7_work_10 (Or.inr rfl) ?_
    refine aw_aload_n dX7_work_13 rfl rfl ?_
    refine aw_iconst (x := 0) dX7_work_14 rfl ?_
    refine aw_putI' rfl fk_702 (Or.inl rfl) lf_X7_19 dX7_work_15 ?_
    refine aw_iload_n dX7_work_18 rfl rfl ?_
    refine aw_istore (L' := [some (vR 7 (some x0)), some (vR 0 x1), some (vI x2), some (vR 5 x3), some (vI x4), some (vR 3 x5), some (vI x2), none, none]) dX7_work_19 (by decide) rfl ?_
    exact aw_fgt (L' := [some (vR 7 (some x0)), some (vR 0 x1), none, some (vR 5 x3), some (vI x4), some (vR 3 x5), some (vI x2), none, none]) ⟨rfl, ⟨rfl, ⟨rfl, ⟨rfl, ⟨rfl, ⟨rfl, trivial⟩⟩⟩⟩⟩⟩ h
set_option maxRecDepth 4000 in
theorem bk_X7_work_21 {g : GP} {l : Launch} {d : Nat} {σ : St} {Q : Option AV → St → Prop} {x0 : Nat} {x1 : Option Nat} {x3 : Option Nat} {x4 : Int} {x5 : Option Nat} {x6 : Int}
    (h : ((¬ (gI σ 700 x0 0) = 0 → AW g l (d + 1) MX7_work 259 [some (vR 7 (some x0)), none, none, none, none, none, none, none, none] [] σ Q) ∧ ((gI σ 700 x0 0) = 0 → ∃ r2, x1 = some r2 ∧ (((gI σ 2 r2 0) ≤ x6 → AW g l (d + 1) MX7_work 259 [some (vR 7 (some x0)), none, none, none, none, none, none, none, none] [] σ Q) ∧ (¬ (gI σ 2 r2 0) ≤ x6 → LC 0 σ r2 ∧ Bd x6 3002 ∧ (((gI σ 0 r2 x6.toNat) = 0 → AW g l (d + 1) MX7_work 259 [some (vR 7 (some x0)), none, none, none, none, none, none, none, none] [] σ Q) ∧ (¬ (gI σ 0 r2 x6.toNat) = 0 → (((gI σ 0 r2 x6.toNat) = 2 → ∃ r8, x3 = some r8 ∧ ACr g l d MX5_kidMeant 5 [vR 5 (some r8), vI (j2i (gJ σ 1 r2 x6.toNat))] σ (fun v11 σ10 => ((v11 = none → AW g l (d + 1) MX7_work 210 [some (vR 7 (some x0)), some (vR 0 x1), none, some (vR 5 x3), some (vI x4), some (vR 3 x5), some (vI x6), none, some (vR 5 v11)] [vI 1, vR 7 (some x0)] σ10 Q) ∧ (∀ r12, v11 = some r12 → ((¬ (gI σ10 504 r12 0) = 1 → AW g l (d + 1) MX7_work 210 [some (vR 7 (some x0)), some (vR 0 x1), none, some (vR 5 x3), some (vI x4), some (vR 3 x5), some (vI x6), none, some (vR 5 v11)] [vI 0, vR 7 (some x0)] σ10 Q) ∧ ((gI σ10 504 r12 0) = 1 → AW g l (d + 1) MX7_work 210 [some (vR 7 (some x0)), some (vR 0 x1), none, some (vR 5 x3), some (vI x4), some (vR 3 x5), some (vI x6), none, some (vR 5 v11)] [vI 1, vR 7 (some x0)] σ10 Q)))))) ∧ ((gI σ 0 r2 x6.toNat) = 3 → ACv g l d MX7_stackUp [vR 7 (some x0), vJ (gJ σ 1 r2 x6.toNat)] σ (fun σ15 => R32 (x6 + 1) ∧ AW g l (d + 1) MX7_work 21 [some (vR 7 (some x0)), some (vR 0 x1), none, some (vR 5 x3), some (vI x4), some (vR 3 x5), some (vI (x6 + 1)), none, none] [] σ15 Q)) ∧ ((gI σ 0 r2 x6.toNat) = 5 → ACv g l d MX7_workOne [vR 7 (some x0), vI (gI σ 0 r2 x6.toNat)] σ (fun σ17 => R32 (x6 + 1) ∧ AW g l (d + 1) MX7_work 21 [some (vR 7 (some x0)), some (vR 0 x1), none, some (vR 5 x3), some (vI x4), some (vR 3 x5), some (vI (x6 + 1)), none, none] [] σ17 Q)) ∧ ((gI σ 0 r2 x6.toNat) = 212 → ACv g l d MX7_stackUp [vR 7 (some x0), vJ (i2j x4)] σ (fun σ19 => R32 (x6 + 1) ∧ AW g l (d + 1) MX7_work 21 [some (vR 7 (some x0)), some (vR 0 x1), none, some (vR 5 x3), some (vI x4), some (vR 3 x5), some (vI (x6 + 1)), none, none] [] σ19 Q)) ∧ ((gI σ 0 r2 x6.toNat) = 222 → ∃ r21, x5 = some r21 ∧ R32 ((gI σ 304 r21 0) - x4) ∧ ACv g l d MX7_stackUp [vR 7 (some x0), vJ (i2j ((gI σ 304 r21 0) - x4))] σ (fun σ24 => R32 (x6 + 1) ∧ AW g l (d + 1) MX7_work 21 [some (vR 7 (some x0)), some (vR 0 x1), none, some (vR 5 x3), some (vI x4), some (vR 3 x5), some (vI (x6 + 1)), none, none] [] σ24 Q)) ∧ ((gI σ 0 r2 x6.toNat) = 223 → ∃ r26, x3 = some r26 ∧ ACv g l d MX7_stackUp [vR 7 (some x0), vJ (i2j (gI σ 502 r26 0))] σ (fun σ28 => R32 (x6 + 1) ∧ AW g l (d + 1) MX7_work 21 [some (vR 7 (some x0)), some (vR 0 x1), none, some (vR 5 x3), some (vI x4), some (vR 3 x5), some (vI (x6 + 1)), none, none] [] σ28 Q)) ∧ ((gI σ 0 r2 x6.toNat) = 226 → ACv g l d MX7_workOne [vR 7 (some x0), vI (gI σ 0 r2 x6.toNat)] σ (fun σ30 => R32 (x6 + 1) ∧ AW g l (d + 1) MX7_work 21 [some (vR 7 (some x0)), some (vR 0 x1), none, some (vR 5 x3), some (vI x4), some (vR 3 x5), some (vI (x6 + 1)), none, none] [] σ30 Q)) ∧ (¬ (gI σ 0 r2 x6.toNat) = 2 → ¬ (gI σ 0 r2 x6.toNat) = 3 → ¬ (gI σ 0 r2 x6.toNat) = 5 → ¬ (gI σ 0 r2 x6.toNat) = 212 → ¬ (gI σ 0 r2 x6.toNat) = 222 → ¬ (gI σ 0 r2 x6.toNat) = 223 → ¬ (gI σ 0 r2 x6.toNat) = 226 → ACv g l d MX7_workTwo [vR 7 (some x0), vI (gI σ 0 r2 x6.toNat)] σ (fun σ32 => R32 (x6 + 1) ∧ AW g l (d + 1) MX7_work 21 [some (vR 7 (some x0)), some (vR 0 x1), none, some (vR 5 x3), some (vI x4), some (vR 3 x5), some (vI (x6 + 1)), none, none] [] σ32 Q)))))))))) :
    AW g l (d + 1) MX7_work 21 [some (vR 7 (some x0)), some (vR 0 x1), none, some (vR 5 x3), some (vI x4), some (vR 3 x5), some (vI x6), none, none] [] σ Q := by
  refine aw_aload_n dX7_work_21 rfl rfl ?_
  refine aw_getZ' rfl fk_700 lf_X7_15 dX7_work_22 ?_
  refine aw_if_ne (tgt := 259) dX7_work_25 (by decide) (fun k1 => ?_) (fun k1 => ?_)
  · replace h := h.1 k1
    exact aw_fgt (L' := [some (vR 7 (some x0)), none, none, none, none, none, none, none, none]) ⟨rfl, trivial⟩ h
  · replace h := h.2 k1
    refine aw_iload dX7_work_28 rfl ?_
    refine aw_aload_n dX7_work_30 rfl rfl ?_
    obtain ⟨r2, e3, h⟩ := h
    refine aw_getI' e3 fk_2 lf_X7_23 dX7_work_31 ?_
    refine aw_icmp_ge (tgt := 259) dX7_work_34 (by decide) (fun k4 => ?_) (fun k4 => ?_)
    · replace h := h.1 k4
      exact aw_fgt (L' := [some (vR 7 (some x0)), none, none, none, none, none, none, none, none]) ⟨rfl, trivial⟩ h
    · replace h := h.2 k4
      refine aw_aload_n dX7_work_37 rfl rfl ?_
      obtain ⟨lc5, h⟩ := h
      refine aw_getA' e3 fk_0 (by decide) lf_X7_28 dX7_work_38 (LC.ne lc5 rfl rfl) ?_
      refine aw_iload dX7_work_41 rfl ?_
      obtain ⟨⟨c6, c6x⟩, h⟩ := h
      refine aw_iaload (by decide) rfl dX7_work_43 c6 (LC.lt lc5 rfl rfl c6x) ?_
      refine aw_if_eq (tgt := 259) dX7_work_44 (by decide) (fun k7 => ?_) (fun k7 => ?_)
      · replace h := h.1 k7
        exact aw_fgt (L' := [some (vR 7 (some x0)), none, none, none, none, none, none, none, none]) ⟨rfl, trivial⟩ h
      · replace h := h.2 k7
        refine aw_aload_n dX7_work_47 rfl rfl ?_
        refine aw_getA' e3 fk_0 (by decide) lf_X7_28 dX7_work_48 (LC.ne lc5 rfl rfl) ?_
        refine aw_iload dX7_work_51 rfl ?_
        refine aw_iaload (by decide) rfl dX7_work_53 c6 (LC.lt lc5 rfl rfl c6x) ?_
        refine aw_istore (L' := [some (vR 7 (some x0)), some (vR 0 x1), none, some (vR 5 x3), some (vI x4), some (vR 3 x5), some (vI x6), some (vI (gI σ 0 r2 x6.toNat)), none]) dX7_work_54 (by decide) rfl ?_
        refine aw_iload dX7_work_56 rfl ?_
        obtain ⟨h0, h1, h2, h3, h4, h5, h6, hd⟩ := h
        refine aw_lookup (M := MX7_work) (dt := 247) [(2, 176), (3, 124), (5, 238), (212, 138), (222, 148), (223, 164), (226, 238)] dX7_work_58 (by decide) (by decide) (by decide) ⟨fun hc => ?_, fun n0 => ⟨fun hc => ?_, fun n1 => ⟨fun hc => ?_, fun n2 => ⟨fun hc => ?_, fun n3 => ⟨fun hc => ?_, fun n4 => ⟨fun hc => ?_, fun n5 => ⟨fun hc => ?_, fun n6 => ?_⟩⟩⟩⟩⟩⟩⟩
        · have h := h0 hc; clear h0 h1 h2 h3 h4 h5 h6 hd
          refine aw_aload_n dX7_work_176 rfl rfl ?_
          refine aw_aload_n dX7_work_177 rfl rfl ?_
          refine aw_getA' e3 fk_1 (by decide) lf_X7_32 dX7_work_178 (LC.ne lc5 rfl rfl) ?_
          refine aw_iload dX7_work_181 rfl ?_
          refine aw_laload (by decide) rfl dX7_work_183 c6 (LC.lt lc5 rfl rfl c6x) ?_
          refine aw_l2i dX7_work_184 ?_
          obtain ⟨r8, e9, h⟩ := h
          refine aw_invVr (M := MX7_work) (ci := 5) [vI (j2i (gJ σ 1 r2 x6.toNat))] e9 mo_X5_kidMeant rfl lm_X7_49 li_X5_kidMeant ls_X5_kidMeant (by decide +kernel) dX7_work_185 rfl (Nat.le_of_ble_eq_true rfl) (ACr.mono (fun v11 σ10 h => ?_) h)
          refine aw_astore (L' := [some (vR 7 (some x0)), some (vR 0 x1), none, some (vR 5 x3), some (vI x4), some (vR 3 x5), some (vI x6), some (vI (gI σ 0 r2 x6.toNat)), some (vR 5 v11)]) dX7_work_188 (by decide) rfl ?_
          refine aw_aload_n dX7_work_190 rfl rfl ?_
          refine aw_aload dX7_work_191 rfl ?_
          refine aw_ifnull (tgt := 205) dX7_work_193 (by decide) (fun hc => ?_) (fun r12 e13 => ?_)
          · replace h := h.1 hc
            refine aw_iconst (x := 1) dX7_work_205 rfl ?_
            refine aw_goto (tgt := 210) dX7_work_206 (by decide) ?_
            exact aw_fgt (L' := [some (vR 7 (some x0)), some (vR 0 x1), none, some (vR 5 x3), some (vI x4), some (vR 3 x5), some (vI x6), none, some (vR 5 v11)]) ⟨rfl, ⟨rfl, ⟨rfl, ⟨rfl, ⟨rfl, ⟨rfl, ⟨rfl, trivial⟩⟩⟩⟩⟩⟩⟩ h
          · replace h := h.2 r12 e13
            refine aw_aload dX7_work_196 rfl ?_
            refine aw_getI' e13 fk_504 lf_X7_53 dX7_work_198 ?_
            refine aw_iconst (x := 1) dX7_work_201 rfl ?_
            refine aw_icmp_ne (tgt := 209) dX7_work_202 (by decide) (fun k14 => ?_) (fun k14 => ?_)
            · replace h := h.1 k14
              refine aw_iconst (x := 0) dX7_work_209 rfl ?_
              exact aw_fgt (L' := [some (vR 7 (some x0)), some (vR 0 x1), none, some (vR 5 x3), some (vI x4), some (vR 3 x5), some (vI x6), none, some (vR 5 v11)]) ⟨rfl, ⟨rfl, ⟨rfl, ⟨rfl, ⟨rfl, ⟨rfl, ⟨rfl, trivial⟩⟩⟩⟩⟩⟩⟩ h
            · replace h := h.2 k14
              refine aw_iconst (x := 1) dX7_work_205 rfl ?_
              refine aw_goto (tgt := 210) dX7_work_206 (by decide) ?_
              exact aw_fgt (L' := [some (vR 7 (some x0)), some (vR 0 x1), none, some (vR 5 x3), some (vI x4), some (vR 3 x5), some (vI x6), none, some (vR 5 v11)]) ⟨rfl, ⟨rfl, ⟨rfl, ⟨rfl, ⟨rfl, ⟨rfl, ⟨rfl, trivial⟩⟩⟩⟩⟩⟩⟩ h
        · have h := h1 hc; clear h0 h1 h2 h3 h4 h5 h6 hd
          refine aw_aload_n dX7_work_124 rfl rfl ?_
          refine aw_aload_n dX7_work_125 rfl rfl ?_
          refine aw_getA' e3 fk_1 (by decide) lf_X7_32 dX7_work_126 (LC.ne lc5 rfl rfl) ?_
          refine aw_iload dX7_work_129 rfl ?_
          refine aw_laload (by decide) rfl dX7_work_131 c6 (LC.lt lc5 rfl rfl c6x) ?_
          refine aw_invVv (M := MX7_work) (ci := 7) [vJ (gJ σ 1 r2 x6.toNat)] rfl mo_X7_stackUp rfl lm_X7_35 li_X7_stackUp ls_X7_stackUp (by decide +kernel) dX7_work_132 rfl (Nat.le_of_ble_eq_true rfl) (ACv.mono (fun σ15 h => ?_) h)
          refine aw_goto (tgt := 253) dX7_work_135 (by decide) ?_
          obtain ⟨⟨c16, c16x⟩, h⟩ := h
          refine aw_iincc (L' := [some (vR 7 (some x0)), some (vR 0 x1), none, some (vR 5 x3), some (vI x4), some (vR 3 x5), some (vI (x6 + 1)), some (vI (gI σ 0 r2 x6.toNat)), none]) dX7_work_253 rfl (by decide) rfl c16 c16x rfl ?_
          refine aw_goto (tgt := 21) dX7_work_256 (by decide) ?_
          exact aw_fgt (L' := [some (vR 7 (some x0)), some (vR 0 x1), none, some (vR 5 x3), some (vI x4), some (vR 3 x5), some (vI (x6 + 1)), none, none]) ⟨rfl, ⟨rfl, ⟨rfl, ⟨rfl, ⟨rfl, ⟨rfl, trivial⟩⟩⟩⟩⟩⟩ h
        · have h := h2 hc; clear h0 h1 h2 h3 h4 h5 h6 hd
          refine aw_aload_n dX7_work_238 rfl rfl ?_
          refine aw_iload dX7_work_239 rfl ?_
          refine aw_invVv (M := MX7_work) (ci := 7) [vI (gI σ 0 r2 x6.toNat)] rfl mo_X7_workOne rfl lm_X7_60 li_X7_workOne ls_X7_workOne (by decide +kernel) dX7_work_241 rfl (Nat.le_of_ble_eq_true rfl) (ACv.mono (fun σ17 h => ?_) h)
          refine aw_goto (tgt := 253) dX7_work_244 (by decide) ?_
          obtain ⟨⟨c18, c18x⟩, h⟩ := h
          refine aw_iincc (L' := [some (vR 7 (some x0)), some (vR 0 x1), none, some (vR 5 x3), some (vI x4), some (vR 3 x5), some (vI (x6 + 1)), some (vI (gI σ 0 r2 x6.toNat)), none]) dX7_work_253 rfl (by decide) rfl c18 c18x rfl ?_
          refine aw_goto (tgt := 21) dX7_work_256 (by decide) ?_
          exact aw_fgt (L' := [some (vR 7 (some x0)), some (vR 0 x1), none, some (vR 5 x3), some (vI x4), some (vR 3 x5), some (vI (x6 + 1)), none, none]) ⟨rfl, ⟨rfl, ⟨rfl, ⟨rfl, ⟨rfl, ⟨rfl, trivial⟩⟩⟩⟩⟩⟩ h
        · have h := h3 hc; clear h0 h1 h2 h3 h4 h5 h6 hd
          refine aw_aload_n dX7_work_138 rfl rfl ?_
          refine aw_iload dX7_work_139 rfl ?_
          refine aw_i2l dX7_work_141 ?_
          refine aw_invVv (M := MX7_work) (ci := 7) [vJ (i2j x4)] rfl mo_X7_stackUp rfl lm_X7_35 li_X7_stackUp ls_X7_stackUp (by decide +kernel) dX7_work_142 rfl (Nat.le_of_ble_eq_true rfl) (ACv.mono (fun σ19 h => ?_) h)
          refine aw_goto (tgt := 253) dX7_work_145 (by decide) ?_
          obtain ⟨⟨c20, c20x⟩, h⟩ := h
          refine aw_iincc (L' := [some (vR 7 (some x0)), some (vR 0 x1), none, some (vR 5 x3), some (vI x4), some (vR 3 x5), some (vI (x6 + 1)), some (vI (gI σ 0 r2 x6.toNat)), none]) dX7_work_253 rfl (by decide) rfl c20 c20x rfl ?_
          refine aw_goto (tgt := 21) dX7_work_256 (by decide) ?_
          exact aw_fgt (L' := [some (vR 7 (some x0)), some (vR 0 x1), none, some (vR 5 x3), some (vI x4), some (vR 3 x5), some (vI (x6 + 1)), none, none]) ⟨rfl, ⟨rfl, ⟨rfl, ⟨rfl, ⟨rfl, ⟨rfl, trivial⟩⟩⟩⟩⟩⟩ h
        · have h := h4 hc; clear h0 h1 h2 h3 h4 h5 h6 hd
          refine aw_aload_n dX7_work_148 rfl rfl ?_
          refine aw_aload dX7_work_149 rfl ?_
          obtain ⟨r21, e22, h⟩ := h
          refine aw_getI' e22 fk_304 lf_X7_39 dX7_work_151 ?_
          refine aw_iload dX7_work_154 rfl ?_
          obtain ⟨⟨c23, c23x⟩, h⟩ := h
          refine aw_isubc dX7_work_156 c23 c23x ?_
          refine aw_i2l dX7_work_157 ?_
          refine aw_invVv (M := MX7_work) (ci := 7) [vJ (i2j ((gI σ 304 r21 0) - x4))] rfl mo_X7_stackUp rfl lm_X7_35 li_X7_stackUp ls_X7_stackUp (by decide +kernel) dX7_work_158 rfl (Nat.le_of_ble_eq_true rfl) (ACv.mono (fun σ24 h => ?_) h)
          refine aw_goto (tgt := 253) dX7_work_161 (by decide) ?_
          obtain ⟨⟨c25, c25x⟩, h⟩ := h
          refine aw_iincc (L' := [some (vR 7 (some x0)), some (vR 0 x1), none, some (vR 5 x3), some (vI x4), some (vR 3 x5), some (vI (x6 + 1)), some (vI (gI σ 0 r2 x6.toNat)), none]) dX7_work_253 rfl (by decide) rfl c25 c25x rfl ?_
          refine aw_goto (tgt := 21) dX7_work_256 (by decide) ?_
          exact aw_fgt (L' := [some (vR 7 (some x0)), some (vR 0 x1), none, some (vR 5 x3), some (vI x4), some (vR 3 x5), some (vI (x6 + 1)), none, none]) ⟨rfl, ⟨rfl, ⟨rfl, ⟨rfl, ⟨rfl, ⟨rfl, trivial⟩⟩⟩⟩⟩⟩ h
        · have h := h5 hc; clear h0 h1 h2 h3 h4 h5 h6 hd
          refine aw_aload_n dX7_work_164 rfl rfl ?_
          refine aw_aload_n dX7_work_165 rfl rfl ?_
          obtain ⟨r26, e27, h⟩ := h
          refine aw_getI' e27 fk_502 lf_X7_44 dX7_work_166 ?_
          refine aw_i2l dX7_work_169 ?_
          refine aw_invVv (M := MX7_work) (ci := 7) [vJ (i2j (gI σ 502 r26 0))] rfl mo_X7_stackUp rfl lm_X7_35 li_X7_stackUp ls_X7_stackUp (by decide +kernel) dX7_work_170 rfl (Nat.le_of_ble_eq_true rfl) (ACv.mono (fun σ28 h => ?_) h)
          refine aw_goto (tgt := 253) dX7_work_173 (by decide) ?_
          obtain ⟨⟨c29, c29x⟩, h⟩ := h
          refine aw_iincc (L' := [some (vR 7 (some x0)), some (vR 0 x1), none, some (vR 5 x3), some (vI x4), some (vR 3 x5), some (vI (x6 + 1)), some (vI (gI σ 0 r2 x6.toNat)), none]) dX7_work_253 rfl (by decide) rfl c29 c29x rfl ?_
          refine aw_goto (tgt := 21) dX7_work_256 (by decide) ?_
          exact aw_fgt (L' := [some (vR 7 (some x0)), some (vR 0 x1), none, some (vR 5 x3), some (vI x4), some (vR 3 x5), some (vI (x6 + 1)), none, none]) ⟨rfl, ⟨rfl, ⟨rfl, ⟨rfl, ⟨rfl, ⟨rfl, trivial⟩⟩⟩⟩⟩⟩ h
        · have h := h6 hc; clear h0 h1 h2 h3 h4 h5 h6 hd
          refine aw_aload_n dX7_work_238 rfl rfl ?_
          refine aw_iload dX7_work_239 rfl ?_
          refine aw_invVv (M := MX7_work) (ci := 7) [vI (gI σ 0 r2 x6.toNat)] rfl mo_X7_workOne rfl lm_X7_60 li_X7_workOne ls_X7_workOne (by decide +kernel) dX7_work_241 rfl (Nat.le_of_ble_eq_true rfl) (ACv.mono (fun σ30 h => ?_) h)
          refine aw_goto (tgt := 253) dX7_work_244 (by decide) ?_
          obtain ⟨⟨c31, c31x⟩, h⟩ := h
          refine aw_iincc (L' := [some (vR 7 (some x0)), some (vR 0 x1), none, some (vR 5 x3), some (vI x4), some (vR 3 x5), some (vI (x6 + 1)), some (vI (gI σ 0 r2 x6.toNat)), none]) dX7_work_253 rfl (by decide) rfl c31 c31x rfl ?_
          refine aw_goto (tgt := 21) dX7_work_256 (by decide) ?_
          exact aw_fgt (L' := [some (vR 7 (some x0)), some (vR 0 x1), none, some (vR 5 x3), some (vI x4), some (vR 3 x5), some (vI (x6 + 1)), none, none]) ⟨rfl, ⟨rfl, ⟨rfl, ⟨rfl, ⟨rfl, ⟨rfl, trivial⟩⟩⟩⟩⟩⟩ h
        · have h := hd n0 n1 n2 n3 n4 n5 n6; clear h0 h1 h2 h3 h4 h5 h6 hd
          refine aw_aload_n dX7_work_247 rfl rfl ?_
          refine aw_iload dX7_work_248 rfl ?_
          refine aw_invVv (M := MX7_work) (ci := 7) [vI (gI σ 0 r2 x6.toNat)] rfl mo_X7_workTwo rfl lm_X7_64 li_X7_workTwo ls_X7_workTwo (by decide +kernel) dX7_work_250 rfl (Nat.le_of_ble_eq_true rfl) (ACv.mono (fun σ32 h => ?_) h)
          obtain ⟨⟨c33, c33x⟩, h⟩ := h
          refine aw_iincc (L' := [some (vR 7 (some x0)), some (vR 0 x1), none, some (vR 5 x3), some (vI x4), some (vR 3 x5), some (vI (x6 + 1)), some (vI (gI σ 0 r2 x6.toNat)), none]) dX7_work_253 rfl (by decide) rfl c33 c33x rfl ?_
          refine aw_goto (tgt := 21) dX7_work_256 (by decide) ?_
          exact aw_fgt (L' := [some (vR 7 (some x0)), some (vR 0 x1), none, some (vR 5 x3), some (vI x4), some (vR 3 x5), some (vI (x6 + 1)), none, none]) ⟨rfl, ⟨rfl, ⟨rfl, ⟨rfl, ⟨rfl, ⟨rfl, trivial⟩⟩⟩⟩⟩⟩ h
set_option maxRecDepth 4000 in
theorem bk_X7_work_210 {g : GP} {l : Launch} {d : Nat} {σ : St} {Q : Option AV → St → Prop} {x0 : Nat} {x1 : Option Nat} {x3 : Option Nat} {x4 : Int} {x5 : Option Nat} {x6 : Int} {x8 : Option Nat} {y0 : Int} {y1 : Option Nat}
    (h : ∃ r1, y1 = some r1 ∧ (y0 = 0 ∨ y0 = 1) ∧ (((gI (sI σ 700 r1 0 y0) 700 x0 0) = 0 → ∃ r4, x8 = some r4 ∧ ACj g l d MX5_reading [vR 5 (some r4), vR 3 x5] (sI σ 700 r1 0 y0) (fun v7 σ6 => ACv g l d MX7_stackUp [vR 7 (some x0), vJ v7] σ6 (fun σ8 => R32 (x6 + 1) ∧ AW g l (d + 1) MX7_work 21 [some (vR 7 (some x0)), some (vR 0 x1), none, some (vR 5 x3), some (vI x4), some (vR 3 x5), some (vI (x6 + 1)), none, none] [] σ8 Q))) ∧ (¬ (gI (sI σ 700 r1 0 y0) 700 x0 0) = 0 → ACv g l d MX7_stackUp [vR 7 (some x0), vJ 0] (sI σ 700 r1 0 y0) (fun σ10 => R32 (x6 + 1) ∧ AW g l (d + 1) MX7_work 21 [some (vR 7 (some x0)), some (vR 0 x1), none, some (vR 5 x3), some (vI x4), some (vR 3 x5), some (vI (x6 + 1)), none, none] [] σ10 Q)))) :
    AW g l (d + 1) MX7_work 210 [some (vR 7 (some x0)), some (vR 0 x1), none, some (vR 5 x3), some (vI x4), some (vR 3 x5), some (vI x6), none, some (vR 5 x8)] [vI y0, vR 7 y1] σ Q := by
  obtain ⟨r1, e2, h⟩ := h
  obtain ⟨h0, h⟩ := h
  refine aw_putZ' e2 fk_700 (Or.inl rfl) lf_X7_15 dX7_work_210 h0 ?_
  refine aw_aload_n dX7_work_213 rfl rfl ?_
  refine aw_aload_n dX7_work_214 rfl rfl ?_
  refine aw_getZ' rfl fk_700 lf_X7_15 dX7_work_215 ?_
  refine aw_if_eq (tgt := 225) dX7_work_218 (by decide) (fun k3 => ?_) (fun k3 => ?_)
  · replace h := h.1 k3
    refine aw_aload dX7_work_225 rfl ?_
    refine aw_aload dX7_work_227 rfl ?_
    obtain ⟨r4, e5, h⟩ := h
    refine aw_invVj (M := MX7_work) (ci := 5) [vR 3 x5] e5 mo_X5_reading rfl lm_X7_56 li_X5_reading ls_X5_reading (by decide +kernel) dX7_work_229 rfl (Nat.le_of_ble_eq_true rfl) (ACj.mono (fun v7 σ6 h => ?_) h)
    refine aw_invVv (M := MX7_work) (ci := 7) [vJ v7] rfl mo_X7_stackUp rfl lm_X7_35 li_X7_stackUp ls_X7_stackUp (by decide +kernel) dX7_work_232 rfl (Nat.le_of_ble_eq_true rfl) (ACv.mono (fun σ8 h => ?_) h)
    refine aw_goto (tgt := 253) dX7_work_235 (by decide) ?_
    obtain ⟨⟨c9, c9x⟩, h⟩ := h
    refine aw_iincc (L' := [some (vR 7 (some x0)), some (vR 0 x1), none, some (vR 5 x3), some (vI x4), some (vR 3 x5), some (vI (x6 + 1)), none, some (vR 5 x8)]) dX7_work_253 rfl (by decide) rfl c9 c9x rfl ?_
    refine aw_goto (tgt := 21) dX7_work_256 (by decide) ?_
    exact aw_fgt (L' := [some (vR 7 (some x0)), some (vR 0 x1), none, some (vR 5 x3), some (vI x4), some (vR 3 x5), some (vI (x6 + 1)), none, none]) ⟨rfl, ⟨rfl, ⟨rfl, ⟨rfl, ⟨rfl, ⟨rfl, trivial⟩⟩⟩⟩⟩⟩ h
  · replace h := h.2 k3
    refine aw_lconst (x := 0) dX7_work_221 rfl ?_
    refine aw_goto (tgt := 232) dX7_work_222 (by decide) ?_
    refine aw_invVv (M := MX7_work) (ci := 7) [vJ 0] rfl mo_X7_stackUp rfl lm_X7_35 li_X7_stackUp ls_X7_stackUp (by decide +kernel) dX7_work_232 rfl (Nat.le_of_ble_eq_true rfl) (ACv.mono (fun σ10 h => ?_) h)
    refine aw_goto (tgt := 253) dX7_work_235 (by decide) ?_
    obtain ⟨⟨c11, c11x⟩, h⟩ := h
    refine aw_iincc (L' := [some (vR 7 (some x0)), some (vR 0 x1), none, some (vR 5 x3), some (vI x4), some (vR 3 x5), some (vI (x6 + 1)), none, some (vR 5 x8)]) dX7_work_253 rfl (by decide) rfl c11 c11x rfl ?_
    refine aw_goto (tgt := 21) dX7_work_256 (by decide) ?_
    exact aw_fgt (L' := [some (vR 7 (some x0)), some (vR 0 x1), none, some (vR 5 x3), some (vI x4), some (vR 3 x5), some (vI (x6 + 1)), none, none]) ⟨rfl, ⟨rfl, ⟨rfl, ⟨rfl, ⟨rfl, ⟨rfl, trivial⟩⟩⟩⟩⟩⟩ h
set_option maxRecDepth 4000 in
theorem bk_X7_work_259 {g : GP} {l : Launch} {d : Nat} {σ : St} {Q : Option AV → St → Prop} {x0 : Nat}
    (h : (((gI σ 702 x0 0) = 1 → ((i_or (gI σ 700 x0 0) 0) = 0 ∨ (i_or (gI σ 700 x0 0) 0) = 1) ∧ (((i_or (gI σ 700 x0 0) 0) = 0 → LC 7 σ x0 ∧ Q (some (vJ (gJ σ 701 x0 0))) (sI σ 700 x0 0 (i_or (gI σ 700 x0 0) 0))) ∧ (¬ (i_or (gI σ 700 x0 0) 0) = 0 → Q (some (vJ 0)) (sI σ 700 x0 0 (i_or (gI σ 700 x0 0) 0))))) ∧ (¬ (gI σ 702 x0 0) = 1 → ((i_or (gI σ 700 x0 0) 1) = 0 ∨ (i_or (gI σ 700 x0 0) 1) = 1) ∧ (((i_or (gI σ 700 x0 0) 1) = 0 → LC 7 σ x0 ∧ Q (some (vJ (gJ σ 701 x0 0))) (sI σ 700 x0 0 (i_or (gI σ 700 x0 0) 1))) ∧ (¬ (i_or (gI σ 700 x0 0) 1) = 0 → Q (some (vJ 0)) (sI σ 700 x0 0 (i_or (gI σ 700 x0 0) 1))))))) :
    AW g l (d + 1) MX7_work 259 [some (vR 7 (some x0)), none, none, none, none, none, none, none, none] [] σ Q := by
  refine aw_aload_n dX7_work_259 rfl rfl ?_
  refine aw_dup dX7_work_260 rfl ?_
  refine aw_getZ' rfl fk_700 lf_X7_15 dX7_work_261 ?_
  refine aw_aload_n dX7_work_264 rfl rfl ?_
  refine aw_getI' rfl fk_702 lf_X7_19 dX7_work_265 ?_
  refine aw_iconst (x := 1) dX7_work_268 rfl ?_
  refine aw_icmp_eq (tgt := 276) dX7_work_269 (by decide) (fun k1 => ?_) (fun k1 => ?_)
  · replace h := h.1 k1
    refine aw_iconst (x := 0) dX7_work_276 rfl ?_
    refine aw_ior dX7_work_277 ?_
    obtain ⟨h0, h⟩ := h
    refine aw_putZ' rfl fk_700 (Or.inl rfl) lf_X7_15 dX7_work_278 h0 ?_
    refine aw_aload_n dX7_work_281 rfl rfl ?_
    refine aw_getZe (v := (i_or (gI σ 700 x0 0) 0)) rfl fk_700 lf_X7_15 dX7_work_282 (gI_slf σ 700 x0 0 (i_or (gI σ 700 x0 0) 0)) ?_
    refine aw_if_eq (tgt := 292) dX7_work_285 (by decide) (fun k2 => ?_) (fun k2 => ?_)
    · replace h := h.1 k2
      refine aw_aload_n dX7_work_292 rfl rfl ?_
      obtain ⟨lc3, h⟩ := h
      refine aw_getA' rfl fk_701 (by decide) lf_X7_9 dX7_work_293 (LC.ne lc3 rfl rfl) ?_
      refine aw_iconst (x := 0) dX7_work_296 rfl ?_
      refine aw_laloade (v := gJ σ 701 x0 0) (by decide) rfl dX7_work_297 (by decide) (LC.lt lc3 rfl rfl (by decide)) rfl ?_
      exact aw_lreturn dX7_work_298 rfl h
    · replace h := h.2 k2
      refine aw_lconst (x := 0) dX7_work_288 rfl ?_
      refine aw_goto (tgt := 298) dX7_work_289 (by decide) ?_
      exact aw_lreturn dX7_work_298 rfl h
  · replace h := h.2 k1
    refine aw_iconst (x := 1) dX7_work_272 rfl ?_
    refine aw_goto (tgt := 277) dX7_work_273 (by decide) ?_
    refine aw_ior dX7_work_277 ?_
    obtain ⟨h0, h⟩ := h
    refine aw_putZ' rfl fk_700 (Or.inl rfl) lf_X7_15 dX7_work_278 h0 ?_
    refine aw_aload_n dX7_work_281 rfl rfl ?_
    refine aw_getZe (v := (i_or (gI σ 700 x0 0) 1)) rfl fk_700 lf_X7_15 dX7_work_282 (gI_slf σ 700 x0 0 (i_or (gI σ 700 x0 0) 1)) ?_
    refine aw_if_eq (tgt := 292) dX7_work_285 (by decide) (fun k4 => ?_) (fun k4 => ?_)
    · replace h := h.1 k4
      refine aw_aload_n dX7_work_292 rfl rfl ?_
      obtain ⟨lc5, h⟩ := h
      refine aw_getA' rfl fk_701 (by decide) lf_X7_9 dX7_work_293 (LC.ne lc5 rfl rfl) ?_
      refine aw_iconst (x := 0) dX7_work_296 rfl ?_
      refine aw_laloade (v := gJ σ 701 x0 0) (by decide) rfl dX7_work_297 (by decide) (LC.lt lc5 rfl rfl (by decide)) rfl ?_
      exact aw_lreturn dX7_work_298 rfl h
    · replace h := h.2 k4
      refine aw_lconst (x := 0) dX7_work_288 rfl ?_
      refine aw_goto (tgt := 298) dX7_work_289 (by decide) ?_
      exact aw_lreturn dX7_work_298 rfl h
set_option maxRecDepth 4000 in
theorem bk_X7_workOne_0 {g : GP} {l : Launch} {d : Nat} {σ : St} {Q : Option AV → St → Prop} {x0 : Nat} {x1 : Int}
    (h : ((1 ≤ (gI σ 702 x0 0) → LC 7 σ x0 ∧ R32 ((gI σ 702 x0 0) - 1) ∧ Bd ((gI σ 702 x0 0) - 1) 102 ∧ ((¬ x1 = 5 → ((¬ (gJ σ 701 x0 ((gI σ 702 x0 0) - 1).toNat) = (0 : Int64) → Q none (sJ σ 701 x0 ((gI σ 702 x0 0) - 1).toNat 0)) ∧ ((gJ σ 701 x0 ((gI σ 702 x0 0) - 1).toNat) = (0 : Int64) → Q none (sJ σ 701 x0 ((gI σ 702 x0 0) - 1).toNat 1)))) ∧ (x1 = 5 → Q none (sJ σ 701 x0 ((gI σ 702 x0 0) - 1).toNat (-(gJ σ 701 x0 ((gI σ 702 x0 0) - 1).toNat)))))) ∧ (¬ 1 ≤ (gI σ 702 x0 0) → Q none (sI σ 700 x0 0 1)))) :
    AW g l d MX7_workOne 0 [some (vR 7 (some x0)), some (vI x1), none, none] [] σ Q := by
  refine aw_aload_n dX7_workOne_0 rfl rfl ?_
  refine aw_getI' rfl fk_702 lf_X7_19 dX7_workOne_1 ?_
  refine aw_iconst (x := 1) dX7_workOne_4 rfl ?_
  refine aw_icmp_ge (tgt := 14) dX7_workOne_5 (by decide) (fun k1 => ?_) (fun k1 => ?_)
  · replace h := h.1 k1
    refine aw_aload_n dX7_workOne_14 rfl rfl ?_
    obtain ⟨lc2, h⟩ := h
    refine aw_getA' rfl fk_701 (by decide) lf_X7_9 dX7_workOne_15 (LC.ne lc2 rfl rfl) ?_
    refine aw_aload_n dX7_workOne_18 rfl rfl ?_
    refine aw_getI' rfl fk_702 lf_X7_19 dX7_workOne_19 ?_
    refine aw_iconst (x := 1) dX7_workOne_22 rfl ?_
    obtain ⟨⟨c3, c3x⟩, h⟩ := h
    refine aw_isubc dX7_workOne_23 c3 c3x ?_
    obtain ⟨⟨c4, c4x⟩, h⟩ := h
    refine aw_laload (by decide) rfl dX7_workOne_24 c4 (LC.lt lc2 rfl rfl c4x) ?_
    refine aw_lstore_n (L' := [some (vR 7 (some x0)), some (vI x1), some (vJ (gJ σ 701 x0 ((gI σ 702 x0 0) - 1).toNat)), none]) dX7_workOne_25 rfl (by decide) rfl ?_
    refine aw_aload_n dX7_workOne_26 rfl rfl ?_
    refine aw_getA' rfl fk_701 (by decide) lf_X7_9 dX7_workOne_27 (LC.ne lc2 rfl rfl) ?_
    refine aw_aload_n dX7_workOne_30 rfl rfl ?_
    refine aw_getI' rfl fk_702 lf_X7_19 dX7_workOne_31 ?_
    refine aw_iconst (x := 1) dX7_workOne_34 rfl ?_
    refine aw_isubc dX7_workOne_35 c3 c3x ?_
    refine aw_iload_n dX7_workOne_36 rfl rfl ?_
    refine aw_iconst (x := 5) dX7_workOne_37 rfl ?_
    refine aw_icmp_ne (tgt := 46) dX7_workOne_38 (by decide) (fun k5 => ?_) (fun k5 => ?_)
    · replace h := h.1 k5
      refine aw_lload_n dX7_workOne_46 rfl rfl ?_
      refine aw_lconst (x := 0) dX7_workOne_47 rfl ?_
      refine aw_lcmp_ne (M := MX7_workOne) (tgt := 56) dX7_workOne_48 dX7_workOne_49 (by decide) (fun k6 => ?_) (fun k6 => ?_)
      · replace h := h.1 k6
        refine aw_lconst (x := 0) dX7_workOne_56 rfl ?_
        refine aw_lastore (by decide) rfl dX7_workOne_57 c4 (LC.lt lc2 rfl rfl c4x) ?_
        exact aw_ret h rfl dX7_workOne_58
      · replace h := h.2 k6
        refine aw_lconst (x := 1) dX7_workOne_52 rfl ?_
        refine aw_goto (tgt := 57) dX7_workOne_53 (by decide) ?_
        refine aw_lastore (by decide) rfl dX7_workOne_57 c4 (LC.lt lc2 rfl rfl c4x) ?_
        exact aw_ret h rfl dX7_workOne_58
    · replace h := h.2 k5
      refine aw_lload_n dX7_workOne_41 rfl rfl ?_
      refine aw_lneg dX7_workOne_42 ?_
      refine aw_goto (tgt := 57) dX7_workOne_43 (by decide) ?_
      refine aw_lastore (by decide) rfl dX7_workOne_57 c4 (LC.lt lc2 rfl rfl c4x) ?_
      exact aw_ret h rfl dX7_workOne_58
  · replace h := h.2 k1
    refine aw_aload_n dX7_workOne_8 rfl rfl ?_
    refine aw_iconst (x := 1) dX7_workOne_9 rfl ?_
    refine aw_putZ' rfl fk_700 (Or.inl rfl) lf_X7_15 dX7_workOne_10 (Or.inr rfl) ?_
    exact aw_ret h rfl dX7_workOne_13
set_option maxRecDepth 4000 in
theorem bk_X7_workTwo_0 {g : GP} {l : Launch} {d : Nat} {σ : St} {Q : Option AV → St → Prop} {x0 : Nat} {x1 : Int}
    (h : ((2 ≤ (gI σ 702 x0 0) → R32 ((gI σ 702 x0 0) - 1) ∧ LC 7 σ x0 ∧ R32 (((gI σ 702 x0 0) - 1) - 1) ∧ Bd (((gI σ 702 x0 0) - 1) - 1) 102 ∧ Bd ((gI σ 702 x0 0) - 1) 102 ∧ ((x1 = 47 → ((¬ (gJ σ 701 x0 ((gI σ 702 x0 0) - 1).toNat) = (0 : Int64) → AW g l (d + 1) MX7_workTwo 72 [some (vR 7 (some x0)), some (vI x1), some (vJ (gJ σ 701 x0 (((gI σ 702 x0 0) - 1) - 1).toNat)), none, some (vJ (gJ σ 701 x0 ((gI σ 702 x0 0) - 1).toNat)), none] [] (sI σ 702 x0 0 ((gI σ 702 x0 0) - 1)) Q) ∧ ((gJ σ 701 x0 ((gI σ 702 x0 0) - 1).toNat) = (0 : Int64) → Q none (sI (sI σ 702 x0 0 ((gI σ 702 x0 0) - 1)) 700 x0 0 1)))) ∧ (¬ x1 = 47 → ((¬ x1 = 37 → AW g l (d + 1) MX7_workTwo 72 [some (vR 7 (some x0)), some (vI x1), some (vJ (gJ σ 701 x0 (((gI σ 702 x0 0) - 1) - 1).toNat)), none, some (vJ (gJ σ 701 x0 ((gI σ 702 x0 0) - 1).toNat)), none] [] (sI σ 702 x0 0 ((gI σ 702 x0 0) - 1)) Q) ∧ (x1 = 37 → ((¬ (gJ σ 701 x0 ((gI σ 702 x0 0) - 1).toNat) = (0 : Int64) → AW g l (d + 1) MX7_workTwo 72 [some (vR 7 (some x0)), some (vI x1), some (vJ (gJ σ 701 x0 (((gI σ 702 x0 0) - 1) - 1).toNat)), none, some (vJ (gJ σ 701 x0 ((gI σ 702 x0 0) - 1).toNat)), none] [] (sI σ 702 x0 0 ((gI σ 702 x0 0) - 1)) Q) ∧ ((gJ σ 701 x0 ((gI σ 702 x0 0) - 1).toNat) = (0 : Int64) → Q none (sI (sI σ 702 x0 0 ((gI σ 702 x0 0) - 1)) 700 x0 0 1)))))))) ∧ (¬ 2 ≤ (gI σ 702 x0 0) → Q none (sI σ 700 x0 0 1)))) :
    AW g l (d + 1) MX7_workTwo 0 [some (vR 7 (some x0)), some (vI x1), none, none, none, none] [] σ Q := by
  refine aw_aload_n dX7_workTwo_0 rfl rfl ?_
  refine aw_getI' rfl fk_702 lf_X7_19 dX7_workTwo_1 ?_
  refine aw_iconst (x := 2) dX7_workTwo_4 rfl ?_
  refine aw_icmp_ge (tgt := 14) dX7_workTwo_5 (by decide) (fun k1 => ?_) (fun k1 => ?_)
  · replace h := h.1 k1
    refine aw_aload_n dX7_workTwo_14 rfl rfl ?_
    refine aw_dup dX7_workTwo_15 rfl ?_
    refine aw_getI' rfl fk_702 lf_X7_19 dX7_workTwo_16 ?_
    refine aw_iconst (x := 1) dX7_workTwo_19 rfl ?_
    obtain ⟨⟨c2, c2x⟩, h⟩ := h
    refine aw_isubc dX7_workTwo_20 c2 c2x ?_
    refine aw_putI' rfl fk_702 (Or.inl rfl) lf_X7_19 dX7_workTwo_21 ?_
    refine aw_aload_n dX7_workTwo_24 rfl rfl ?_
    obtain ⟨lc3, h⟩ := h
    refine aw_getA' rfl fk_701 (by decide) lf_X7_9 dX7_workTwo_25 (LC.ne lc3 rfl rfl) ?_
    refine aw_aload_n dX7_workTwo_28 rfl rfl ?_
    refine aw_getIe (v := ((gI σ 702 x0 0) - 1)) rfl fk_702 lf_X7_19 dX7_workTwo_29 (gI_slf σ 702 x0 0 ((gI σ 702 x0 0) - 1)) ?_
    refine aw_iconst (x := 1) dX7_workTwo_32 rfl ?_
    obtain ⟨⟨c4, c4x⟩, h⟩ := h
    refine aw_isubc dX7_workTwo_33 c4 c4x ?_
    obtain ⟨⟨c5, c5x⟩, h⟩ := h
    refine aw_laloade (v := gJ σ 701 x0 (((gI σ 702 x0 0) - 1) - 1).toNat) (by decide) rfl dX7_workTwo_34 c5 (LC.lt lc3 rfl rfl c5x) rfl ?_
    refine aw_lstore_n (L' := [some (vR 7 (some x0)), some (vI x1), some (vJ (gJ σ 701 x0 (((gI σ 702 x0 0) - 1) - 1).toNat)), none, none, none]) dX7_workTwo_35 rfl (by decide) rfl ?_
    refine aw_aload_n dX7_workTwo_36 rfl rfl ?_
    refine aw_getA' rfl fk_701 (by decide) lf_X7_9 dX7_workTwo_37 (LC.ne lc3 rfl rfl) ?_
    refine aw_aload_n dX7_workTwo_40 rfl rfl ?_
    refine aw_getIe (v := ((gI σ 702 x0 0) - 1)) rfl fk_702 lf_X7_19 dX7_workTwo_41 (gI_slf σ 702 x0 0 ((gI σ 702 x0 0) - 1)) ?_
    obtain ⟨⟨c6, c6x⟩, h⟩ := h
    refine aw_laloade (v := gJ σ 701 x0 ((gI σ 702 x0 0) - 1).toNat) (by decide) rfl dX7_workTwo_44 c6 (LC.lt lc3 rfl rfl c6x) rfl ?_
    refine aw_lstore (L' := [some (vR 7 (some x0)), some (vI x1), some (vJ (gJ σ 701 x0 (((gI σ 702 x0 0) - 1) - 1).toNat)), none, some (vJ (gJ σ 701 x0 ((gI σ 702 x0 0) - 1).toNat)), none]) dX7_workTwo_45 (by decide) rfl ?_
    refine aw_iload_n dX7_workTwo_47 rfl rfl ?_
    refine aw_bipush (x := 47) dX7_workTwo_48 rfl ?_
    refine aw_icmp_eq (tgt := 59) dX7_workTwo_50 (by decide) (fun k7 => ?_) (fun k7 => ?_)
    · replace h := h.1 k7
      refine aw_lload dX7_workTwo_59 rfl ?_
      refine aw_lconst (x := 0) dX7_workTwo_61 rfl ?_
      refine aw_lcmp_ne (M := MX7_workTwo) (tgt := 72) dX7_workTwo_62 dX7_workTwo_63 (by decide) (fun k8 => ?_) (fun k8 => ?_)
      · replace h := h.1 k8
        exact aw_fgt (L' := [some (vR 7 (some x0)), some (vI x1), some (vJ (gJ σ 701 x0 (((gI σ 702 x0 0) - 1) - 1).toNat)), none, some (vJ (gJ σ 701 x0 ((gI σ 702 x0 0) - 1).toNat)), none]) ⟨rfl, ⟨rfl, ⟨rfl, ⟨rfl, trivial⟩⟩⟩⟩ h
      · replace h := h.2 k8
        refine aw_aload_n dX7_workTwo_66 rfl rfl ?_
        refine aw_iconst (x := 1) dX7_workTwo_67 rfl ?_
        refine aw_putZ' rfl fk_700 (Or.inl rfl) lf_X7_15 dX7_workTwo_68 (Or.inr rfl) ?_
        exact aw_ret h rfl dX7_workTwo_71
    · replace h := h.2 k7
      refine aw_iload_n dX7_workTwo_53 rfl rfl ?_
      refine aw_bipush (x := 37) dX7_workTwo_54 rfl ?_
      refine aw_icmp_ne (tgt := 72) dX7_workTwo_56 (by decide) (fun k9 => ?_) (fun k9 => ?_)
      · replace h := h.1 k9
        exact aw_fgt (L' := [some (vR 7 (some x0)), some (vI x1), some (vJ (gJ σ 701 x0 (((gI σ 702 x0 0) - 1) - 1).toNat)), none, some (vJ (gJ σ 701 x0 ((gI σ 702 x0 0) - 1).toNat)), none]) ⟨rfl, ⟨rfl, ⟨rfl, ⟨rfl, trivial⟩⟩⟩⟩ h
      · replace h := h.2 k9
        refine aw_lload dX7_workTwo_59 rfl ?_
        refine aw_lconst (x := 0) dX7_workTwo_61 rfl ?_
        refine aw_lcmp_ne (M := MX7_workTwo) (tgt := 72) dX7_workTwo_62 dX7_workTwo_63 (by decide) (fun k10 => ?_) (fun k10 => ?_)
        · replace h := h.1 k10
          exact aw_fgt (L' := [some (vR 7 (some x0)), some (vI x1), some (vJ (gJ σ 701 x0 (((gI σ 702 x0 0) - 1) - 1).toNat)), none, some (vJ (gJ σ 701 x0 ((gI σ 702 x0 0) - 1).toNat)), none]) ⟨rfl, ⟨rfl, ⟨rfl, ⟨rfl, trivial⟩⟩⟩⟩ h
        · replace h := h.2 k10
          refine aw_aload_n dX7_workTwo_66 rfl rfl ?_
          refine aw_iconst (x := 1) dX7_workTwo_67 rfl ?_
          refine aw_putZ' rfl fk_700 (Or.inl rfl) lf_X7_15 dX7_workTwo_68 (Or.inr rfl) ?_
          exact aw_ret h rfl dX7_workTwo_71
  · replace h := h.2 k1
    refine aw_aload_n dX7_workTwo_8 rfl rfl ?_
    refine aw_iconst (x := 1) dX7_workTwo_9 rfl ?_
    refine aw_putZ' rfl fk_700 (Or.inl rfl) lf_X7_15 dX7_workTwo_10 (Or.inr rfl) ?_
    exact aw_ret h rfl dX7_workTwo_13
set_option maxRecDepth 4000 in
theorem bk_X7_workTwo_72 {g : GP} {l : Launch} {d : Nat} {σ : St} {Q : Option AV → St → Prop} {x0 : Nat} {x1 : Int} {x2 : Int64} {x4 : Int64}
    (h : LC 7 σ x0 ∧ R32 ((gI σ 702 x0 0) - 1) ∧ ACj g l d MX7_joined [vI x1, vJ x2, vJ x4] σ (fun v4 σ3 => LC 7 σ3 x0 ∧ Bd ((gI σ 702 x0 0) - 1) 102 ∧ Q none (sJ σ3 701 x0 ((gI σ 702 x0 0) - 1).toNat v4))) :
    AW g l (d + 1) MX7_workTwo 72 [some (vR 7 (some x0)), some (vI x1), some (vJ x2), none, some (vJ x4), none] [] σ Q := by
  refine aw_aload_n dX7_workTwo_72 rfl rfl ?_
  obtain ⟨lc1, h⟩ := h
  refine aw_getA' rfl fk_701 (by decide) lf_X7_9 dX7_workTwo_73 (LC.ne lc1 rfl rfl) ?_
  refine aw_aload_n dX7_workTwo_76 rfl rfl ?_
  refine aw_getI' rfl fk_702 lf_X7_19 dX7_workTwo_77 ?_
  refine aw_iconst (x := 1) dX7_workTwo_80 rfl ?_
  obtain ⟨⟨c2, c2x⟩, h⟩ := h
  refine aw_isubc dX7_workTwo_81 c2 c2x ?_
  refine aw_iload_n dX7_workTwo_82 rfl rfl ?_
  refine aw_lload_n dX7_workTwo_83 rfl rfl ?_
  refine aw_lload dX7_workTwo_84 rfl ?_
  refine aw_invSj (M := MX7_workTwo) [vI x1, vJ x2, vJ x4] mo_X7_joined rfl lm_X7_67 lt_X7_joined dX7_workTwo_86 rfl (Nat.le_of_ble_eq_true rfl) (ACj.mono (fun v4 σ3 h => ?_) h)
  obtain ⟨lc5, h⟩ := h
  obtain ⟨⟨c6, c6x⟩, h⟩ := h
  refine aw_lastore (by decide) rfl dX7_workTwo_89 c6 (LC.lt lc5 rfl rfl c6x) ?_
  exact aw_ret h rfl dX7_workTwo_90
set_option maxRecDepth 4000 in
theorem bk_X8_init_0 {g : GP} {l : Launch} {d : Nat} {σ : St} {Q : Option AV → St → Prop} {x0 : Nat}
    (h : (gL σ 801 x0 = 0 ∧ hs σ + 1 ≤ gB g + 600000 ∧ sl σ + 14 ≤ 7302250) ∧ AW g l (d + 1) MX8_init 15 [some (vR 8 (some x0)), some (vI 0)] [] (sArr σ 801 x0 14) Q) :
    AW g l (d + 1) MX8_init 0 [some (vR 8 (some x0)), none] [] σ Q := by
  refine aw_aload_n dX8_init_0 rfl rfl ?_
  refine aw_objInit (M := MX8_init) lm_X8_3 loi_i loi_c dX8_init_1 (Nat.le_of_ble_eq_true rfl) ?_
  refine aw_aload_n dX8_init_4 rfl rfl ?_
  refine aw_bipush (x := 14) dX8_init_5 rfl ?_
  obtain ⟨⟨h0, h1, h2⟩, h⟩ := h
  refine aw_mkArrR (M := MX8_init) (n := 14) fk_801 (by decide +kernel) lc_X8_9 lo_X2 ⟨rfl, rfl⟩ lf_X8_11 dX8_init_7 dX8_init_10 rfl (by decide) (by decide) h0 h1 h2 ?_
  refine aw_iconst (x := 0) dX8_init_13 rfl ?_
  refine aw_istore_n (L' := [some (vR 8 (some x0)), some (vI 0)]) dX8_init_14 rfl (by decide) rfl ?_
  exact aw_fgt (L' := [some (vR 8 (some x0)), some (vI 0)]) ⟨rfl, ⟨rfl, trivial⟩⟩ h
set_option maxRecDepth 4000 in
theorem bk_X8_init_15 {g : GP} {l : Launch} {d : Nat} {σ : St} {Q : Option AV → St → Prop} {x0 : Nat} {x1 : Int}
    (h : ((14 ≤ x1 → Q none σ) ∧ (¬ 14 ≤ x1 → LC 8 σ x0 ∧ (hs σ + 1 ≤ gB g + 600000 ∧ sl σ + 17 ≤ 7302250) ∧ ACv g l d MX2_init [vR 2 (some (hs σ)), vI x1] (sNew σ 17) (fun σ3 => LC 8 σ3 x0 ∧ Bd x1 14 ∧ R32 (x1 + 1) ∧ AW g l (d + 1) MX8_init 15 [some (vR 8 (some x0)), some (vI (x1 + 1))] [] (sR σ3 801 x0 x1.toNat (some (hs σ))) Q)))) :
    AW g l (d + 1) MX8_init 15 [some (vR 8 (some x0)), some (vI x1)] [] σ Q := by
  refine aw_iload_n dX8_init_15 rfl rfl ?_
  refine aw_bipush (x := 14) dX8_init_16 rfl ?_
  refine aw_icmp_ge (tgt := 41) dX8_init_18 (by decide) (fun k1 => ?_) (fun k1 => ?_)
  · replace h := h.1 k1
    exact aw_ret h rfl dX8_init_41
  · replace h := h.2 k1
    refine aw_aload_n dX8_init_21 rfl rfl ?_
    obtain ⟨lc2, h⟩ := h
    refine aw_getA' rfl fk_801 (by decide) lf_X8_11 dX8_init_22 (LC.ne lc2 rfl rfl) ?_
    refine aw_iload_n dX8_init_25 rfl rfl ?_
    obtain ⟨⟨h1, h2⟩, h⟩ := h
    refine aw_new (M := MX8_init) (ci := 2) rfl lc_X8_9 ln_X2 lz_X2 dX8_init_26 h1 h2 ?_
    refine aw_dup dX8_init_29 rfl ?_
    refine aw_iload_n dX8_init_30 rfl rfl ?_
    refine aw_invIv (M := MX8_init) [vI x1] mo_X2_init rfl ⟨rfl, rfl⟩ lm_X8_17 li_X2_init dX8_init_31 rfl (Nat.le_of_ble_eq_true rfl) (ACv.mono (fun σ3 h => ?_) h)
    obtain ⟨lc4, h⟩ := h
    obtain ⟨⟨c5, c5x⟩, h⟩ := h
    refine aw_aastore' rfl (by decide) rfl (by decide +kernel) (by decide +kernel) dX8_init_34 c5 (LC.lt lc4 rfl rfl c5x) ?_
    obtain ⟨⟨c6, c6x⟩, h⟩ := h
    refine aw_iincc (L' := [some (vR 8 (some x0)), some (vI (x1 + 1))]) dX8_init_35 rfl (by decide) rfl c6 c6x rfl ?_
    refine aw_goto (tgt := 15) dX8_init_38 (by decide) ?_
    exact aw_fgt (L' := [some (vR 8 (some x0)), some (vI (x1 + 1))]) ⟨rfl, ⟨rfl, trivial⟩⟩ h
set_option maxRecDepth 4000 in
theorem bk_X11_init_0 {g : GP} {l : Launch} {d : Nat} {σ : St} {Q : Option AV → St → Prop} {x0 : Nat}
    (h : (gL σ 1100 x0 = 0 ∧ hs σ + 1 ≤ gB g + 600000 ∧ sl σ + 6 ≤ 7302250) ∧ (hs (sArr σ 1100 x0 6) + 1 ≤ gB g + 600000 ∧ sl (sArr σ 1100 x0 6) + 7 ≤ 7302250) ∧ ACv g l d MX9_init [vR 9 (some (hs (sArr σ 1100 x0 6)))] (sNew (sArr σ 1100 x0 6) 7) (fun σ1 => (hs (sR σ1 1102 x0 0 (some (hs (sArr σ 1100 x0 6)))) + 1 ≤ gB g + 600000 ∧ sl (sR σ1 1102 x0 0 (some (hs (sArr σ 1100 x0 6)))) + 11 ≤ 7302250) ∧ ACv g l d MX6_init [vR 6 (some (hs (sR σ1 1102 x0 0 (some (hs (sArr σ 1100 x0 6))))))] (sNew (sR σ1 1102 x0 0 (some (hs (sArr σ 1100 x0 6)))) 11) (fun σ2 => (hs (sR σ2 1103 x0 0 (some (hs (sR σ1 1102 x0 0 (some (hs (sArr σ 1100 x0 6))))))) + 1 ≤ gB g + 600000 ∧ sl (sR σ2 1103 x0 0 (some (hs (sR σ1 1102 x0 0 (some (hs (sArr σ 1100 x0 6))))))) + 3 ≤ 7302250) ∧ ACv g l d MX7_init [vR 7 (some (hs (sR σ2 1103 x0 0 (some (hs (sR σ1 1102 x0 0 (some (hs (sArr σ 1100 x0 6)))))))))] (sNew (sR σ2 1103 x0 0 (some (hs (sR σ1 1102 x0 0 (some (hs (sArr σ 1100 x0 6))))))) 3) (fun σ3 => (hs (sR σ3 1104 x0 0 (some (hs (sR σ2 1103 x0 0 (some (hs (sR σ1 1102 x0 0 (some (hs (sArr σ 1100 x0 6)))))))))) + 1 ≤ gB g + 600000 ∧ sl (sR σ3 1104 x0 0 (some (hs (sR σ2 1103 x0 0 (some (hs (sR σ1 1102 x0 0 (some (hs (sArr σ 1100 x0 6)))))))))) + 11 ≤ 7302250) ∧ ACv g l d MX1_init [vR 1 (some (hs (sR σ3 1104 x0 0 (some (hs (sR σ2 1103 x0 0 (some (hs (sR σ1 1102 x0 0 (some (hs (sArr σ 1100 x0 6))))))))))))] (sNew (sR σ3 1104 x0 0 (some (hs (sR σ2 1103 x0 0 (some (hs (sR σ1 1102 x0 0 (some (hs (sArr σ 1100 x0 6)))))))))) 11) (fun σ4 => (hs (sR σ4 1105 x0 0 (some (hs (sR σ3 1104 x0 0 (some (hs (sR σ2 1103 x0 0 (some (hs (sR σ1 1102 x0 0 (some (hs (sArr σ 1100 x0 6))))))))))))) + 1 ≤ gB g + 600000 ∧ sl (sR σ4 1105 x0 0 (some (hs (sR σ3 1104 x0 0 (some (hs (sR σ2 1103 x0 0 (some (hs (sR σ1 1102 x0 0 (some (hs (sArr σ 1100 x0 6))))))))))))) + 11 ≤ 7302250) ∧ ACv g l d MX1_init [vR 1 (some (hs (sR σ4 1105 x0 0 (some (hs (sR σ3 1104 x0 0 (some (hs (sR σ2 1103 x0 0 (some (hs (sR σ1 1102 x0 0 (some (hs (sArr σ 1100 x0 6)))))))))))))))] (sNew (sR σ4 1105 x0 0 (some (hs (sR σ3 1104 x0 0 (some (hs (sR σ2 1103 x0 0 (some (hs (sR σ1 1102 x0 0 (some (hs (sArr σ 1100 x0 6))))))))))))) 11) (fun σ5 => (hs (sR σ5 1106 x0 0 (some (hs (sR σ4 1105 x0 0 (some (hs (sR σ3 1104 x0 0 (some (hs (sR σ2 1103 x0 0 (some (hs (sR σ1 1102 x0 0 (some (hs (sArr σ 1100 x0 6)))))))))))))))) + 1 ≤ gB g + 600000 ∧ sl (sR σ5 1106 x0 0 (some (hs (sR σ4 1105 x0 0 (some (hs (sR σ3 1104 x0 0 (some (hs (sR σ2 1103 x0 0 (some (hs (sR σ1 1102 x0 0 (some (hs (sArr σ 1100 x0 6)))))))))))))))) + 3 ≤ 7302250) ∧ ACv g l d MX0_init [vR 0 (some (hs (sR σ5 1106 x0 0 (some (hs (sR σ4 1105 x0 0 (some (hs (sR σ3 1104 x0 0 (some (hs (sR σ2 1103 x0 0 (some (hs (sR σ1 1102 x0 0 (some (hs (sArr σ 1100 x0 6))))))))))))))))))] (sNew (sR σ5 1106 x0 0 (some (hs (sR σ4 1105 x0 0 (some (hs (sR σ3 1104 x0 0 (some (hs (sR σ2 1103 x0 0 (some (hs (sR σ1 1102 x0 0 (some (hs (sArr σ 1100 x0 6)))))))))))))))) 3) (fun σ6 => (gL (sR σ6 1107 x0 0 (some (hs (sR σ5 1106 x0 0 (some (hs (sR σ4 1105 x0 0 (some (hs (sR σ3 1104 x0 0 (some (hs (sR σ2 1103 x0 0 (some (hs (sR σ1 1102 x0 0 (some (hs (sArr σ 1100 x0 6))))))))))))))))))) 1108 x0 = 0 ∧ hs (sR σ6 1107 x0 0 (some (hs (sR σ5 1106 x0 0 (some (hs (sR σ4 1105 x0 0 (some (hs (sR σ3 1104 x0 0 (some (hs (sR σ2 1103 x0 0 (some (hs (sR σ1 1102 x0 0 (some (hs (sArr σ 1100 x0 6))))))))))))))))))) + 1 ≤ gB g + 600000 ∧ sl (sR σ6 1107 x0 0 (some (hs (sR σ5 1106 x0 0 (some (hs (sR σ4 1105 x0 0 (some (hs (sR σ3 1104 x0 0 (some (hs (sR σ2 1103 x0 0 (some (hs (sR σ1 1102 x0 0 (some (hs (sArr σ 1100 x0 6))))))))))))))))))) + 6 ≤ 7302250) ∧ (hs (sArr (sR σ6 1107 x0 0 (some (hs (sR σ5 1106 x0 0 (some (hs (sR σ4 1105 x0 0 (some (hs (sR σ3 1104 x0 0 (some (hs (sR σ2 1103 x0 0 (some (hs (sR σ1 1102 x0 0 (some (hs (sArr σ 1100 x0 6))))))))))))))))))) 1108 x0 6) + 1 ≤ gB g + 600000 ∧ sl (sArr (sR σ6 1107 x0 0 (some (hs (sR σ5 1106 x0 0 (some (hs (sR σ4 1105 x0 0 (some (hs (sR σ3 1104 x0 0 (some (hs (sR σ2 1103 x0 0 (some (hs (sR σ1 1102 x0 0 (some (hs (sArr σ 1100 x0 6))))))))))))))))))) 1108 x0 6) + 10 ≤ 7302250) ∧ ACv g l d MX10_init [vR 10 (some (hs (sArr (sR σ6 1107 x0 0 (some (hs (sR σ5 1106 x0 0 (some (hs (sR σ4 1105 x0 0 (some (hs (sR σ3 1104 x0 0 (some (hs (sR σ2 1103 x0 0 (some (hs (sR σ1 1102 x0 0 (some (hs (sArr σ 1100 x0 6))))))))))))))))))) 1108 x0 6)))] (sNew (sArr (sR σ6 1107 x0 0 (some (hs (sR σ5 1106 x0 0 (some (hs (sR σ4 1105 x0 0 (some (hs (sR σ3 1104 x0 0 (some (hs (sR σ2 1103 x0 0 (some (hs (sR σ1 1102 x0 0 (some (hs (sArr σ 1100 x0 6))))))))))))))))))) 1108 x0 6) 10) (fun σ7 => (gL (sR σ7 1109 x0 0 (some (hs (sArr (sR σ6 1107 x0 0 (some (hs (sR σ5 1106 x0 0 (some (hs (sR σ4 1105 x0 0 (some (hs (sR σ3 1104 x0 0 (some (hs (sR σ2 1103 x0 0 (some (hs (sR σ1 1102 x0 0 (some (hs (sArr σ 1100 x0 6))))))))))))))))))) 1108 x0 6)))) 1113 x0 = 0 ∧ hs (sR σ7 1109 x0 0 (some (hs (sArr (sR σ6 1107 x0 0 (some (hs (sR σ5 1106 x0 0 (some (hs (sR σ4 1105 x0 0 (some (hs (sR σ3 1104 x0 0 (some (hs (sR σ2 1103 x0 0 (some (hs (sR σ1 1102 x0 0 (some (hs (sArr σ 1100 x0 6))))))))))))))))))) 1108 x0 6)))) + 1 ≤ gB g + 600000 ∧ sl (sR σ7 1109 x0 0 (some (hs (sArr (sR σ6 1107 x0 0 (some (hs (sR σ5 1106 x0 0 (some (hs (sR σ4 1105 x0 0 (some (hs (sR σ3 1104 x0 0 (some (hs (sR σ2 1103 x0 0 (some (hs (sR σ1 1102 x0 0 (some (hs (sArr σ 1100 x0 6))))))))))))))))))) 1108 x0 6)))) + 3000 ≤ 7302250) ∧ (gL (sArr (sR σ7 1109 x0 0 (some (hs (sArr (sR σ6 1107 x0 0 (some (hs (sR σ5 1106 x0 0 (some (hs (sR σ4 1105 x0 0 (some (hs (sR σ3 1104 x0 0 (some (hs (sR σ2 1103 x0 0 (some (hs (sR σ1 1102 x0 0 (some (hs (sArr σ 1100 x0 6))))))))))))))))))) 1108 x0 6)))) 1113 x0 3000) 1114 x0 = 0 ∧ hs (sArr (sR σ7 1109 x0 0 (some (hs (sArr (sR σ6 1107 x0 0 (some (hs (sR σ5 1106 x0 0 (some (hs (sR σ4 1105 x0 0 (some (hs (sR σ3 1104 x0 0 (some (hs (sR σ2 1103 x0 0 (some (hs (sR σ1 1102 x0 0 (some (hs (sArr σ 1100 x0 6))))))))))))))))))) 1108 x0 6)))) 1113 x0 3000) + 1 ≤ gB g + 600000 ∧ sl (sArr (sR σ7 1109 x0 0 (some (hs (sArr (sR σ6 1107 x0 0 (some (hs (sR σ5 1106 x0 0 (some (hs (sR σ4 1105 x0 0 (some (hs (sR σ3 1104 x0 0 (some (hs (sR σ2 1103 x0 0 (some (hs (sR σ1 1102 x0 0 (some (hs (sArr σ 1100 x0 6))))))))))))))))))) 1108 x0 6)))) 1113 x0 3000) + 3000 ≤ 7302250) ∧ (gL (sArr (sArr (sR σ7 1109 x0 0 (some (hs (sArr (sR σ6 1107 x0 0 (some (hs (sR σ5 1106 x0 0 (some (hs (sR σ4 1105 x0 0 (some (hs (sR σ3 1104 x0 0 (some (hs (sR σ2 1103 x0 0 (some (hs (sR σ1 1102 x0 0 (some (hs (sArr σ 1100 x0 6))))))))))))))))))) 1108 x0 6)))) 1113 x0 3000) 1114 x0 3000) 1115 x0 = 0 ∧ hs (sArr (sArr (sR σ7 1109 x0 0 (some (hs (sArr (sR σ6 1107 x0 0 (some (hs (sR σ5 1106 x0 0 (some (hs (sR σ4 1105 x0 0 (some (hs (sR σ3 1104 x0 0 (some (hs (sR σ2 1103 x0 0 (some (hs (sR σ1 1102 x0 0 (some (hs (sArr σ 1100 x0 6))))))))))))))))))) 1108 x0 6)))) 1113 x0 3000) 1114 x0 3000) + 1 ≤ gB g + 600000 ∧ sl (sArr (sArr (sR σ7 1109 x0 0 (some (hs (sArr (sR σ6 1107 x0 0 (some (hs (sR σ5 1106 x0 0 (some (hs (sR σ4 1105 x0 0 (some (hs (sR σ3 1104 x0 0 (some (hs (sR σ2 1103 x0 0 (some (hs (sR σ1 1102 x0 0 (some (hs (sArr σ 1100 x0 6))))))))))))))))))) 1108 x0 6)))) 1113 x0 3000) 1114 x0 3000) + 2001 ≤ 7302250) ∧ Q none (sArr (sArr (sArr (sR σ7 1109 x0 0 (some (hs (sArr (sR σ6 1107 x0 0 (some (hs (sR σ5 1106 x0 0 (some (hs (sR σ4 1105 x0 0 (some (hs (sR σ3 1104 x0 0 (some (hs (sR σ2 1103 x0 0 (some (hs (sR σ1 1102 x0 0 (some (hs (sArr σ 1100 x0 6))))))))))))))))))) 1108 x0 6)))) 1113 x0 3000) 1114 x0 3000) 1115 x0 2001))))))))) :
    AW g l (d + 1) MX11_init 0 [some (vR 11 (some x0))] [] σ Q := by
  refine aw_aload_n dX11_init_0 rfl rfl ?_
  refine aw_objInit (M := MX11_init) lm_X11_3 loi_i loi_c dX11_init_1 (Nat.le_of_ble_eq_true rfl) ?_
  refine aw_aload_n dX11_init_4 rfl rfl ?_
  refine aw_bipush (x := 6) dX11_init_5 rfl ?_
  obtain ⟨⟨h0, h1, h2⟩, h⟩ := h
  refine aw_mkArrR (M := MX11_init) (n := 6) fk_1100 (by decide +kernel) lc_X11_9 lo_X3 ⟨rfl, rfl⟩ lf_X11_11 dX11_init_7 dX11_init_10 rfl (by decide) (by decide) h0 h1 h2 ?_
  refine aw_aload_n dX11_init_13 rfl rfl ?_
  obtain ⟨⟨h1, h2⟩, h⟩ := h
  refine aw_new (M := MX11_init) (ci := 9) rfl lc_X11_15 ln_X9 lz_X9 dX11_init_14 h1 h2 ?_
  refine aw_dup dX11_init_17 rfl ?_
  refine aw_invIv (M := MX11_init) [] mo_X9_init rfl ⟨rfl, rfl⟩ lm_X11_17 li_X9_init dX11_init_18 rfl (Nat.le_of_ble_eq_true rfl) (ACv.mono (fun σ1 h => ?_) h)
  refine aw_putR' rfl fk_1102 (by decide +kernel) (Or.inr ⟨rfl, rfl⟩) lf_X11_18 dX11_init_21 ?_
  refine aw_aload_n dX11_init_24 rfl rfl ?_
  obtain ⟨⟨h1, h2⟩, h⟩ := h
  refine aw_new (M := MX11_init) (ci := 6) rfl lc_X11_22 ln_X6 lz_X6 dX11_init_25 h1 h2 ?_
  refine aw_dup dX11_init_28 rfl ?_
  refine aw_invINv (M := MX11_init) [] mo_X6_init rfl ⟨rfl, rfl⟩ lm_X11_24 li_X6_init dX11_init_29 rfl (Nat.le_of_ble_eq_true rfl) (ACv.mono (fun σ2 h => ?_) h)
  refine aw_putR' rfl fk_1103 (by decide +kernel) (Or.inr ⟨rfl, rfl⟩) lf_X11_25 dX11_init_32 ?_
  refine aw_aload_n dX11_init_35 rfl rfl ?_
  obtain ⟨⟨h1, h2⟩, h⟩ := h
  refine aw_new (M := MX11_init) (ci := 7) rfl lc_X11_29 ln_X7 lz_X7 dX11_init_36 h1 h2 ?_
  refine aw_dup dX11_init_39 rfl ?_
  refine aw_invINv (M := MX11_init) [] mo_X7_init rfl ⟨rfl, rfl⟩ lm_X11_31 li_X7_init dX11_init_40 rfl (Nat.le_of_ble_eq_true rfl) (ACv.mono (fun σ3 h => ?_) h)
  refine aw_putR' rfl fk_1104 (by decide +kernel) (Or.inr ⟨rfl, rfl⟩) lf_X11_32 dX11_init_43 ?_
  refine aw_aload_n dX11_init_46 rfl rfl ?_
  obtain ⟨⟨h1, h2⟩, h⟩ := h
  refine aw_new (M := MX11_init) (ci := 1) rfl lc_X11_36 ln_X1 lz_X1 dX11_init_47 h1 h2 ?_
  refine aw_dup dX11_init_50 rfl ?_
  refine aw_invIv (M := MX11_init) [] mo_X1_init rfl ⟨rfl, rfl⟩ lm_X11_38 li_X1_init dX11_init_51 rfl (Nat.le_of_ble_eq_true rfl) (ACv.mono (fun σ4 h => ?_) h)
  refine aw_putR' rfl fk_1105 (by decide +kernel) (Or.inl rfl) lf_X11_39 dX11_init_54 ?_
  refine aw_aload_n dX11_init_57 rfl rfl ?_
  obtain ⟨⟨h1, h2⟩, h⟩ := h
  refine aw_new (M := MX11_init) (ci := 1) rfl lc_X11_36 ln_X1 lz_X1 dX11_init_58 h1 h2 ?_
  refine aw_dup dX11_init_61 rfl ?_
  refine aw_invIv (M := MX11_init) [] mo_X1_init rfl ⟨rfl, rfl⟩ lm_X11_38 li_X1_init dX11_init_62 rfl (Nat.le_of_ble_eq_true rfl) (ACv.mono (fun σ5 h => ?_) h)
  refine aw_putR' rfl fk_1106 (by decide +kernel) (Or.inl rfl) lf_X11_43 dX11_init_65 ?_
  refine aw_aload_n dX11_init_68 rfl rfl ?_
  obtain ⟨⟨h1, h2⟩, h⟩ := h
  refine aw_new (M := MX11_init) (ci := 0) rfl lc_X11_46 ln_X0 lz_X0 dX11_init_69 h1 h2 ?_
  refine aw_dup dX11_init_72 rfl ?_
  refine aw_invINv (M := MX11_init) [] mo_X0_init rfl ⟨rfl, rfl⟩ lm_X11_48 li_X0_init dX11_init_73 rfl (Nat.le_of_ble_eq_true rfl) (ACv.mono (fun σ6 h => ?_) h)
  refine aw_putR' rfl fk_1107 (by decide +kernel) (Or.inr ⟨rfl, rfl⟩) lf_X11_49 dX11_init_76 ?_
  refine aw_aload_n dX11_init_79 rfl rfl ?_
  refine aw_bipush (x := 6) dX11_init_80 rfl ?_
  obtain ⟨⟨h0, h1, h2⟩, h⟩ := h
  refine aw_mkArrR (M := MX11_init) (n := 6) fk_1108 (by decide +kernel) lc_X11_53 lo_X10 ⟨rfl, rfl⟩ lf_X11_55 dX11_init_82 dX11_init_85 rfl (by decide) (by decide) h0 h1 h2 ?_
  refine aw_aload_n dX11_init_88 rfl rfl ?_
  obtain ⟨⟨h1, h2⟩, h⟩ := h
  refine aw_new (M := MX11_init) (ci := 10) rfl lc_X11_53 ln_X10 lz_X10 dX11_init_89 h1 h2 ?_
  refine aw_dup dX11_init_92 rfl ?_
  refine aw_invINv (M := MX11_init) [] mo_X10_init rfl ⟨rfl, rfl⟩ lm_X11_59 li_X10_init dX11_init_93 rfl (Nat.le_of_ble_eq_true rfl) (ACv.mono (fun σ7 h => ?_) h)
  refine aw_putR' rfl fk_1109 (by decide +kernel) (Or.inl rfl) lf_X11_60 dX11_init_96 ?_
  refine aw_aload_n dX11_init_99 rfl rfl ?_
  refine aw_sipush (x := 3000) dX11_init_100 rfl ?_
  obtain ⟨⟨h0, h1, h2⟩, h⟩ := h
  refine aw_mkArr (M := MX11_init) (n := 3000) fk_1113 (by decide +kernel) rfl (fun _ _ h => h) la_int ⟨rfl, rfl⟩ lf_X11_64 dX11_init_103 dX11_init_105 rfl (by decide) (by decide) h0 h1 h2 ?_
  refine aw_aload_n dX11_init_108 rfl rfl ?_
  refine aw_sipush (x := 3000) dX11_init_109 rfl ?_
  obtain ⟨⟨h0, h1, h2⟩, h⟩ := h
  refine aw_mkArr (M := MX11_init) (n := 3000) fk_1114 (by decide +kernel) rfl (fun _ _ h => h) la_int ⟨rfl, rfl⟩ lf_X11_68 dX11_init_112 dX11_init_114 rfl (by decide) (by decide) h0 h1 h2 ?_
  refine aw_aload_n dX11_init_117 rfl rfl ?_
  refine aw_sipush (x := 2001) dX11_init_118 rfl ?_
  obtain ⟨⟨h0, h1, h2⟩, h⟩ := h
  refine aw_mkArr (M := MX11_init) (n := 2001) fk_1115 (by decide +kernel) rfl (fun _ _ h => h) la_int ⟨rfl, rfl⟩ lf_X11_71 dX11_init_121 dX11_init_123 rfl (by decide) (by decide) h0 h1 h2 ?_
  exact aw_ret h rfl dX11_init_126
set_option maxRecDepth 4000 in
theorem bk_X11_at_0 {g : GP} {l : Launch} {d : Nat} {σ : St} {Q : Option AV → St → Prop} {x0 : Nat} {x1 : Int} {x2 : Int}
    (h : ACr g l d MX11_imageOf 3 [vR 11 (some x0), vI x1] σ (fun v2 σ1 => ((v2 = none → Q (some (vI (-1))) σ1) ∧ (∀ r3, v2 = some r3 → ACi g l d MX3_has [vR 3 (some r3), vI x2] σ1 (fun v6 σ5 => Q (some (vI v6)) σ5))))) :
    AW g l (d + 1) MX11_at 0 [some (vR 11 (some x0)), some (vI x1), some (vI x2), none] [] σ Q := by
  refine aw_aload_n dX11_at_0 rfl rfl ?_
  refine aw_iload_n dX11_at_1 rfl rfl ?_
  refine aw_invVr (M := MX11_at) (ci := 11) [vI x1] rfl mo_X11_imageOf rfl lm_X11_79 li_X11_imageOf ls_X11_imageOf (by decide +kernel) dX11_at_2 rfl (Nat.le_of_ble_eq_true rfl) (ACr.mono (fun v2 σ1 h => ?_) h)
  refine aw_astore_n (L' := [some (vR 11 (some x0)), some (vI x1), some (vI x2), some (vR 3 v2)]) dX11_at_5 rfl (by decide) rfl ?_
  refine aw_aload_n dX11_at_6 rfl rfl ?_
  refine aw_ifnonnull (tgt := 14) dX11_at_7 (by decide) (fun r3 e4 => ?_) (fun hc => ?_)
  · replace h := h.2 r3 e4
    refine aw_aload_n dX11_at_14 rfl rfl ?_
    refine aw_iload_n dX11_at_15 rfl rfl ?_
    refine aw_invVi (M := MX11_at) (ci := 3) [vI x2] e4 mo_X3_has rfl lm_X11_93 li_X3_has ls_X3_has (by decide +kernel) dX11_at_16 rfl (Nat.le_of_ble_eq_true rfl) (ACi.mono (fun v6 σ5 h => ?_) h)
    exact aw_ireturn dX11_at_19 rfl h
  · replace h := h.1 hc
    refine aw_iconst (x := (-1)) dX11_at_10 rfl ?_
    refine aw_goto (tgt := 19) dX11_at_11 (by decide) ?_
    exact aw_ireturn dX11_at_19 rfl h
set_option maxRecDepth 4000 in
theorem bk_X11_byteOf_0 {g : GP} {l : Launch} {d : Nat} {σ : St} {Q : Option AV → St → Prop} {x0 : Int64} {x2 : Int}
    (h : R32 (8 * x2) ∧ Q (some (vI (i_and (j2i (j_ushr x0 (8 * x2))) 255))) σ) :
    AW g l d MX11_byteOf 0 [some (vJ x0), none, some (vI x2)] [] σ Q := by
  refine aw_lload_n dX11_byteOf_0 rfl rfl ?_
  refine aw_bipush (x := 8) dX11_byteOf_1 rfl ?_
  refine aw_iload_n dX11_byteOf_3 rfl rfl ?_
  obtain ⟨⟨c1, c1x⟩, h⟩ := h
  refine aw_imulc dX11_byteOf_4 c1 c1x ?_
  refine aw_lushr dX11_byteOf_5 ?_
  refine aw_l2i dX11_byteOf_6 ?_
  refine aw_sipush (x := 255) dX11_byteOf_7 rfl ?_
  refine aw_iand dX11_byteOf_10 ?_
  exact aw_ireturn dX11_byteOf_11 rfl h
set_option maxRecDepth 4000 in
theorem bk_X11_cellByte_0 {g : GP} {l : Launch} {d : Nat} {σ : St} {Q : Option AV → St → Prop} {x0 : Option Nat} {x1 : Int} {x2 : Int}
    (h : R32 (x1 + (i_div x2 3)) ∧ ∃ r2, x0 = some r2 ∧ ACi g l d MX3_has [vR 3 (some r2), vI (x1 + (i_div x2 3))] σ (fun v5 σ4 => ((v5 = (-1) → Q (some (vI 32)) σ4) ∧ (¬ v5 = (-1) → ((¬ (i_rem x2 3) = 0 → ((¬ (i_rem x2 3) = 1 → ACi g l d MX11_figureOf [vI v5] σ4 (fun v10 σ9 => Q (some (vI v10)) σ9)) ∧ ((i_rem x2 3) = 1 → ACi g l d MX11_figureOf [vI (i_shr v5 4)] σ4 (fun v12 σ11 => Q (some (vI v12)) σ11)))) ∧ ((i_rem x2 3) = 0 → Q (some (vI 32)) σ4)))))) :
    AW g l (d + 1) MX11_cellByte 0 [some (vR 3 x0), some (vI x1), some (vI x2), none] [] σ Q := by
  refine aw_aload_n dX11_cellByte_0 rfl rfl ?_
  refine aw_iload_n dX11_cellByte_1 rfl rfl ?_
  refine aw_iload_n dX11_cellByte_2 rfl rfl ?_
  refine aw_iconst (x := 3) dX11_cellByte_3 rfl ?_
  refine aw_idiv dX11_cellByte_4 (by decide) ?_
  obtain ⟨⟨c1, c1x⟩, h⟩ := h
  refine aw_iaddc dX11_cellByte_5 c1 c1x ?_
  obtain ⟨r2, e3, h⟩ := h
  refine aw_invVi (M := MX11_cellByte) (ci := 3) [vI (x1 + (i_div x2 3))] e3 mo_X3_has rfl lm_X11_93 li_X3_has ls_X3_has (by decide +kernel) dX11_cellByte_6 rfl (Nat.le_of_ble_eq_true rfl) (ACi.mono (fun v5 σ4 h => ?_) h)
  refine aw_istore_n (L' := [some (vR 3 x0), some (vI x1), some (vI x2), some (vI v5)]) dX11_cellByte_9 rfl (by decide) rfl ?_
  refine aw_iload_n dX11_cellByte_10 rfl rfl ?_
  refine aw_iconst (x := (-1)) dX11_cellByte_11 rfl ?_
  refine aw_icmp_eq (tgt := 21) dX11_cellByte_12 (by decide) (fun k6 => ?_) (fun k6 => ?_)
  · replace h := h.1 k6
    refine aw_bipush (x := 32) dX11_cellByte_21 rfl ?_
    exact aw_ireturn dX11_cellByte_23 rfl h
  · replace h := h.2 k6
    refine aw_iload_n dX11_cellByte_15 rfl rfl ?_
    refine aw_iconst (x := 3) dX11_cellByte_16 rfl ?_
    refine aw_irem dX11_cellByte_17 (by decide) ?_
    refine aw_if_ne (tgt := 24) dX11_cellByte_18 (by decide) (fun k7 => ?_) (fun k7 => ?_)
    · replace h := h.1 k7
      refine aw_iload_n dX11_cellByte_24 rfl rfl ?_
      refine aw_iconst (x := 3) dX11_cellByte_25 rfl ?_
      refine aw_irem dX11_cellByte_26 (by decide) ?_
      refine aw_iconst (x := 1) dX11_cellByte_27 rfl ?_
      refine aw_icmp_ne (tgt := 37) dX11_cellByte_28 (by decide) (fun k8 => ?_) (fun k8 => ?_)
      · replace h := h.1 k8
        refine aw_iload_n dX11_cellByte_37 rfl rfl ?_
        refine aw_invSi (M := MX11_cellByte) [vI v5] mo_X11_figureOf rfl lm_X11_367 lt_X11_figureOf dX11_cellByte_38 rfl (Nat.le_of_ble_eq_true rfl) (ACi.mono (fun v10 σ9 h => ?_) h)
        exact aw_ireturn dX11_cellByte_41 rfl h
      · replace h := h.2 k8
        refine aw_iload_n dX11_cellByte_31 rfl rfl ?_
        refine aw_iconst (x := 4) dX11_cellByte_32 rfl ?_
        refine aw_ishr dX11_cellByte_33 ?_
        refine aw_goto (tgt := 38) dX11_cellByte_34 (by decide) ?_
        refine aw_invSi (M := MX11_cellByte) [vI (i_shr v5 4)] mo_X11_figureOf rfl lm_X11_367 lt_X11_figureOf dX11_cellByte_38 rfl (Nat.le_of_ble_eq_true rfl) (ACi.mono (fun v12 σ11 h => ?_) h)
        exact aw_ireturn dX11_cellByte_41 rfl h
    · replace h := h.2 k7
      refine aw_bipush (x := 32) dX11_cellByte_21 rfl ?_
      exact aw_ireturn dX11_cellByte_23 rfl h
set_option maxRecDepth 4000 in
theorem bk_X11_changed_0 {g : GP} {l : Launch} {d : Nat} {σ : St} {Q : Option AV → St → Prop} {x0 : Nat} {x1 : Int} {x2 : Int}
    (h : ACr g l d MX11_imageOf 3 [vR 11 (some x0), vI x1] σ (fun v2 σ1 => ((v2 = none → AW g l (d + 1) MX11_changed 18 [none, none, some (vI x2), none, none] [vR 4 none] σ1 Q) ∧ (∀ r3, v2 = some r3 → ACr g l d MX3_top 4 [vR 3 (some r3)] σ1 (fun v6 σ5 => AW g l (d + 1) MX11_changed 18 [none, none, some (vI x2), none, none] [vR 4 v6] σ5 Q))))) :
    AW g l (d + 1) MX11_changed 0 [some (vR 11 (some x0)), some (vI x1), some (vI x2), none, none] [] σ Q := by
  refine aw_aload_n dX11_changed_0 rfl rfl ?_
  refine aw_iload_n dX11_changed_1 rfl rfl ?_
  refine aw_invVr (M := MX11_changed) (ci := 11) [vI x1] rfl mo_X11_imageOf rfl lm_X11_79 li_X11_imageOf ls_X11_imageOf (by decide +kernel) dX11_changed_2 rfl (Nat.le_of_ble_eq_true rfl) (ACr.mono (fun v2 σ1 h => ?_) h)
  refine aw_astore_n (L' := [some (vR 11 (some x0)), some (vI x1), some (vI x2), some (vR 3 v2), none]) dX11_changed_5 rfl (by decide) rfl ?_
  refine aw_aload_n dX11_changed_6 rfl rfl ?_
  refine aw_ifnonnull (tgt := 14) dX11_changed_7 (by decide) (fun r3 e4 => ?_) (fun hc => ?_)
  · replace h := h.2 r3 e4
    refine aw_aload_n dX11_changed_14 rfl rfl ?_
    refine aw_invVr (M := MX11_changed) (ci := 3) [] e4 mo_X3_top rfl lm_X11_114 li_X3_top ls_X3_top (by decide +kernel) dX11_changed_15 rfl (Nat.le_of_ble_eq_true rfl) (ACr.mono (fun v6 σ5 h => ?_) h)
    exact aw_fgt (L' := [none, none, some (vI x2), none, none]) ⟨rfl, trivial⟩ h
  · replace h := h.1 hc
    refine aw_null 4 dX11_changed_10 ?_
    refine aw_goto (tgt := 18) dX11_changed_11 (by decide) ?_
    exact aw_fgt (L' := [none, none, some (vI x2), none, none]) ⟨rfl, trivial⟩ h
set_option maxRecDepth 4000 in
theorem bk_X11_changed_18 {g : GP} {l : Launch} {d : Nat} {σ : St} {Q : Option AV → St → Prop} {x2 : Int} {y0 : Option Nat}
    (h : ((y0 = none → Q (some (vI (-1))) σ) ∧ (∀ r1, y0 = some r1 → ACi g l d MX4_placeOf [vR 4 (some r1), vI x2] σ (fun v4 σ3 => Q (some (vI v4)) σ3)))) :
    AW g l (d + 1) MX11_changed 18 [none, none, some (vI x2), none, none] [vR 4 y0] σ Q := by
  refine aw_astore (L' := [none, none, some (vI x2), none, some (vR 4 y0)]) dX11_changed_18 (by decide) rfl ?_
  refine aw_aload dX11_changed_20 rfl ?_
  refine aw_ifnonnull (tgt := 29) dX11_changed_22 (by decide) (fun r1 e2 => ?_) (fun hc => ?_)
  · replace h := h.2 r1 e2
    refine aw_aload dX11_changed_29 rfl ?_
    refine aw_iload_n dX11_changed_31 rfl rfl ?_
    refine aw_invVi (M := MX11_changed) (ci := 4) [vI x2] e2 mo_X4_placeOf rfl lm_X11_118 li_X4_placeOf ls_X4_placeOf (by decide +kernel) dX11_changed_32 rfl (Nat.le_of_ble_eq_true rfl) (ACi.mono (fun v4 σ3 h => ?_) h)
    exact aw_ireturn dX11_changed_35 rfl h
  · replace h := h.1 hc
    refine aw_iconst (x := (-1)) dX11_changed_25 rfl ?_
    refine aw_goto (tgt := 35) dX11_changed_26 (by decide) ?_
    exact aw_ireturn dX11_changed_35 rfl h
set_option maxRecDepth 4000 in
theorem bk_X11_clear_0 {g : GP} {l : Launch} {d : Nat} {σ : St} {Q : Option AV → St → Prop} {x0 : Nat}
    (h : Q (some (vI (gI σ 1110 x0 0))) (sI σ 1110 x0 0 0)) :
    AW g l d MX11_clear 0 [some (vR 11 (some x0)), none] [] σ Q := by
  refine aw_aload_n dX11_clear_0 rfl rfl ?_
  refine aw_getI' rfl fk_1110 lf_X11_143 dX11_clear_1 ?_
  refine aw_istore_n (L' := [some (vR 11 (some x0)), some (vI (gI σ 1110 x0 0))]) dX11_clear_4 rfl (by decide) rfl ?_
  refine aw_aload_n dX11_clear_5 rfl rfl ?_
  refine aw_iconst (x := 0) dX11_clear_6 rfl ?_
  refine aw_putI' rfl fk_1110 (Or.inl rfl) lf_X11_143 dX11_clear_7 ?_
  refine aw_iload_n dX11_clear_10 rfl rfl ?_
  exact aw_ireturn dX11_clear_11 rfl h
set_option maxRecDepth 4000 in
theorem bk_X11_commit_0 {g : GP} {l : Launch} {d : Nat} {σ : St} {Q : Option AV → St → Prop} {x0 : Nat} {x1 : Int}
    (h : ACr g l d MX11_imageOf 3 [vR 11 (some x0), vI x1] σ (fun v2 σ1 => ((v2 = none → Q (some (vI (-1))) σ1) ∧ (∀ r3, v2 = some r3 → ((¬ (gI σ1 303 r3 0) = 0 → ACi g l d MX3_sinkTop [vR 3 (some r3)] σ1 (fun v7 σ6 => Q (some (vI v7)) σ6)) ∧ ((gI σ1 303 r3 0) = 0 → Q (some (vI (-7))) σ1)))))) :
    AW g l (d + 1) MX11_commit 0 [some (vR 11 (some x0)), some (vI x1), none] [] σ Q := by
  refine aw_aload_n dX11_commit_0 rfl rfl ?_
  refine aw_iload_n dX11_commit_1 rfl rfl ?_
  refine aw_invVr (M := MX11_commit) (ci := 11) [vI x1] rfl mo_X11_imageOf rfl lm_X11_79 li_X11_imageOf ls_X11_imageOf (by decide +kernel) dX11_commit_2 rfl (Nat.le_of_ble_eq_true rfl) (ACr.mono (fun v2 σ1 h => ?_) h)
  refine aw_astore_n (L' := [some (vR 11 (some x0)), some (vI x1), some (vR 3 v2)]) dX11_commit_5 rfl (by decide) rfl ?_
  refine aw_aload_n dX11_commit_6 rfl rfl ?_
  refine aw_ifnonnull (tgt := 12) dX11_commit_7 (by decide) (fun r3 e4 => ?_) (fun hc => ?_)
  · replace h := h.2 r3 e4
    refine aw_aload_n dX11_commit_12 rfl rfl ?_
    refine aw_getI' e4 fk_303 lf_X11_83 dX11_commit_13 ?_
    refine aw_if_ne (tgt := 24) dX11_commit_16 (by decide) (fun k5 => ?_) (fun k5 => ?_)
    · replace h := h.1 k5
      refine aw_aload_n dX11_commit_24 rfl rfl ?_
      refine aw_invVi (M := MX11_commit) (ci := 3) [] e4 mo_X3_sinkTop rfl lm_X11_100 li_X3_sinkTop ls_X3_sinkTop (by decide +kernel) dX11_commit_25 rfl (Nat.le_of_ble_eq_true rfl) (ACi.mono (fun v7 σ6 h => ?_) h)
      exact aw_ireturn dX11_commit_28 rfl h
    · replace h := h.2 k5
      refine aw_bipush (x := (-7)) dX11_commit_19 rfl ?_
      refine aw_goto (tgt := 28) dX11_commit_21 (by decide) ?_
      exact aw_ireturn dX11_commit_28 rfl h
  · replace h := h.1 hc
    refine aw_iconst (x := (-1)) dX11_commit_10 rfl ?_
    exact aw_ireturn dX11_commit_11 rfl h
set_option maxRecDepth 4000 in
theorem bk_X11_count_0 {g : GP} {l : Launch} {d : Nat} {σ : St} {Q : Option AV → St → Prop} {x0 : Nat} {x1 : Int}
    (h : ((x1 = 0 → Q (some (vI (gI σ 1101 x0 0))) σ) ∧ (x1 = 1 → ∃ r1, gR σ 1102 x0 0 = some r1 ∧ Q (some (vI (gI σ 901 r1 0))) σ) ∧ (x1 = 2 → ∃ r3, gR σ 1105 x0 0 = some r3 ∧ Q (some (vI (gI σ 101 r3 0))) σ) ∧ (x1 = 3 → ∃ r5, gR σ 1105 x0 0 = some r5 ∧ Q (some (vI (gI σ 105 r5 0))) σ) ∧ (x1 = 4 → Q (some (vI (gI σ 1110 x0 0))) σ) ∧ (x1 = 5 → ACi g l d MX11_nodeTotal [vR 11 (some x0)] σ (fun v8 σ7 => Q (some (vI v8)) σ7)) ∧ (x1 = 6 → ACi g l d MX11_layerTotal [vR 11 (some x0)] σ (fun v10 σ9 => Q (some (vI v10)) σ9)) ∧ (x1 = 7 → ACi g l d MX11_writeTotal [vR 11 (some x0)] σ (fun v12 σ11 => Q (some (vI v12)) σ11)) ∧ (x1 < 0 ∨ 7 < x1 → Q (some (vI (-1))) σ))) :
    AW g l (d + 1) MX11_count 0 [some (vR 11 (some x0)), some (vI x1)] [] σ Q := by
  refine aw_iload_n dX11_count_0 rfl rfl ?_
  obtain ⟨h0, h1, h2, h3, h4, h5, h6, h7, hd⟩ := h
  refine aw_table (M := MX11_count) (dt := 97) [48, 53, 61, 69, 77, 82, 87, 92] dX11_count_1 (by decide) (by decide) (by decide) ⟨fun hc => ?_, fun hc => ?_, fun hc => ?_, fun hc => ?_, fun hc => ?_, fun hc => ?_, fun hc => ?_, fun hc => ?_, trivial⟩ (fun hc => ?_)
  · have h := h0 hc; clear h0 h1 h2 h3 h4 h5 h6 h7 hd
    refine aw_aload_n dX11_count_48 rfl rfl ?_
    refine aw_getI' rfl fk_1101 lf_X11_74 dX11_count_49 ?_
    exact aw_ireturn dX11_count_52 rfl h
  · have h := h1 hc; clear h0 h1 h2 h3 h4 h5 h6 h7 hd
    refine aw_aload_n dX11_count_53 rfl rfl ?_
    refine aw_getR' (ci := 9) rfl fk_1102 (by decide +kernel) lf_X11_18 dX11_count_54 ?_
    obtain ⟨r1, e2, h⟩ := h
    refine aw_getI' e2 fk_901 lf_X11_123 dX11_count_57 ?_
    exact aw_ireturn dX11_count_60 rfl h
  · have h := h2 hc; clear h0 h1 h2 h3 h4 h5 h6 h7 hd
    refine aw_aload_n dX11_count_61 rfl rfl ?_
    refine aw_getR' (ci := 1) rfl fk_1105 (by decide +kernel) lf_X11_39 dX11_count_62 ?_
    obtain ⟨r3, e4, h⟩ := h
    refine aw_getI' e4 fk_101 lf_X11_146 dX11_count_65 ?_
    exact aw_ireturn dX11_count_68 rfl h
  · have h := h3 hc; clear h0 h1 h2 h3 h4 h5 h6 h7 hd
    refine aw_aload_n dX11_count_69 rfl rfl ?_
    refine aw_getR' (ci := 1) rfl fk_1105 (by decide +kernel) lf_X11_39 dX11_count_70 ?_
    obtain ⟨r5, e6, h⟩ := h
    refine aw_getI' e6 fk_105 lf_X11_373 dX11_count_73 ?_
    exact aw_ireturn dX11_count_76 rfl h
  · have h := h4 hc; clear h0 h1 h2 h3 h4 h5 h6 h7 hd
    refine aw_aload_n dX11_count_77 rfl rfl ?_
    refine aw_getI' rfl fk_1110 lf_X11_143 dX11_count_78 ?_
    exact aw_ireturn dX11_count_81 rfl h
  · have h := h5 hc; clear h0 h1 h2 h3 h4 h5 h6 h7 hd
    refine aw_aload_n dX11_count_82 rfl rfl ?_
    refine aw_invVi (M := MX11_count) (ci := 11) [] rfl mo_X11_nodeTotal rfl lm_X11_376 li_X11_nodeTotal ls_X11_nodeTotal (by decide +kernel) dX11_count_83 rfl (Nat.le_of_ble_eq_true rfl) (ACi.mono (fun v8 σ7 h => ?_) h)
    exact aw_ireturn dX11_count_86 rfl h
  · have h := h6 hc; clear h0 h1 h2 h3 h4 h5 h6 h7 hd
    refine aw_aload_n dX11_count_87 rfl rfl ?_
    refine aw_invVi (M := MX11_count) (ci := 11) [] rfl mo_X11_layerTotal rfl lm_X11_379 li_X11_layerTotal ls_X11_layerTotal (by decide +kernel) dX11_count_88 rfl (Nat.le_of_ble_eq_true rfl) (ACi.mono (fun v10 σ9 h => ?_) h)
    exact aw_ireturn dX11_count_91 rfl h
  · have h := h7 hc; clear h0 h1 h2 h3 h4 h5 h6 h7 hd
    refine aw_aload_n dX11_count_92 rfl rfl ?_
    refine aw_invVi (M := MX11_count) (ci := 11) [] rfl mo_X11_writeTotal rfl lm_X11_382 li_X11_writeTotal ls_X11_writeTotal (by decide +kernel) dX11_count_93 rfl (Nat.le_of_ble_eq_true rfl) (ACi.mono (fun v12 σ11 h => ?_) h)
    exact aw_ireturn dX11_count_96 rfl h
  · have h := hd hc; clear h0 h1 h2 h3 h4 h5 h6 h7 hd
    refine aw_iconst (x := (-1)) dX11_count_97 rfl ?_
    exact aw_ireturn dX11_count_98 rfl h
set_option maxRecDepth 4000 in
theorem bk_X11_covered_0 {g : GP} {l : Launch} {d : Nat} {σ : St} {Q : Option AV → St → Prop} {x0 : Nat} {x1 : Int} {x2 : Int}
    (h : ACr g l d MX11_treeOf 10 [vR 11 (some x0), vI x1] σ (fun v2 σ1 => ((v2 = none → Q (some (vI (-1))) σ1) ∧ (∀ r3, v2 = some r3 → ACi g l d MX10_deepestOver [vR 10 (some r3), vI x2] σ1 (fun v6 σ5 => Q (some (vI v6)) σ5))))) :
    AW g l (d + 1) MX11_covered 0 [some (vR 11 (some x0)), some (vI x1), some (vI x2), none] [] σ Q := by
  refine aw_aload_n dX11_covered_0 rfl rfl ?_
  refine aw_iload_n dX11_covered_1 rfl rfl ?_
  refine aw_invVr (M := MX11_covered) (ci := 11) [vI x1] rfl mo_X11_treeOf rfl lm_X11_173 li_X11_treeOf ls_X11_treeOf (by decide +kernel) dX11_covered_2 rfl (Nat.le_of_ble_eq_true rfl) (ACr.mono (fun v2 σ1 h => ?_) h)
  refine aw_astore_n (L' := [some (vR 11 (some x0)), some (vI x1), some (vI x2), some (vR 10 v2)]) dX11_covered_5 rfl (by decide) rfl ?_
  refine aw_aload_n dX11_covered_6 rfl rfl ?_
  refine aw_ifnonnull (tgt := 14) dX11_covered_7 (by decide) (fun r3 e4 => ?_) (fun hc => ?_)
  · replace h := h.2 r3 e4
    refine aw_aload_n dX11_covered_14 rfl rfl ?_
    refine aw_iload_n dX11_covered_15 rfl rfl ?_
    refine aw_invVi (M := MX11_covered) (ci := 10) [vI x2] e4 mo_X10_deepestOver rfl lm_X11_347 li_X10_deepestOver ls_X10_deepestOver (by decide +kernel) dX11_covered_16 rfl (Nat.le_of_ble_eq_true rfl) (ACi.mono (fun v6 σ5 h => ?_) h)
    exact aw_ireturn dX11_covered_19 rfl h
  · replace h := h.1 hc
    refine aw_iconst (x := (-1)) dX11_covered_10 rfl ?_
    refine aw_goto (tgt := 19) dX11_covered_11 (by decide) ?_
    exact aw_ireturn dX11_covered_19 rfl h
set_option maxRecDepth 4000 in
theorem bk_X11_cut_0 {g : GP} {l : Launch} {d : Nat} {σ : St} {Q : Option AV → St → Prop} {x0 : Nat} {x1 : Int}
    (h : ((x1 < 0 → Q (some (vI (-3))) σ) ∧ (¬ x1 < 0 → ∃ r2, gR σ 1102 x0 0 = some r2 ∧ ((x1 ≤ (gI σ 901 r2 0) → Q (some (vI x1)) (sI σ 901 r2 0 x1)) ∧ (¬ x1 ≤ (gI σ 901 r2 0) → Q (some (vI (-3))) σ))))) :
    AW g l d MX11_cut 0 [some (vR 11 (some x0)), some (vI x1)] [] σ Q := by
  refine aw_iload_n dX11_cut_0 rfl rfl ?_
  refine aw_if_lt (tgt := 15) dX11_cut_1 (by decide) (fun k1 => ?_) (fun k1 => ?_)
  · replace h := h.1 k1
    refine aw_bipush (x := (-3)) dX11_cut_15 rfl ?_
    exact aw_ireturn dX11_cut_17 rfl h
  · replace h := h.2 k1
    refine aw_iload_n dX11_cut_4 rfl rfl ?_
    refine aw_aload_n dX11_cut_5 rfl rfl ?_
    refine aw_getR' (ci := 9) rfl fk_1102 (by decide +kernel) lf_X11_18 dX11_cut_6 ?_
    obtain ⟨r2, e3, h⟩ := h
    refine aw_getI' e3 fk_901 lf_X11_123 dX11_cut_9 ?_
    refine aw_icmp_le (tgt := 18) dX11_cut_12 (by decide) (fun k4 => ?_) (fun k4 => ?_)
    · replace h := h.1 k4
      refine aw_aload_n dX11_cut_18 rfl rfl ?_
      refine aw_getR' (ci := 9) rfl fk_1102 (by decide +kernel) lf_X11_18 dX11_cut_19 ?_
      refine aw_iload_n dX11_cut_22 rfl rfl ?_
      refine aw_putI' e3 fk_901 (Or.inl rfl) lf_X11_123 dX11_cut_23 ?_
      refine aw_iload_n dX11_cut_26 rfl rfl ?_
      exact aw_ireturn dX11_cut_27 rfl h
    · replace h := h.2 k4
      refine aw_bipush (x := (-3)) dX11_cut_15 rfl ?_
      exact aw_ireturn dX11_cut_17 rfl h
set_option maxRecDepth 4000 in
theorem bk_X11_describe_0 {g : GP} {l : Launch} {d : Nat} {σ : St} {Q : Option AV → St → Prop} {x0 : Nat}
    (h : ∃ r1, gR σ 1102 x0 0 = some r1 ∧ ACv g l d MX9_split [vR 9 (some r1)] σ (fun σ3 => ∃ r4, gR σ3 1103 x0 0 = some r4 ∧ ACi g l d MX6_readDescription [vR 6 (some r4), vR 9 (gR σ3 1102 x0 0), vR 1 (gR σ3 1106 x0 0)] σ3 (fun v7 σ6 => ∃ r8, gR σ6 1103 x0 0 = some r8 ∧ ((¬ v7 = 0 → ∃ r11, (gR σ6 1106 x0 0) = some r11 ∧ Q (some (vI (gI σ6 101 r11 0))) (sI (sR (sR (sI σ6 1111 x0 0 (gI σ6 600 r8 0)) 1105 x0 0 (gR σ6 1106 x0 0)) 1106 x0 0 (gR σ6 1105 x0 0)) 1110 x0 0 0)) ∧ (v7 = 0 → R32 ((-10) - (gI σ6 601 r8 0)) ∧ Q (some (vI ((-10) - (gI σ6 601 r8 0)))) (sI σ6 1111 x0 0 (gI σ6 600 r8 0))))))) :
    AW g l (d + 1) MX11_describe 0 [some (vR 11 (some x0)), none, none] [] σ Q := by
  refine aw_aload_n dX11_describe_0 rfl rfl ?_
  refine aw_getR' (ci := 9) rfl fk_1102 (by decide +kernel) lf_X11_18 dX11_describe_1 ?_
  obtain ⟨r1, e2, h⟩ := h
  refine aw_invVv (M := MX11_describe) (ci := 9) [] e2 mo_X9_split rfl lm_X11_127 li_X9_split ls_X9_split (by decide +kernel) dX11_describe_4 rfl (Nat.le_of_ble_eq_true rfl) (ACv.mono (fun σ3 h => ?_) h)
  refine aw_aload_n dX11_describe_7 rfl rfl ?_
  refine aw_getR' (ci := 6) rfl fk_1103 (by decide +kernel) lf_X11_25 dX11_describe_8 ?_
  refine aw_aload_n dX11_describe_11 rfl rfl ?_
  refine aw_getR' (ci := 9) rfl fk_1102 (by decide +kernel) lf_X11_18 dX11_describe_12 ?_
  refine aw_aload_n dX11_describe_15 rfl rfl ?_
  refine aw_getR' (ci := 1) rfl fk_1106 (by decide +kernel) lf_X11_43 dX11_describe_16 ?_
  obtain ⟨r4, e5, h⟩ := h
  refine aw_invVi (M := MX11_describe) (ci := 6) [vR 9 (gR σ3 1102 x0 0), vR 1 (gR σ3 1106 x0 0)] e5 mo_X6_readDescription rfl lm_X11_130 li_X6_readDescription ls_X6_readDescription (by decide +kernel) dX11_describe_19 rfl (Nat.le_of_ble_eq_true rfl) (ACi.mono (fun v7 σ6 h => ?_) h)
  refine aw_istore_n (L' := [some (vR 11 (some x0)), some (vI v7), none]) dX11_describe_22 rfl (by decide) rfl ?_
  refine aw_aload_n dX11_describe_23 rfl rfl ?_
  refine aw_aload_n dX11_describe_24 rfl rfl ?_
  refine aw_getR' (ci := 6) rfl fk_1103 (by decide +kernel) lf_X11_25 dX11_describe_25 ?_
  obtain ⟨r8, e9, h⟩ := h
  refine aw_getI' e9 fk_600 lf_X11_134 dX11_describe_28 ?_
  refine aw_putI' rfl fk_1111 (Or.inl rfl) lf_X11_137 dX11_describe_31 ?_
  refine aw_iload_n dX11_describe_34 rfl rfl ?_
  refine aw_if_ne (tgt := 49) dX11_describe_35 (by decide) (fun k10 => ?_) (fun k10 => ?_)
  · replace h := h.1 k10
    refine aw_aload_n dX11_describe_49 rfl rfl ?_
    refine aw_getRe (ci := 1) (v := gR σ6 1105 x0 0) rfl fk_1105 (by decide +kernel) lf_X11_39 dX11_describe_50 rfl ?_
    refine aw_astore_n (L' := [some (vR 11 (some x0)), some (vI v7), some (vR 1 (gR σ6 1105 x0 0))]) dX11_describe_53 rfl (by decide) rfl ?_
    refine aw_aload_n dX11_describe_54 rfl rfl ?_
    refine aw_aload_n dX11_describe_55 rfl rfl ?_
    refine aw_getRe (ci := 1) (v := gR σ6 1106 x0 0) rfl fk_1106 (by decide +kernel) lf_X11_43 dX11_describe_56 rfl ?_
    refine aw_putR' rfl fk_1105 (by decide +kernel) (Or.inl rfl) lf_X11_39 dX11_describe_59 ?_
    refine aw_aload_n dX11_describe_62 rfl rfl ?_
    refine aw_aload_n dX11_describe_63 rfl rfl ?_
    refine aw_putR' rfl fk_1106 (by decide +kernel) (Or.inl rfl) lf_X11_43 dX11_describe_64 ?_
    refine aw_aload_n dX11_describe_67 rfl rfl ?_
    refine aw_iconst (x := 0) dX11_describe_68 rfl ?_
    refine aw_putI' rfl fk_1110 (Or.inl rfl) lf_X11_143 dX11_describe_69 ?_
    refine aw_aload_n dX11_describe_72 rfl rfl ?_
    refine aw_getRe (ci := 1) (v := (gR σ6 1106 x0 0)) rfl fk_1105 (by decide +kernel) lf_X11_39 dX11_describe_73 (gR_slf (sI σ6 1111 x0 0 (gI σ6 600 r8 0)) 1105 x0 0 (gR σ6 1106 x0 0)) ?_
    obtain ⟨r11, e12, h⟩ := h
    refine aw_getIe (v := gI σ6 101 r11 0) e12 fk_101 lf_X11_146 dX11_describe_76 rfl ?_
    exact aw_ireturn dX11_describe_79 rfl h
  · replace h := h.2 k10
    refine aw_bipush (x := (-10)) dX11_describe_38 rfl ?_
    refine aw_aload_n dX11_describe_40 rfl rfl ?_
    refine aw_getRe (ci := 6) (v := gR σ6 1103 x0 0) rfl fk_1103 (by decide +kernel) lf_X11_25 dX11_describe_41 rfl ?_
    refine aw_getIe (v := gI σ6 601 r8 0) e9 fk_601 lf_X11_140 dX11_describe_44 rfl ?_
    obtain ⟨⟨c13, c13x⟩, h⟩ := h
    refine aw_isubc dX11_describe_47 c13 c13x ?_
    exact aw_ireturn dX11_describe_48 rfl h
set_option maxRecDepth 4000 in
theorem bk_X11_differ_0 {g : GP} {l : Launch} {d : Nat} {σ : St} {Q : Option AV → St → Prop} {x0 : Nat} {x1 : Int} {x2 : Int} {x3 : Int} {x4 : Int}
    (h : ACr g l d MX11_imageOf 3 [vR 11 (some x0), vI x1] σ (fun v2 σ1 => ACr g l d MX11_imageOf 3 [vR 11 (some x0), vI x2] σ1 (fun v4 σ3 => ((v2 = none → Q (some (vI (-1))) σ3) ∧ (∀ r5, v2 = some r5 → ((v4 = none → Q (some (vI (-1))) σ3) ∧ (∀ r7, v4 = some r7 → ACi g l d MJ9_max_7cf53 [vI (gI σ3 304 r5 0), vI (gI σ3 304 r7 0)] σ3 (fun v10 σ9 => AW g l (d + 1) MX11_differ 44 [some (vR 11 (some x0)), none, none, some (vI x3), some (vI x4), some (vR 3 v2), some (vR 3 v4), some (vI v10), some (vI 0)] [] σ9 Q)))))))) :
    AW g l (d + 1) MX11_differ 0 [some (vR 11 (some x0)), some (vI x1), some (vI x2), some (vI x3), some (vI x4), none, none, none, none] [] σ Q := by
  refine aw_aload_n dX11_differ_0 rfl rfl ?_
  refine aw_iload_n dX11_differ_1 rfl rfl ?_
  refine aw_invVr (M := MX11_differ) (ci := 11) [vI x1] rfl mo_X11_imageOf rfl lm_X11_79 li_X11_imageOf ls_X11_imageOf (by decide +kernel) dX11_differ_2 rfl (Nat.le_of_ble_eq_true rfl) (ACr.mono (fun v2 σ1 h => ?_) h)
  refine aw_astore (L' := [some (vR 11 (some x0)), some (vI x1), some (vI x2), some (vI x3), some (vI x4), some (vR 3 v2), none, none, none]) dX11_differ_5 (by decide) rfl ?_
  refine aw_aload_n dX11_differ_7 rfl rfl ?_
  refine aw_iload_n dX11_differ_8 rfl rfl ?_
  refine aw_invVr (M := MX11_differ) (ci := 11) [vI x2] rfl mo_X11_imageOf rfl lm_X11_79 li_X11_imageOf ls_X11_imageOf (by decide +kernel) dX11_differ_9 rfl (Nat.le_of_ble_eq_true rfl) (ACr.mono (fun v4 σ3 h => ?_) h)
  refine aw_astore (L' := [some (vR 11 (some x0)), some (vI x1), some (vI x2), some (vI x3), some (vI x4), some (vR 3 v2), some (vR 3 v4), none, none]) dX11_differ_12 (by decide) rfl ?_
  refine aw_aload dX11_differ_14 rfl ?_
  refine aw_ifnull (tgt := 24) dX11_differ_16 (by decide) (fun hc => ?_) (fun r5 e6 => ?_)
  · replace h := h.1 hc
    refine aw_iconst (x := (-1)) dX11_differ_24 rfl ?_
    exact aw_ireturn dX11_differ_25 rfl h
  · replace h := h.2 r5 e6
    refine aw_aload dX11_differ_19 rfl ?_
    refine aw_ifnonnull (tgt := 26) dX11_differ_21 (by decide) (fun r7 e8 => ?_) (fun hc => ?_)
    · replace h := h.2 r7 e8
      refine aw_aload dX11_differ_26 rfl ?_
      refine aw_getI' e6 fk_304 lf_X11_86 dX11_differ_28 ?_
      refine aw_aload dX11_differ_31 rfl ?_
      refine aw_getI' e8 fk_304 lf_X11_86 dX11_differ_33 ?_
      refine aw_invSi (M := MX11_differ) [vI (gI σ3 304 r5 0), vI (gI σ3 304 r7 0)] mo_J9_max_7cf53 rfl lm_X11_358 lt_J9_max_7cf53 dX11_differ_36 rfl (Nat.le_of_ble_eq_true rfl) (ACi.mono (fun v10 σ9 h => ?_) h)
      refine aw_istore (L' := [some (vR 11 (some x0)), some (vI x1), some (vI x2), some (vI x3), some (vI x4), some (vR 3 v2), some (vR 3 v4), some (vI v10), none]) dX11_differ_39 (by decide) rfl ?_
      refine aw_iconst (x := 0) dX11_differ_41 rfl ?_
      refine aw_istore (L' := [some (vR 11 (some x0)), some (vI x1), some (vI x2), some (vI x3), some (vI x4), some (vR 3 v2), some (vR 3 v4), some (vI v10), some (vI 0)]) dX11_differ_42 (by decide) rfl ?_
      exact aw_fgt (L' := [some (vR 11 (some x0)), none, none, some (vI x3), some (vI x4), some (vR 3 v2), some (vR 3 v4), some (vI v10), some (vI 0)]) ⟨rfl, ⟨rfl, ⟨rfl, ⟨rfl, ⟨rfl, ⟨rfl, ⟨rfl, trivial⟩⟩⟩⟩⟩⟩⟩ h
    · replace h := h.1 hc
      refine aw_iconst (x := (-1)) dX11_differ_24 rfl ?_
      exact aw_ireturn dX11_differ_25 rfl h
set_option maxRecDepth 4000 in
theorem bk_X11_differ_44 {g : GP} {l : Launch} {d : Nat} {σ : St} {Q : Option AV → St → Prop} {x0 : Nat} {x3 : Int} {x4 : Int} {x5 : Option Nat} {x6 : Option Nat} {x7 : Int} {x8 : Int}
    (h : ((x7 ≤ x8 → ACi g l d MX11_stretchOf [vR 11 (some x0), vI x7, vI x3, vI x4] σ (fun v3 σ2 => Q (some (vI v3)) σ2)) ∧ (¬ x7 ≤ x8 → LC 11 σ x0 ∧ ∃ r5, x5 = some r5 ∧ ACi g l d MX3_has [vR 3 (some r5), vI x8] σ (fun v8 σ7 => ∃ r9, x6 = some r9 ∧ ACi g l d MX3_has [vR 3 (some r9), vI x8] σ7 (fun v12 σ11 => ((¬ v8 = v12 → LC 11 σ11 x0 ∧ Bd x8 2001 ∧ R32 (x8 + 1) ∧ AW g l (d + 1) MX11_differ 44 [some (vR 11 (some x0)), none, none, some (vI x3), some (vI x4), some (vR 3 x5), some (vR 3 x6), some (vI x7), some (vI (x8 + 1))] [] (sI σ11 1115 x0 x8.toNat 1) Q) ∧ (v8 = v12 → LC 11 σ11 x0 ∧ Bd x8 2001 ∧ R32 (x8 + 1) ∧ AW g l (d + 1) MX11_differ 44 [some (vR 11 (some x0)), none, none, some (vI x3), some (vI x4), some (vR 3 x5), some (vR 3 x6), some (vI x7), some (vI (x8 + 1))] [] (sI σ11 1115 x0 x8.toNat 0) Q))))))) :
    AW g l (d + 1) MX11_differ 44 [some (vR 11 (some x0)), none, none, some (vI x3), some (vI x4), some (vR 3 x5), some (vR 3 x6), some (vI x7), some (vI x8)] [] σ Q := by
  refine aw_iload dX11_differ_44 rfl ?_
  refine aw_iload dX11_differ_46 rfl ?_
  refine aw_icmp_ge (tgt := 86) dX11_differ_48 (by decide) (fun k1 => ?_) (fun k1 => ?_)
  · replace h := h.1 k1
    refine aw_aload_n dX11_differ_86 rfl rfl ?_
    refine aw_iload dX11_differ_87 rfl ?_
    refine aw_iload_n dX11_differ_89 rfl rfl ?_
    refine aw_iload dX11_differ_90 rfl ?_
    refine aw_invVi (M := MX11_differ) (ci := 11) [vI x7, vI x3, vI x4] rfl mo_X11_stretchOf rfl lm_X11_354 li_X11_stretchOf ls_X11_stretchOf (by decide +kernel) dX11_differ_92 rfl (Nat.le_of_ble_eq_true rfl) (ACi.mono (fun v3 σ2 h => ?_) h)
    exact aw_ireturn dX11_differ_95 rfl h
  · replace h := h.2 k1
    refine aw_aload_n dX11_differ_51 rfl rfl ?_
    obtain ⟨lc4, h⟩ := h
    refine aw_getA' rfl fk_1115 (by decide) lf_X11_71 dX11_differ_52 (LC.ne lc4 rfl rfl) ?_
    refine aw_iload dX11_differ_55 rfl ?_
    refine aw_aload dX11_differ_57 rfl ?_
    refine aw_iload dX11_differ_59 rfl ?_
    obtain ⟨r5, e6, h⟩ := h
    refine aw_invVi (M := MX11_differ) (ci := 3) [vI x8] e6 mo_X3_has rfl lm_X11_93 li_X3_has ls_X3_has (by decide +kernel) dX11_differ_61 rfl (Nat.le_of_ble_eq_true rfl) (ACi.mono (fun v8 σ7 h => ?_) h)
    refine aw_aload dX11_differ_64 rfl ?_
    refine aw_iload dX11_differ_66 rfl ?_
    obtain ⟨r9, e10, h⟩ := h
    refine aw_invVi (M := MX11_differ) (ci := 3) [vI x8] e10 mo_X3_has rfl lm_X11_93 li_X3_has ls_X3_has (by decide +kernel) dX11_differ_68 rfl (Nat.le_of_ble_eq_true rfl) (ACi.mono (fun v12 σ11 h => ?_) h)
    refine aw_icmp_ne (tgt := 78) dX11_differ_71 (by decide) (fun k13 => ?_) (fun k13 => ?_)
    · replace h := h.1 k13
      refine aw_iconst (x := 1) dX11_differ_78 rfl ?_
      obtain ⟨lc14, h⟩ := h
      obtain ⟨⟨c15, c15x⟩, h⟩ := h
      refine aw_iastore (by decide) rfl dX11_differ_79 c15 (LC.lt lc14 rfl rfl c15x) ?_
      obtain ⟨⟨c16, c16x⟩, h⟩ := h
      refine aw_iincc (L' := [some (vR 11 (some x0)), none, none, some (vI x3), some (vI x4), some (vR 3 x5), some (vR 3 x6), some (vI x7), some (vI (x8 + 1))]) dX11_differ_80 rfl (by decide) rfl c16 c16x rfl ?_
      refine aw_goto (tgt := 44) dX11_differ_83 (by decide) ?_
      exact aw_fgt (L' := [some (vR 11 (some x0)), none, none, some (vI x3), some (vI x4), some (vR 3 x5), some (vR 3 x6), some (vI x7), some (vI (x8 + 1))]) ⟨rfl, ⟨rfl, ⟨rfl, ⟨rfl, ⟨rfl, ⟨rfl, ⟨rfl, trivial⟩⟩⟩⟩⟩⟩⟩ h
    · replace h := h.2 k13
      refine aw_iconst (x := 0) dX11_differ_74 rfl ?_
      refine aw_goto (tgt := 79) dX11_differ_75 (by decide) ?_
      obtain ⟨lc17, h⟩ := h
      obtain ⟨⟨c18, c18x⟩, h⟩ := h
      refine aw_iastore (by decide) rfl dX11_differ_79 c18 (LC.lt lc17 rfl rfl c18x) ?_
      obtain ⟨⟨c19, c19x⟩, h⟩ := h
      refine aw_iincc (L' := [some (vR 11 (some x0)), none, none, some (vI x3), some (vI x4), some (vR 3 x5), some (vR 3 x6), some (vI x7), some (vI (x8 + 1))]) dX11_differ_80 rfl (by decide) rfl c19 c19x rfl ?_
      refine aw_goto (tgt := 44) dX11_differ_83 (by decide) ?_
      exact aw_fgt (L' := [some (vR 11 (some x0)), none, none, some (vI x3), some (vI x4), some (vR 3 x5), some (vR 3 x6), some (vI x7), some (vI (x8 + 1))]) ⟨rfl, ⟨rfl, ⟨rfl, ⟨rfl, ⟨rfl, ⟨rfl, ⟨rfl, trivial⟩⟩⟩⟩⟩⟩⟩ h
set_option maxRecDepth 4000 in
theorem bk_X11_drop_0 {g : GP} {l : Launch} {d : Nat} {σ : St} {Q : Option AV → St → Prop} {x0 : Nat} {x1 : Int}
    (h : ACr g l d MX11_imageOf 3 [vR 11 (some x0), vI x1] σ (fun v2 σ1 => ((v2 = none → Q (some (vI (-1))) σ1) ∧ (∀ r3, v2 = some r3 → ((¬ (gI σ1 303 r3 0) = 0 → ACi g l d MX3_shedTop [vR 3 (some r3)] σ1 (fun v7 σ6 => Q (some (vI v7)) σ6)) ∧ ((gI σ1 303 r3 0) = 0 → Q (some (vI (-7))) σ1)))))) :
    AW g l (d + 1) MX11_drop 0 [some (vR 11 (some x0)), some (vI x1), none] [] σ Q := by
  refine aw_aload_n dX11_drop_0 rfl rfl ?_
  refine aw_iload_n dX11_drop_1 rfl rfl ?_
  refine aw_invVr (M := MX11_drop) (ci := 11) [vI x1] rfl mo_X11_imageOf rfl lm_X11_79 li_X11_imageOf ls_X11_imageOf (by decide +kernel) dX11_drop_2 rfl (Nat.le_of_ble_eq_true rfl) (ACr.mono (fun v2 σ1 h => ?_) h)
  refine aw_astore_n (L' := [some (vR 11 (some x0)), some (vI x1), some (vR 3 v2)]) dX11_drop_5 rfl (by decide) rfl ?_
  refine aw_aload_n dX11_drop_6 rfl rfl ?_
  refine aw_ifnonnull (tgt := 12) dX11_drop_7 (by decide) (fun r3 e4 => ?_) (fun hc => ?_)
  · replace h := h.2 r3 e4
    refine aw_aload_n dX11_drop_12 rfl rfl ?_
    refine aw_getI' e4 fk_303 lf_X11_83 dX11_drop_13 ?_
    refine aw_if_ne (tgt := 24) dX11_drop_16 (by decide) (fun k5 => ?_) (fun k5 => ?_)
    · replace h := h.1 k5
      refine aw_aload_n dX11_drop_24 rfl rfl ?_
      refine aw_invVi (M := MX11_drop) (ci := 3) [] e4 mo_X3_shedTop rfl lm_X11_104 li_X3_shedTop ls_X3_shedTop (by decide +kernel) dX11_drop_25 rfl (Nat.le_of_ble_eq_true rfl) (ACi.mono (fun v7 σ6 h => ?_) h)
      exact aw_ireturn dX11_drop_28 rfl h
    · replace h := h.2 k5
      refine aw_bipush (x := (-7)) dX11_drop_19 rfl ?_
      refine aw_goto (tgt := 28) dX11_drop_21 (by decide) ?_
      exact aw_ireturn dX11_drop_28 rfl h
  · replace h := h.1 hc
    refine aw_iconst (x := (-1)) dX11_drop_10 rfl ?_
    exact aw_ireturn dX11_drop_11 rfl h
set_option maxRecDepth 4000 in
theorem bk_X11_evaluate_0 {g : GP} {l : Launch} {d : Nat} {σ : St} {Q : Option AV → St → Prop} {x0 : Nat} {x1 : Int} {x2 : Int}
    (h : ACr g l d MX11_treeOf 10 [vR 11 (some x0), vI x1] σ (fun v2 σ1 => ACr g l d MX11_nodeOf 5 [vR 11 (some x0), vI x1, vI x2] σ1 (fun v4 σ3 => ((v2 = none → Q (some (vI (-1))) σ3) ∧ (∀ r5, v2 = some r5 → ((v4 = none → Q (some (vI (-1))) σ3) ∧ (∀ r7, v4 = some r7 → (((gI σ3 501 r7 0) = 0 → ∃ r10, gR σ3 1102 x0 0 = some r10 ∧ ACv g l d MX9_split [vR 9 (some r10)] σ3 (fun σ12 => ∃ r13, gR σ12 1103 x0 0 = some r13 ∧ ACi g l d MX6_readQuestion [vR 6 (some r13), vR 9 (gR σ12 1102 x0 0), vR 1 (gR σ12 1105 x0 0), vI (gI σ12 514 r7 0), vR 0 (gR σ12 1107 x0 0)] σ12 (fun v16 σ15 => ∃ r17, gR σ15 1103 x0 0 = some r17 ∧ ((¬ v16 = 0 → ∃ r20, gR σ15 1104 x0 0 = some r20 ∧ ACj g l d MX7_work [vR 7 (some r20), vR 0 (gR σ15 1107 x0 0), vI 0, vR 5 v4, vI (gI σ15 503 r7 0), vR 3 (gR σ15 1000 r5 0)] (sI σ15 1111 x0 0 (gI σ15 600 r17 0)) (fun v23 σ22 => ∃ r24, gR σ22 1104 x0 0 = some r24 ∧ (((gI σ22 700 r24 0) = 0 → Q (some (vI 0)) (sJ σ22 1112 x0 0 v23)) ∧ (¬ (gI σ22 700 r24 0) = 0 → Q (some (vI (-3))) σ22)))) ∧ (v16 = 0 → R32 ((-10) - (gI σ15 601 r17 0)) ∧ Q (some (vI ((-10) - (gI σ15 601 r17 0)))) (sI σ15 1111 x0 0 (gI σ15 600 r17 0))))))) ∧ (¬ (gI σ3 501 r7 0) = 0 → Q (some (vI (-4))) σ3))))))))) :
    AW g l (d + 1) MX11_evaluate 0 [some (vR 11 (some x0)), some (vI x1), some (vI x2), none, none, none, none, none] [] σ Q := by
  refine aw_aload_n dX11_evaluate_0 rfl rfl ?_
  refine aw_iload_n dX11_evaluate_1 rfl rfl ?_
  refine aw_invVr (M := MX11_evaluate) (ci := 11) [vI x1] rfl mo_X11_treeOf rfl lm_X11_173 li_X11_treeOf ls_X11_treeOf (by decide +kernel) dX11_evaluate_2 rfl (Nat.le_of_ble_eq_true rfl) (ACr.mono (fun v2 σ1 h => ?_) h)
  refine aw_astore_n (L' := [some (vR 11 (some x0)), some (vI x1), some (vI x2), some (vR 10 v2), none, none, none, none]) dX11_evaluate_5 rfl (by decide) rfl ?_
  refine aw_aload_n dX11_evaluate_6 rfl rfl ?_
  refine aw_iload_n dX11_evaluate_7 rfl rfl ?_
  refine aw_iload_n dX11_evaluate_8 rfl rfl ?_
  refine aw_invVr (M := MX11_evaluate) (ci := 11) [vI x1, vI x2] rfl mo_X11_nodeOf rfl lm_X11_188 li_X11_nodeOf ls_X11_nodeOf (by decide +kernel) dX11_evaluate_9 rfl (Nat.le_of_ble_eq_true rfl) (ACr.mono (fun v4 σ3 h => ?_) h)
  refine aw_astore (L' := [some (vR 11 (some x0)), some (vI x1), some (vI x2), some (vR 10 v2), some (vR 5 v4), none, none, none]) dX11_evaluate_12 (by decide) rfl ?_
  refine aw_aload_n dX11_evaluate_14 rfl rfl ?_
  refine aw_ifnull (tgt := 23) dX11_evaluate_15 (by decide) (fun hc => ?_) (fun r5 e6 => ?_)
  · replace h := h.1 hc
    refine aw_iconst (x := (-1)) dX11_evaluate_23 rfl ?_
    exact aw_ireturn dX11_evaluate_24 rfl h
  · replace h := h.2 r5 e6
    refine aw_aload dX11_evaluate_18 rfl ?_
    refine aw_ifnonnull (tgt := 25) dX11_evaluate_20 (by decide) (fun r7 e8 => ?_) (fun hc => ?_)
    · replace h := h.2 r7 e8
      refine aw_aload dX11_evaluate_25 rfl ?_
      refine aw_getI' e8 fk_501 lf_X11_192 dX11_evaluate_27 ?_
      refine aw_if_eq (tgt := 36) dX11_evaluate_30 (by decide) (fun k9 => ?_) (fun k9 => ?_)
      · replace h := h.1 k9
        refine aw_aload_n dX11_evaluate_36 rfl rfl ?_
        refine aw_getR' (ci := 9) rfl fk_1102 (by decide +kernel) lf_X11_18 dX11_evaluate_37 ?_
        obtain ⟨r10, e11, h⟩ := h
        refine aw_invVv (M := MX11_evaluate) (ci := 9) [] e11 mo_X9_split rfl lm_X11_127 li_X9_split ls_X9_split (by decide +kernel) dX11_evaluate_40 rfl (Nat.le_of_ble_eq_true rfl) (ACv.mono (fun σ12 h => ?_) h)
        refine aw_aload_n dX11_evaluate_43 rfl rfl ?_
        refine aw_getR' (ci := 6) rfl fk_1103 (by decide +kernel) lf_X11_25 dX11_evaluate_44 ?_
        refine aw_aload_n dX11_evaluate_47 rfl rfl ?_
        refine aw_getR' (ci := 9) rfl fk_1102 (by decide +kernel) lf_X11_18 dX11_evaluate_48 ?_
        refine aw_aload_n dX11_evaluate_51 rfl rfl ?_
        refine aw_getR' (ci := 1) rfl fk_1105 (by decide +kernel) lf_X11_39 dX11_evaluate_52 ?_
        refine aw_aload dX11_evaluate_55 rfl ?_
        refine aw_getI' e8 fk_514 lf_X11_217 dX11_evaluate_57 ?_
        refine aw_aload_n dX11_evaluate_60 rfl rfl ?_
        refine aw_getR' (ci := 0) rfl fk_1107 (by decide +kernel) lf_X11_49 dX11_evaluate_61 ?_
        obtain ⟨r13, e14, h⟩ := h
        refine aw_invVi (M := MX11_evaluate) (ci := 6) [vR 9 (gR σ12 1102 x0 0), vR 1 (gR σ12 1105 x0 0), vI (gI σ12 514 r7 0), vR 0 (gR σ12 1107 x0 0)] e14 mo_X6_readQuestion rfl lm_X11_270 li_X6_readQuestion ls_X6_readQuestion (by decide +kernel) dX11_evaluate_64 rfl (Nat.le_of_ble_eq_true rfl) (ACi.mono (fun v16 σ15 h => ?_) h)
        refine aw_istore (L' := [some (vR 11 (some x0)), some (vI x1), some (vI x2), some (vR 10 v2), some (vR 5 v4), some (vI v16), none, none]) dX11_evaluate_67 (by decide) rfl ?_
        refine aw_aload_n dX11_evaluate_69 rfl rfl ?_
        refine aw_aload_n dX11_evaluate_70 rfl rfl ?_
        refine aw_getR' (ci := 6) rfl fk_1103 (by decide +kernel) lf_X11_25 dX11_evaluate_71 ?_
        obtain ⟨r17, e18, h⟩ := h
        refine aw_getI' e18 fk_600 lf_X11_134 dX11_evaluate_74 ?_
        refine aw_putI' rfl fk_1111 (Or.inl rfl) lf_X11_137 dX11_evaluate_77 ?_
        refine aw_iload dX11_evaluate_80 rfl ?_
        refine aw_if_ne (tgt := 96) dX11_evaluate_82 (by decide) (fun k19 => ?_) (fun k19 => ?_)
        · replace h := h.1 k19
          refine aw_aload_n dX11_evaluate_96 rfl rfl ?_
          refine aw_getRe (ci := 7) (v := gR σ15 1104 x0 0) rfl fk_1104 (by decide +kernel) lf_X11_32 dX11_evaluate_97 rfl ?_
          refine aw_aload_n dX11_evaluate_100 rfl rfl ?_
          refine aw_getRe (ci := 0) (v := gR σ15 1107 x0 0) rfl fk_1107 (by decide +kernel) lf_X11_49 dX11_evaluate_101 rfl ?_
          refine aw_iconst (x := 0) dX11_evaluate_104 rfl ?_
          refine aw_aload dX11_evaluate_105 rfl ?_
          refine aw_aload dX11_evaluate_107 rfl ?_
          refine aw_getIe (v := gI σ15 503 r7 0) e8 fk_503 lf_X11_200 dX11_evaluate_109 rfl ?_
          refine aw_aload_n dX11_evaluate_112 rfl rfl ?_
          refine aw_getRe (ci := 3) (v := gR σ15 1000 r5 0) e6 fk_1000 (by decide +kernel) lf_X11_177 dX11_evaluate_113 rfl ?_
          obtain ⟨r20, e21, h⟩ := h
          refine aw_invVj (M := MX11_evaluate) (ci := 7) [vR 0 (gR σ15 1107 x0 0), vI 0, vR 5 v4, vI (gI σ15 503 r7 0), vR 3 (gR σ15 1000 r5 0)] e21 mo_X7_work rfl lm_X11_274 li_X7_work ls_X7_work (by decide +kernel) dX11_evaluate_116 rfl (Nat.le_of_ble_eq_true rfl) (ACj.mono (fun v23 σ22 h => ?_) h)
          refine aw_lstore (L' := [some (vR 11 (some x0)), some (vI x1), some (vI x2), some (vR 10 v2), some (vR 5 v4), some (vI v16), some (vJ v23), none]) dX11_evaluate_119 (by decide) rfl ?_
          refine aw_aload_n dX11_evaluate_121 rfl rfl ?_
          refine aw_getR' (ci := 7) rfl fk_1104 (by decide +kernel) lf_X11_32 dX11_evaluate_122 ?_
          obtain ⟨r24, e25, h⟩ := h
          refine aw_getZ' e25 fk_700 lf_X11_278 dX11_evaluate_125 ?_
          refine aw_if_eq (tgt := 134) dX11_evaluate_128 (by decide) (fun k26 => ?_) (fun k26 => ?_)
          · replace h := h.1 k26
            refine aw_aload_n dX11_evaluate_134 rfl rfl ?_
            refine aw_lload dX11_evaluate_135 rfl ?_
            refine aw_putJ' rfl fk_1112 (Or.inl rfl) lf_X11_281 dX11_evaluate_137 ?_
            refine aw_iconst (x := 0) dX11_evaluate_140 rfl ?_
            exact aw_ireturn dX11_evaluate_141 rfl h
          · replace h := h.2 k26
            refine aw_bipush (x := (-3)) dX11_evaluate_131 rfl ?_
            exact aw_ireturn dX11_evaluate_133 rfl h
        · replace h := h.2 k19
          refine aw_bipush (x := (-10)) dX11_evaluate_85 rfl ?_
          refine aw_aload_n dX11_evaluate_87 rfl rfl ?_
          refine aw_getRe (ci := 6) (v := gR σ15 1103 x0 0) rfl fk_1103 (by decide +kernel) lf_X11_25 dX11_evaluate_88 rfl ?_
          refine aw_getIe (v := gI σ15 601 r17 0) e18 fk_601 lf_X11_140 dX11_evaluate_91 rfl ?_
          obtain ⟨⟨c27, c27x⟩, h⟩ := h
          refine aw_isubc dX11_evaluate_94 c27 c27x ?_
          exact aw_ireturn dX11_evaluate_95 rfl h
      · replace h := h.2 k9
        refine aw_bipush (x := (-4)) dX11_evaluate_33 rfl ?_
        exact aw_ireturn dX11_evaluate_35 rfl h
    · replace h := h.1 hc
      refine aw_iconst (x := (-1)) dX11_evaluate_23 rfl ?_
      exact aw_ireturn dX11_evaluate_24 rfl h
set_option maxRecDepth 4000 in
theorem bk_X11_faults_0 {g : GP} {l : Launch} {d : Nat} {σ : St} {Q : Option AV → St → Prop} {x0 : Nat} {x1 : Int} {x2 : Int}
    (h : ACr g l d MX11_treeOf 10 [vR 11 (some x0), vI x1] σ (fun v2 σ1 => ((v2 = none → Q (some (vI (-1))) σ1) ∧ (∀ r3, v2 = some r3 → ((x2 = 0 → ACi g l d MX10_faultCount [vR 10 (some r3)] σ1 (fun v6 σ5 => Q (some (vI v6)) σ5)) ∧ (x2 = 1 → ACi g l d MX10_firstFault [vR 10 (some r3)] σ1 (fun v8 σ7 => Q (some (vI v8)) σ7)) ∧ (x2 = 2 → Q (some (vI (gI σ1 1004 r3 0))) σ1) ∧ (x2 < 0 ∨ 2 < x2 → Q (some (vI (-1))) σ1)))))) :
    AW g l (d + 1) MX11_faults 0 [some (vR 11 (some x0)), some (vI x1), some (vI x2), none] [] σ Q := by
  refine aw_aload_n dX11_faults_0 rfl rfl ?_
  refine aw_iload_n dX11_faults_1 rfl rfl ?_
  refine aw_invVr (M := MX11_faults) (ci := 11) [vI x1] rfl mo_X11_treeOf rfl lm_X11_173 li_X11_treeOf ls_X11_treeOf (by decide +kernel) dX11_faults_2 rfl (Nat.le_of_ble_eq_true rfl) (ACr.mono (fun v2 σ1 h => ?_) h)
  refine aw_astore_n (L' := [some (vR 11 (some x0)), some (vI x1), some (vI x2), some (vR 10 v2)]) dX11_faults_5 rfl (by decide) rfl ?_
  refine aw_aload_n dX11_faults_6 rfl rfl ?_
  refine aw_ifnonnull (tgt := 12) dX11_faults_7 (by decide) (fun r3 e4 => ?_) (fun hc => ?_)
  · replace h := h.2 r3 e4
    refine aw_iload_n dX11_faults_12 rfl rfl ?_
    obtain ⟨h0, h1, h2, hd⟩ := h
    refine aw_table (M := MX11_faults) (dt := 55) [40, 45, 50] dX11_faults_13 (by decide) (by decide) (by decide) ⟨fun hc => ?_, fun hc => ?_, fun hc => ?_, trivial⟩ (fun hc => ?_)
    · have h := h0 hc; clear h0 h1 h2 hd
      refine aw_aload_n dX11_faults_40 rfl rfl ?_
      refine aw_invVi (M := MX11_faults) (ci := 10) [] e4 mo_X10_faultCount rfl lm_X11_254 li_X10_faultCount ls_X10_faultCount (by decide +kernel) dX11_faults_41 rfl (Nat.le_of_ble_eq_true rfl) (ACi.mono (fun v6 σ5 h => ?_) h)
      exact aw_ireturn dX11_faults_44 rfl h
    · have h := h1 hc; clear h0 h1 h2 hd
      refine aw_aload_n dX11_faults_45 rfl rfl ?_
      refine aw_invVi (M := MX11_faults) (ci := 10) [] e4 mo_X10_firstFault rfl lm_X11_257 li_X10_firstFault ls_X10_firstFault (by decide +kernel) dX11_faults_46 rfl (Nat.le_of_ble_eq_true rfl) (ACi.mono (fun v8 σ7 h => ?_) h)
      exact aw_ireturn dX11_faults_49 rfl h
    · have h := h2 hc; clear h0 h1 h2 hd
      refine aw_aload_n dX11_faults_50 rfl rfl ?_
      refine aw_getI' e4 fk_1004 lf_X11_187 dX11_faults_51 ?_
      exact aw_ireturn dX11_faults_54 rfl h
    · have h := hd hc; clear h0 h1 h2 hd
      refine aw_iconst (x := (-1)) dX11_faults_55 rfl ?_
      exact aw_ireturn dX11_faults_56 rfl h
  · replace h := h.1 hc
    refine aw_iconst (x := (-1)) dX11_faults_10 rfl ?_
    exact aw_ireturn dX11_faults_11 rfl h
set_option maxRecDepth 4000 in
theorem bk_X11_feed_0 {g : GP} {l : Launch} {d : Nat} {σ : St} {Q : Option AV → St → Prop} {x0 : Nat} {x1 : Int64} {x3 : Int}
    (h : ((x3 < 1 → Q (some (vI (-3))) σ) ∧ (¬ x3 < 1 → ((x3 ≤ 8 → ∃ r3, gR σ 1102 x0 0 = some r3 ∧ R32 ((gI σ 901 r3 0) + x3) ∧ ((((gI σ 901 r3 0) + x3) ≤ 3000 → ACv g l d MX9_append [vR 9 (some r3), vJ x1, vI x3] σ (fun σ7 => ∃ r8, gR σ7 1102 x0 0 = some r8 ∧ Q (some (vI (gI σ7 901 r8 0))) σ7)) ∧ (¬ ((gI σ 901 r3 0) + x3) ≤ 3000 → Q (some (vI (-2))) σ))) ∧ (¬ x3 ≤ 8 → Q (some (vI (-3))) σ))))) :
    AW g l (d + 1) MX11_feed 0 [some (vR 11 (some x0)), some (vJ x1), none, some (vI x3)] [] σ Q := by
  refine aw_iload_n dX11_feed_0 rfl rfl ?_
  refine aw_iconst (x := 1) dX11_feed_1 rfl ?_
  refine aw_icmp_lt (tgt := 11) dX11_feed_2 (by decide) (fun k1 => ?_) (fun k1 => ?_)
  · replace h := h.1 k1
    refine aw_bipush (x := (-3)) dX11_feed_11 rfl ?_
    exact aw_ireturn dX11_feed_13 rfl h
  · replace h := h.2 k1
    refine aw_iload_n dX11_feed_5 rfl rfl ?_
    refine aw_bipush (x := 8) dX11_feed_6 rfl ?_
    refine aw_icmp_le (tgt := 14) dX11_feed_8 (by decide) (fun k2 => ?_) (fun k2 => ?_)
    · replace h := h.1 k2
      refine aw_aload_n dX11_feed_14 rfl rfl ?_
      refine aw_getR' (ci := 9) rfl fk_1102 (by decide +kernel) lf_X11_18 dX11_feed_15 ?_
      obtain ⟨r3, e4, h⟩ := h
      refine aw_getI' e4 fk_901 lf_X11_123 dX11_feed_18 ?_
      refine aw_iload_n dX11_feed_21 rfl rfl ?_
      obtain ⟨⟨c5, c5x⟩, h⟩ := h
      refine aw_iaddc dX11_feed_22 c5 c5x ?_
      refine aw_sipush (x := 3000) dX11_feed_23 rfl ?_
      refine aw_icmp_le (tgt := 32) dX11_feed_26 (by decide) (fun k6 => ?_) (fun k6 => ?_)
      · replace h := h.1 k6
        refine aw_aload_n dX11_feed_32 rfl rfl ?_
        refine aw_getR' (ci := 9) rfl fk_1102 (by decide +kernel) lf_X11_18 dX11_feed_33 ?_
        refine aw_lload_n dX11_feed_36 rfl rfl ?_
        refine aw_iload_n dX11_feed_37 rfl rfl ?_
        refine aw_invVv (M := MX11_feed) (ci := 9) [vJ x1, vI x3] e4 mo_X9_append rfl lm_X11_126 li_X9_append ls_X9_append (by decide +kernel) dX11_feed_38 rfl (Nat.le_of_ble_eq_true rfl) (ACv.mono (fun σ7 h => ?_) h)
        refine aw_aload_n dX11_feed_41 rfl rfl ?_
        refine aw_getR' (ci := 9) rfl fk_1102 (by decide +kernel) lf_X11_18 dX11_feed_42 ?_
        obtain ⟨r8, e9, h⟩ := h
        refine aw_getI' e9 fk_901 lf_X11_123 dX11_feed_45 ?_
        exact aw_ireturn dX11_feed_48 rfl h
      · replace h := h.2 k6
        refine aw_bipush (x := (-2)) dX11_feed_29 rfl ?_
        exact aw_ireturn dX11_feed_31 rfl h
    · replace h := h.2 k2
      refine aw_bipush (x := (-3)) dX11_feed_11 rfl ?_
      exact aw_ireturn dX11_feed_13 rfl h
set_option maxRecDepth 4000 in
theorem bk_X11_figureOf_0 {g : GP} {l : Launch} {d : Nat} {σ : St} {Q : Option AV → St → Prop} {x0 : Int}
    (h : ((10 ≤ (i_and x0 15) → R32 (97 + (i_and x0 15)) ∧ R32 ((97 + (i_and x0 15)) - 10) ∧ Q (some (vI ((97 + (i_and x0 15)) - 10))) σ) ∧ (¬ 10 ≤ (i_and x0 15) → R32 (48 + (i_and x0 15)) ∧ Q (some (vI (48 + (i_and x0 15)))) σ))) :
    AW g l d MX11_figureOf 0 [some (vI x0), none] [] σ Q := by
  refine aw_iload_n dX11_figureOf_0 rfl rfl ?_
  refine aw_bipush (x := 15) dX11_figureOf_1 rfl ?_
  refine aw_iand dX11_figureOf_3 ?_
  refine aw_istore_n (L' := [some (vI x0), some (vI (i_and x0 15))]) dX11_figureOf_4 rfl (by decide) rfl ?_
  refine aw_iload_n dX11_figureOf_5 rfl rfl ?_
  refine aw_bipush (x := 10) dX11_figureOf_6 rfl ?_
  refine aw_icmp_ge (tgt := 18) dX11_figureOf_8 (by decide) (fun k1 => ?_) (fun k1 => ?_)
  · replace h := h.1 k1
    refine aw_bipush (x := 97) dX11_figureOf_18 rfl ?_
    refine aw_iload_n dX11_figureOf_20 rfl rfl ?_
    obtain ⟨⟨c2, c2x⟩, h⟩ := h
    refine aw_iaddc dX11_figureOf_21 c2 c2x ?_
    refine aw_bipush (x := 10) dX11_figureOf_22 rfl ?_
    obtain ⟨⟨c3, c3x⟩, h⟩ := h
    refine aw_isubc dX11_figureOf_24 c3 c3x ?_
    exact aw_ireturn dX11_figureOf_25 rfl h
  · replace h := h.2 k1
    refine aw_bipush (x := 48) dX11_figureOf_11 rfl ?_
    refine aw_iload_n dX11_figureOf_13 rfl rfl ?_
    obtain ⟨⟨c4, c4x⟩, h⟩ := h
    refine aw_iaddc dX11_figureOf_14 c4 c4x ?_
    refine aw_goto (tgt := 25) dX11_figureOf_15 (by decide) ?_
    exact aw_ireturn dX11_figureOf_25 rfl h
set_option maxRecDepth 4000 in
theorem bk_X11_find_0 {g : GP} {l : Launch} {d : Nat} {σ : St} {Q : Option AV → St → Prop} {x0 : Nat} {x1 : Int}
    (h : ACr g l d MX11_nodeOf 5 [vR 11 (some x0), vI x1, vI 0] σ (fun v2 σ1 => ((v2 = none → Q (some (vI (-1))) σ1) ∧ (∀ r3, v2 = some r3 → ∃ r5, gR σ1 1102 x0 0 = some r5 ∧ ACv g l d MX9_split [vR 9 (some r5)] σ1 (fun σ7 => AW g l (d + 1) MX11_find 22 [some (vR 11 (some x0)), none, some (vR 5 v2), some (vI 0), none] [] σ7 Q))))) :
    AW g l (d + 1) MX11_find 0 [some (vR 11 (some x0)), some (vI x1), none, none, none] [] σ Q := by
  refine aw_aload_n dX11_find_0 rfl rfl ?_
  refine aw_iload_n dX11_find_1 rfl rfl ?_
  refine aw_iconst (x := 0) dX11_find_2 rfl ?_
  refine aw_invVr (M := MX11_find) (ci := 11) [vI x1, vI 0] rfl mo_X11_nodeOf rfl lm_X11_188 li_X11_nodeOf ls_X11_nodeOf (by decide +kernel) dX11_find_3 rfl (Nat.le_of_ble_eq_true rfl) (ACr.mono (fun v2 σ1 h => ?_) h)
  refine aw_astore_n (L' := [some (vR 11 (some x0)), some (vI x1), some (vR 5 v2), none, none]) dX11_find_6 rfl (by decide) rfl ?_
  refine aw_aload_n dX11_find_7 rfl rfl ?_
  refine aw_ifnonnull (tgt := 13) dX11_find_8 (by decide) (fun r3 e4 => ?_) (fun hc => ?_)
  · replace h := h.2 r3 e4
    refine aw_aload_n dX11_find_13 rfl rfl ?_
    refine aw_getR' (ci := 9) rfl fk_1102 (by decide +kernel) lf_X11_18 dX11_find_14 ?_
    obtain ⟨r5, e6, h⟩ := h
    refine aw_invVv (M := MX11_find) (ci := 9) [] e6 mo_X9_split rfl lm_X11_127 li_X9_split ls_X9_split (by decide +kernel) dX11_find_17 rfl (Nat.le_of_ble_eq_true rfl) (ACv.mono (fun σ7 h => ?_) h)
    refine aw_iconst (x := 0) dX11_find_20 rfl ?_
    refine aw_istore_n (L' := [some (vR 11 (some x0)), some (vI x1), some (vR 5 v2), some (vI 0), none]) dX11_find_21 rfl (by decide) rfl ?_
    exact aw_fgt (L' := [some (vR 11 (some x0)), none, some (vR 5 v2), some (vI 0), none]) ⟨rfl, ⟨rfl, ⟨rfl, trivial⟩⟩⟩ h
  · replace h := h.1 hc
    refine aw_iconst (x := (-1)) dX11_find_11 rfl ?_
    exact aw_ireturn dX11_find_12 rfl h
set_option maxRecDepth 4000 in
theorem bk_X11_find_22 {g : GP} {l : Launch} {d : Nat} {σ : St} {Q : Option AV → St → Prop} {x0 : Nat} {x2 : Option Nat} {x3 : Int}
    (h : ∃ r1, gR σ 1102 x0 0 = some r1 ∧ (((gI σ 905 r1 0) ≤ x3 → ∃ r4, x2 = some r4 ∧ Q (some (vI (gI σ 500 r4 0))) σ) ∧ (¬ (gI σ 905 r1 0) ≤ x3 → LC 9 σ r1 ∧ Bd x3 3001 ∧ (((gI σ 902 r1 x3.toNat) = 0 → ∃ r9, x2 = some r9 ∧ Q (some (vI (gI σ 500 r9 0))) σ) ∧ (¬ (gI σ 902 r1 x3.toNat) = 0 → ACr g l d MX11_kidByToken 5 [vR 11 (some x0), vR 5 x2, vI x3] σ (fun v12 σ11 => ((v12 = none → R32 ((-10) - x3) ∧ Q (some (vI ((-10) - x3))) σ11) ∧ (∀ r13, v12 = some r13 → R32 (x3 + 1) ∧ AW g l (d + 1) MX11_find 22 [some (vR 11 (some x0)), none, some (vR 5 v12), some (vI (x3 + 1)), none] [] σ11 Q)))))))) :
    AW g l (d + 1) MX11_find 22 [some (vR 11 (some x0)), none, some (vR 5 x2), some (vI x3), none] [] σ Q := by
  refine aw_iload_n dX11_find_22 rfl rfl ?_
  refine aw_aload_n dX11_find_23 rfl rfl ?_
  refine aw_getR' (ci := 9) rfl fk_1102 (by decide +kernel) lf_X11_18 dX11_find_24 ?_
  obtain ⟨r1, e2, h⟩ := h
  refine aw_getI' e2 fk_905 lf_X11_260 dX11_find_27 ?_
  refine aw_icmp_ge (tgt := 72) dX11_find_30 (by decide) (fun k3 => ?_) (fun k3 => ?_)
  · replace h := h.1 k3
    refine aw_aload_n dX11_find_72 rfl rfl ?_
    obtain ⟨r4, e5, h⟩ := h
    refine aw_getI' e5 fk_500 lf_X11_207 dX11_find_73 ?_
    exact aw_ireturn dX11_find_76 rfl h
  · replace h := h.2 k3
    refine aw_aload_n dX11_find_33 rfl rfl ?_
    refine aw_getR' (ci := 9) rfl fk_1102 (by decide +kernel) lf_X11_18 dX11_find_34 ?_
    obtain ⟨lc6, h⟩ := h
    refine aw_getA' e2 fk_902 (by decide) lf_X11_263 dX11_find_37 (LC.ne lc6 rfl rfl) ?_
    refine aw_iload_n dX11_find_40 rfl rfl ?_
    obtain ⟨⟨c7, c7x⟩, h⟩ := h
    refine aw_iaload (by decide) rfl dX11_find_41 c7 (LC.lt lc6 rfl rfl c7x) ?_
    refine aw_if_eq (tgt := 72) dX11_find_42 (by decide) (fun k8 => ?_) (fun k8 => ?_)
    · replace h := h.1 k8
      refine aw_aload_n dX11_find_72 rfl rfl ?_
      obtain ⟨r9, e10, h⟩ := h
      refine aw_getI' e10 fk_500 lf_X11_207 dX11_find_73 ?_
      exact aw_ireturn dX11_find_76 rfl h
    · replace h := h.2 k8
      refine aw_aload_n dX11_find_45 rfl rfl ?_
      refine aw_aload_n dX11_find_46 rfl rfl ?_
      refine aw_iload_n dX11_find_47 rfl rfl ?_
      refine aw_invVr (M := MX11_find) (ci := 11) [vR 5 x2, vI x3] rfl mo_X11_kidByToken rfl lm_X11_266 li_X11_kidByToken ls_X11_kidByToken (by decide +kernel) dX11_find_48 rfl (Nat.le_of_ble_eq_true rfl) (ACr.mono (fun v12 σ11 h => ?_) h)
      refine aw_astore (L' := [some (vR 11 (some x0)), none, some (vR 5 x2), some (vI x3), some (vR 5 v12)]) dX11_find_51 (by decide) rfl ?_
      refine aw_aload dX11_find_53 rfl ?_
      refine aw_ifnonnull (tgt := 63) dX11_find_55 (by decide) (fun r13 e14 => ?_) (fun hc => ?_)
      · replace h := h.2 r13 e14
        refine aw_aload dX11_find_63 rfl ?_
        refine aw_astore_n (L' := [some (vR 11 (some x0)), none, some (vR 5 v12), some (vI x3), some (vR 5 v12)]) dX11_find_65 rfl (by decide) rfl ?_
        obtain ⟨⟨c16, c16x⟩, h⟩ := h
        refine aw_iincc (L' := [some (vR 11 (some x0)), none, some (vR 5 v12), some (vI (x3 + 1)), some (vR 5 v12)]) dX11_find_66 rfl (by decide) rfl c16 c16x rfl ?_
        refine aw_goto (tgt := 22) dX11_find_69 (by decide) ?_
        exact aw_fgt (L' := [some (vR 11 (some x0)), none, some (vR 5 v12), some (vI (x3 + 1)), none]) ⟨rfl, ⟨rfl, ⟨rfl, trivial⟩⟩⟩ h
      · replace h := h.1 hc
        refine aw_bipush (x := (-10)) dX11_find_58 rfl ?_
        refine aw_iload_n dX11_find_60 rfl rfl ?_
        obtain ⟨⟨c15, c15x⟩, h⟩ := h
        refine aw_isubc dX11_find_61 c15 c15x ?_
        exact aw_ireturn dX11_find_62 rfl h
set_option maxRecDepth 4000 in
theorem bk_X11_fix_0 {g : GP} {l : Launch} {d : Nat} {σ : St} {Q : Option AV → St → Prop} {x0 : Nat} {x1 : Int} {x2 : Int}
    (h : ACr g l d MX11_treeOf 10 [vR 11 (some x0), vI x1] σ (fun v2 σ1 => ACr g l d MX11_nodeOf 5 [vR 11 (some x0), vI x1, vI x2] σ1 (fun v4 σ3 => ((v2 = none → Q (some (vI (-1))) σ3) ∧ (∀ r5, v2 = some r5 → ((v4 = none → Q (some (vI (-1))) σ3) ∧ (∀ r7, v4 = some r7 → (((gI σ3 501 r7 0) = 10 → ((¬ (gI σ3 504 r7 0) = 1 → ACi g l d MX10_makeDue [vR 10 (some r5), vR 5 v4] σ3 (fun v12 σ11 => ((v12 = 0 → Q (some (vI (-3))) σ11) ∧ (¬ v12 = 0 → Q (some (vI 0)) σ11)))) ∧ ((gI σ3 504 r7 0) = 1 → Q (some (vI (-5))) σ3))) ∧ (¬ (gI σ3 501 r7 0) = 10 → Q (some (vI (-4))) σ3))))))))) :
    AW g l (d + 1) MX11_fix 0 [some (vR 11 (some x0)), some (vI x1), some (vI x2), none, none] [] σ Q := by
  refine aw_aload_n dX11_fix_0 rfl rfl ?_
  refine aw_iload_n dX11_fix_1 rfl rfl ?_
  refine aw_invVr (M := MX11_fix) (ci := 11) [vI x1] rfl mo_X11_treeOf rfl lm_X11_173 li_X11_treeOf ls_X11_treeOf (by decide +kernel) dX11_fix_2 rfl (Nat.le_of_ble_eq_true rfl) (ACr.mono (fun v2 σ1 h => ?_) h)
  refine aw_astore_n (L' := [some (vR 11 (some x0)), some (vI x1), some (vI x2), some (vR 10 v2), none]) dX11_fix_5 rfl (by decide) rfl ?_
  refine aw_aload_n dX11_fix_6 rfl rfl ?_
  refine aw_iload_n dX11_fix_7 rfl rfl ?_
  refine aw_iload_n dX11_fix_8 rfl rfl ?_
  refine aw_invVr (M := MX11_fix) (ci := 11) [vI x1, vI x2] rfl mo_X11_nodeOf rfl lm_X11_188 li_X11_nodeOf ls_X11_nodeOf (by decide +kernel) dX11_fix_9 rfl (Nat.le_of_ble_eq_true rfl) (ACr.mono (fun v4 σ3 h => ?_) h)
  refine aw_astore (L' := [some (vR 11 (some x0)), some (vI x1), some (vI x2), some (vR 10 v2), some (vR 5 v4)]) dX11_fix_12 (by decide) rfl ?_
  refine aw_aload_n dX11_fix_14 rfl rfl ?_
  refine aw_ifnull (tgt := 23) dX11_fix_15 (by decide) (fun hc => ?_) (fun r5 e6 => ?_)
  · replace h := h.1 hc
    refine aw_iconst (x := (-1)) dX11_fix_23 rfl ?_
    exact aw_ireturn dX11_fix_24 rfl h
  · replace h := h.2 r5 e6
    refine aw_aload dX11_fix_18 rfl ?_
    refine aw_ifnonnull (tgt := 25) dX11_fix_20 (by decide) (fun r7 e8 => ?_) (fun hc => ?_)
    · replace h := h.2 r7 e8
      refine aw_aload dX11_fix_25 rfl ?_
      refine aw_getI' e8 fk_501 lf_X11_192 dX11_fix_27 ?_
      refine aw_bipush (x := 10) dX11_fix_30 rfl ?_
      refine aw_icmp_eq (tgt := 38) dX11_fix_32 (by decide) (fun k9 => ?_) (fun k9 => ?_)
      · replace h := h.1 k9
        refine aw_aload dX11_fix_38 rfl ?_
        refine aw_getI' e8 fk_504 lf_X11_213 dX11_fix_40 ?_
        refine aw_iconst (x := 1) dX11_fix_43 rfl ?_
        refine aw_icmp_ne (tgt := 50) dX11_fix_44 (by decide) (fun k10 => ?_) (fun k10 => ?_)
        · replace h := h.1 k10
          refine aw_aload_n dX11_fix_50 rfl rfl ?_
          refine aw_aload dX11_fix_51 rfl ?_
          refine aw_invVi (M := MX11_fix) (ci := 10) [vR 5 v4] e6 mo_X10_makeDue rfl lm_X11_311 li_X10_makeDue ls_X10_makeDue (by decide +kernel) dX11_fix_53 rfl (Nat.le_of_ble_eq_true rfl) (ACi.mono (fun v12 σ11 h => ?_) h)
          refine aw_if_eq (tgt := 63) dX11_fix_56 (by decide) (fun k13 => ?_) (fun k13 => ?_)
          · replace h := h.1 k13
            refine aw_bipush (x := (-3)) dX11_fix_63 rfl ?_
            exact aw_ireturn dX11_fix_65 rfl h
          · replace h := h.2 k13
            refine aw_iconst (x := 0) dX11_fix_59 rfl ?_
            refine aw_goto (tgt := 65) dX11_fix_60 (by decide) ?_
            exact aw_ireturn dX11_fix_65 rfl h
        · replace h := h.2 k10
          refine aw_bipush (x := (-5)) dX11_fix_47 rfl ?_
          exact aw_ireturn dX11_fix_49 rfl h
      · replace h := h.2 k9
        refine aw_bipush (x := (-4)) dX11_fix_35 rfl ?_
        exact aw_ireturn dX11_fix_37 rfl h
    · replace h := h.1 hc
      refine aw_iconst (x := (-1)) dX11_fix_23 rfl ?_
      exact aw_ireturn dX11_fix_24 rfl h
set_option maxRecDepth 4000 in
theorem bk_X11_gap_0 {g : GP} {l : Launch} {d : Nat} {σ : St} {Q : Option AV → St → Prop} {x0 : Nat} {x1 : Int} {x2 : Int} {x3 : Int}
    (h : ACr g l d MX11_treeOf 10 [vR 11 (some x0), vI x1] σ (fun v2 σ1 => ((v2 = none → Q (some (vI (-1))) σ1) ∧ (∀ r3, v2 = some r3 → LC 11 σ1 x0 ∧ ACv g l d MX10_markGaps [vR 10 (some r3), vA 1115 x0] σ1 (fun σ6 => ∃ r7, gR σ6 1000 r3 0 = some r7 ∧ ACi g l d MX11_stretchOf [vR 11 (some x0), vI (gI σ6 304 r7 0), vI x2, vI x3] σ6 (fun v10 σ9 => Q (some (vI v10)) σ9)))))) :
    AW g l (d + 1) MX11_gap 0 [some (vR 11 (some x0)), some (vI x1), some (vI x2), some (vI x3), none] [] σ Q := by
  refine aw_aload_n dX11_gap_0 rfl rfl ?_
  refine aw_iload_n dX11_gap_1 rfl rfl ?_
  refine aw_invVr (M := MX11_gap) (ci := 11) [vI x1] rfl mo_X11_treeOf rfl lm_X11_173 li_X11_treeOf ls_X11_treeOf (by decide +kernel) dX11_gap_2 rfl (Nat.le_of_ble_eq_true rfl) (ACr.mono (fun v2 σ1 h => ?_) h)
  refine aw_astore (L' := [some (vR 11 (some x0)), some (vI x1), some (vI x2), some (vI x3), some (vR 10 v2)]) dX11_gap_5 (by decide) rfl ?_
  refine aw_aload dX11_gap_7 rfl ?_
  refine aw_ifnonnull (tgt := 14) dX11_gap_9 (by decide) (fun r3 e4 => ?_) (fun hc => ?_)
  · replace h := h.2 r3 e4
    refine aw_aload dX11_gap_14 rfl ?_
    refine aw_aload_n dX11_gap_16 rfl rfl ?_
    obtain ⟨lc5, h⟩ := h
    refine aw_getA' rfl fk_1115 (by decide) lf_X11_71 dX11_gap_17 (LC.ne lc5 rfl rfl) ?_
    refine aw_invVv (M := MX11_gap) (ci := 10) [vA 1115 x0] e4 mo_X10_markGaps rfl lm_X11_350 li_X10_markGaps ls_X10_markGaps (by decide +kernel) dX11_gap_20 rfl (Nat.le_of_ble_eq_true rfl) (ACv.mono (fun σ6 h => ?_) h)
    refine aw_aload_n dX11_gap_23 rfl rfl ?_
    refine aw_aload dX11_gap_24 rfl ?_
    refine aw_getR' (ci := 3) e4 fk_1000 (by decide +kernel) lf_X11_177 dX11_gap_26 ?_
    obtain ⟨r7, e8, h⟩ := h
    refine aw_getI' e8 fk_304 lf_X11_86 dX11_gap_29 ?_
    refine aw_iload_n dX11_gap_32 rfl rfl ?_
    refine aw_iload_n dX11_gap_33 rfl rfl ?_
    refine aw_invVi (M := MX11_gap) (ci := 11) [vI (gI σ6 304 r7 0), vI x2, vI x3] rfl mo_X11_stretchOf rfl lm_X11_354 li_X11_stretchOf ls_X11_stretchOf (by decide +kernel) dX11_gap_34 rfl (Nat.le_of_ble_eq_true rfl) (ACi.mono (fun v10 σ9 h => ?_) h)
    exact aw_ireturn dX11_gap_37 rfl h
  · replace h := h.1 hc
    refine aw_iconst (x := (-1)) dX11_gap_12 rfl ?_
    exact aw_ireturn dX11_gap_13 rfl h
set_option maxRecDepth 4000 in
theorem bk_X11_hex_0 {g : GP} {l : Launch} {d : Nat} {σ : St} {Q : Option AV → St → Prop} {x0 : Nat} {x1 : Int} {x2 : Int} {x3 : Int}
    (h : ACr g l d MX11_imageOf 3 [vR 11 (some x0), vI x1] σ (fun v2 σ1 => ((v2 = none → Q (some (vI (-1))) σ1) ∧ (∀ r3, v2 = some r3 → ((x2 < 0 → Q (some (vI (-1))) σ1) ∧ (¬ x2 < 0 → ((125 ≤ x2 → Q (some (vI (-1))) σ1) ∧ (¬ 125 ≤ x2 → R32 (16 * x2) ∧ (((16 * x2) < (gI σ1 304 r3 0) → R32 ((gI σ1 304 r3 0) - (16 * x2)) ∧ ACi g l d MJ9_min_7cf53 [vI 16, vI ((gI σ1 304 r3 0) - (16 * x2))] σ1 (fun v11 σ10 => ((4 ≤ x3 → ((53 ≤ x3 → ((55 ≤ x3 → R32 (x3 - 55) ∧ ((v11 ≤ (x3 - 55) → ((¬ (x3 - 55) = v11 → Q (some (vI (-1))) σ10) ∧ ((x3 - 55) = v11 → Q (some (vI 124)) σ10))) ∧ (¬ v11 ≤ (x3 - 55) → R32 ((16 * x2) + x3) ∧ R32 (((16 * x2) + x3) - 55) ∧ ACi g l d MX3_has [vR 3 (some r3), vI (((16 * x2) + x3) - 55)] σ10 (fun v21 σ20 => ((v21 < 32 → Q (some (vI 46)) σ20) ∧ (¬ v21 < 32 → ((126 < v21 → Q (some (vI 46)) σ20) ∧ (¬ 126 < v21 → Q (some (vI v21)) σ20)))))))) ∧ (¬ 55 ≤ x3 → ((¬ x3 = 53 → Q (some (vI 124)) σ10) ∧ (x3 = 53 → Q (some (vI 32)) σ10))))) ∧ (¬ 53 ≤ x3 → ((¬ x3 = 4 → R32 (x3 - 5) ∧ ACi g l d MX11_cellByte [vR 3 v2, vI (16 * x2), vI (x3 - 5)] σ10 (fun v28 σ27 => Q (some (vI v28)) σ27)) ∧ (x3 = 4 → Q (some (vI 58)) σ10))))) ∧ (¬ 4 ≤ x3 → ((0 ≤ x3 → R32 (4 * x3) ∧ R32 (12 - (4 * x3)) ∧ ACi g l d MX11_figureOf [vI (i_shr (16 * x2) (12 - (4 * x3)))] σ10 (fun v33 σ32 => Q (some (vI v33)) σ32)) ∧ (¬ 0 ≤ x3 → Q (some (vI (-1))) σ10)))))) ∧ (¬ (16 * x2) < (gI σ1 304 r3 0) → Q (some (vI (-1))) σ1)))))))))) :
    AW g l (d + 1) MX11_hex 0 [some (vR 11 (some x0)), some (vI x1), some (vI x2), some (vI x3), none, none, none] [] σ Q := by
  refine aw_aload_n dX11_hex_0 rfl rfl ?_
  refine aw_iload_n dX11_hex_1 rfl rfl ?_
  refine aw_invVr (M := MX11_hex) (ci := 11) [vI x1] rfl mo_X11_imageOf rfl lm_X11_79 li_X11_imageOf ls_X11_imageOf (by decide +kernel) dX11_hex_2 rfl (Nat.le_of_ble_eq_true rfl) (ACr.mono (fun v2 σ1 h => ?_) h)
  refine aw_astore (L' := [some (vR 11 (some x0)), some (vI x1), some (vI x2), some (vI x3), some (vR 3 v2), none, none]) dX11_hex_5 (by decide) rfl ?_
  refine aw_aload dX11_hex_7 rfl ?_
  refine aw_ifnull (tgt := 34) dX11_hex_9 (by decide) (fun hc => ?_) (fun r3 e4 => ?_)
  · replace h := h.1 hc
    refine aw_iconst (x := (-1)) dX11_hex_34 rfl ?_
    exact aw_ireturn dX11_hex_35 rfl h
  · replace h := h.2 r3 e4
    refine aw_iload_n dX11_hex_12 rfl rfl ?_
    refine aw_if_lt (tgt := 34) dX11_hex_13 (by decide) (fun k5 => ?_) (fun k5 => ?_)
    · replace h := h.1 k5
      refine aw_iconst (x := (-1)) dX11_hex_34 rfl ?_
      exact aw_ireturn dX11_hex_35 rfl h
    · replace h := h.2 k5
      refine aw_iload_n dX11_hex_16 rfl rfl ?_
      refine aw_bipush (x := 125) dX11_hex_17 rfl ?_
      refine aw_icmp_ge (tgt := 34) dX11_hex_19 (by decide) (fun k6 => ?_) (fun k6 => ?_)
      · replace h := h.1 k6
        refine aw_iconst (x := (-1)) dX11_hex_34 rfl ?_
        exact aw_ireturn dX11_hex_35 rfl h
      · replace h := h.2 k6
        refine aw_bipush (x := 16) dX11_hex_22 rfl ?_
        refine aw_iload_n dX11_hex_24 rfl rfl ?_
        obtain ⟨⟨c7, c7x⟩, h⟩ := h
        refine aw_imulc dX11_hex_25 c7 c7x ?_
        refine aw_aload dX11_hex_26 rfl ?_
        refine aw_getI' e4 fk_304 lf_X11_86 dX11_hex_28 ?_
        refine aw_icmp_lt (tgt := 36) dX11_hex_31 (by decide) (fun k8 => ?_) (fun k8 => ?_)
        · replace h := h.1 k8
          refine aw_bipush (x := 16) dX11_hex_36 rfl ?_
          refine aw_aload dX11_hex_38 rfl ?_
          refine aw_getI' e4 fk_304 lf_X11_86 dX11_hex_40 ?_
          refine aw_bipush (x := 16) dX11_hex_43 rfl ?_
          refine aw_iload_n dX11_hex_45 rfl rfl ?_
          refine aw_imulc dX11_hex_46 c7 c7x ?_
          obtain ⟨⟨c9, c9x⟩, h⟩ := h
          refine aw_isubc dX11_hex_47 c9 c9x ?_
          refine aw_invSi (M := MX11_hex) [vI 16, vI ((gI σ1 304 r3 0) - (16 * x2))] mo_J9_min_7cf53 rfl lm_X11_364 lt_J9_min_7cf53 dX11_hex_48 rfl (Nat.le_of_ble_eq_true rfl) (ACi.mono (fun v11 σ10 h => ?_) h)
          refine aw_istore (L' := [some (vR 11 (some x0)), some (vI x1), some (vI x2), some (vI x3), some (vR 3 v2), some (vI v11), none]) dX11_hex_51 (by decide) rfl ?_
          refine aw_iload_n dX11_hex_53 rfl rfl ?_
          refine aw_iconst (x := 4) dX11_hex_54 rfl ?_
          refine aw_icmp_ge (tgt := 81) dX11_hex_55 (by decide) (fun k12 => ?_) (fun k12 => ?_)
          · replace h := h.1 k12
            refine aw_iload_n dX11_hex_81 rfl rfl ?_
            refine aw_bipush (x := 53) dX11_hex_82 rfl ?_
            refine aw_icmp_ge (tgt := 110) dX11_hex_84 (by decide) (fun k13 => ?_) (fun k13 => ?_)
            · replace h := h.1 k13
              refine aw_iload_n dX11_hex_110 rfl rfl ?_
              refine aw_bipush (x := 55) dX11_hex_111 rfl ?_
              refine aw_icmp_ge (tgt := 130) dX11_hex_113 (by decide) (fun k14 => ?_) (fun k14 => ?_)
              · replace h := h.1 k14
                refine aw_iload_n dX11_hex_130 rfl rfl ?_
                refine aw_bipush (x := 55) dX11_hex_131 rfl ?_
                obtain ⟨⟨c15, c15x⟩, h⟩ := h
                refine aw_isubc dX11_hex_133 c15 c15x ?_
                refine aw_iload dX11_hex_134 rfl ?_
                refine aw_icmp_ge (tgt := 177) dX11_hex_136 (by decide) (fun k16 => ?_) (fun k16 => ?_)
                · replace h := h.1 k16
                  refine aw_iload_n dX11_hex_177 rfl rfl ?_
                  refine aw_bipush (x := 55) dX11_hex_178 rfl ?_
                  refine aw_isubc dX11_hex_180 c15 c15x ?_
                  refine aw_iload dX11_hex_181 rfl ?_
                  refine aw_icmp_ne (tgt := 191) dX11_hex_183 (by decide) (fun k17 => ?_) (fun k17 => ?_)
                  · replace h := h.1 k17
                    refine aw_iconst (x := (-1)) dX11_hex_191 rfl ?_
                    exact aw_ireturn dX11_hex_192 rfl h
                  · replace h := h.2 k17
                    refine aw_bipush (x := 124) dX11_hex_186 rfl ?_
                    refine aw_goto (tgt := 192) dX11_hex_188 (by decide) ?_
                    exact aw_ireturn dX11_hex_192 rfl h
                · replace h := h.2 k16
                  refine aw_aload dX11_hex_139 rfl ?_
                  refine aw_bipush (x := 16) dX11_hex_141 rfl ?_
                  refine aw_iload_n dX11_hex_143 rfl rfl ?_
                  refine aw_imulc dX11_hex_144 c7 c7x ?_
                  refine aw_iload_n dX11_hex_145 rfl rfl ?_
                  obtain ⟨⟨c18, c18x⟩, h⟩ := h
                  refine aw_iaddc dX11_hex_146 c18 c18x ?_
                  refine aw_bipush (x := 55) dX11_hex_147 rfl ?_
                  obtain ⟨⟨c19, c19x⟩, h⟩ := h
                  refine aw_isubc dX11_hex_149 c19 c19x ?_
                  refine aw_invVi (M := MX11_hex) (ci := 3) [vI (((16 * x2) + x3) - 55)] e4 mo_X3_has rfl lm_X11_93 li_X3_has ls_X3_has (by decide +kernel) dX11_hex_150 rfl (Nat.le_of_ble_eq_true rfl) (ACi.mono (fun v21 σ20 h => ?_) h)
                  refine aw_istore (L' := [some (vR 11 (some x0)), some (vI x1), some (vI x2), some (vI x3), some (vR 3 v2), some (vI v11), some (vI v21)]) dX11_hex_153 (by decide) rfl ?_
                  refine aw_iload dX11_hex_155 rfl ?_
                  refine aw_bipush (x := 32) dX11_hex_157 rfl ?_
                  refine aw_icmp_lt (tgt := 174) dX11_hex_159 (by decide) (fun k22 => ?_) (fun k22 => ?_)
                  · replace h := h.1 k22
                    refine aw_bipush (x := 46) dX11_hex_174 rfl ?_
                    exact aw_ireturn dX11_hex_176 rfl h
                  · replace h := h.2 k22
                    refine aw_iload dX11_hex_162 rfl ?_
                    refine aw_bipush (x := 126) dX11_hex_164 rfl ?_
                    refine aw_icmp_gt (tgt := 174) dX11_hex_166 (by decide) (fun k23 => ?_) (fun k23 => ?_)
                    · replace h := h.1 k23
                      refine aw_bipush (x := 46) dX11_hex_174 rfl ?_
                      exact aw_ireturn dX11_hex_176 rfl h
                    · replace h := h.2 k23
                      refine aw_iload dX11_hex_169 rfl ?_
                      refine aw_goto (tgt := 176) dX11_hex_171 (by decide) ?_
                      exact aw_ireturn dX11_hex_176 rfl h
              · replace h := h.2 k14
                refine aw_iload_n dX11_hex_116 rfl rfl ?_
                refine aw_bipush (x := 53) dX11_hex_117 rfl ?_
                refine aw_icmp_ne (tgt := 127) dX11_hex_119 (by decide) (fun k24 => ?_) (fun k24 => ?_)
                · replace h := h.1 k24
                  refine aw_bipush (x := 124) dX11_hex_127 rfl ?_
                  exact aw_ireturn dX11_hex_129 rfl h
                · replace h := h.2 k24
                  refine aw_bipush (x := 32) dX11_hex_122 rfl ?_
                  refine aw_goto (tgt := 129) dX11_hex_124 (by decide) ?_
                  exact aw_ireturn dX11_hex_129 rfl h
            · replace h := h.2 k13
              refine aw_iload_n dX11_hex_87 rfl rfl ?_
              refine aw_iconst (x := 4) dX11_hex_88 rfl ?_
              refine aw_icmp_ne (tgt := 97) dX11_hex_89 (by decide) (fun k25 => ?_) (fun k25 => ?_)
              · replace h := h.1 k25
                refine aw_aload dX11_hex_97 rfl ?_
                refine aw_bipush (x := 16) dX11_hex_99 rfl ?_
                refine aw_iload_n dX11_hex_101 rfl rfl ?_
                refine aw_imulc dX11_hex_102 c7 c7x ?_
                refine aw_iload_n dX11_hex_103 rfl rfl ?_
                refine aw_iconst (x := 5) dX11_hex_104 rfl ?_
                obtain ⟨⟨c26, c26x⟩, h⟩ := h
                refine aw_isubc dX11_hex_105 c26 c26x ?_
                refine aw_invSi (M := MX11_hex) [vR 3 v2, vI (16 * x2), vI (x3 - 5)] mo_X11_cellByte rfl lm_X11_370 lt_X11_cellByte dX11_hex_106 rfl (Nat.le_of_ble_eq_true rfl) (ACi.mono (fun v28 σ27 h => ?_) h)
                exact aw_ireturn dX11_hex_109 rfl h
              · replace h := h.2 k25
                refine aw_bipush (x := 58) dX11_hex_92 rfl ?_
                refine aw_goto (tgt := 109) dX11_hex_94 (by decide) ?_
                exact aw_ireturn dX11_hex_109 rfl h
          · replace h := h.2 k12
            refine aw_iload_n dX11_hex_58 rfl rfl ?_
            refine aw_if_ge (tgt := 66) dX11_hex_59 (by decide) (fun k29 => ?_) (fun k29 => ?_)
            · replace h := h.1 k29
              refine aw_bipush (x := 16) dX11_hex_66 rfl ?_
              refine aw_iload_n dX11_hex_68 rfl rfl ?_
              refine aw_imulc dX11_hex_69 c7 c7x ?_
              refine aw_bipush (x := 12) dX11_hex_70 rfl ?_
              refine aw_iconst (x := 4) dX11_hex_72 rfl ?_
              refine aw_iload_n dX11_hex_73 rfl rfl ?_
              obtain ⟨⟨c30, c30x⟩, h⟩ := h
              refine aw_imulc dX11_hex_74 c30 c30x ?_
              obtain ⟨⟨c31, c31x⟩, h⟩ := h
              refine aw_isubc dX11_hex_75 c31 c31x ?_
              refine aw_ishr dX11_hex_76 ?_
              refine aw_invSi (M := MX11_hex) [vI (i_shr (16 * x2) (12 - (4 * x3)))] mo_X11_figureOf rfl lm_X11_367 lt_X11_figureOf dX11_hex_77 rfl (Nat.le_of_ble_eq_true rfl) (ACi.mono (fun v33 σ32 h => ?_) h)
              exact aw_ireturn dX11_hex_80 rfl h
            · replace h := h.2 k29
              refine aw_iconst (x := (-1)) dX11_hex_62 rfl ?_
              refine aw_goto (tgt := 80) dX11_hex_63 (by decide) ?_
              exact aw_ireturn dX11_hex_80 rfl h
        · replace h := h.2 k8
          refine aw_iconst (x := (-1)) dX11_hex_34 rfl ?_
          exact aw_ireturn dX11_hex_35 rfl h
set_option maxRecDepth 4000 in
theorem bk_X11_image_0 {g : GP} {l : Launch} {d : Nat} {σ : St} {Q : Option AV → St → Prop} {x0 : Nat}
    (h : (((gI σ 1101 x0 0) < 6 → LC 11 σ x0 ∧ (hs σ + 1 ≤ gB g + 600000 ∧ sl σ + 5 ≤ 7302250) ∧ ACv g l d MX3_init [vR 3 (some (hs σ))] (sNew σ 5) (fun σ3 => LC 11 σ3 x0 ∧ Bd (gI σ 1101 x0 0) 6 ∧ R32 ((gI σ3 1101 x0 0) + 1) ∧ R32 (((gI σ3 1101 x0 0) + 1) - 1) ∧ Q (some (vI (((gI σ3 1101 x0 0) + 1) - 1))) (sI (sR σ3 1100 x0 (gI σ 1101 x0 0).toNat (some (hs σ))) 1101 x0 0 ((gI σ3 1101 x0 0) + 1)))) ∧ (¬ (gI σ 1101 x0 0) < 6 → Q (some (vI (-2))) σ))) :
    AW g l (d + 1) MX11_image 0 [some (vR 11 (some x0))] [] σ Q := by
  refine aw_aload_n dX11_image_0 rfl rfl ?_
  refine aw_getI' rfl fk_1101 lf_X11_74 dX11_image_1 ?_
  refine aw_bipush (x := 6) dX11_image_4 rfl ?_
  refine aw_icmp_lt (tgt := 12) dX11_image_6 (by decide) (fun k1 => ?_) (fun k1 => ?_)
  · replace h := h.1 k1
    refine aw_aload_n dX11_image_12 rfl rfl ?_
    obtain ⟨lc2, h⟩ := h
    refine aw_getA' rfl fk_1100 (by decide) lf_X11_11 dX11_image_13 (LC.ne lc2 rfl rfl) ?_
    refine aw_aload_n dX11_image_16 rfl rfl ?_
    refine aw_getI' rfl fk_1101 lf_X11_74 dX11_image_17 ?_
    obtain ⟨⟨h1, h2⟩, h⟩ := h
    refine aw_new (M := MX11_image) (ci := 3) rfl lc_X11_9 ln_X3 lz_X3 dX11_image_20 h1 h2 ?_
    refine aw_dup dX11_image_23 rfl ?_
    refine aw_invINv (M := MX11_image) [] mo_X3_init rfl ⟨rfl, rfl⟩ lm_X11_78 li_X3_init dX11_image_24 rfl (Nat.le_of_ble_eq_true rfl) (ACv.mono (fun σ3 h => ?_) h)
    obtain ⟨lc4, h⟩ := h
    obtain ⟨⟨c5, c5x⟩, h⟩ := h
    refine aw_aastore' rfl (by decide) rfl (by decide +kernel) (by decide +kernel) dX11_image_27 c5 (LC.lt lc4 rfl rfl c5x) ?_
    refine aw_aload_n dX11_image_28 rfl rfl ?_
    refine aw_dup dX11_image_29 rfl ?_
    refine aw_getIe (v := gI σ3 1101 x0 0) rfl fk_1101 lf_X11_74 dX11_image_30 rfl ?_
    refine aw_iconst (x := 1) dX11_image_33 rfl ?_
    obtain ⟨⟨c6, c6x⟩, h⟩ := h
    refine aw_iaddc dX11_image_34 c6 c6x ?_
    refine aw_putI' rfl fk_1101 (Or.inl rfl) lf_X11_74 dX11_image_35 ?_
    refine aw_aload_n dX11_image_38 rfl rfl ?_
    refine aw_getIe (v := ((gI σ3 1101 x0 0) + 1)) rfl fk_1101 lf_X11_74 dX11_image_39 (gI_slf (sR σ3 1100 x0 (gI σ 1101 x0 0).toNat (some (hs σ))) 1101 x0 0 ((gI σ3 1101 x0 0) + 1)) ?_
    refine aw_iconst (x := 1) dX11_image_42 rfl ?_
    obtain ⟨⟨c7, c7x⟩, h⟩ := h
    refine aw_isubc dX11_image_43 c7 c7x ?_
    exact aw_ireturn dX11_image_44 rfl h
  · replace h := h.2 k1
    refine aw_bipush (x := (-2)) dX11_image_9 rfl ?_
    exact aw_ireturn dX11_image_11 rfl h
set_option maxRecDepth 4000 in
theorem bk_X11_imageOf_0 {g : GP} {l : Launch} {d : Nat} {σ : St} {Q : Option AV → St → Prop} {x0 : Nat} {x1 : Int}
    (h : ((x1 < 0 → Q (some (vR 3 none)) σ) ∧ (¬ x1 < 0 → ((x1 < (gI σ 1101 x0 0) → LC 11 σ x0 ∧ Bd x1 6 ∧ Q (some (vR 3 (gR σ 1100 x0 x1.toNat))) σ) ∧ (¬ x1 < (gI σ 1101 x0 0) → Q (some (vR 3 none)) σ))))) :
    AW g l d MX11_imageOf 0 [some (vR 11 (some x0)), some (vI x1)] [] σ Q := by
  refine aw_iload_n dX11_imageOf_0 rfl rfl ?_
  refine aw_if_lt (tgt := 12) dX11_imageOf_1 (by decide) (fun k1 => ?_) (fun k1 => ?_)
  · replace h := h.1 k1
    refine aw_null 3 dX11_imageOf_12 ?_
    refine aw_goto (tgt := 22) dX11_imageOf_13 (by decide) ?_
    exact aw_areturn dX11_imageOf_22 rfl h
  · replace h := h.2 k1
    refine aw_iload_n dX11_imageOf_4 rfl rfl ?_
    refine aw_aload_n dX11_imageOf_5 rfl rfl ?_
    refine aw_getI' rfl fk_1101 lf_X11_74 dX11_imageOf_6 ?_
    refine aw_icmp_lt (tgt := 16) dX11_imageOf_9 (by decide) (fun k2 => ?_) (fun k2 => ?_)
    · replace h := h.1 k2
      refine aw_aload_n dX11_imageOf_16 rfl rfl ?_
      obtain ⟨lc3, h⟩ := h
      refine aw_getA' rfl fk_1100 (by decide) lf_X11_11 dX11_imageOf_17 (LC.ne lc3 rfl rfl) ?_
      refine aw_iload_n dX11_imageOf_20 rfl rfl ?_
      obtain ⟨⟨c4, c4x⟩, h⟩ := h
      refine aw_aaload (ci := 3) (by decide) rfl (by decide +kernel) dX11_imageOf_21 c4 (LC.lt lc3 rfl rfl c4x) ?_
      exact aw_areturn dX11_imageOf_22 rfl h
    · replace h := h.2 k2
      refine aw_null 3 dX11_imageOf_12 ?_
      refine aw_goto (tgt := 22) dX11_imageOf_13 (by decide) ?_
      exact aw_areturn dX11_imageOf_22 rfl h
set_option maxRecDepth 4000 in
theorem bk_X11_isStructure_0 {g : GP} {l : Launch} {d : Nat} {σ : St} {Q : Option AV → St → Prop} {x0 : Nat} {x1 : Int}
    (h : ((x1 < 0 → Q (some (vI 0)) σ) ∧ (¬ x1 < 0 → ∃ r2, gR σ 1105 x0 0 = some r2 ∧ (((gI σ 101 r2 0) ≤ x1 → Q (some (vI 0)) σ) ∧ (¬ (gI σ 101 r2 0) ≤ x1 → Q (some (vI 1)) σ))))) :
    AW g l d MX11_isStructure 0 [some (vR 11 (some x0)), some (vI x1)] [] σ Q := by
  refine aw_iload_n dX11_isStructure_0 rfl rfl ?_
  refine aw_if_lt (tgt := 19) dX11_isStructure_1 (by decide) (fun k1 => ?_) (fun k1 => ?_)
  · replace h := h.1 k1
    refine aw_iconst (x := 0) dX11_isStructure_19 rfl ?_
    exact aw_zreturn dX11_isStructure_20 rfl (Or.inl rfl) h
  · replace h := h.2 k1
    refine aw_iload_n dX11_isStructure_4 rfl rfl ?_
    refine aw_aload_n dX11_isStructure_5 rfl rfl ?_
    refine aw_getR' (ci := 1) rfl fk_1105 (by decide +kernel) lf_X11_39 dX11_isStructure_6 ?_
    obtain ⟨r2, e3, h⟩ := h
    refine aw_getI' e3 fk_101 lf_X11_146 dX11_isStructure_9 ?_
    refine aw_icmp_ge (tgt := 19) dX11_isStructure_12 (by decide) (fun k4 => ?_) (fun k4 => ?_)
    · replace h := h.1 k4
      refine aw_iconst (x := 0) dX11_isStructure_19 rfl ?_
      exact aw_zreturn dX11_isStructure_20 rfl (Or.inl rfl) h
    · replace h := h.2 k4
      refine aw_iconst (x := 1) dX11_isStructure_15 rfl ?_
      refine aw_goto (tgt := 20) dX11_isStructure_16 (by decide) ?_
      exact aw_zreturn dX11_isStructure_20 rfl (Or.inr rfl) h
set_option maxRecDepth 4000 in
theorem bk_X11_kid_0 {g : GP} {l : Launch} {d : Nat} {σ : St} {Q : Option AV → St → Prop} {x0 : Nat} {x1 : Int} {x2 : Int} {x3 : Int}
    (h : ACr g l d MX11_nodeOf 5 [vR 11 (some x0), vI x1, vI x2] σ (fun v2 σ1 => ((v2 = none → Q (some (vI (-1))) σ1) ∧ (∀ r3, v2 = some r3 → ACr g l d MX5_kidAt 5 [vR 5 (some r3), vI x3] σ1 (fun v6 σ5 => ((v6 = none → Q (some (vI (-1))) σ5) ∧ (∀ r7, v6 = some r7 → Q (some (vI (gI σ5 500 r7 0))) σ5))))))) :
    AW g l (d + 1) MX11_kid 0 [some (vR 11 (some x0)), some (vI x1), some (vI x2), some (vI x3), none, none] [] σ Q := by
  refine aw_aload_n dX11_kid_0 rfl rfl ?_
  refine aw_iload_n dX11_kid_1 rfl rfl ?_
  refine aw_iload_n dX11_kid_2 rfl rfl ?_
  refine aw_invVr (M := MX11_kid) (ci := 11) [vI x1, vI x2] rfl mo_X11_nodeOf rfl lm_X11_188 li_X11_nodeOf ls_X11_nodeOf (by decide +kernel) dX11_kid_3 rfl (Nat.le_of_ble_eq_true rfl) (ACr.mono (fun v2 σ1 h => ?_) h)
  refine aw_astore (L' := [some (vR 11 (some x0)), some (vI x1), some (vI x2), some (vI x3), some (vR 5 v2), none]) dX11_kid_6 (by decide) rfl ?_
  refine aw_aload dX11_kid_8 rfl ?_
  refine aw_ifnonnull (tgt := 17) dX11_kid_10 (by decide) (fun r3 e4 => ?_) (fun hc => ?_)
  · replace h := h.2 r3 e4
    refine aw_aload dX11_kid_17 rfl ?_
    refine aw_iload_n dX11_kid_19 rfl rfl ?_
    refine aw_invVr (M := MX11_kid) (ci := 5) [vI x3] e4 mo_X5_kidAt rfl lm_X11_218 li_X5_kidAt ls_X5_kidAt (by decide +kernel) dX11_kid_20 rfl (Nat.le_of_ble_eq_true rfl) (ACr.mono (fun v6 σ5 h => ?_) h)
    refine aw_astore (L' := [some (vR 11 (some x0)), some (vI x1), some (vI x2), some (vI x3), some (vR 5 v2), some (vR 5 v6)]) dX11_kid_23 (by decide) rfl ?_
    refine aw_aload dX11_kid_25 rfl ?_
    refine aw_ifnonnull (tgt := 34) dX11_kid_27 (by decide) (fun r7 e8 => ?_) (fun hc => ?_)
    · replace h := h.2 r7 e8
      refine aw_aload dX11_kid_34 rfl ?_
      refine aw_getI' e8 fk_500 lf_X11_207 dX11_kid_36 ?_
      exact aw_ireturn dX11_kid_39 rfl h
    · replace h := h.1 hc
      refine aw_iconst (x := (-1)) dX11_kid_30 rfl ?_
      refine aw_goto (tgt := 39) dX11_kid_31 (by decide) ?_
      exact aw_ireturn dX11_kid_39 rfl h
  · replace h := h.1 hc
    refine aw_null 5 dX11_kid_13 ?_
    refine aw_goto (tgt := 23) dX11_kid_14 (by decide) ?_
    refine aw_astore (L' := [some (vR 11 (some x0)), some (vI x1), some (vI x2), some (vI x3), some (vR 5 v2), some (vR 5 none)]) dX11_kid_23 (by decide) rfl ?_
    refine aw_aload dX11_kid_25 rfl ?_
    refine aw_ifnonnull (tgt := 34) dX11_kid_27 (by decide) (fun _ q => nomatch q) (fun _ => ?_)
    refine aw_iconst (x := (-1)) dX11_kid_30 rfl ?_
    refine aw_goto (tgt := 39) dX11_kid_31 (by decide) ?_
    exact aw_ireturn dX11_kid_39 rfl h
set_option maxRecDepth 4000 in
theorem bk_X11_kidByToken_0 {g : GP} {l : Launch} {d : Nat} {σ : St} {Q : Option AV → St → Prop} {x0 : Nat} {x1 : Option Nat} {x2 : Int}
    (h : ∃ r1, gR σ 1102 x0 0 = some r1 ∧ LC 9 σ r1 ∧ Bd x2 3001 ∧ ((¬ (gI σ 902 r1 x2.toNat) = 2 → ((¬ (gI σ 902 r1 x2.toNat) = 3 → Q (some (vR 5 none)) σ) ∧ ((gI σ 902 r1 x2.toNat) = 3 → (((400 : Int64).toInt ≤ (gJ σ 904 r1 x2.toNat).toInt → Q (some (vR 5 none)) σ) ∧ (¬ (400 : Int64).toInt ≤ (gJ σ 904 r1 x2.toNat).toInt → ∃ r8, x1 = some r8 ∧ ACr g l d MX5_kidAt 5 [vR 5 (some r8), vI (j2i (gJ σ 904 r1 x2.toNat))] σ (fun v11 σ10 => Q (some (vR 5 v11)) σ10)))))) ∧ ((gI σ 902 r1 x2.toNat) = 2 → ∃ r12, x1 = some r12 ∧ ACr g l d MX5_kidNamed 5 [vR 5 (some r12), vJ (gJ σ 904 r1 x2.toNat)] σ (fun v15 σ14 => Q (some (vR 5 v15)) σ14)))) :
    AW g l (d + 1) MX11_kidByToken 0 [some (vR 11 (some x0)), some (vR 5 x1), some (vI x2), none] [] σ Q := by
  refine aw_aload_n dX11_kidByToken_0 rfl rfl ?_
  refine aw_getR' (ci := 9) rfl fk_1102 (by decide +kernel) lf_X11_18 dX11_kidByToken_1 ?_
  obtain ⟨r1, e2, h⟩ := h
  obtain ⟨lc3, h⟩ := h
  refine aw_getA' e2 fk_902 (by decide) lf_X11_263 dX11_kidByToken_4 (LC.ne lc3 rfl rfl) ?_
  refine aw_iload_n dX11_kidByToken_7 rfl rfl ?_
  obtain ⟨⟨c4, c4x⟩, h⟩ := h
  refine aw_iaload (by decide) rfl dX11_kidByToken_8 c4 (LC.lt lc3 rfl rfl c4x) ?_
  refine aw_istore_n (L' := [some (vR 11 (some x0)), some (vR 5 x1), some (vI x2), some (vI (gI σ 902 r1 x2.toNat))]) dX11_kidByToken_9 rfl (by decide) rfl ?_
  refine aw_iload_n dX11_kidByToken_10 rfl rfl ?_
  refine aw_iconst (x := 2) dX11_kidByToken_11 rfl ?_
  refine aw_icmp_ne (tgt := 29) dX11_kidByToken_12 (by decide) (fun k5 => ?_) (fun k5 => ?_)
  · replace h := h.1 k5
    refine aw_iload_n dX11_kidByToken_29 rfl rfl ?_
    refine aw_iconst (x := 3) dX11_kidByToken_30 rfl ?_
    refine aw_icmp_ne (tgt := 65) dX11_kidByToken_31 (by decide) (fun k6 => ?_) (fun k6 => ?_)
    · replace h := h.1 k6
      refine aw_null 5 dX11_kidByToken_65 ?_
      exact aw_areturn dX11_kidByToken_66 rfl h
    · replace h := h.2 k6
      refine aw_aload_n dX11_kidByToken_34 rfl rfl ?_
      refine aw_getR' (ci := 9) rfl fk_1102 (by decide +kernel) lf_X11_18 dX11_kidByToken_35 ?_
      refine aw_getA' e2 fk_904 (by decide) lf_X11_389 dX11_kidByToken_38 (LC.ne lc3 rfl rfl) ?_
      refine aw_iload_n dX11_kidByToken_41 rfl rfl ?_
      refine aw_laload (by decide) rfl dX11_kidByToken_42 c4 (LC.lt lc3 rfl rfl c4x) ?_
      refine aw_ldc2 lk_X11_396 dX11_kidByToken_43 ?_
      refine aw_lcmp_ge (M := MX11_kidByToken) (tgt := 65) dX11_kidByToken_46 dX11_kidByToken_47 (by decide) (fun k7 => ?_) (fun k7 => ?_)
      · replace h := h.1 k7
        refine aw_null 5 dX11_kidByToken_65 ?_
        exact aw_areturn dX11_kidByToken_66 rfl h
      · replace h := h.2 k7
        refine aw_aload_n dX11_kidByToken_50 rfl rfl ?_
        refine aw_aload_n dX11_kidByToken_51 rfl rfl ?_
        refine aw_getR' (ci := 9) rfl fk_1102 (by decide +kernel) lf_X11_18 dX11_kidByToken_52 ?_
        refine aw_getA' e2 fk_904 (by decide) lf_X11_389 dX11_kidByToken_55 (LC.ne lc3 rfl rfl) ?_
        refine aw_iload_n dX11_kidByToken_58 rfl rfl ?_
        refine aw_laload (by decide) rfl dX11_kidByToken_59 c4 (LC.lt lc3 rfl rfl c4x) ?_
        refine aw_l2i dX11_kidByToken_60 ?_
        obtain ⟨r8, e9, h⟩ := h
        refine aw_invVr (M := MX11_kidByToken) (ci := 5) [vI (j2i (gJ σ 904 r1 x2.toNat))] e9 mo_X5_kidAt rfl lm_X11_218 li_X5_kidAt ls_X5_kidAt (by decide +kernel) dX11_kidByToken_61 rfl (Nat.le_of_ble_eq_true rfl) (ACr.mono (fun v11 σ10 h => ?_) h)
        exact aw_areturn dX11_kidByToken_64 rfl h
  · replace h := h.2 k5
    refine aw_aload_n dX11_kidByToken_15 rfl rfl ?_
    refine aw_aload_n dX11_kidByToken_16 rfl rfl ?_
    refine aw_getR' (ci := 9) rfl fk_1102 (by decide +kernel) lf_X11_18 dX11_kidByToken_17 ?_
    refine aw_getA' e2 fk_904 (by decide) lf_X11_389 dX11_kidByToken_20 (LC.ne lc3 rfl rfl) ?_
    refine aw_iload_n dX11_kidByToken_23 rfl rfl ?_
    refine aw_laload (by decide) rfl dX11_kidByToken_24 c4 (LC.lt lc3 rfl rfl c4x) ?_
    obtain ⟨r12, e13, h⟩ := h
    refine aw_invVr (M := MX11_kidByToken) (ci := 5) [vJ (gJ σ 904 r1 x2.toNat)] e13 mo_X5_kidNamed rfl lm_X11_392 li_X5_kidNamed ls_X5_kidNamed (by decide +kernel) dX11_kidByToken_25 rfl (Nat.le_of_ble_eq_true rfl) (ACr.mono (fun v15 σ14 h => ?_) h)
    exact aw_areturn dX11_kidByToken_28 rfl h
set_option maxRecDepth 4000 in
theorem bk_X11_lay_0 {g : GP} {l : Launch} {d : Nat} {σ : St} {Q : Option AV → St → Prop} {x0 : Nat} {x1 : Int} {x2 : Int} {x3 : Int}
    (h : ACr g l d MX11_imageOf 3 [vR 11 (some x0), vI x1] σ (fun v2 σ1 => ((v2 = none → Q (some (vI (-1))) σ1) ∧ (∀ r3, v2 = some r3 → ACi g l d MX11_isStructure [vR 11 (some x0), vI x2] σ1 (fun v6 σ5 => ((¬ v6 = 0 → ((x3 < 0 → Q (some (vI (-3))) σ5) ∧ (¬ x3 < 0 → ((x3 ≤ (gI σ5 304 r3 0) → (((gI σ5 1110 x0 0) < 6 → ∃ r11, gR σ5 1109 x0 0 = some r11 ∧ ACv g l d MX10_layAll [vR 10 (some r11), vR 3 v2, vI x2, vI x3, vR 1 (gR σ5 1105 x0 0), vR 7 (gR σ5 1104 x0 0)] σ5 (fun σ13 => ∃ r14, gR σ13 1109 x0 0 = some r14 ∧ (((gI σ13 1005 r14 0) = 0 → LC 11 σ13 x0 ∧ Bd (gI σ13 1110 x0 0) 6 ∧ ((gR σ13 1108 x0 (gI σ13 1110 x0 0).toNat = none → (hs σ13 + 1 ≤ gB g + 600000 ∧ sl σ13 + 10 ≤ 7302250) ∧ ACv g l d MX10_init [vR 10 (some (hs σ13))] (sNew σ13 10) (fun σ21 => AW g l (d + 1) MX11_lay 120 [some (vR 11 (some x0)), none, none, none, none, some (vR 10 (gR σ13 1109 x0 0))] [vR 10 (some (hs σ13)), vR 11 (some x0)] σ21 Q)) ∧ (∀ r19, gR σ13 1108 x0 (gI σ13 1110 x0 0).toNat = some r19 → AW g l (d + 1) MX11_lay 120 [some (vR 11 (some x0)), none, none, none, none, some (vR 10 (gR σ13 1109 x0 0))] [vR 10 (gR σ13 1108 x0 (gI σ13 1110 x0 0).toNat), vR 11 (some x0)] σ13 Q))) ∧ (¬ (gI σ13 1005 r14 0) = 0 → Q (some (vI (-6))) σ13)))) ∧ (¬ (gI σ5 1110 x0 0) < 6 → Q (some (vI (-2))) σ5))) ∧ (¬ x3 ≤ (gI σ5 304 r3 0) → Q (some (vI (-3))) σ5))))) ∧ (v6 = 0 → Q (some (vI (-1))) σ5))))))) :
    AW g l (d + 1) MX11_lay 0 [some (vR 11 (some x0)), some (vI x1), some (vI x2), some (vI x3), none, none] [] σ Q := by
  refine aw_aload_n dX11_lay_0 rfl rfl ?_
  refine aw_iload_n dX11_lay_1 rfl rfl ?_
  refine aw_invVr (M := MX11_lay) (ci := 11) [vI x1] rfl mo_X11_imageOf rfl lm_X11_79 li_X11_imageOf ls_X11_imageOf (by decide +kernel) dX11_lay_2 rfl (Nat.le_of_ble_eq_true rfl) (ACr.mono (fun v2 σ1 h => ?_) h)
  refine aw_astore (L' := [some (vR 11 (some x0)), some (vI x1), some (vI x2), some (vI x3), some (vR 3 v2), none]) dX11_lay_5 (by decide) rfl ?_
  refine aw_aload dX11_lay_7 rfl ?_
  refine aw_ifnull (tgt := 20) dX11_lay_9 (by decide) (fun hc => ?_) (fun r3 e4 => ?_)
  · replace h := h.1 hc
    refine aw_iconst (x := (-1)) dX11_lay_20 rfl ?_
    exact aw_ireturn dX11_lay_21 rfl h
  · replace h := h.2 r3 e4
    refine aw_aload_n dX11_lay_12 rfl rfl ?_
    refine aw_iload_n dX11_lay_13 rfl rfl ?_
    refine aw_invVi (M := MX11_lay) (ci := 11) [vI x2] rfl mo_X11_isStructure rfl lm_X11_149 li_X11_isStructure ls_X11_isStructure (by decide +kernel) dX11_lay_14 rfl (Nat.le_of_ble_eq_true rfl) (ACi.mono (fun v6 σ5 h => ?_) h)
    refine aw_if_ne (tgt := 22) dX11_lay_17 (by decide) (fun k7 => ?_) (fun k7 => ?_)
    · replace h := h.1 k7
      refine aw_iload_n dX11_lay_22 rfl rfl ?_
      refine aw_if_lt (tgt := 35) dX11_lay_23 (by decide) (fun k8 => ?_) (fun k8 => ?_)
      · replace h := h.1 k8
        refine aw_bipush (x := (-3)) dX11_lay_35 rfl ?_
        exact aw_ireturn dX11_lay_37 rfl h
      · replace h := h.2 k8
        refine aw_iload_n dX11_lay_26 rfl rfl ?_
        refine aw_aload dX11_lay_27 rfl ?_
        refine aw_getI' e4 fk_304 lf_X11_86 dX11_lay_29 ?_
        refine aw_icmp_le (tgt := 38) dX11_lay_32 (by decide) (fun k9 => ?_) (fun k9 => ?_)
        · replace h := h.1 k9
          refine aw_aload_n dX11_lay_38 rfl rfl ?_
          refine aw_getI' rfl fk_1110 lf_X11_143 dX11_lay_39 ?_
          refine aw_bipush (x := 6) dX11_lay_42 rfl ?_
          refine aw_icmp_lt (tgt := 50) dX11_lay_44 (by decide) (fun k10 => ?_) (fun k10 => ?_)
          · replace h := h.1 k10
            refine aw_aload_n dX11_lay_50 rfl rfl ?_
            refine aw_getR' (ci := 10) rfl fk_1109 (by decide +kernel) lf_X11_60 dX11_lay_51 ?_
            refine aw_aload dX11_lay_54 rfl ?_
            refine aw_iload_n dX11_lay_56 rfl rfl ?_
            refine aw_iload_n dX11_lay_57 rfl rfl ?_
            refine aw_aload_n dX11_lay_58 rfl rfl ?_
            refine aw_getR' (ci := 1) rfl fk_1105 (by decide +kernel) lf_X11_39 dX11_lay_59 ?_
            refine aw_aload_n dX11_lay_62 rfl rfl ?_
            refine aw_getR' (ci := 7) rfl fk_1104 (by decide +kernel) lf_X11_32 dX11_lay_63 ?_
            obtain ⟨r11, e12, h⟩ := h
            refine aw_invVv (M := MX11_lay) (ci := 10) [vR 3 v2, vI x2, vI x3, vR 1 (gR σ5 1105 x0 0), vR 7 (gR σ5 1104 x0 0)] e12 mo_X10_layAll rfl lm_X11_165 li_X10_layAll ls_X10_layAll (by decide +kernel) dX11_lay_66 rfl (Nat.le_of_ble_eq_true rfl) (ACv.mono (fun σ13 h => ?_) h)
            refine aw_aload_n dX11_lay_69 rfl rfl ?_
            refine aw_getR' (ci := 10) rfl fk_1109 (by decide +kernel) lf_X11_60 dX11_lay_70 ?_
            obtain ⟨r14, e15, h⟩ := h
            refine aw_getZ' e15 fk_1005 lf_X11_169 dX11_lay_73 ?_
            refine aw_if_eq (tgt := 82) dX11_lay_76 (by decide) (fun k16 => ?_) (fun k16 => ?_)
            · replace h := h.1 k16
              refine aw_aload_n dX11_lay_82 rfl rfl ?_
              refine aw_getR' (ci := 10) rfl fk_1109 (by decide +kernel) lf_X11_60 dX11_lay_83 ?_
              refine aw_astore (L' := [some (vR 11 (some x0)), some (vI x1), some (vI x2), some (vI x3), some (vR 3 v2), some (vR 10 (gR σ13 1109 x0 0))]) dX11_lay_86 (by decide) rfl ?_
              refine aw_aload_n dX11_lay_88 rfl rfl ?_
              refine aw_aload_n dX11_lay_89 rfl rfl ?_
              obtain ⟨lc17, h⟩ := h
              refine aw_getA' rfl fk_1108 (by decide) lf_X11_55 dX11_lay_90 (LC.ne lc17 rfl rfl) ?_
              refine aw_aload_n dX11_lay_93 rfl rfl ?_
              refine aw_getI' rfl fk_1110 lf_X11_143 dX11_lay_94 ?_
              obtain ⟨⟨c18, c18x⟩, h⟩ := h
              refine aw_aaload (ci := 10) (by decide) rfl (by decide +kernel) dX11_lay_97 c18 (LC.lt lc17 rfl rfl c18x) ?_
              refine aw_ifnonnull (tgt := 111) dX11_lay_98 (by decide) (fun r19 e20 => ?_) (fun hc => ?_)
              · replace h := h.2 r19 e20
                refine aw_aload_n dX11_lay_111 rfl rfl ?_
                refine aw_getA' rfl fk_1108 (by decide) lf_X11_55 dX11_lay_112 (LC.ne lc17 rfl rfl) ?_
                refine aw_aload_n dX11_lay_115 rfl rfl ?_
                refine aw_getI' rfl fk_1110 lf_X11_143 dX11_lay_116 ?_
                refine aw_aaload (ci := 10) (by decide) rfl (by decide +kernel) dX11_lay_119 c18 (LC.lt lc17 rfl rfl c18x) ?_
                exact aw_fgt (L' := [some (vR 11 (some x0)), none, none, none, none, some (vR 10 (gR σ13 1109 x0 0))]) ⟨rfl, ⟨rfl, trivial⟩⟩ h
              · replace h := h.1 hc
                obtain ⟨⟨h1, h2⟩, h⟩ := h
                refine aw_new (M := MX11_lay) (ci := 10) rfl lc_X11_53 ln_X10 lz_X10 dX11_lay_101 h1 h2 ?_
                refine aw_dup dX11_lay_104 rfl ?_
                refine aw_invINv (M := MX11_lay) [] mo_X10_init rfl ⟨rfl, rfl⟩ lm_X11_59 li_X10_init dX11_lay_105 rfl (Nat.le_of_ble_eq_true rfl) (ACv.mono (fun σ21 h => ?_) h)
                refine aw_goto (tgt := 120) dX11_lay_108 (by decide) ?_
                exact aw_fgt (L' := [some (vR 11 (some x0)), none, none, none, none, some (vR 10 (gR σ13 1109 x0 0))]) ⟨rfl, ⟨rfl, trivial⟩⟩ h
            · replace h := h.2 k16
              refine aw_bipush (x := (-6)) dX11_lay_79 rfl ?_
              exact aw_ireturn dX11_lay_81 rfl h
          · replace h := h.2 k10
            refine aw_bipush (x := (-2)) dX11_lay_47 rfl ?_
            exact aw_ireturn dX11_lay_49 rfl h
        · replace h := h.2 k9
          refine aw_bipush (x := (-3)) dX11_lay_35 rfl ?_
          exact aw_ireturn dX11_lay_37 rfl h
    · replace h := h.2 k7
      refine aw_iconst (x := (-1)) dX11_lay_20 rfl ?_
      exact aw_ireturn dX11_lay_21 rfl h
set_option maxRecDepth 4000 in
theorem bk_X11_lay_120 {g : GP} {l : Launch} {d : Nat} {σ : St} {Q : Option AV → St → Prop} {x0 : Nat} {x5 : Option Nat} {y0 : Option Nat} {y1 : Option Nat}
    (h : ∃ r1, y1 = some r1 ∧ LC 11 σ x0 ∧ Bd (gI σ 1110 x0 0) 6 ∧ ∃ r5, x5 = some r5 ∧ R32 ((gI σ 1110 x0 0) + 1) ∧ R32 (((gI σ 1110 x0 0) + 1) - 1) ∧ Q (some (vI (((gI σ 1110 x0 0) + 1) - 1))) (sI (sR (sR σ 1109 r1 0 y0) 1108 x0 (gI σ 1110 x0 0).toNat (some r5)) 1110 x0 0 ((gI σ 1110 x0 0) + 1))) :
    AW g l (d + 1) MX11_lay 120 [some (vR 11 (some x0)), none, none, none, none, some (vR 10 x5)] [vR 10 y0, vR 11 y1] σ Q := by
  obtain ⟨r1, e2, h⟩ := h
  refine aw_putR' e2 fk_1109 (by decide +kernel) (Or.inl rfl) lf_X11_60 dX11_lay_120 ?_
  refine aw_aload_n dX11_lay_123 rfl rfl ?_
  obtain ⟨lc3, h⟩ := h
  refine aw_getA' rfl fk_1108 (by decide) lf_X11_55 dX11_lay_124 (LC.ne lc3 rfl rfl) ?_
  refine aw_aload_n dX11_lay_127 rfl rfl ?_
  refine aw_getIe (v := gI σ 1110 x0 0) rfl fk_1110 lf_X11_143 dX11_lay_128 rfl ?_
  refine aw_aload dX11_lay_131 rfl ?_
  obtain ⟨⟨c4, c4x⟩, h⟩ := h
  obtain ⟨r5, e6, h⟩ := h
  refine aw_aastore' e6 (by decide) rfl (by decide +kernel) (by decide +kernel) dX11_lay_133 c4 (LC.lt lc3 rfl rfl c4x) ?_
  refine aw_aload_n dX11_lay_134 rfl rfl ?_
  refine aw_dup dX11_lay_135 rfl ?_
  refine aw_getIe (v := gI σ 1110 x0 0) rfl fk_1110 lf_X11_143 dX11_lay_136 rfl ?_
  refine aw_iconst (x := 1) dX11_lay_139 rfl ?_
  obtain ⟨⟨c7, c7x⟩, h⟩ := h
  refine aw_iaddc dX11_lay_140 c7 c7x ?_
  refine aw_putI' rfl fk_1110 (Or.inl rfl) lf_X11_143 dX11_lay_141 ?_
  refine aw_aload_n dX11_lay_144 rfl rfl ?_
  refine aw_getIe (v := ((gI σ 1110 x0 0) + 1)) rfl fk_1110 lf_X11_143 dX11_lay_145 (gI_slf (sR (sR σ 1109 r1 0 y0) 1108 x0 (gI σ 1110 x0 0).toNat (some r5)) 1110 x0 0 ((gI σ 1110 x0 0) + 1)) ?_
  refine aw_iconst (x := 1) dX11_lay_148 rfl ?_
  obtain ⟨⟨c8, c8x⟩, h⟩ := h
  refine aw_isubc dX11_lay_149 c8 c8x ?_
  exact aw_ireturn dX11_lay_150 rfl h
set_option maxRecDepth 4000 in
theorem bk_X11_layer_0 {g : GP} {l : Launch} {d : Nat} {σ : St} {Q : Option AV → St → Prop} {x0 : Nat} {x1 : Int}
    (h : ACr g l d MX11_imageOf 3 [vR 11 (some x0), vI x1] σ (fun v2 σ1 => ((v2 = none → Q (some (vI (-1))) σ1) ∧ (∀ r3, v2 = some r3 → (((gI σ1 303 r3 0) < 4 → ACv g l d MX3_addLayer [vR 3 (some r3)] σ1 (fun σ6 => Q (some (vI (gI σ6 303 r3 0))) σ6)) ∧ (¬ (gI σ1 303 r3 0) < 4 → Q (some (vI (-2))) σ1)))))) :
    AW g l (d + 1) MX11_layer 0 [some (vR 11 (some x0)), some (vI x1), none] [] σ Q := by
  refine aw_aload_n dX11_layer_0 rfl rfl ?_
  refine aw_iload_n dX11_layer_1 rfl rfl ?_
  refine aw_invVr (M := MX11_layer) (ci := 11) [vI x1] rfl mo_X11_imageOf rfl lm_X11_79 li_X11_imageOf ls_X11_imageOf (by decide +kernel) dX11_layer_2 rfl (Nat.le_of_ble_eq_true rfl) (ACr.mono (fun v2 σ1 h => ?_) h)
  refine aw_astore_n (L' := [some (vR 11 (some x0)), some (vI x1), some (vR 3 v2)]) dX11_layer_5 rfl (by decide) rfl ?_
  refine aw_aload_n dX11_layer_6 rfl rfl ?_
  refine aw_ifnonnull (tgt := 12) dX11_layer_7 (by decide) (fun r3 e4 => ?_) (fun hc => ?_)
  · replace h := h.2 r3 e4
    refine aw_aload_n dX11_layer_12 rfl rfl ?_
    refine aw_getI' e4 fk_303 lf_X11_83 dX11_layer_13 ?_
    refine aw_iconst (x := 4) dX11_layer_16 rfl ?_
    refine aw_icmp_lt (tgt := 23) dX11_layer_17 (by decide) (fun k5 => ?_) (fun k5 => ?_)
    · replace h := h.1 k5
      refine aw_aload_n dX11_layer_23 rfl rfl ?_
      refine aw_invVv (M := MX11_layer) (ci := 3) [] e4 mo_X3_addLayer rfl lm_X11_97 li_X3_addLayer ls_X3_addLayer (by decide +kernel) dX11_layer_24 rfl (Nat.le_of_ble_eq_true rfl) (ACv.mono (fun σ6 h => ?_) h)
      refine aw_aload_n dX11_layer_27 rfl rfl ?_
      refine aw_getI' e4 fk_303 lf_X11_83 dX11_layer_28 ?_
      exact aw_ireturn dX11_layer_31 rfl h
    · replace h := h.2 k5
      refine aw_bipush (x := (-2)) dX11_layer_20 rfl ?_
      exact aw_ireturn dX11_layer_22 rfl h
  · replace h := h.1 hc
    refine aw_iconst (x := (-1)) dX11_layer_10 rfl ?_
    exact aw_ireturn dX11_layer_11 rfl h
set_option maxRecDepth 4000 in
theorem bk_X11_layerTotal_0 {g : GP} {l : Launch} {d : Nat} {σ : St} {Q : Option AV → St → Prop} {x0 : Nat}
    (h : AW g l d MX11_layerTotal 4 [some (vR 11 (some x0)), some (vI 0), some (vI 0)] [] σ Q) :
    AW g l d MX11_layerTotal 0 [some (vR 11 (some x0)), none, none] [] σ Q := by
  refine aw_iconst (x := 0) dX11_layerTotal_0 rfl ?_
  refine aw_istore_n (L' := [some (vR 11 (some x0)), some (vI 0), none]) dX11_layerTotal_1 rfl (by decide) rfl ?_
  refine aw_iconst (x := 0) dX11_layerTotal_2 rfl ?_
  refine aw_istore_n (L' := [some (vR 11 (some x0)), some (vI 0), some (vI 0)]) dX11_layerTotal_3 rfl (by decide) rfl ?_
  exact aw_fgt (L' := [some (vR 11 (some x0)), some (vI 0), some (vI 0)]) ⟨rfl, ⟨rfl, ⟨rfl, trivial⟩⟩⟩ h
set_option maxRecDepth 4000 in
theorem bk_X11_layerTotal_4 {g : GP} {l : Launch} {d : Nat} {σ : St} {Q : Option AV → St → Prop} {x0 : Nat} {x1 : Int} {x2 : Int}
    (h : (((gI σ 1101 x0 0) ≤ x2 → Q (some (vI x1)) σ) ∧ (¬ (gI σ 1101 x0 0) ≤ x2 → LC 11 σ x0 ∧ Bd x2 6 ∧ ∃ r4, gR σ 1100 x0 x2.toNat = some r4 ∧ R32 (x1 + (gI σ 303 r4 0)) ∧ R32 (x2 + 1) ∧ AW g l d MX11_layerTotal 4 [some (vR 11 (some x0)), some (vI (x1 + (gI σ 303 r4 0))), some (vI (x2 + 1))] [] σ Q))) :
    AW g l d MX11_layerTotal 4 [some (vR 11 (some x0)), some (vI x1), some (vI x2)] [] σ Q := by
  refine aw_iload_n dX11_layerTotal_4 rfl rfl ?_
  refine aw_aload_n dX11_layerTotal_5 rfl rfl ?_
  refine aw_getI' rfl fk_1101 lf_X11_74 dX11_layerTotal_6 ?_
  refine aw_icmp_ge (tgt := 30) dX11_layerTotal_9 (by decide) (fun k1 => ?_) (fun k1 => ?_)
  · replace h := h.1 k1
    refine aw_iload_n dX11_layerTotal_30 rfl rfl ?_
    exact aw_ireturn dX11_layerTotal_31 rfl h
  · replace h := h.2 k1
    refine aw_iload_n dX11_layerTotal_12 rfl rfl ?_
    refine aw_aload_n dX11_layerTotal_13 rfl rfl ?_
    obtain ⟨lc2, h⟩ := h
    refine aw_getA' rfl fk_1100 (by decide) lf_X11_11 dX11_layerTotal_14 (LC.ne lc2 rfl rfl) ?_
    refine aw_iload_n dX11_layerTotal_17 rfl rfl ?_
    obtain ⟨⟨c3, c3x⟩, h⟩ := h
    refine aw_aaload (ci := 3) (by decide) rfl (by decide +kernel) dX11_layerTotal_18 c3 (LC.lt lc2 rfl rfl c3x) ?_
    obtain ⟨r4, e5, h⟩ := h
    refine aw_getI' e5 fk_303 lf_X11_83 dX11_layerTotal_19 ?_
    obtain ⟨⟨c6, c6x⟩, h⟩ := h
    refine aw_iaddc dX11_layerTotal_22 c6 c6x ?_
    refine aw_istore_n (L' := [some (vR 11 (some x0)), some (vI (x1 + (gI σ 303 r4 0))), some (vI x2)]) dX11_layerTotal_23 rfl (by decide) rfl ?_
    obtain ⟨⟨c7, c7x⟩, h⟩ := h
    refine aw_iincc (L' := [some (vR 11 (some x0)), some (vI (x1 + (gI σ 303 r4 0))), some (vI (x2 + 1))]) dX11_layerTotal_24 rfl (by decide) rfl c7 c7x rfl ?_
    refine aw_goto (tgt := 4) dX11_layerTotal_27 (by decide) ?_
    exact aw_fgt (L' := [some (vR 11 (some x0)), some (vI (x1 + (gI σ 303 r4 0))), some (vI (x2 + 1))]) ⟨rfl, ⟨rfl, ⟨rfl, trivial⟩⟩⟩ h
set_option maxRecDepth 4000 in
theorem bk_X11_length_0 {g : GP} {l : Launch} {d : Nat} {σ : St} {Q : Option AV → St → Prop} {x0 : Nat} {x1 : Int}
    (h : ACr g l d MX11_imageOf 3 [vR 11 (some x0), vI x1] σ (fun v2 σ1 => ((v2 = none → Q (some (vI (-1))) σ1) ∧ (∀ r3, v2 = some r3 → Q (some (vI (gI σ1 304 r3 0))) σ1)))) :
    AW g l (d + 1) MX11_length 0 [some (vR 11 (some x0)), some (vI x1), none] [] σ Q := by
  refine aw_aload_n dX11_length_0 rfl rfl ?_
  refine aw_iload_n dX11_length_1 rfl rfl ?_
  refine aw_invVr (M := MX11_length) (ci := 11) [vI x1] rfl mo_X11_imageOf rfl lm_X11_79 li_X11_imageOf ls_X11_imageOf (by decide +kernel) dX11_length_2 rfl (Nat.le_of_ble_eq_true rfl) (ACr.mono (fun v2 σ1 h => ?_) h)
  refine aw_astore_n (L' := [some (vR 11 (some x0)), some (vI x1), some (vR 3 v2)]) dX11_length_5 rfl (by decide) rfl ?_
  refine aw_aload_n dX11_length_6 rfl rfl ?_
  refine aw_ifnonnull (tgt := 14) dX11_length_7 (by decide) (fun r3 e4 => ?_) (fun hc => ?_)
  · replace h := h.2 r3 e4
    refine aw_aload_n dX11_length_14 rfl rfl ?_
    refine aw_getI' e4 fk_304 lf_X11_86 dX11_length_15 ?_
    exact aw_ireturn dX11_length_18 rfl h
  · replace h := h.1 hc
    refine aw_iconst (x := (-1)) dX11_length_10 rfl ?_
    refine aw_goto (tgt := 18) dX11_length_11 (by decide) ?_
    exact aw_ireturn dX11_length_18 rfl h
set_option maxRecDepth 4000 in
theorem bk_X11_letter_0 {g : GP} {l : Launch} {d : Nat} {σ : St} {Q : Option AV → St → Prop} {x0 : Nat} {x1 : Int} {x2 : Int} {x3 : Int} {x4 : Int}
    (h : ACr g l d MX11_treeOf 10 [vR 11 (some x0), vI x1] σ (fun v2 σ1 => ACr g l d MX11_nodeOf 5 [vR 11 (some x0), vI x1, vI x2] σ1 (fun v4 σ3 => ((v2 = none → Q (some (vI (-1))) σ3) ∧ (∀ r5, v2 = some r5 → ((v4 = none → Q (some (vI (-1))) σ3) ∧ (∀ r7, v4 = some r7 → ((¬ x3 = 0 → ((¬ x3 = 1 → Q (some (vI (-1))) σ3) ∧ (x3 = 1 → ((¬ (gI σ3 501 r7 0) = 1 → Q (some (vI (-1))) σ3) ∧ ((gI σ3 501 r7 0) = 1 → ((gR σ3 513 r7 0 = none → Q (some (vI (-1))) σ3) ∧ (∀ r12, gR σ3 513 r7 0 = some r12 → ((¬ (gI σ3 207 r12 0) = (-1) → ACj g l d MX5_reading [vR 5 (some r7), vR 3 (gR σ3 1000 r5 0)] σ3 (fun v16 σ15 => ∃ r17, gR σ3 1105 x0 0 = some r17 ∧ ACi g l d MX1_pairWith [vR 1 (some r17), vI (gI σ3 207 r12 0), vJ v16] σ15 (fun v20 σ19 => ((¬ v20 = (-1) → ∃ r22, gR σ19 1105 x0 0 = some r22 ∧ LC 1 σ19 r22 ∧ Bd v20 3000 ∧ ACi g l d MX11_letterOf [vJ (gJ σ19 106 r22 v20.toNat), vI x4] σ19 (fun v27 σ26 => Q (some (vI v27)) σ26)) ∧ (v20 = (-1) → Q (some (vI (-1))) σ19))))) ∧ ((gI σ3 207 r12 0) = (-1) → Q (some (vI (-1))) σ3))))))))) ∧ (x3 = 0 → ACi g l d MX11_letterOf [vJ (gJ σ3 506 r7 0), vI x4] σ3 (fun v29 σ28 => Q (some (vI v29)) σ28)))))))))) :
    AW g l (d + 1) MX11_letter 0 [some (vR 11 (some x0)), some (vI x1), some (vI x2), some (vI x3), some (vI x4), none, none, none] [] σ Q := by
  refine aw_aload_n dX11_letter_0 rfl rfl ?_
  refine aw_iload_n dX11_letter_1 rfl rfl ?_
  refine aw_invVr (M := MX11_letter) (ci := 11) [vI x1] rfl mo_X11_treeOf rfl lm_X11_173 li_X11_treeOf ls_X11_treeOf (by decide +kernel) dX11_letter_2 rfl (Nat.le_of_ble_eq_true rfl) (ACr.mono (fun v2 σ1 h => ?_) h)
  refine aw_astore (L' := [some (vR 11 (some x0)), some (vI x1), some (vI x2), some (vI x3), some (vI x4), some (vR 10 v2), none, none]) dX11_letter_5 (by decide) rfl ?_
  refine aw_aload_n dX11_letter_7 rfl rfl ?_
  refine aw_iload_n dX11_letter_8 rfl rfl ?_
  refine aw_iload_n dX11_letter_9 rfl rfl ?_
  refine aw_invVr (M := MX11_letter) (ci := 11) [vI x1, vI x2] rfl mo_X11_nodeOf rfl lm_X11_188 li_X11_nodeOf ls_X11_nodeOf (by decide +kernel) dX11_letter_10 rfl (Nat.le_of_ble_eq_true rfl) (ACr.mono (fun v4 σ3 h => ?_) h)
  refine aw_astore (L' := [some (vR 11 (some x0)), some (vI x1), some (vI x2), some (vI x3), some (vI x4), some (vR 10 v2), some (vR 5 v4), none]) dX11_letter_13 (by decide) rfl ?_
  refine aw_aload dX11_letter_15 rfl ?_
  refine aw_ifnull (tgt := 25) dX11_letter_17 (by decide) (fun hc => ?_) (fun r5 e6 => ?_)
  · replace h := h.1 hc
    refine aw_iconst (x := (-1)) dX11_letter_25 rfl ?_
    exact aw_ireturn dX11_letter_26 rfl h
  · replace h := h.2 r5 e6
    refine aw_aload dX11_letter_20 rfl ?_
    refine aw_ifnonnull (tgt := 27) dX11_letter_22 (by decide) (fun r7 e8 => ?_) (fun hc => ?_)
    · replace h := h.2 r7 e8
      refine aw_iload_n dX11_letter_27 rfl rfl ?_
      refine aw_if_ne (tgt := 42) dX11_letter_28 (by decide) (fun k9 => ?_) (fun k9 => ?_)
      · replace h := h.1 k9
        refine aw_iload_n dX11_letter_42 rfl rfl ?_
        refine aw_iconst (x := 1) dX11_letter_43 rfl ?_
        refine aw_icmp_ne (tgt := 76) dX11_letter_44 (by decide) (fun k10 => ?_) (fun k10 => ?_)
        · replace h := h.1 k10
          refine aw_iconst (x := (-1)) dX11_letter_76 rfl ?_
          exact aw_ireturn dX11_letter_77 rfl h
        · replace h := h.2 k10
          refine aw_aload dX11_letter_47 rfl ?_
          refine aw_getI' e8 fk_501 lf_X11_192 dX11_letter_49 ?_
          refine aw_iconst (x := 1) dX11_letter_52 rfl ?_
          refine aw_icmp_ne (tgt := 76) dX11_letter_53 (by decide) (fun k11 => ?_) (fun k11 => ?_)
          · replace h := h.1 k11
            refine aw_iconst (x := (-1)) dX11_letter_76 rfl ?_
            exact aw_ireturn dX11_letter_77 rfl h
          · replace h := h.2 k11
            refine aw_aload dX11_letter_56 rfl ?_
            refine aw_getR' (ci := 2) e8 fk_513 (by decide +kernel) lf_X11_237 dX11_letter_58 ?_
            refine aw_ifnull (tgt := 76) dX11_letter_61 (by decide) (fun hc => ?_) (fun r12 e13 => ?_)
            · replace h := h.1 hc
              refine aw_iconst (x := (-1)) dX11_letter_76 rfl ?_
              exact aw_ireturn dX11_letter_77 rfl h
            · replace h := h.2 r12 e13
              refine aw_aload dX11_letter_64 rfl ?_
              refine aw_getR' (ci := 2) e8 fk_513 (by decide +kernel) lf_X11_237 dX11_letter_66 ?_
              refine aw_getI' e13 fk_207 lf_X11_241 dX11_letter_69 ?_
              refine aw_iconst (x := (-1)) dX11_letter_72 rfl ?_
              refine aw_icmp_ne (tgt := 78) dX11_letter_73 (by decide) (fun k14 => ?_) (fun k14 => ?_)
              · replace h := h.1 k14
                refine aw_aload_n dX11_letter_78 rfl rfl ?_
                refine aw_getR' (ci := 1) rfl fk_1105 (by decide +kernel) lf_X11_39 dX11_letter_79 ?_
                refine aw_aload dX11_letter_82 rfl ?_
                refine aw_getR' (ci := 2) e8 fk_513 (by decide +kernel) lf_X11_237 dX11_letter_84 ?_
                refine aw_getI' e13 fk_207 lf_X11_241 dX11_letter_87 ?_
                refine aw_aload dX11_letter_90 rfl ?_
                refine aw_aload dX11_letter_92 rfl ?_
                refine aw_getR' (ci := 3) e6 fk_1000 (by decide +kernel) lf_X11_177 dX11_letter_94 ?_
                refine aw_invVj (M := MX11_letter) (ci := 5) [vR 3 (gR σ3 1000 r5 0)] e8 mo_X5_reading rfl lm_X11_222 li_X5_reading ls_X5_reading (by decide +kernel) dX11_letter_97 rfl (Nat.le_of_ble_eq_true rfl) (ACj.mono (fun v16 σ15 h => ?_) h)
                obtain ⟨r17, e18, h⟩ := h
                refine aw_invVi (M := MX11_letter) (ci := 1) [vI (gI σ3 207 r12 0), vJ v16] e18 mo_X1_pairWith rfl lm_X11_246 li_X1_pairWith ls_X1_pairWith (by decide +kernel) dX11_letter_100 rfl (Nat.le_of_ble_eq_true rfl) (ACi.mono (fun v20 σ19 h => ?_) h)
                refine aw_istore (L' := [some (vR 11 (some x0)), some (vI x1), some (vI x2), some (vI x3), some (vI x4), some (vR 10 v2), some (vR 5 v4), some (vI v20)]) dX11_letter_103 (by decide) rfl ?_
                refine aw_iload dX11_letter_105 rfl ?_
                refine aw_iconst (x := (-1)) dX11_letter_107 rfl ?_
                refine aw_icmp_ne (tgt := 115) dX11_letter_108 (by decide) (fun k21 => ?_) (fun k21 => ?_)
                · replace h := h.1 k21
                  refine aw_aload_n dX11_letter_115 rfl rfl ?_
                  refine aw_getR' (ci := 1) rfl fk_1105 (by decide +kernel) lf_X11_39 dX11_letter_116 ?_
                  obtain ⟨r22, e23, h⟩ := h
                  obtain ⟨lc24, h⟩ := h
                  refine aw_getA' e23 fk_106 (by decide) lf_X11_250 dX11_letter_119 (LC.ne lc24 rfl rfl) ?_
                  refine aw_iload dX11_letter_122 rfl ?_
                  obtain ⟨⟨c25, c25x⟩, h⟩ := h
                  refine aw_laload (by decide) rfl dX11_letter_124 c25 (LC.lt lc24 rfl rfl c25x) ?_
                  refine aw_iload dX11_letter_125 rfl ?_
                  refine aw_invSi (M := MX11_letter) [vJ (gJ σ19 106 r22 v20.toNat), vI x4] mo_X11_letterOf rfl lm_X11_233 lt_X11_letterOf dX11_letter_127 rfl (Nat.le_of_ble_eq_true rfl) (ACi.mono (fun v27 σ26 h => ?_) h)
                  exact aw_ireturn dX11_letter_130 rfl h
                · replace h := h.2 k21
                  refine aw_iconst (x := (-1)) dX11_letter_111 rfl ?_
                  refine aw_goto (tgt := 130) dX11_letter_112 (by decide) ?_
                  exact aw_ireturn dX11_letter_130 rfl h
              · replace h := h.2 k14
                refine aw_iconst (x := (-1)) dX11_letter_76 rfl ?_
                exact aw_ireturn dX11_letter_77 rfl h
      · replace h := h.2 k9
        refine aw_aload dX11_letter_31 rfl ?_
        refine aw_getJ' e8 fk_506 lf_X11_229 dX11_letter_33 ?_
        refine aw_iload dX11_letter_36 rfl ?_
        refine aw_invSi (M := MX11_letter) [vJ (gJ σ3 506 r7 0), vI x4] mo_X11_letterOf rfl lm_X11_233 lt_X11_letterOf dX11_letter_38 rfl (Nat.le_of_ble_eq_true rfl) (ACi.mono (fun v29 σ28 h => ?_) h)
        exact aw_ireturn dX11_letter_41 rfl h
    · replace h := h.1 hc
      refine aw_iconst (x := (-1)) dX11_letter_25 rfl ?_
      exact aw_ireturn dX11_letter_26 rfl h
set_option maxRecDepth 4000 in
theorem bk_X11_letterOf_0 {g : GP} {l : Launch} {d : Nat} {σ : St} {Q : Option AV → St → Prop} {x0 : Int64} {x2 : Int}
    (h : ((x2 < 0 → ((¬ (0 : Int) = 0 → Q (some (vI 0)) σ) ∧ ((0 : Int) = 0 → Q (some (vI (-1))) σ))) ∧ (¬ x2 < 0 → ((x2 < 8 → ACi g l d MX11_byteOf [vJ x0, vI x2] σ (fun v5 σ4 => ((¬ v5 = 0 → Q (some (vI v5)) σ4) ∧ (v5 = 0 → Q (some (vI (-1))) σ4)))) ∧ (¬ x2 < 8 → ((¬ (0 : Int) = 0 → Q (some (vI 0)) σ) ∧ ((0 : Int) = 0 → Q (some (vI (-1))) σ))))))) :
    AW g l (d + 1) MX11_letterOf 0 [some (vJ x0), none, some (vI x2), none] [] σ Q := by
  refine aw_iload_n dX11_letterOf_0 rfl rfl ?_
  refine aw_if_lt (tgt := 10) dX11_letterOf_1 (by decide) (fun k1 => ?_) (fun k1 => ?_)
  · replace h := h.1 k1
    refine aw_iconst (x := 0) dX11_letterOf_10 rfl ?_
    refine aw_goto (tgt := 19) dX11_letterOf_11 (by decide) ?_
    refine aw_istore_n (L' := [some (vJ x0), none, some (vI x2), some (vI 0)]) dX11_letterOf_19 rfl (by decide) rfl ?_
    refine aw_iload_n dX11_letterOf_20 rfl rfl ?_
    refine aw_if_ne (tgt := 28) dX11_letterOf_21 (by decide) (fun k2 => ?_) (fun k2 => ?_)
    · replace h := h.1 k2
      refine aw_iload_n dX11_letterOf_28 rfl rfl ?_
      exact aw_ireturn dX11_letterOf_29 rfl h
    · replace h := h.2 k2
      refine aw_iconst (x := (-1)) dX11_letterOf_24 rfl ?_
      refine aw_goto (tgt := 29) dX11_letterOf_25 (by decide) ?_
      exact aw_ireturn dX11_letterOf_29 rfl h
  · replace h := h.2 k1
    refine aw_iload_n dX11_letterOf_4 rfl rfl ?_
    refine aw_bipush (x := 8) dX11_letterOf_5 rfl ?_
    refine aw_icmp_lt (tgt := 14) dX11_letterOf_7 (by decide) (fun k3 => ?_) (fun k3 => ?_)
    · replace h := h.1 k3
      refine aw_lload_n dX11_letterOf_14 rfl rfl ?_
      refine aw_iload_n dX11_letterOf_15 rfl rfl ?_
      refine aw_invSi (M := MX11_letterOf) [vJ x0, vI x2] mo_X11_byteOf rfl lm_X11_315 lt_X11_byteOf dX11_letterOf_16 rfl (Nat.le_of_ble_eq_true rfl) (ACi.mono (fun v5 σ4 h => ?_) h)
      refine aw_istore_n (L' := [some (vJ x0), none, some (vI x2), some (vI v5)]) dX11_letterOf_19 rfl (by decide) rfl ?_
      refine aw_iload_n dX11_letterOf_20 rfl rfl ?_
      refine aw_if_ne (tgt := 28) dX11_letterOf_21 (by decide) (fun k6 => ?_) (fun k6 => ?_)
      · replace h := h.1 k6
        refine aw_iload_n dX11_letterOf_28 rfl rfl ?_
        exact aw_ireturn dX11_letterOf_29 rfl h
      · replace h := h.2 k6
        refine aw_iconst (x := (-1)) dX11_letterOf_24 rfl ?_
        refine aw_goto (tgt := 29) dX11_letterOf_25 (by decide) ?_
        exact aw_ireturn dX11_letterOf_29 rfl h
    · replace h := h.2 k3
      refine aw_iconst (x := 0) dX11_letterOf_10 rfl ?_
      refine aw_goto (tgt := 19) dX11_letterOf_11 (by decide) ?_
      refine aw_istore_n (L' := [some (vJ x0), none, some (vI x2), some (vI 0)]) dX11_letterOf_19 rfl (by decide) rfl ?_
      refine aw_iload_n dX11_letterOf_20 rfl rfl ?_
      refine aw_if_ne (tgt := 28) dX11_letterOf_21 (by decide) (fun k7 => ?_) (fun k7 => ?_)
      · replace h := h.1 k7
        refine aw_iload_n dX11_letterOf_28 rfl rfl ?_
        exact aw_ireturn dX11_letterOf_29 rfl h
      · replace h := h.2 k7
        refine aw_iconst (x := (-1)) dX11_letterOf_24 rfl ?_
        refine aw_goto (tgt := 29) dX11_letterOf_25 (by decide) ?_
        exact aw_ireturn dX11_letterOf_29 rfl h
set_option maxRecDepth 4000 in
theorem bk_X11_lowBits_0 {g : GP} {l : Launch} {d : Nat} {σ : St} {Q : Option AV → St → Prop} {x0 : Int}
    (h : ((x0 < 64 → Q (some (vJ ((j_shl 1 x0) - (1 : Int64)))) σ) ∧ (¬ x0 < 64 → Q (some (vJ (-1))) σ))) :
    AW g l d MX11_lowBits 0 [some (vI x0)] [] σ Q := by
  refine aw_iload_n dX11_lowBits_0 rfl rfl ?_
  refine aw_bipush (x := 64) dX11_lowBits_1 rfl ?_
  refine aw_icmp_lt (tgt := 12) dX11_lowBits_3 (by decide) (fun k1 => ?_) (fun k1 => ?_)
  · replace h := h.1 k1
    refine aw_lconst (x := 1) dX11_lowBits_12 rfl ?_
    refine aw_iload_n dX11_lowBits_13 rfl rfl ?_
    refine aw_lshl dX11_lowBits_14 ?_
    refine aw_lconst (x := 1) dX11_lowBits_15 rfl ?_
    refine aw_lsub dX11_lowBits_16 ?_
    exact aw_lreturn dX11_lowBits_17 rfl h
  · replace h := h.2 k1
    refine aw_ldc2 lk_X11_345 dX11_lowBits_6 ?_
    refine aw_goto (tgt := 17) dX11_lowBits_9 (by decide) ?_
    exact aw_lreturn dX11_lowBits_17 rfl h
set_option maxRecDepth 4000 in
theorem bk_X11_magic_0 {g : GP} {l : Launch} {d : Nat} {σ : St} {Q : Option AV → St → Prop} {x0 : Nat} {x1 : Int} {x2 : Int} {x3 : Int}
    (h : ACr g l d MX11_imageOf 3 [vR 11 (some x0), vI x1] σ (fun v2 σ1 => ((v2 = none → Q (some (vI (-1))) σ1) ∧ (∀ r3, v2 = some r3 → ACi g l d MX11_isStructure [vR 11 (some x0), vI x2] σ1 (fun v6 σ5 => ((v6 = 0 → Q (some (vI (-1))) σ5) ∧ (¬ v6 = 0 → ∃ r8, gR σ5 1105 x0 0 = some r8 ∧ LC 1 σ5 r8 ∧ Bd x2 20 ∧ ∃ r12, gR σ5 100 r8 x2.toNat = some r12 ∧ ((¬ (gI σ5 802 r12 0) = 0 → LC 8 σ5 r12 ∧ ∃ r16, gR σ5 801 r12 0 = some r16 ∧ ((¬ (gI σ5 201 r16 0) = 9 → Q (some (vI (-1))) σ5) ∧ ((gI σ5 201 r16 0) = 9 → (((gI σ5 208 r16 0) = (-1) → AW g l (d + 1) MX11_magic 77 [some (vR 11 (some x0)), none, none, some (vI x3), some (vR 3 v2), some (vR 2 (gR σ5 801 r12 0)), some (vI 0), none, none] [] σ5 Q) ∧ (¬ (gI σ5 208 r16 0) = (-1) → Q (some (vI (-1))) σ5))))) ∧ ((gI σ5 802 r12 0) = 0 → Q (some (vI (-1))) σ5))))))))) :
    AW g l (d + 1) MX11_magic 0 [some (vR 11 (some x0)), some (vI x1), some (vI x2), some (vI x3), none, none, none, none, none] [] σ Q := by
  refine aw_aload_n dX11_magic_0 rfl rfl ?_
  refine aw_iload_n dX11_magic_1 rfl rfl ?_
  refine aw_invVr (M := MX11_magic) (ci := 11) [vI x1] rfl mo_X11_imageOf rfl lm_X11_79 li_X11_imageOf ls_X11_imageOf (by decide +kernel) dX11_magic_2 rfl (Nat.le_of_ble_eq_true rfl) (ACr.mono (fun v2 σ1 h => ?_) h)
  refine aw_astore (L' := [some (vR 11 (some x0)), some (vI x1), some (vI x2), some (vI x3), some (vR 3 v2), none, none, none, none]) dX11_magic_5 (by decide) rfl ?_
  refine aw_aload dX11_magic_7 rfl ?_
  refine aw_ifnull (tgt := 35) dX11_magic_9 (by decide) (fun hc => ?_) (fun r3 e4 => ?_)
  · replace h := h.1 hc
    refine aw_iconst (x := (-1)) dX11_magic_35 rfl ?_
    exact aw_ireturn dX11_magic_36 rfl h
  · replace h := h.2 r3 e4
    refine aw_aload_n dX11_magic_12 rfl rfl ?_
    refine aw_iload_n dX11_magic_13 rfl rfl ?_
    refine aw_invVi (M := MX11_magic) (ci := 11) [vI x2] rfl mo_X11_isStructure rfl lm_X11_149 li_X11_isStructure ls_X11_isStructure (by decide +kernel) dX11_magic_14 rfl (Nat.le_of_ble_eq_true rfl) (ACi.mono (fun v6 σ5 h => ?_) h)
    refine aw_if_eq (tgt := 35) dX11_magic_17 (by decide) (fun k7 => ?_) (fun k7 => ?_)
    · replace h := h.1 k7
      refine aw_iconst (x := (-1)) dX11_magic_35 rfl ?_
      exact aw_ireturn dX11_magic_36 rfl h
    · replace h := h.2 k7
      refine aw_aload_n dX11_magic_20 rfl rfl ?_
      refine aw_getR' (ci := 1) rfl fk_1105 (by decide +kernel) lf_X11_39 dX11_magic_21 ?_
      obtain ⟨r8, e9, h⟩ := h
      obtain ⟨lc10, h⟩ := h
      refine aw_getA' e9 fk_100 (by decide) lf_X11_153 dX11_magic_24 (LC.ne lc10 rfl rfl) ?_
      refine aw_iload_n dX11_magic_27 rfl rfl ?_
      obtain ⟨⟨c11, c11x⟩, h⟩ := h
      refine aw_aaload (ci := 8) (by decide) rfl (by decide +kernel) dX11_magic_28 c11 (LC.lt lc10 rfl rfl c11x) ?_
      obtain ⟨r12, e13, h⟩ := h
      refine aw_getI' e13 fk_802 lf_X11_325 dX11_magic_29 ?_
      refine aw_if_ne (tgt := 37) dX11_magic_32 (by decide) (fun k14 => ?_) (fun k14 => ?_)
      · replace h := h.1 k14
        refine aw_aload_n dX11_magic_37 rfl rfl ?_
        refine aw_getR' (ci := 1) rfl fk_1105 (by decide +kernel) lf_X11_39 dX11_magic_38 ?_
        refine aw_getA' e9 fk_100 (by decide) lf_X11_153 dX11_magic_41 (LC.ne lc10 rfl rfl) ?_
        refine aw_iload_n dX11_magic_44 rfl rfl ?_
        refine aw_aaload (ci := 8) (by decide) rfl (by decide +kernel) dX11_magic_45 c11 (LC.lt lc10 rfl rfl c11x) ?_
        obtain ⟨lc15, h⟩ := h
        refine aw_getA' e13 fk_801 (by decide) lf_X11_328 dX11_magic_46 (LC.ne lc15 rfl rfl) ?_
        refine aw_iconst (x := 0) dX11_magic_49 rfl ?_
        refine aw_aaload (ci := 2) (by decide) rfl (by decide +kernel) dX11_magic_50 (by decide) (LC.lt lc15 rfl rfl (by decide)) ?_
        refine aw_astore (L' := [some (vR 11 (some x0)), some (vI x1), some (vI x2), some (vI x3), some (vR 3 v2), some (vR 2 (gR σ5 801 r12 0)), none, none, none]) dX11_magic_51 (by decide) rfl ?_
        refine aw_aload dX11_magic_53 rfl ?_
        obtain ⟨r16, e17, h⟩ := h
        refine aw_getI' e17 fk_201 lf_X11_332 dX11_magic_55 ?_
        refine aw_bipush (x := 9) dX11_magic_58 rfl ?_
        refine aw_icmp_ne (tgt := 72) dX11_magic_60 (by decide) (fun k18 => ?_) (fun k18 => ?_)
        · replace h := h.1 k18
          refine aw_iconst (x := (-1)) dX11_magic_72 rfl ?_
          exact aw_ireturn dX11_magic_73 rfl h
        · replace h := h.2 k18
          refine aw_aload dX11_magic_63 rfl ?_
          refine aw_getI' e17 fk_208 lf_X11_333 dX11_magic_65 ?_
          refine aw_iconst (x := (-1)) dX11_magic_68 rfl ?_
          refine aw_icmp_eq (tgt := 74) dX11_magic_69 (by decide) (fun k19 => ?_) (fun k19 => ?_)
          · replace h := h.1 k19
            refine aw_iconst (x := 0) dX11_magic_74 rfl ?_
            refine aw_istore (L' := [some (vR 11 (some x0)), some (vI x1), some (vI x2), some (vI x3), some (vR 3 v2), some (vR 2 (gR σ5 801 r12 0)), some (vI 0), none, none]) dX11_magic_75 (by decide) rfl ?_
            exact aw_fgt (L' := [some (vR 11 (some x0)), none, none, some (vI x3), some (vR 3 v2), some (vR 2 (gR σ5 801 r12 0)), some (vI 0), none, none]) ⟨rfl, ⟨rfl, ⟨rfl, ⟨rfl, ⟨rfl, trivial⟩⟩⟩⟩⟩ h
          · replace h := h.2 k19
            refine aw_iconst (x := (-1)) dX11_magic_72 rfl ?_
            exact aw_ireturn dX11_magic_73 rfl h
      · replace h := h.2 k14
        refine aw_iconst (x := (-1)) dX11_magic_35 rfl ?_
        exact aw_ireturn dX11_magic_36 rfl h
set_option maxRecDepth 4000 in
theorem bk_X11_magic_77 {g : GP} {l : Launch} {d : Nat} {σ : St} {Q : Option AV → St → Prop} {x0 : Nat} {x3 : Int} {x4 : Option Nat} {x5 : Option Nat} {x6 : Int}
    (h : ∃ r1, x5 = some r1 ∧ (((gI σ 214 r1 0) ≤ x6 → ACi g l d MX11_matchOf [vR 11 (some x0), vR 3 x4, vI (gI σ 214 r1 0), vI x3] σ (fun v5 σ4 => Q (some (vI v5)) σ4)) ∧ (¬ (gI σ 214 r1 0) ≤ x6 → ∃ r6, gR σ 1105 x0 0 = some r6 ∧ LC 1 σ r6 ∧ R32 ((gI σ 213 r1 0) + x6) ∧ Bd ((gI σ 213 r1 0) + x6) 3000 ∧ LC 11 σ x0 ∧ Bd x6 3000 ∧ ((¬ (gJ σ 107 r6 ((gI σ 213 r1 0) + x6).toNat) = ((-1) : Int64) → R32 (x6 + 1) ∧ AW g l (d + 1) MX11_magic 77 [some (vR 11 (some x0)), none, none, some (vI x3), some (vR 3 x4), some (vR 2 x5), some (vI (x6 + 1)), none, none] [] (sI (sI σ 1113 x0 x6.toNat (j2i (gJ σ 107 r6 ((gI σ 213 r1 0) + x6).toNat))) 1114 x0 x6.toNat 255) Q) ∧ ((gJ σ 107 r6 ((gI σ 213 r1 0) + x6).toNat) = ((-1) : Int64) → R32 (x6 + 1) ∧ AW g l (d + 1) MX11_magic 77 [some (vR 11 (some x0)), none, none, some (vI x3), some (vR 3 x4), some (vR 2 x5), some (vI (x6 + 1)), none, none] [] (sI (sI σ 1113 x0 x6.toNat (j2i (gJ σ 107 r6 ((gI σ 213 r1 0) + x6).toNat))) 1114 x0 x6.toNat 0) Q))))) :
    AW g l (d + 1) MX11_magic 77 [some (vR 11 (some x0)), none, none, some (vI x3), some (vR 3 x4), some (vR 2 x5), some (vI x6), none, none] [] σ Q := by
  refine aw_iload dX11_magic_77 rfl ?_
  refine aw_aload dX11_magic_79 rfl ?_
  obtain ⟨r1, e2, h⟩ := h
  refine aw_getI' e2 fk_214 lf_X11_336 dX11_magic_81 ?_
  refine aw_icmp_ge (tgt := 144) dX11_magic_84 (by decide) (fun k3 => ?_) (fun k3 => ?_)
  · replace h := h.1 k3
    refine aw_aload_n dX11_magic_144 rfl rfl ?_
    refine aw_aload dX11_magic_145 rfl ?_
    refine aw_aload dX11_magic_147 rfl ?_
    refine aw_getI' e2 fk_214 lf_X11_336 dX11_magic_149 ?_
    refine aw_iload_n dX11_magic_152 rfl rfl ?_
    refine aw_invVi (M := MX11_magic) (ci := 11) [vR 3 x4, vI (gI σ 214 r1 0), vI x3] rfl mo_X11_matchOf rfl lm_X11_318 li_X11_matchOf ls_X11_matchOf (by decide +kernel) dX11_magic_153 rfl (Nat.le_of_ble_eq_true rfl) (ACi.mono (fun v5 σ4 h => ?_) h)
    exact aw_ireturn dX11_magic_156 rfl h
  · replace h := h.2 k3
    refine aw_aload_n dX11_magic_87 rfl rfl ?_
    refine aw_getR' (ci := 1) rfl fk_1105 (by decide +kernel) lf_X11_39 dX11_magic_88 ?_
    obtain ⟨r6, e7, h⟩ := h
    obtain ⟨lc8, h⟩ := h
    refine aw_getA' e7 fk_107 (by decide) lf_X11_339 dX11_magic_91 (LC.ne lc8 rfl rfl) ?_
    refine aw_aload dX11_magic_94 rfl ?_
    refine aw_getI' e2 fk_213 lf_X11_342 dX11_magic_96 ?_
    refine aw_iload dX11_magic_99 rfl ?_
    obtain ⟨⟨c9, c9x⟩, h⟩ := h
    refine aw_iaddc dX11_magic_101 c9 c9x ?_
    obtain ⟨⟨c10, c10x⟩, h⟩ := h
    refine aw_laload (by decide) rfl dX11_magic_102 c10 (LC.lt lc8 rfl rfl c10x) ?_
    refine aw_lstore (L' := [some (vR 11 (some x0)), none, none, some (vI x3), some (vR 3 x4), some (vR 2 x5), some (vI x6), some (vJ (gJ σ 107 r6 ((gI σ 213 r1 0) + x6).toNat)), none]) dX11_magic_103 (by decide) rfl ?_
    refine aw_aload_n dX11_magic_105 rfl rfl ?_
    obtain ⟨lc11, h⟩ := h
    refine aw_getA' rfl fk_1113 (by decide) lf_X11_64 dX11_magic_106 (LC.ne lc11 rfl rfl) ?_
    refine aw_iload dX11_magic_109 rfl ?_
    refine aw_lload dX11_magic_111 rfl ?_
    refine aw_l2i dX11_magic_113 ?_
    obtain ⟨⟨c12, c12x⟩, h⟩ := h
    refine aw_iastore (by decide) rfl dX11_magic_114 c12 (LC.lt lc11 rfl rfl c12x) ?_
    refine aw_aload_n dX11_magic_115 rfl rfl ?_
    refine aw_getA' rfl fk_1114 (by decide) lf_X11_68 dX11_magic_116 (LC.ne lc11 rfl rfl) ?_
    refine aw_iload dX11_magic_119 rfl ?_
    refine aw_lload dX11_magic_121 rfl ?_
    refine aw_ldc2 lk_X11_345 dX11_magic_123 ?_
    refine aw_lcmp_ne (M := MX11_magic) (tgt := 134) dX11_magic_126 dX11_magic_127 (by decide) (fun k13 => ?_) (fun k13 => ?_)
    · replace h := h.1 k13
      refine aw_sipush (x := 255) dX11_magic_134 rfl ?_
      refine aw_iastore (by decide) rfl dX11_magic_137 c12 (LC.lt lc11 rfl rfl c12x) ?_
      obtain ⟨⟨c14, c14x⟩, h⟩ := h
      refine aw_iincc (L' := [some (vR 11 (some x0)), none, none, some (vI x3), some (vR 3 x4), some (vR 2 x5), some (vI (x6 + 1)), some (vJ (gJ σ 107 r6 ((gI σ 213 r1 0) + x6).toNat)), none]) dX11_magic_138 rfl (by decide) rfl c14 c14x rfl ?_
      refine aw_goto (tgt := 77) dX11_magic_141 (by decide) ?_
      exact aw_fgt (L' := [some (vR 11 (some x0)), none, none, some (vI x3), some (vR 3 x4), some (vR 2 x5), some (vI (x6 + 1)), none, none]) ⟨rfl, ⟨rfl, ⟨rfl, ⟨rfl, ⟨rfl, trivial⟩⟩⟩⟩⟩ h
    · replace h := h.2 k13
      refine aw_iconst (x := 0) dX11_magic_130 rfl ?_
      refine aw_goto (tgt := 137) dX11_magic_131 (by decide) ?_
      refine aw_iastore (by decide) rfl dX11_magic_137 c12 (LC.lt lc11 rfl rfl c12x) ?_
      obtain ⟨⟨c15, c15x⟩, h⟩ := h
      refine aw_iincc (L' := [some (vR 11 (some x0)), none, none, some (vI x3), some (vR 3 x4), some (vR 2 x5), some (vI (x6 + 1)), some (vJ (gJ σ 107 r6 ((gI σ 213 r1 0) + x6).toNat)), none]) dX11_magic_138 rfl (by decide) rfl c15 c15x rfl ?_
      refine aw_goto (tgt := 77) dX11_magic_141 (by decide) ?_
      exact aw_fgt (L' := [some (vR 11 (some x0)), none, none, some (vI x3), some (vR 3 x4), some (vR 2 x5), some (vI (x6 + 1)), none, none]) ⟨rfl, ⟨rfl, ⟨rfl, ⟨rfl, ⟨rfl, trivial⟩⟩⟩⟩⟩ h
set_option maxRecDepth 4000 in
theorem bk_X11_masked_0 {g : GP} {l : Launch} {d : Nat} {σ : St} {Q : Option AV → St → Prop} {x0 : Nat} {x1 : Int} {x2 : Int}
    (h : ACr g l d MX11_imageOf 3 [vR 11 (some x0), vI x1] σ (fun v2 σ1 => ∃ r3, gR σ1 1102 x0 0 = some r3 ∧ ∀ z5 : Int, z5 = i_div (gI σ1 901 r3 0) 2 → ((v2 = none → Q (some (vI (-1))) σ1) ∧ (∀ r6, v2 = some r6 → ((z5 = 0 → Q (some (vI (-1))) σ1) ∧ (¬ z5 = 0 → R32 (z5 * 2) ∧ (((z5 * 2) = (gI σ1 901 r3 0) → AW g l (d + 1) MX11_masked 45 [some (vR 11 (some x0)), none, some (vI x2), some (vR 3 v2), some (vI z5), some (vI 0)] [] σ1 Q) ∧ (¬ (z5 * 2) = (gI σ1 901 r3 0) → Q (some (vI (-1))) σ1)))))))) :
    AW g l (d + 1) MX11_masked 0 [some (vR 11 (some x0)), some (vI x1), some (vI x2), none, none, none] [] σ Q := by
  refine aw_aload_n dX11_masked_0 rfl rfl ?_
  refine aw_iload_n dX11_masked_1 rfl rfl ?_
  refine aw_invVr (M := MX11_masked) (ci := 11) [vI x1] rfl mo_X11_imageOf rfl lm_X11_79 li_X11_imageOf ls_X11_imageOf (by decide +kernel) dX11_masked_2 rfl (Nat.le_of_ble_eq_true rfl) (ACr.mono (fun v2 σ1 h => ?_) h)
  refine aw_astore_n (L' := [some (vR 11 (some x0)), some (vI x1), some (vI x2), some (vR 3 v2), none, none]) dX11_masked_5 rfl (by decide) rfl ?_
  refine aw_aload_n dX11_masked_6 rfl rfl ?_
  refine aw_getR' (ci := 9) rfl fk_1102 (by decide +kernel) lf_X11_18 dX11_masked_7 ?_
  obtain ⟨r3, e4, h⟩ := h
  refine aw_getI' e4 fk_901 lf_X11_123 dX11_masked_10 ?_
  refine aw_iconst (x := 2) dX11_masked_13 rfl ?_
  refine aw_idiv dX11_masked_14 (by decide) ?_
  refine aw_istore (L' := [some (vR 11 (some x0)), some (vI x1), some (vI x2), some (vR 3 v2), some (vI (i_div (gI σ1 901 r3 0) 2)), none]) dX11_masked_15 (by decide) rfl ?_
  obtain ⟨z5, hz5⟩ : ∃ z : Int, z = i_div (gI σ1 901 r3 0) 2 := ⟨_, rfl⟩
  rw [← hz5]
  replace h := h z5 hz5
  refine aw_aload_n dX11_masked_17 rfl rfl ?_
  refine aw_ifnull (tgt := 40) dX11_masked_18 (by decide) (fun hc => ?_) (fun r6 e7 => ?_)
  · replace h := h.1 hc
    refine aw_iconst (x := (-1)) dX11_masked_40 rfl ?_
    exact aw_ireturn dX11_masked_41 rfl h
  · replace h := h.2 r6 e7
    refine aw_iload dX11_masked_21 rfl ?_
    refine aw_if_eq (tgt := 40) dX11_masked_23 (by decide) (fun k8 => ?_) (fun k8 => ?_)
    · replace h := h.1 k8
      refine aw_iconst (x := (-1)) dX11_masked_40 rfl ?_
      exact aw_ireturn dX11_masked_41 rfl h
    · replace h := h.2 k8
      refine aw_iload dX11_masked_26 rfl ?_
      refine aw_iconst (x := 2) dX11_masked_28 rfl ?_
      obtain ⟨⟨c9, c9x⟩, h⟩ := h
      refine aw_imulc dX11_masked_29 c9 c9x ?_
      refine aw_aload_n dX11_masked_30 rfl rfl ?_
      refine aw_getR' (ci := 9) rfl fk_1102 (by decide +kernel) lf_X11_18 dX11_masked_31 ?_
      refine aw_getI' e4 fk_901 lf_X11_123 dX11_masked_34 ?_
      refine aw_icmp_eq (tgt := 42) dX11_masked_37 (by decide) (fun k10 => ?_) (fun k10 => ?_)
      · replace h := h.1 k10
        refine aw_iconst (x := 0) dX11_masked_42 rfl ?_
        refine aw_istore (L' := [some (vR 11 (some x0)), some (vI x1), some (vI x2), some (vR 3 v2), some (vI z5), some (vI 0)]) dX11_masked_43 (by decide) rfl ?_
        exact aw_fgt (L' := [some (vR 11 (some x0)), none, some (vI x2), some (vR 3 v2), some (vI z5), some (vI 0)]) ⟨rfl, ⟨rfl, ⟨rfl, ⟨rfl, ⟨rfl, trivial⟩⟩⟩⟩⟩ h
      · replace h := h.2 k10
        refine aw_iconst (x := (-1)) dX11_masked_40 rfl ?_
        exact aw_ireturn dX11_masked_41 rfl h
set_option maxRecDepth 4000 in
theorem bk_X11_masked_45 {g : GP} {l : Launch} {d : Nat} {σ : St} {Q : Option AV → St → Prop} {x0 : Nat} {x2 : Int} {x3 : Option Nat} {x4 : Int} {x5 : Int}
    (h : ((x4 ≤ x5 → ACi g l d MX11_matchOf [vR 11 (some x0), vR 3 x3, vI x4, vI x2] σ (fun v3 σ2 => Q (some (vI v3)) σ2)) ∧ (¬ x4 ≤ x5 → LC 11 σ x0 ∧ ∃ r5, gR σ 1102 x0 0 = some r5 ∧ LC 9 σ r5 ∧ Bd x5 3000 ∧ R32 (x4 + x5) ∧ Bd (x4 + x5) 3000 ∧ R32 (x5 + 1) ∧ AW g l (d + 1) MX11_masked 45 [some (vR 11 (some x0)), none, some (vI x2), some (vR 3 x3), some (vI x4), some (vI (x5 + 1))] [] (sI (sI σ 1113 x0 x5.toNat (gI σ 900 r5 x5.toNat)) 1114 x0 x5.toNat (gI σ 900 r5 (x4 + x5).toNat)) Q))) :
    AW g l (d + 1) MX11_masked 45 [some (vR 11 (some x0)), none, some (vI x2), some (vR 3 x3), some (vI x4), some (vI x5)] [] σ Q := by
  refine aw_iload dX11_masked_45 rfl ?_
  refine aw_iload dX11_masked_47 rfl ?_
  refine aw_icmp_ge (tgt := 95) dX11_masked_49 (by decide) (fun k1 => ?_) (fun k1 => ?_)
  · replace h := h.1 k1
    refine aw_aload_n dX11_masked_95 rfl rfl ?_
    refine aw_aload_n dX11_masked_96 rfl rfl ?_
    refine aw_iload dX11_masked_97 rfl ?_
    refine aw_iload_n dX11_masked_99 rfl rfl ?_
    refine aw_invVi (M := MX11_masked) (ci := 11) [vR 3 x3, vI x4, vI x2] rfl mo_X11_matchOf rfl lm_X11_318 li_X11_matchOf ls_X11_matchOf (by decide +kernel) dX11_masked_100 rfl (Nat.le_of_ble_eq_true rfl) (ACi.mono (fun v3 σ2 h => ?_) h)
    exact aw_ireturn dX11_masked_103 rfl h
  · replace h := h.2 k1
    refine aw_aload_n dX11_masked_52 rfl rfl ?_
    obtain ⟨lc4, h⟩ := h
    refine aw_getA' rfl fk_1113 (by decide) lf_X11_64 dX11_masked_53 (LC.ne lc4 rfl rfl) ?_
    refine aw_iload dX11_masked_56 rfl ?_
    refine aw_aload_n dX11_masked_58 rfl rfl ?_
    refine aw_getR' (ci := 9) rfl fk_1102 (by decide +kernel) lf_X11_18 dX11_masked_59 ?_
    obtain ⟨r5, e6, h⟩ := h
    obtain ⟨lc7, h⟩ := h
    refine aw_getA' e6 fk_900 (by decide) lf_X11_322 dX11_masked_62 (LC.ne lc7 rfl rfl) ?_
    refine aw_iload dX11_masked_65 rfl ?_
    obtain ⟨⟨c8, c8x⟩, h⟩ := h
    refine aw_iaload (by decide) rfl dX11_masked_67 c8 (LC.lt lc7 rfl rfl c8x) ?_
    refine aw_iastore (by decide) rfl dX11_masked_68 c8 (LC.lt lc4 rfl rfl c8x) ?_
    refine aw_aload_n dX11_masked_69 rfl rfl ?_
    refine aw_getA' rfl fk_1114 (by decide) lf_X11_68 dX11_masked_70 (LC.ne lc4 rfl rfl) ?_
    refine aw_iload dX11_masked_73 rfl ?_
    refine aw_aload_n dX11_masked_75 rfl rfl ?_
    refine aw_getRe (ci := 9) (v := gR σ 1102 x0 0) rfl fk_1102 (by decide +kernel) lf_X11_18 dX11_masked_76 rfl ?_
    refine aw_getA' e6 fk_900 (by decide) lf_X11_322 dX11_masked_79 (LC.ne lc7 rfl rfl) ?_
    refine aw_iload dX11_masked_82 rfl ?_
    refine aw_iload dX11_masked_84 rfl ?_
    obtain ⟨⟨c9, c9x⟩, h⟩ := h
    refine aw_iaddc dX11_masked_86 c9 c9x ?_
    obtain ⟨⟨c10, c10x⟩, h⟩ := h
    refine aw_ialoade (v := gI σ 900 r5 (x4 + x5).toNat) (by decide) rfl dX11_masked_87 c10 (LC.lt lc7 rfl rfl c10x) rfl ?_
    refine aw_iastore (by decide) rfl dX11_masked_88 c8 (LC.lt lc4 rfl rfl c8x) ?_
    obtain ⟨⟨c11, c11x⟩, h⟩ := h
    refine aw_iincc (L' := [some (vR 11 (some x0)), none, some (vI x2), some (vR 3 x3), some (vI x4), some (vI (x5 + 1))]) dX11_masked_89 rfl (by decide) rfl c11 c11x rfl ?_
    refine aw_goto (tgt := 45) dX11_masked_92 (by decide) ?_
    exact aw_fgt (L' := [some (vR 11 (some x0)), none, some (vI x2), some (vR 3 x3), some (vI x4), some (vI (x5 + 1))]) ⟨rfl, ⟨rfl, ⟨rfl, ⟨rfl, ⟨rfl, trivial⟩⟩⟩⟩⟩ h
set_option maxRecDepth 4000 in
theorem bk_X11_matchOf_0 {g : GP} {l : Launch} {d : Nat} {σ : St} {Q : Option AV → St → Prop} {x0 : Nat} {x1 : Option Nat} {x2 : Int} {x3 : Int}
    (h : AW g l (d + 1) MX11_matchOf 6 [some (vR 11 (some x0)), some (vR 3 x1), some (vI x2), some (vI x3), some (vI x3), some (vI 0)] [] σ Q) :
    AW g l (d + 1) MX11_matchOf 0 [some (vR 11 (some x0)), some (vR 3 x1), some (vI x2), some (vI x3), none, none] [] σ Q := by
  refine aw_iload_n dX11_matchOf_0 rfl rfl ?_
  refine aw_istore (L' := [some (vR 11 (some x0)), some (vR 3 x1), some (vI x2), some (vI x3), some (vI x3), none]) dX11_matchOf_1 (by decide) rfl ?_
  refine aw_iconst (x := 0) dX11_matchOf_3 rfl ?_
  refine aw_istore (L' := [some (vR 11 (some x0)), some (vR 3 x1), some (vI x2), some (vI x3), some (vI x3), some (vI 0)]) dX11_matchOf_4 (by decide) rfl ?_
  exact aw_fgt (L' := [some (vR 11 (some x0)), some (vR 3 x1), some (vI x2), some (vI x3), some (vI x3), some (vI 0)]) ⟨rfl, ⟨rfl, ⟨rfl, ⟨rfl, ⟨rfl, ⟨rfl, trivial⟩⟩⟩⟩⟩⟩ h
set_option maxRecDepth 4000 in
theorem bk_X11_matchOf_6 {g : GP} {l : Launch} {d : Nat} {σ : St} {Q : Option AV → St → Prop} {x0 : Nat} {x1 : Option Nat} {x2 : Int} {x3 : Int} {x4 : Int} {x5 : Int}
    (h : ((x3 < 0 → Q (some (vI (-1))) σ) ∧ (¬ x3 < 0 → R32 (x5 + x2) ∧ ∃ r3, x1 = some r3 ∧ (((gI σ 304 r3 0) < (x5 + x2) → Q (some (vI (-1))) σ) ∧ (¬ (gI σ 304 r3 0) < (x5 + x2) → ACi g l d MX11_matches [vR 11 (some x0), vR 3 x1, vI x5, vI x2] σ (fun v7 σ6 => ((v7 = 0 → R32 (x5 + 1) ∧ AW g l (d + 1) MX11_matchOf 6 [some (vR 11 (some x0)), some (vR 3 x1), some (vI x2), some (vI x3), some (vI x4), some (vI (x5 + 1))] [] σ6 Q) ∧ (¬ v7 = 0 → ((¬ x4 = 0 → R32 (x4 + (-1)) ∧ R32 (x5 + 1) ∧ AW g l (d + 1) MX11_matchOf 6 [some (vR 11 (some x0)), some (vR 3 x1), some (vI x2), some (vI x3), some (vI (x4 + (-1))), some (vI (x5 + 1))] [] σ6 Q) ∧ (x4 = 0 → Q (some (vI x5)) σ6)))))))))) :
    AW g l (d + 1) MX11_matchOf 6 [some (vR 11 (some x0)), some (vR 3 x1), some (vI x2), some (vI x3), some (vI x4), some (vI x5)] [] σ Q := by
  refine aw_iload_n dX11_matchOf_6 rfl rfl ?_
  refine aw_if_lt (tgt := 49) dX11_matchOf_7 (by decide) (fun k1 => ?_) (fun k1 => ?_)
  · replace h := h.1 k1
    refine aw_iconst (x := (-1)) dX11_matchOf_49 rfl ?_
    exact aw_ireturn dX11_matchOf_50 rfl h
  · replace h := h.2 k1
    refine aw_iload dX11_matchOf_10 rfl ?_
    refine aw_iload_n dX11_matchOf_12 rfl rfl ?_
    obtain ⟨⟨c2, c2x⟩, h⟩ := h
    refine aw_iaddc dX11_matchOf_13 c2 c2x ?_
    refine aw_aload_n dX11_matchOf_14 rfl rfl ?_
    obtain ⟨r3, e4, h⟩ := h
    refine aw_getI' e4 fk_304 lf_X11_86 dX11_matchOf_15 ?_
    refine aw_icmp_gt (tgt := 49) dX11_matchOf_18 (by decide) (fun k5 => ?_) (fun k5 => ?_)
    · replace h := h.1 k5
      refine aw_iconst (x := (-1)) dX11_matchOf_49 rfl ?_
      exact aw_ireturn dX11_matchOf_50 rfl h
    · replace h := h.2 k5
      refine aw_aload_n dX11_matchOf_21 rfl rfl ?_
      refine aw_aload_n dX11_matchOf_22 rfl rfl ?_
      refine aw_iload dX11_matchOf_23 rfl ?_
      refine aw_iload_n dX11_matchOf_25 rfl rfl ?_
      refine aw_invVi (M := MX11_matchOf) (ci := 11) [vR 3 x1, vI x5, vI x2] rfl mo_X11_matches rfl lm_X11_398 li_X11_matches ls_X11_matches (by decide +kernel) dX11_matchOf_26 rfl (Nat.le_of_ble_eq_true rfl) (ACi.mono (fun v7 σ6 h => ?_) h)
      refine aw_if_eq (tgt := 43) dX11_matchOf_29 (by decide) (fun k8 => ?_) (fun k8 => ?_)
      · replace h := h.1 k8
        obtain ⟨⟨c9, c9x⟩, h⟩ := h
        refine aw_iincc (L' := [some (vR 11 (some x0)), some (vR 3 x1), some (vI x2), some (vI x3), some (vI x4), some (vI (x5 + 1))]) dX11_matchOf_43 rfl (by decide) rfl c9 c9x rfl ?_
        refine aw_goto (tgt := 6) dX11_matchOf_46 (by decide) ?_
        exact aw_fgt (L' := [some (vR 11 (some x0)), some (vR 3 x1), some (vI x2), some (vI x3), some (vI x4), some (vI (x5 + 1))]) ⟨rfl, ⟨rfl, ⟨rfl, ⟨rfl, ⟨rfl, ⟨rfl, trivial⟩⟩⟩⟩⟩⟩ h
      · replace h := h.2 k8
        refine aw_iload dX11_matchOf_32 rfl ?_
        refine aw_if_ne (tgt := 40) dX11_matchOf_34 (by decide) (fun k10 => ?_) (fun k10 => ?_)
        · replace h := h.1 k10
          obtain ⟨⟨c11, c11x⟩, h⟩ := h
          refine aw_iincc (L' := [some (vR 11 (some x0)), some (vR 3 x1), some (vI x2), some (vI x3), some (vI (x4 + (-1))), some (vI x5)]) dX11_matchOf_40 rfl (by decide) rfl c11 c11x rfl ?_
          obtain ⟨⟨c12, c12x⟩, h⟩ := h
          refine aw_iincc (L' := [some (vR 11 (some x0)), some (vR 3 x1), some (vI x2), some (vI x3), some (vI (x4 + (-1))), some (vI (x5 + 1))]) dX11_matchOf_43 rfl (by decide) rfl c12 c12x rfl ?_
          refine aw_goto (tgt := 6) dX11_matchOf_46 (by decide) ?_
          exact aw_fgt (L' := [some (vR 11 (some x0)), some (vR 3 x1), some (vI x2), some (vI x3), some (vI (x4 + (-1))), some (vI (x5 + 1))]) ⟨rfl, ⟨rfl, ⟨rfl, ⟨rfl, ⟨rfl, ⟨rfl, trivial⟩⟩⟩⟩⟩⟩ h
        · replace h := h.2 k10
          refine aw_iload dX11_matchOf_37 rfl ?_
          exact aw_ireturn dX11_matchOf_39 rfl h
set_option maxRecDepth 4000 in
theorem bk_X11_matches_0 {g : GP} {l : Launch} {d : Nat} {σ : St} {Q : Option AV → St → Prop} {x0 : Nat} {x1 : Option Nat} {x2 : Int} {x3 : Int}
    (h : AW g l (d + 1) MX11_matches 3 [some (vR 11 (some x0)), some (vR 3 x1), some (vI x2), some (vI x3), some (vI 0)] [] σ Q) :
    AW g l (d + 1) MX11_matches 0 [some (vR 11 (some x0)), some (vR 3 x1), some (vI x2), some (vI x3), none] [] σ Q := by
  refine aw_iconst (x := 0) dX11_matches_0 rfl ?_
  refine aw_istore (L' := [some (vR 11 (some x0)), some (vR 3 x1), some (vI x2), some (vI x3), some (vI 0)]) dX11_matches_1 (by decide) rfl ?_
  exact aw_fgt (L' := [some (vR 11 (some x0)), some (vR 3 x1), some (vI x2), some (vI x3), some (vI 0)]) ⟨rfl, ⟨rfl, ⟨rfl, ⟨rfl, ⟨rfl, trivial⟩⟩⟩⟩⟩ h
set_option maxRecDepth 4000 in
theorem bk_X11_matches_3 {g : GP} {l : Launch} {d : Nat} {σ : St} {Q : Option AV → St → Prop} {x0 : Nat} {x1 : Option Nat} {x2 : Int} {x3 : Int} {x4 : Int}
    (h : ((x3 ≤ x4 → Q (some (vI 1)) σ) ∧ (¬ x3 ≤ x4 → R32 (x2 + x4) ∧ ∃ r3, x1 = some r3 ∧ ACi g l d MX3_has [vR 3 (some r3), vI (x2 + x4)] σ (fun v6 σ5 => LC 11 σ5 x0 ∧ Bd x4 3000 ∧ (((i_and (i_xor v6 (gI σ5 1113 x0 x4.toNat)) (gI σ5 1114 x0 x4.toNat)) = 0 → R32 (x4 + 1) ∧ AW g l (d + 1) MX11_matches 3 [some (vR 11 (some x0)), some (vR 3 x1), some (vI x2), some (vI x3), some (vI (x4 + 1))] [] σ5 Q) ∧ (¬ (i_and (i_xor v6 (gI σ5 1113 x0 x4.toNat)) (gI σ5 1114 x0 x4.toNat)) = 0 → Q (some (vI 0)) σ5)))))) :
    AW g l (d + 1) MX11_matches 3 [some (vR 11 (some x0)), some (vR 3 x1), some (vI x2), some (vI x3), some (vI x4)] [] σ Q := by
  refine aw_iload dX11_matches_3 rfl ?_
  refine aw_iload_n dX11_matches_5 rfl rfl ?_
  refine aw_icmp_ge (tgt := 44) dX11_matches_6 (by decide) (fun k1 => ?_) (fun k1 => ?_)
  · replace h := h.1 k1
    refine aw_iconst (x := 1) dX11_matches_44 rfl ?_
    exact aw_zreturn dX11_matches_45 rfl (Or.inr rfl) h
  · replace h := h.2 k1
    refine aw_aload_n dX11_matches_9 rfl rfl ?_
    refine aw_iload_n dX11_matches_10 rfl rfl ?_
    refine aw_iload dX11_matches_11 rfl ?_
    obtain ⟨⟨c2, c2x⟩, h⟩ := h
    refine aw_iaddc dX11_matches_13 c2 c2x ?_
    obtain ⟨r3, e4, h⟩ := h
    refine aw_invVi (M := MX11_matches) (ci := 3) [vI (x2 + x4)] e4 mo_X3_has rfl lm_X11_93 li_X3_has ls_X3_has (by decide +kernel) dX11_matches_14 rfl (Nat.le_of_ble_eq_true rfl) (ACi.mono (fun v6 σ5 h => ?_) h)
    refine aw_aload_n dX11_matches_17 rfl rfl ?_
    obtain ⟨lc7, h⟩ := h
    refine aw_getA' rfl fk_1113 (by decide) lf_X11_64 dX11_matches_18 (LC.ne lc7 rfl rfl) ?_
    refine aw_iload dX11_matches_21 rfl ?_
    obtain ⟨⟨c8, c8x⟩, h⟩ := h
    refine aw_iaload (by decide) rfl dX11_matches_23 c8 (LC.lt lc7 rfl rfl c8x) ?_
    refine aw_ixor dX11_matches_24 ?_
    refine aw_aload_n dX11_matches_25 rfl rfl ?_
    refine aw_getA' rfl fk_1114 (by decide) lf_X11_68 dX11_matches_26 (LC.ne lc7 rfl rfl) ?_
    refine aw_iload dX11_matches_29 rfl ?_
    refine aw_iaload (by decide) rfl dX11_matches_31 c8 (LC.lt lc7 rfl rfl c8x) ?_
    refine aw_iand dX11_matches_32 ?_
    refine aw_if_eq (tgt := 38) dX11_matches_33 (by decide) (fun k9 => ?_) (fun k9 => ?_)
    · replace h := h.1 k9
      obtain ⟨⟨c10, c10x⟩, h⟩ := h
      refine aw_iincc (L' := [some (vR 11 (some x0)), some (vR 3 x1), some (vI x2), some (vI x3), some (vI (x4 + 1))]) dX11_matches_38 rfl (by decide) rfl c10 c10x rfl ?_
      refine aw_goto (tgt := 3) dX11_matches_41 (by decide) ?_
      exact aw_fgt (L' := [some (vR 11 (some x0)), some (vR 3 x1), some (vI x2), some (vI x3), some (vI (x4 + 1))]) ⟨rfl, ⟨rfl, ⟨rfl, ⟨rfl, ⟨rfl, trivial⟩⟩⟩⟩⟩ h
    · replace h := h.2 k9
      refine aw_iconst (x := 0) dX11_matches_36 rfl ?_
      exact aw_zreturn dX11_matches_37 rfl (Or.inl rfl) h
set_option maxRecDepth 4000 in
theorem bk_X11_node_0 {g : GP} {l : Launch} {d : Nat} {σ : St} {Q : Option AV → St → Prop} {x0 : Nat} {x1 : Int} {x2 : Int} {x3 : Int}
    (h : ACr g l d MX11_nodeOf 5 [vR 11 (some x0), vI x1, vI x2] σ (fun v2 σ1 => ((v2 = none → Q (some (vI (-1))) σ1) ∧ (∀ r3, v2 = some r3 → ((x3 = 0 → Q (some (vI (gI σ1 501 r3 0))) σ1) ∧ (x3 = 1 → Q (some (vI (gI σ1 502 r3 0))) σ1) ∧ (x3 = 2 → Q (some (vI (gI σ1 503 r3 0))) σ1) ∧ (x3 = 3 → ((gR σ1 507 r3 0 = none → Q (some (vI (-1))) σ1) ∧ (∀ r5, gR σ1 507 r3 0 = some r5 → Q (some (vI (gI σ1 500 r5 0))) σ1))) ∧ (x3 = 4 → Q (some (vI (gI σ1 511 r3 0))) σ1) ∧ (x3 = 5 → Q (some (vI (gI σ1 504 r3 0))) σ1) ∧ (x3 = 6 → (((gI σ1 505 r3 0) = 0 → Q (some (vI 0)) σ1) ∧ (¬ (gI σ1 505 r3 0) = 0 → Q (some (vI 1)) σ1))) ∧ (x3 = 7 → ((¬ (gI σ1 501 r3 0) = 0 → Q (some (vI (-1))) σ1) ∧ ((gI σ1 501 r3 0) = 0 → Q (some (vI (gI σ1 514 r3 0))) σ1))) ∧ (x3 < 0 ∨ 7 < x3 → Q (some (vI (-1))) σ1)))))) :
    AW g l (d + 1) MX11_node 0 [some (vR 11 (some x0)), some (vI x1), some (vI x2), some (vI x3), none] [] σ Q := by
  refine aw_aload_n dX11_node_0 rfl rfl ?_
  refine aw_iload_n dX11_node_1 rfl rfl ?_
  refine aw_iload_n dX11_node_2 rfl rfl ?_
  refine aw_invVr (M := MX11_node) (ci := 11) [vI x1, vI x2] rfl mo_X11_nodeOf rfl lm_X11_188 li_X11_nodeOf ls_X11_nodeOf (by decide +kernel) dX11_node_3 rfl (Nat.le_of_ble_eq_true rfl) (ACr.mono (fun v2 σ1 h => ?_) h)
  refine aw_astore (L' := [some (vR 11 (some x0)), some (vI x1), some (vI x2), some (vI x3), some (vR 5 v2)]) dX11_node_6 (by decide) rfl ?_
  refine aw_aload dX11_node_8 rfl ?_
  refine aw_ifnonnull (tgt := 15) dX11_node_10 (by decide) (fun r3 e4 => ?_) (fun hc => ?_)
  · replace h := h.2 r3 e4
    refine aw_iload_n dX11_node_15 rfl rfl ?_
    obtain ⟨h0, h1, h2, h3, h4, h5, h6, h7, hd⟩ := h
    refine aw_table (M := MX11_node) (dt := 147) [64, 70, 76, 82, 103, 109, 115, 129] dX11_node_16 (by decide) (by decide) (by decide) ⟨fun hc => ?_, fun hc => ?_, fun hc => ?_, fun hc => ?_, fun hc => ?_, fun hc => ?_, fun hc => ?_, fun hc => ?_, trivial⟩ (fun hc => ?_)
    · have h := h0 hc; clear h0 h1 h2 h3 h4 h5 h6 h7 hd
      refine aw_aload dX11_node_64 rfl ?_
      refine aw_getI' e4 fk_501 lf_X11_192 dX11_node_66 ?_
      exact aw_ireturn dX11_node_69 rfl h
    · have h := h1 hc; clear h0 h1 h2 h3 h4 h5 h6 h7 hd
      refine aw_aload dX11_node_70 rfl ?_
      refine aw_getI' e4 fk_502 lf_X11_197 dX11_node_72 ?_
      exact aw_ireturn dX11_node_75 rfl h
    · have h := h2 hc; clear h0 h1 h2 h3 h4 h5 h6 h7 hd
      refine aw_aload dX11_node_76 rfl ?_
      refine aw_getI' e4 fk_503 lf_X11_200 dX11_node_78 ?_
      exact aw_ireturn dX11_node_81 rfl h
    · have h := h3 hc; clear h0 h1 h2 h3 h4 h5 h6 h7 hd
      refine aw_aload dX11_node_82 rfl ?_
      refine aw_getR' (ci := 5) e4 fk_507 (by decide +kernel) lf_X11_203 dX11_node_84 ?_
      refine aw_ifnonnull (tgt := 94) dX11_node_87 (by decide) (fun r5 e6 => ?_) (fun hc => ?_)
      · replace h := h.2 r5 e6
        refine aw_aload dX11_node_94 rfl ?_
        refine aw_getR' (ci := 5) e4 fk_507 (by decide +kernel) lf_X11_203 dX11_node_96 ?_
        refine aw_getI' e6 fk_500 lf_X11_207 dX11_node_99 ?_
        exact aw_ireturn dX11_node_102 rfl h
      · replace h := h.1 hc
        refine aw_iconst (x := (-1)) dX11_node_90 rfl ?_
        refine aw_goto (tgt := 102) dX11_node_91 (by decide) ?_
        exact aw_ireturn dX11_node_102 rfl h
    · have h := h4 hc; clear h0 h1 h2 h3 h4 h5 h6 h7 hd
      refine aw_aload dX11_node_103 rfl ?_
      refine aw_getI' e4 fk_511 lf_X11_210 dX11_node_105 ?_
      exact aw_ireturn dX11_node_108 rfl h
    · have h := h5 hc; clear h0 h1 h2 h3 h4 h5 h6 h7 hd
      refine aw_aload dX11_node_109 rfl ?_
      refine aw_getI' e4 fk_504 lf_X11_213 dX11_node_111 ?_
      exact aw_ireturn dX11_node_114 rfl h
    · have h := h6 hc; clear h0 h1 h2 h3 h4 h5 h6 h7 hd
      refine aw_aload dX11_node_115 rfl ?_
      refine aw_getZ' e4 fk_505 lf_X11_214 dX11_node_117 ?_
      refine aw_if_eq (tgt := 127) dX11_node_120 (by decide) (fun k7 => ?_) (fun k7 => ?_)
      · replace h := h.1 k7
        refine aw_iconst (x := 0) dX11_node_127 rfl ?_
        exact aw_ireturn dX11_node_128 rfl h
      · replace h := h.2 k7
        refine aw_iconst (x := 1) dX11_node_123 rfl ?_
        refine aw_goto (tgt := 128) dX11_node_124 (by decide) ?_
        exact aw_ireturn dX11_node_128 rfl h
    · have h := h7 hc; clear h0 h1 h2 h3 h4 h5 h6 h7 hd
      refine aw_aload dX11_node_129 rfl ?_
      refine aw_getI' e4 fk_501 lf_X11_192 dX11_node_131 ?_
      refine aw_if_ne (tgt := 145) dX11_node_134 (by decide) (fun k8 => ?_) (fun k8 => ?_)
      · replace h := h.1 k8
        refine aw_iconst (x := (-1)) dX11_node_145 rfl ?_
        exact aw_ireturn dX11_node_146 rfl h
      · replace h := h.2 k8
        refine aw_aload dX11_node_137 rfl ?_
        refine aw_getI' e4 fk_514 lf_X11_217 dX11_node_139 ?_
        refine aw_goto (tgt := 146) dX11_node_142 (by decide) ?_
        exact aw_ireturn dX11_node_146 rfl h
    · have h := hd hc; clear h0 h1 h2 h3 h4 h5 h6 h7 hd
      refine aw_iconst (x := (-1)) dX11_node_147 rfl ?_
      exact aw_ireturn dX11_node_148 rfl h
  · replace h := h.1 hc
    refine aw_iconst (x := (-1)) dX11_node_13 rfl ?_
    exact aw_ireturn dX11_node_14 rfl h
set_option maxRecDepth 4000 in
theorem bk_X11_nodeOf_0 {g : GP} {l : Launch} {d : Nat} {σ : St} {Q : Option AV → St → Prop} {x0 : Nat} {x1 : Int} {x2 : Int}
    (h : ACr g l d MX11_treeOf 10 [vR 11 (some x0), vI x1] σ (fun v2 σ1 => ((v2 = none → Q (some (vR 5 none)) σ1) ∧ (∀ r3, v2 = some r3 → ((x2 < 0 → Q (some (vR 5 none)) σ1) ∧ (¬ x2 < 0 → ((x2 < (gI σ1 1004 r3 0) → LC 10 σ1 r3 ∧ Bd x2 400 ∧ Q (some (vR 5 (gR σ1 1003 r3 x2.toNat))) σ1) ∧ (¬ x2 < (gI σ1 1004 r3 0) → Q (some (vR 5 none)) σ1)))))))) :
    AW g l (d + 1) MX11_nodeOf 0 [some (vR 11 (some x0)), some (vI x1), some (vI x2), none] [] σ Q := by
  refine aw_aload_n dX11_nodeOf_0 rfl rfl ?_
  refine aw_iload_n dX11_nodeOf_1 rfl rfl ?_
  refine aw_invVr (M := MX11_nodeOf) (ci := 11) [vI x1] rfl mo_X11_treeOf rfl lm_X11_173 li_X11_treeOf ls_X11_treeOf (by decide +kernel) dX11_nodeOf_2 rfl (Nat.le_of_ble_eq_true rfl) (ACr.mono (fun v2 σ1 h => ?_) h)
  refine aw_astore_n (L' := [some (vR 11 (some x0)), some (vI x1), some (vI x2), some (vR 10 v2)]) dX11_nodeOf_5 rfl (by decide) rfl ?_
  refine aw_aload_n dX11_nodeOf_6 rfl rfl ?_
  refine aw_ifnull (tgt := 22) dX11_nodeOf_7 (by decide) (fun hc => ?_) (fun r3 e4 => ?_)
  · replace h := h.1 hc
    refine aw_null 5 dX11_nodeOf_22 ?_
    refine aw_goto (tgt := 32) dX11_nodeOf_23 (by decide) ?_
    exact aw_areturn dX11_nodeOf_32 rfl h
  · replace h := h.2 r3 e4
    refine aw_iload_n dX11_nodeOf_10 rfl rfl ?_
    refine aw_if_lt (tgt := 22) dX11_nodeOf_11 (by decide) (fun k5 => ?_) (fun k5 => ?_)
    · replace h := h.1 k5
      refine aw_null 5 dX11_nodeOf_22 ?_
      refine aw_goto (tgt := 32) dX11_nodeOf_23 (by decide) ?_
      exact aw_areturn dX11_nodeOf_32 rfl h
    · replace h := h.2 k5
      refine aw_iload_n dX11_nodeOf_14 rfl rfl ?_
      refine aw_aload_n dX11_nodeOf_15 rfl rfl ?_
      refine aw_getI' e4 fk_1004 lf_X11_187 dX11_nodeOf_16 ?_
      refine aw_icmp_lt (tgt := 26) dX11_nodeOf_19 (by decide) (fun k6 => ?_) (fun k6 => ?_)
      · replace h := h.1 k6
        refine aw_aload_n dX11_nodeOf_26 rfl rfl ?_
        obtain ⟨lc7, h⟩ := h
        refine aw_getA' e4 fk_1003 (by decide) lf_X11_385 dX11_nodeOf_27 (LC.ne lc7 rfl rfl) ?_
        refine aw_iload_n dX11_nodeOf_30 rfl rfl ?_
        obtain ⟨⟨c8, c8x⟩, h⟩ := h
        refine aw_aaload (ci := 5) (by decide) rfl (by decide +kernel) dX11_nodeOf_31 c8 (LC.lt lc7 rfl rfl c8x) ?_
        exact aw_areturn dX11_nodeOf_32 rfl h
      · replace h := h.2 k6
        refine aw_null 5 dX11_nodeOf_22 ?_
        refine aw_goto (tgt := 32) dX11_nodeOf_23 (by decide) ?_
        exact aw_areturn dX11_nodeOf_32 rfl h
set_option maxRecDepth 4000 in
theorem bk_X11_nodeTotal_0 {g : GP} {l : Launch} {d : Nat} {σ : St} {Q : Option AV → St → Prop} {x0 : Nat}
    (h : AW g l d MX11_nodeTotal 4 [some (vR 11 (some x0)), some (vI 0), some (vI 0)] [] σ Q) :
    AW g l d MX11_nodeTotal 0 [some (vR 11 (some x0)), none, none] [] σ Q := by
  refine aw_iconst (x := 0) dX11_nodeTotal_0 rfl ?_
  refine aw_istore_n (L' := [some (vR 11 (some x0)), some (vI 0), none]) dX11_nodeTotal_1 rfl (by decide) rfl ?_
  refine aw_iconst (x := 0) dX11_nodeTotal_2 rfl ?_
  refine aw_istore_n (L' := [some (vR 11 (some x0)), some (vI 0), some (vI 0)]) dX11_nodeTotal_3 rfl (by decide) rfl ?_
  exact aw_fgt (L' := [some (vR 11 (some x0)), some (vI 0), some (vI 0)]) ⟨rfl, ⟨rfl, ⟨rfl, trivial⟩⟩⟩ h
set_option maxRecDepth 4000 in
theorem bk_X11_nodeTotal_4 {g : GP} {l : Launch} {d : Nat} {σ : St} {Q : Option AV → St → Prop} {x0 : Nat} {x1 : Int} {x2 : Int}
    (h : (((gI σ 1110 x0 0) ≤ x2 → Q (some (vI x1)) σ) ∧ (¬ (gI σ 1110 x0 0) ≤ x2 → LC 11 σ x0 ∧ Bd x2 6 ∧ ∃ r4, gR σ 1108 x0 x2.toNat = some r4 ∧ R32 (x1 + (gI σ 1004 r4 0)) ∧ R32 (x2 + 1) ∧ AW g l d MX11_nodeTotal 4 [some (vR 11 (some x0)), some (vI (x1 + (gI σ 1004 r4 0))), some (vI (x2 + 1))] [] σ Q))) :
    AW g l d MX11_nodeTotal 4 [some (vR 11 (some x0)), some (vI x1), some (vI x2)] [] σ Q := by
  refine aw_iload_n dX11_nodeTotal_4 rfl rfl ?_
  refine aw_aload_n dX11_nodeTotal_5 rfl rfl ?_
  refine aw_getI' rfl fk_1110 lf_X11_143 dX11_nodeTotal_6 ?_
  refine aw_icmp_ge (tgt := 30) dX11_nodeTotal_9 (by decide) (fun k1 => ?_) (fun k1 => ?_)
  · replace h := h.1 k1
    refine aw_iload_n dX11_nodeTotal_30 rfl rfl ?_
    exact aw_ireturn dX11_nodeTotal_31 rfl h
  · replace h := h.2 k1
    refine aw_iload_n dX11_nodeTotal_12 rfl rfl ?_
    refine aw_aload_n dX11_nodeTotal_13 rfl rfl ?_
    obtain ⟨lc2, h⟩ := h
    refine aw_getA' rfl fk_1108 (by decide) lf_X11_55 dX11_nodeTotal_14 (LC.ne lc2 rfl rfl) ?_
    refine aw_iload_n dX11_nodeTotal_17 rfl rfl ?_
    obtain ⟨⟨c3, c3x⟩, h⟩ := h
    refine aw_aaload (ci := 10) (by decide) rfl (by decide +kernel) dX11_nodeTotal_18 c3 (LC.lt lc2 rfl rfl c3x) ?_
    obtain ⟨r4, e5, h⟩ := h
    refine aw_getI' e5 fk_1004 lf_X11_187 dX11_nodeTotal_19 ?_
    obtain ⟨⟨c6, c6x⟩, h⟩ := h
    refine aw_iaddc dX11_nodeTotal_22 c6 c6x ?_
    refine aw_istore_n (L' := [some (vR 11 (some x0)), some (vI (x1 + (gI σ 1004 r4 0))), some (vI x2)]) dX11_nodeTotal_23 rfl (by decide) rfl ?_
    obtain ⟨⟨c7, c7x⟩, h⟩ := h
    refine aw_iincc (L' := [some (vR 11 (some x0)), some (vI (x1 + (gI σ 1004 r4 0))), some (vI (x2 + 1))]) dX11_nodeTotal_24 rfl (by decide) rfl c7 c7x rfl ?_
    refine aw_goto (tgt := 4) dX11_nodeTotal_27 (by decide) ?_
    exact aw_fgt (L' := [some (vR 11 (some x0)), some (vI (x1 + (gI σ 1004 r4 0))), some (vI (x2 + 1))]) ⟨rfl, ⟨rfl, ⟨rfl, trivial⟩⟩⟩ h
set_option maxRecDepth 4000 in
theorem bk_X11_out_0 {g : GP} {l : Launch} {d : Nat} {σ : St} {Q : Option AV → St → Prop} {x0 : Nat}
    (h : Q (some (vJ (gJ σ 1112 x0 0))) σ) :
    AW g l d MX11_out 0 [some (vR 11 (some x0))] [] σ Q := by
  refine aw_aload_n dX11_out_0 rfl rfl ?_
  refine aw_getJ' rfl fk_1112 lf_X11_281 dX11_out_1 ?_
  exact aw_lreturn dX11_out_4 rfl h
set_option maxRecDepth 4000 in
theorem bk_X11_poke_0 {g : GP} {l : Launch} {d : Nat} {σ : St} {Q : Option AV → St → Prop} {x0 : Nat} {x1 : Int} {x2 : Int} {x3 : Int}
    (h : ACr g l d MX11_imageOf 3 [vR 11 (some x0), vI x1] σ (fun v2 σ1 => ((v2 = none → Q (some (vI (-1))) σ1) ∧ (∀ r3, v2 = some r3 → ACi g l d MX3_has [vR 3 (some r3), vI x2] σ1 (fun v6 σ5 => ((¬ v6 = (-1) → ((x3 < 0 → Q (some (vI (-3))) σ5) ∧ (¬ x3 < 0 → ((x3 ≤ 255 → ACi g l d MX3_has [vR 3 (some r3), vI x2] σ5 (fun v11 σ10 => ACv g l d MX3_write [vR 3 (some r3), vI x2, vI 1, vJ (i2j x3), vI 0] σ10 (fun σ12 => Q (some (vI v11)) σ12))) ∧ (¬ x3 ≤ 255 → Q (some (vI (-3))) σ5))))) ∧ (v6 = (-1) → Q (some (vI (-1))) σ5))))))) :
    AW g l (d + 1) MX11_poke 0 [some (vR 11 (some x0)), some (vI x1), some (vI x2), some (vI x3), none, none] [] σ Q := by
  refine aw_aload_n dX11_poke_0 rfl rfl ?_
  refine aw_iload_n dX11_poke_1 rfl rfl ?_
  refine aw_invVr (M := MX11_poke) (ci := 11) [vI x1] rfl mo_X11_imageOf rfl lm_X11_79 li_X11_imageOf ls_X11_imageOf (by decide +kernel) dX11_poke_2 rfl (Nat.le_of_ble_eq_true rfl) (ACr.mono (fun v2 σ1 h => ?_) h)
  refine aw_astore (L' := [some (vR 11 (some x0)), some (vI x1), some (vI x2), some (vI x3), some (vR 3 v2), none]) dX11_poke_5 (by decide) rfl ?_
  refine aw_aload dX11_poke_7 rfl ?_
  refine aw_ifnull (tgt := 22) dX11_poke_9 (by decide) (fun hc => ?_) (fun r3 e4 => ?_)
  · replace h := h.1 hc
    refine aw_iconst (x := (-1)) dX11_poke_22 rfl ?_
    exact aw_ireturn dX11_poke_23 rfl h
  · replace h := h.2 r3 e4
    refine aw_aload dX11_poke_12 rfl ?_
    refine aw_iload_n dX11_poke_14 rfl rfl ?_
    refine aw_invVi (M := MX11_poke) (ci := 3) [vI x2] e4 mo_X3_has rfl lm_X11_93 li_X3_has ls_X3_has (by decide +kernel) dX11_poke_15 rfl (Nat.le_of_ble_eq_true rfl) (ACi.mono (fun v6 σ5 h => ?_) h)
    refine aw_iconst (x := (-1)) dX11_poke_18 rfl ?_
    refine aw_icmp_ne (tgt := 24) dX11_poke_19 (by decide) (fun k7 => ?_) (fun k7 => ?_)
    · replace h := h.1 k7
      refine aw_iload_n dX11_poke_24 rfl rfl ?_
      refine aw_if_lt (tgt := 35) dX11_poke_25 (by decide) (fun k8 => ?_) (fun k8 => ?_)
      · replace h := h.1 k8
        refine aw_bipush (x := (-3)) dX11_poke_35 rfl ?_
        exact aw_ireturn dX11_poke_37 rfl h
      · replace h := h.2 k8
        refine aw_iload_n dX11_poke_28 rfl rfl ?_
        refine aw_sipush (x := 255) dX11_poke_29 rfl ?_
        refine aw_icmp_le (tgt := 38) dX11_poke_32 (by decide) (fun k9 => ?_) (fun k9 => ?_)
        · replace h := h.1 k9
          refine aw_aload dX11_poke_38 rfl ?_
          refine aw_iload_n dX11_poke_40 rfl rfl ?_
          refine aw_invVi (M := MX11_poke) (ci := 3) [vI x2] e4 mo_X3_has rfl lm_X11_93 li_X3_has ls_X3_has (by decide +kernel) dX11_poke_41 rfl (Nat.le_of_ble_eq_true rfl) (ACi.mono (fun v11 σ10 h => ?_) h)
          refine aw_istore (L' := [some (vR 11 (some x0)), some (vI x1), some (vI x2), some (vI x3), some (vR 3 v2), some (vI v11)]) dX11_poke_44 (by decide) rfl ?_
          refine aw_aload dX11_poke_46 rfl ?_
          refine aw_iload_n dX11_poke_48 rfl rfl ?_
          refine aw_iconst (x := 1) dX11_poke_49 rfl ?_
          refine aw_iload_n dX11_poke_50 rfl rfl ?_
          refine aw_i2l dX11_poke_51 ?_
          refine aw_iconst (x := 0) dX11_poke_52 rfl ?_
          refine aw_invVv (M := MX11_poke) (ci := 3) [vI x2, vI 1, vJ (i2j x3), vI 0] e4 mo_X3_write rfl lm_X11_107 li_X3_write ls_X3_write (by decide +kernel) dX11_poke_53 rfl (Nat.le_of_ble_eq_true rfl) (ACv.mono (fun σ12 h => ?_) h)
          refine aw_iload dX11_poke_56 rfl ?_
          exact aw_ireturn dX11_poke_58 rfl h
        · replace h := h.2 k9
          refine aw_bipush (x := (-3)) dX11_poke_35 rfl ?_
          exact aw_ireturn dX11_poke_37 rfl h
    · replace h := h.2 k7
      refine aw_iconst (x := (-1)) dX11_poke_22 rfl ?_
      exact aw_ireturn dX11_poke_23 rfl h
set_option maxRecDepth 4000 in
theorem bk_X11_push_0 {g : GP} {l : Launch} {d : Nat} {σ : St} {Q : Option AV → St → Prop} {x0 : Nat} {x1 : Int} {x2 : Int64} {x4 : Int}
    (h : ACr g l d MX11_imageOf 3 [vR 11 (some x0), vI x1] σ (fun v2 σ1 => ((v2 = none → Q (some (vI (-1))) σ1) ∧ (∀ r3, v2 = some r3 → (((gI σ1 303 r3 0) ≤ 0 → ((x4 < 1 → Q (some (vI (-3))) σ1) ∧ (¬ x4 < 1 → ((x4 ≤ 8 → R32 ((gI σ1 304 r3 0) + x4) ∧ ((((gI σ1 304 r3 0) + x4) ≤ 2000 → ACv g l d MX3_append [vR 3 (some r3), vJ x2, vI x4] σ1 (fun σ10 => Q (some (vI (gI σ10 304 r3 0))) σ10)) ∧ (¬ ((gI σ1 304 r3 0) + x4) ≤ 2000 → Q (some (vI (-2))) σ1))) ∧ (¬ x4 ≤ 8 → Q (some (vI (-3))) σ1))))) ∧ (¬ (gI σ1 303 r3 0) ≤ 0 → Q (some (vI (-7))) σ1)))))) :
    AW g l (d + 1) MX11_push 0 [some (vR 11 (some x0)), some (vI x1), some (vJ x2), none, some (vI x4), none] [] σ Q := by
  refine aw_aload_n dX11_push_0 rfl rfl ?_
  refine aw_iload_n dX11_push_1 rfl rfl ?_
  refine aw_invVr (M := MX11_push) (ci := 11) [vI x1] rfl mo_X11_imageOf rfl lm_X11_79 li_X11_imageOf ls_X11_imageOf (by decide +kernel) dX11_push_2 rfl (Nat.le_of_ble_eq_true rfl) (ACr.mono (fun v2 σ1 h => ?_) h)
  refine aw_astore (L' := [some (vR 11 (some x0)), some (vI x1), some (vJ x2), none, some (vI x4), some (vR 3 v2)]) dX11_push_5 (by decide) rfl ?_
  refine aw_aload dX11_push_7 rfl ?_
  refine aw_ifnonnull (tgt := 14) dX11_push_9 (by decide) (fun r3 e4 => ?_) (fun hc => ?_)
  · replace h := h.2 r3 e4
    refine aw_aload dX11_push_14 rfl ?_
    refine aw_getI' e4 fk_303 lf_X11_83 dX11_push_16 ?_
    refine aw_if_le (tgt := 25) dX11_push_19 (by decide) (fun k5 => ?_) (fun k5 => ?_)
    · replace h := h.1 k5
      refine aw_iload dX11_push_25 rfl ?_
      refine aw_iconst (x := 1) dX11_push_27 rfl ?_
      refine aw_icmp_lt (tgt := 38) dX11_push_28 (by decide) (fun k6 => ?_) (fun k6 => ?_)
      · replace h := h.1 k6
        refine aw_bipush (x := (-3)) dX11_push_38 rfl ?_
        exact aw_ireturn dX11_push_40 rfl h
      · replace h := h.2 k6
        refine aw_iload dX11_push_31 rfl ?_
        refine aw_bipush (x := 8) dX11_push_33 rfl ?_
        refine aw_icmp_le (tgt := 41) dX11_push_35 (by decide) (fun k7 => ?_) (fun k7 => ?_)
        · replace h := h.1 k7
          refine aw_aload dX11_push_41 rfl ?_
          refine aw_getI' e4 fk_304 lf_X11_86 dX11_push_43 ?_
          refine aw_iload dX11_push_46 rfl ?_
          obtain ⟨⟨c8, c8x⟩, h⟩ := h
          refine aw_iaddc dX11_push_48 c8 c8x ?_
          refine aw_sipush (x := 2000) dX11_push_49 rfl ?_
          refine aw_icmp_le (tgt := 58) dX11_push_52 (by decide) (fun k9 => ?_) (fun k9 => ?_)
          · replace h := h.1 k9
            refine aw_aload dX11_push_58 rfl ?_
            refine aw_lload_n dX11_push_60 rfl rfl ?_
            refine aw_iload dX11_push_61 rfl ?_
            refine aw_invVv (M := MX11_push) (ci := 3) [vJ x2, vI x4] e4 mo_X3_append rfl lm_X11_89 li_X3_append ls_X3_append (by decide +kernel) dX11_push_63 rfl (Nat.le_of_ble_eq_true rfl) (ACv.mono (fun σ10 h => ?_) h)
            refine aw_aload dX11_push_66 rfl ?_
            refine aw_getI' e4 fk_304 lf_X11_86 dX11_push_68 ?_
            exact aw_ireturn dX11_push_71 rfl h
          · replace h := h.2 k9
            refine aw_bipush (x := (-2)) dX11_push_55 rfl ?_
            exact aw_ireturn dX11_push_57 rfl h
        · replace h := h.2 k7
          refine aw_bipush (x := (-3)) dX11_push_38 rfl ?_
          exact aw_ireturn dX11_push_40 rfl h
    · replace h := h.2 k5
      refine aw_bipush (x := (-7)) dX11_push_22 rfl ?_
      exact aw_ireturn dX11_push_24 rfl h
  · replace h := h.1 hc
    refine aw_iconst (x := (-1)) dX11_push_12 rfl ?_
    exact aw_ireturn dX11_push_13 rfl h
set_option maxRecDepth 4000 in
theorem bk_X11_put_0 {g : GP} {l : Launch} {d : Nat} {σ : St} {Q : Option AV → St → Prop} {x0 : Nat} {x1 : Int} {x2 : Int} {x3 : Int} {x4 : Int}
    (h : ACr g l d MX11_treeOf 10 [vR 11 (some x0), vI x1] σ (fun v2 σ1 => ACr g l d MX11_nodeOf 5 [vR 11 (some x0), vI x1, vI x2] σ1 (fun v4 σ3 => ((v2 = none → Q (some (vI (-1))) σ3) ∧ (∀ r5, v2 = some r5 → ((v4 = none → Q (some (vI (-1))) σ3) ∧ (∀ r7, v4 = some r7 → ((¬ (gI σ3 501 r7 0) = 5 → Q (some (vI (-4))) σ3) ∧ ((gI σ3 501 r7 0) = 5 → ((gR σ3 513 r7 0 = none → Q (some (vI (-4))) σ3) ∧ (∀ r10, gR σ3 513 r7 0 = some r10 → ((¬ (gI σ3 504 r7 0) = 1 → ((¬ (gI σ3 209 r10 0) = (-1) → AW g l (d + 1) MX11_put 91 [none, none, none, some (vI x3), some (vI x4), some (vR 10 v2), some (vR 5 v4), none] [vI 0] σ3 Q) ∧ ((gI σ3 209 r10 0) = (-1) → ((¬ (i2j x4) = (gJ σ3 211 r10 0) → AW g l (d + 1) MX11_put 91 [none, none, none, some (vI x3), some (vI x4), some (vR 10 v2), some (vR 5 v4), none] [vI 0] σ3 Q) ∧ ((i2j x4) = (gJ σ3 211 r10 0) → AW g l (d + 1) MX11_put 91 [none, none, none, some (vI x3), some (vI x4), some (vR 10 v2), some (vR 5 v4), none] [vI 1] σ3 Q))))) ∧ ((gI σ3 504 r7 0) = 1 → Q (some (vI (-5))) σ3))))))))))))) :
    AW g l (d + 1) MX11_put 0 [some (vR 11 (some x0)), some (vI x1), some (vI x2), some (vI x3), some (vI x4), none, none, none] [] σ Q := by
  refine aw_aload_n dX11_put_0 rfl rfl ?_
  refine aw_iload_n dX11_put_1 rfl rfl ?_
  refine aw_invVr (M := MX11_put) (ci := 11) [vI x1] rfl mo_X11_treeOf rfl lm_X11_173 li_X11_treeOf ls_X11_treeOf (by decide +kernel) dX11_put_2 rfl (Nat.le_of_ble_eq_true rfl) (ACr.mono (fun v2 σ1 h => ?_) h)
  refine aw_astore (L' := [some (vR 11 (some x0)), some (vI x1), some (vI x2), some (vI x3), some (vI x4), some (vR 10 v2), none, none]) dX11_put_5 (by decide) rfl ?_
  refine aw_aload_n dX11_put_7 rfl rfl ?_
  refine aw_iload_n dX11_put_8 rfl rfl ?_
  refine aw_iload_n dX11_put_9 rfl rfl ?_
  refine aw_invVr (M := MX11_put) (ci := 11) [vI x1, vI x2] rfl mo_X11_nodeOf rfl lm_X11_188 li_X11_nodeOf ls_X11_nodeOf (by decide +kernel) dX11_put_10 rfl (Nat.le_of_ble_eq_true rfl) (ACr.mono (fun v4 σ3 h => ?_) h)
  refine aw_astore (L' := [some (vR 11 (some x0)), some (vI x1), some (vI x2), some (vI x3), some (vI x4), some (vR 10 v2), some (vR 5 v4), none]) dX11_put_13 (by decide) rfl ?_
  refine aw_aload dX11_put_15 rfl ?_
  refine aw_ifnull (tgt := 25) dX11_put_17 (by decide) (fun hc => ?_) (fun r5 e6 => ?_)
  · replace h := h.1 hc
    refine aw_iconst (x := (-1)) dX11_put_25 rfl ?_
    exact aw_ireturn dX11_put_26 rfl h
  · replace h := h.2 r5 e6
    refine aw_aload dX11_put_20 rfl ?_
    refine aw_ifnonnull (tgt := 27) dX11_put_22 (by decide) (fun r7 e8 => ?_) (fun hc => ?_)
    · replace h := h.2 r7 e8
      refine aw_aload dX11_put_27 rfl ?_
      refine aw_getI' e8 fk_501 lf_X11_192 dX11_put_29 ?_
      refine aw_iconst (x := 5) dX11_put_32 rfl ?_
      refine aw_icmp_ne (tgt := 44) dX11_put_33 (by decide) (fun k9 => ?_) (fun k9 => ?_)
      · replace h := h.1 k9
        refine aw_bipush (x := (-4)) dX11_put_44 rfl ?_
        exact aw_ireturn dX11_put_46 rfl h
      · replace h := h.2 k9
        refine aw_aload dX11_put_36 rfl ?_
        refine aw_getR' (ci := 2) e8 fk_513 (by decide +kernel) lf_X11_237 dX11_put_38 ?_
        refine aw_ifnonnull (tgt := 47) dX11_put_41 (by decide) (fun r10 e11 => ?_) (fun hc => ?_)
        · replace h := h.2 r10 e11
          refine aw_aload dX11_put_47 rfl ?_
          refine aw_getI' e8 fk_504 lf_X11_213 dX11_put_49 ?_
          refine aw_iconst (x := 1) dX11_put_52 rfl ?_
          refine aw_icmp_ne (tgt := 59) dX11_put_53 (by decide) (fun k12 => ?_) (fun k12 => ?_)
          · replace h := h.1 k12
            refine aw_aload dX11_put_59 rfl ?_
            refine aw_getR' (ci := 2) e8 fk_513 (by decide +kernel) lf_X11_237 dX11_put_61 ?_
            refine aw_getI' e11 fk_209 lf_X11_306 dX11_put_64 ?_
            refine aw_iconst (x := (-1)) dX11_put_67 rfl ?_
            refine aw_icmp_ne (tgt := 90) dX11_put_68 (by decide) (fun k13 => ?_) (fun k13 => ?_)
            · replace h := h.1 k13
              refine aw_iconst (x := 0) dX11_put_90 rfl ?_
              exact aw_fgt (L' := [none, none, none, some (vI x3), some (vI x4), some (vR 10 v2), some (vR 5 v4), none]) ⟨rfl, ⟨rfl, ⟨rfl, ⟨rfl, trivial⟩⟩⟩⟩ h
            · replace h := h.2 k13
              refine aw_iload dX11_put_71 rfl ?_
              refine aw_i2l dX11_put_73 ?_
              refine aw_aload dX11_put_74 rfl ?_
              refine aw_getR' (ci := 2) e8 fk_513 (by decide +kernel) lf_X11_237 dX11_put_76 ?_
              refine aw_getJ' e11 fk_211 lf_X11_309 dX11_put_79 ?_
              refine aw_lcmp_ne (M := MX11_put) (tgt := 90) dX11_put_82 dX11_put_83 (by decide) (fun k14 => ?_) (fun k14 => ?_)
              · replace h := h.1 k14
                refine aw_iconst (x := 0) dX11_put_90 rfl ?_
                exact aw_fgt (L' := [none, none, none, some (vI x3), some (vI x4), some (vR 10 v2), some (vR 5 v4), none]) ⟨rfl, ⟨rfl, ⟨rfl, ⟨rfl, trivial⟩⟩⟩⟩ h
              · replace h := h.2 k14
                refine aw_iconst (x := 1) dX11_put_86 rfl ?_
                refine aw_goto (tgt := 91) dX11_put_87 (by decide) ?_
                exact aw_fgt (L' := [none, none, none, some (vI x3), some (vI x4), some (vR 10 v2), some (vR 5 v4), none]) ⟨rfl, ⟨rfl, ⟨rfl, ⟨rfl, trivial⟩⟩⟩⟩ h
          · replace h := h.2 k12
            refine aw_bipush (x := (-5)) dX11_put_56 rfl ?_
            exact aw_ireturn dX11_put_58 rfl h
        · replace h := h.1 hc
          refine aw_bipush (x := (-4)) dX11_put_44 rfl ?_
          exact aw_ireturn dX11_put_46 rfl h
    · replace h := h.1 hc
      refine aw_iconst (x := (-1)) dX11_put_25 rfl ?_
      exact aw_ireturn dX11_put_26 rfl h
set_option maxRecDepth 4000 in
theorem bk_X11_put_91 {g : GP} {l : Launch} {d : Nat} {σ : St} {Q : Option AV → St → Prop} {x3 : Int} {x4 : Int} {x5 : Option Nat} {x6 : Option Nat} {y0 : Int}
    (h : ∃ r1, x6 = some r1 ∧ ACi g l d MX5_hasSign [vR 5 (some r1), vI x3] σ (fun v4 σ3 => ((v4 = 0 → Q (some (vI (-3))) σ3) ∧ (¬ v4 = 0 → ((x4 < 0 → Q (some (vI (-3))) σ3) ∧ (¬ x4 < 0 → ((255 < x4 → Q (some (vI (-3))) σ3) ∧ (¬ 255 < x4 → ((y0 = 0 → ∃ r9, x5 = some r9 ∧ R32 ((gI σ3 502 r1 0) + x3) ∧ ∃ r12, gR σ3 1000 r9 0 = some r12 ∧ ACv g l d MX3_write [vR 3 (some r12), vI ((gI σ3 502 r1 0) + x3), vI 1, vJ (i2j x4), vI 0] σ3 (fun σ14 => Q (some (vI 0)) σ14)) ∧ (¬ y0 = 0 → Q (some (vI (-3))) σ3)))))))))) :
    AW g l (d + 1) MX11_put 91 [none, none, none, some (vI x3), some (vI x4), some (vR 10 x5), some (vR 5 x6), none] [vI y0] σ Q := by
  refine aw_istore (L' := [none, none, none, some (vI x3), some (vI x4), some (vR 10 x5), some (vR 5 x6), some (vI y0)]) dX11_put_91 (by decide) rfl ?_
  refine aw_aload dX11_put_93 rfl ?_
  refine aw_iload_n dX11_put_95 rfl rfl ?_
  obtain ⟨r1, e2, h⟩ := h
  refine aw_invVi (M := MX11_put) (ci := 5) [vI x3] e2 mo_X5_hasSign rfl lm_X11_226 li_X5_hasSign ls_X5_hasSign (by decide +kernel) dX11_put_96 rfl (Nat.le_of_ble_eq_true rfl) (ACi.mono (fun v4 σ3 h => ?_) h)
  refine aw_if_eq (tgt := 120) dX11_put_99 (by decide) (fun k5 => ?_) (fun k5 => ?_)
  · replace h := h.1 k5
    refine aw_bipush (x := (-3)) dX11_put_120 rfl ?_
    exact aw_ireturn dX11_put_122 rfl h
  · replace h := h.2 k5
    refine aw_iload dX11_put_102 rfl ?_
    refine aw_if_lt (tgt := 120) dX11_put_104 (by decide) (fun k6 => ?_) (fun k6 => ?_)
    · replace h := h.1 k6
      refine aw_bipush (x := (-3)) dX11_put_120 rfl ?_
      exact aw_ireturn dX11_put_122 rfl h
    · replace h := h.2 k6
      refine aw_iload dX11_put_107 rfl ?_
      refine aw_sipush (x := 255) dX11_put_109 rfl ?_
      refine aw_icmp_gt (tgt := 120) dX11_put_112 (by decide) (fun k7 => ?_) (fun k7 => ?_)
      · replace h := h.1 k7
        refine aw_bipush (x := (-3)) dX11_put_120 rfl ?_
        exact aw_ireturn dX11_put_122 rfl h
      · replace h := h.2 k7
        refine aw_iload dX11_put_115 rfl ?_
        refine aw_if_eq (tgt := 123) dX11_put_117 (by decide) (fun k8 => ?_) (fun k8 => ?_)
        · replace h := h.1 k8
          refine aw_aload dX11_put_123 rfl ?_
          obtain ⟨r9, e10, h⟩ := h
          refine aw_getR' (ci := 3) e10 fk_1000 (by decide +kernel) lf_X11_177 dX11_put_125 ?_
          refine aw_aload dX11_put_128 rfl ?_
          refine aw_getI' e2 fk_502 lf_X11_197 dX11_put_130 ?_
          refine aw_iload_n dX11_put_133 rfl rfl ?_
          obtain ⟨⟨c11, c11x⟩, h⟩ := h
          refine aw_iaddc dX11_put_134 c11 c11x ?_
          refine aw_iconst (x := 1) dX11_put_135 rfl ?_
          refine aw_iload dX11_put_136 rfl ?_
          refine aw_i2l dX11_put_138 ?_
          refine aw_iconst (x := 0) dX11_put_139 rfl ?_
          obtain ⟨r12, e13, h⟩ := h
          refine aw_invVv (M := MX11_put) (ci := 3) [vI ((gI σ3 502 r1 0) + x3), vI 1, vJ (i2j x4), vI 0] e13 mo_X3_write rfl lm_X11_107 li_X3_write ls_X3_write (by decide +kernel) dX11_put_140 rfl (Nat.le_of_ble_eq_true rfl) (ACv.mono (fun σ14 h => ?_) h)
          refine aw_iconst (x := 0) dX11_put_143 rfl ?_
          exact aw_ireturn dX11_put_144 rfl h
        · replace h := h.2 k8
          refine aw_bipush (x := (-3)) dX11_put_120 rfl ?_
          exact aw_ireturn dX11_put_122 rfl h
set_option maxRecDepth 4000 in
theorem bk_X11_relay_0 {g : GP} {l : Launch} {d : Nat} {σ : St} {Q : Option AV → St → Prop} {x0 : Nat} {x1 : Int}
    (h : ACr g l d MX11_treeOf 10 [vR 11 (some x0), vI x1] σ (fun v2 σ1 => ((v2 = none → Q (some (vI (-1))) σ1) ∧ (∀ r3, v2 = some r3 → ∃ r5, gR σ1 1109 x0 0 = some r5 ∧ ACv g l d MX10_layAll [vR 10 (some r5), vR 3 (gR σ1 1000 r3 0), vI (gI σ1 1001 r3 0), vI (gI σ1 1002 r3 0), vR 1 (gR σ1 1105 x0 0), vR 7 (gR σ1 1104 x0 0)] σ1 (fun σ7 => ∃ r8, gR σ7 1109 x0 0 = some r8 ∧ (((gI σ7 1005 r8 0) = 0 → LC 11 σ7 x0 ∧ Bd x1 6 ∧ Q (some (vI (gI σ7 1004 r8 0))) (sR (sR σ7 1108 x0 x1.toNat (some r8)) 1109 x0 0 v2)) ∧ (¬ (gI σ7 1005 r8 0) = 0 → Q (some (vI (-6))) σ7))))))) :
    AW g l (d + 1) MX11_relay 0 [some (vR 11 (some x0)), some (vI x1), none] [] σ Q := by
  refine aw_aload_n dX11_relay_0 rfl rfl ?_
  refine aw_iload_n dX11_relay_1 rfl rfl ?_
  refine aw_invVr (M := MX11_relay) (ci := 11) [vI x1] rfl mo_X11_treeOf rfl lm_X11_173 li_X11_treeOf ls_X11_treeOf (by decide +kernel) dX11_relay_2 rfl (Nat.le_of_ble_eq_true rfl) (ACr.mono (fun v2 σ1 h => ?_) h)
  refine aw_astore_n (L' := [some (vR 11 (some x0)), some (vI x1), some (vR 10 v2)]) dX11_relay_5 rfl (by decide) rfl ?_
  refine aw_aload_n dX11_relay_6 rfl rfl ?_
  refine aw_ifnonnull (tgt := 12) dX11_relay_7 (by decide) (fun r3 e4 => ?_) (fun hc => ?_)
  · replace h := h.2 r3 e4
    refine aw_aload_n dX11_relay_12 rfl rfl ?_
    refine aw_getR' (ci := 10) rfl fk_1109 (by decide +kernel) lf_X11_60 dX11_relay_13 ?_
    refine aw_aload_n dX11_relay_16 rfl rfl ?_
    refine aw_getR' (ci := 3) e4 fk_1000 (by decide +kernel) lf_X11_177 dX11_relay_17 ?_
    refine aw_aload_n dX11_relay_20 rfl rfl ?_
    refine aw_getI' e4 fk_1001 lf_X11_181 dX11_relay_21 ?_
    refine aw_aload_n dX11_relay_24 rfl rfl ?_
    refine aw_getI' e4 fk_1002 lf_X11_184 dX11_relay_25 ?_
    refine aw_aload_n dX11_relay_28 rfl rfl ?_
    refine aw_getR' (ci := 1) rfl fk_1105 (by decide +kernel) lf_X11_39 dX11_relay_29 ?_
    refine aw_aload_n dX11_relay_32 rfl rfl ?_
    refine aw_getR' (ci := 7) rfl fk_1104 (by decide +kernel) lf_X11_32 dX11_relay_33 ?_
    obtain ⟨r5, e6, h⟩ := h
    refine aw_invVv (M := MX11_relay) (ci := 10) [vR 3 (gR σ1 1000 r3 0), vI (gI σ1 1001 r3 0), vI (gI σ1 1002 r3 0), vR 1 (gR σ1 1105 x0 0), vR 7 (gR σ1 1104 x0 0)] e6 mo_X10_layAll rfl lm_X11_165 li_X10_layAll ls_X10_layAll (by decide +kernel) dX11_relay_36 rfl (Nat.le_of_ble_eq_true rfl) (ACv.mono (fun σ7 h => ?_) h)
    refine aw_aload_n dX11_relay_39 rfl rfl ?_
    refine aw_getR' (ci := 10) rfl fk_1109 (by decide +kernel) lf_X11_60 dX11_relay_40 ?_
    obtain ⟨r8, e9, h⟩ := h
    refine aw_getZ' e9 fk_1005 lf_X11_169 dX11_relay_43 ?_
    refine aw_if_eq (tgt := 52) dX11_relay_46 (by decide) (fun k10 => ?_) (fun k10 => ?_)
    · replace h := h.1 k10
      refine aw_aload_n dX11_relay_52 rfl rfl ?_
      obtain ⟨lc11, h⟩ := h
      refine aw_getA' rfl fk_1108 (by decide) lf_X11_55 dX11_relay_53 (LC.ne lc11 rfl rfl) ?_
      refine aw_iload_n dX11_relay_56 rfl rfl ?_
      refine aw_aload_n dX11_relay_57 rfl rfl ?_
      refine aw_getR' (ci := 10) rfl fk_1109 (by decide +kernel) lf_X11_60 dX11_relay_58 ?_
      obtain ⟨⟨c12, c12x⟩, h⟩ := h
      refine aw_aastore' e9 (by decide) rfl (by decide +kernel) (by decide +kernel) dX11_relay_61 c12 (LC.lt lc11 rfl rfl c12x) ?_
      refine aw_aload_n dX11_relay_62 rfl rfl ?_
      refine aw_aload_n dX11_relay_63 rfl rfl ?_
      refine aw_putR' rfl fk_1109 (by decide +kernel) (Or.inl rfl) lf_X11_60 dX11_relay_64 ?_
      refine aw_aload_n dX11_relay_67 rfl rfl ?_
      refine aw_getA' rfl fk_1108 (by decide) lf_X11_55 dX11_relay_68 (LC.ne lc11 rfl rfl) ?_
      refine aw_iload_n dX11_relay_71 rfl rfl ?_
      refine aw_aaloade (ci := 10) (v := (some r8)) (by decide) rfl (by decide +kernel) dX11_relay_72 c12 (LC.lt lc11 rfl rfl c12x) (gR_slf σ7 1108 x0 x1.toNat (some r8)) ?_
      refine aw_getIe (v := gI σ7 1004 r8 0) rfl fk_1004 lf_X11_187 dX11_relay_73 rfl ?_
      exact aw_ireturn dX11_relay_76 rfl h
    · replace h := h.2 k10
      refine aw_bipush (x := (-6)) dX11_relay_49 rfl ?_
      exact aw_ireturn dX11_relay_51 rfl h
  · replace h := h.1 hc
    refine aw_iconst (x := (-1)) dX11_relay_10 rfl ?_
    exact aw_ireturn dX11_relay_11 rfl h
set_option maxRecDepth 4000 in
theorem bk_X11_search_0 {g : GP} {l : Launch} {d : Nat} {σ : St} {Q : Option AV → St → Prop} {x0 : Nat} {x1 : Int} {x2 : Int64} {x4 : Int} {x5 : Int} {x6 : Int}
    (h : ACr g l d MX11_imageOf 3 [vR 11 (some x0), vI x1] σ (fun v2 σ1 => ((v2 = none → Q (some (vI (-1))) σ1) ∧ (∀ r3, v2 = some r3 → ((x4 < 1 → Q (some (vI (-1))) σ1) ∧ (¬ x4 < 1 → ((x4 ≤ 8 → AW g l (d + 1) MX11_search 30 [some (vR 11 (some x0)), none, some (vJ x2), none, some (vI x4), some (vI x5), some (vI x6), some (vR 3 v2), some (vI 0)] [] σ1 Q) ∧ (¬ x4 ≤ 8 → Q (some (vI (-1))) σ1)))))))) :
    AW g l (d + 1) MX11_search 0 [some (vR 11 (some x0)), some (vI x1), some (vJ x2), none, some (vI x4), some (vI x5), some (vI x6), none, none] [] σ Q := by
  refine aw_aload_n dX11_search_0 rfl rfl ?_
  refine aw_iload_n dX11_search_1 rfl rfl ?_
  refine aw_invVr (M := MX11_search) (ci := 11) [vI x1] rfl mo_X11_imageOf rfl lm_X11_79 li_X11_imageOf ls_X11_imageOf (by decide +kernel) dX11_search_2 rfl (Nat.le_of_ble_eq_true rfl) (ACr.mono (fun v2 σ1 h => ?_) h)
  refine aw_astore (L' := [some (vR 11 (some x0)), some (vI x1), some (vJ x2), none, some (vI x4), some (vI x5), some (vI x6), some (vR 3 v2), none]) dX11_search_5 (by decide) rfl ?_
  refine aw_aload dX11_search_7 rfl ?_
  refine aw_ifnull (tgt := 25) dX11_search_9 (by decide) (fun hc => ?_) (fun r3 e4 => ?_)
  · replace h := h.1 hc
    refine aw_iconst (x := (-1)) dX11_search_25 rfl ?_
    exact aw_ireturn dX11_search_26 rfl h
  · replace h := h.2 r3 e4
    refine aw_iload dX11_search_12 rfl ?_
    refine aw_iconst (x := 1) dX11_search_14 rfl ?_
    refine aw_icmp_lt (tgt := 25) dX11_search_15 (by decide) (fun k5 => ?_) (fun k5 => ?_)
    · replace h := h.1 k5
      refine aw_iconst (x := (-1)) dX11_search_25 rfl ?_
      exact aw_ireturn dX11_search_26 rfl h
    · replace h := h.2 k5
      refine aw_iload dX11_search_18 rfl ?_
      refine aw_bipush (x := 8) dX11_search_20 rfl ?_
      refine aw_icmp_le (tgt := 27) dX11_search_22 (by decide) (fun k6 => ?_) (fun k6 => ?_)
      · replace h := h.1 k6
        refine aw_iconst (x := 0) dX11_search_27 rfl ?_
        refine aw_istore (L' := [some (vR 11 (some x0)), some (vI x1), some (vJ x2), none, some (vI x4), some (vI x5), some (vI x6), some (vR 3 v2), some (vI 0)]) dX11_search_28 (by decide) rfl ?_
        exact aw_fgt (L' := [some (vR 11 (some x0)), none, some (vJ x2), none, some (vI x4), some (vI x5), some (vI x6), some (vR 3 v2), some (vI 0)]) ⟨rfl, ⟨rfl, ⟨rfl, ⟨rfl, ⟨rfl, ⟨rfl, ⟨rfl, trivial⟩⟩⟩⟩⟩⟩⟩ h
      · replace h := h.2 k6
        refine aw_iconst (x := (-1)) dX11_search_25 rfl ?_
        exact aw_ireturn dX11_search_26 rfl h
set_option maxRecDepth 4000 in
theorem bk_X11_search_30 {g : GP} {l : Launch} {d : Nat} {σ : St} {Q : Option AV → St → Prop} {x0 : Nat} {x2 : Int64} {x4 : Int} {x5 : Int} {x6 : Int} {x7 : Option Nat} {x8 : Int}
    (h : ((x4 ≤ x8 → ACi g l d MX11_matchOf [vR 11 (some x0), vR 3 x7, vI x4, vI x6] σ (fun v3 σ2 => Q (some (vI v3)) σ2)) ∧ (¬ x4 ≤ x8 → LC 11 σ x0 ∧ ((x5 = 0 → AW g l (d + 1) MX11_search 61 [some (vR 11 (some x0)), none, some (vJ x2), none, some (vI x4), some (vI x5), some (vI x6), some (vR 3 x7), some (vI x8)] [vI x8, vJ x2, vI x8, vA 1113 x0] σ Q) ∧ (¬ x5 = 0 → R32 (x4 - 1) ∧ R32 ((x4 - 1) - x8) ∧ AW g l (d + 1) MX11_search 61 [some (vR 11 (some x0)), none, some (vJ x2), none, some (vI x4), some (vI x5), some (vI x6), some (vR 3 x7), some (vI x8)] [vI ((x4 - 1) - x8), vJ x2, vI x8, vA 1113 x0] σ Q))))) :
    AW g l (d + 1) MX11_search 30 [some (vR 11 (some x0)), none, some (vJ x2), none, some (vI x4), some (vI x5), some (vI x6), some (vR 3 x7), some (vI x8)] [] σ Q := by
  refine aw_iload dX11_search_30 rfl ?_
  refine aw_iload dX11_search_32 rfl ?_
  refine aw_icmp_ge (tgt := 81) dX11_search_34 (by decide) (fun k1 => ?_) (fun k1 => ?_)
  · replace h := h.1 k1
    refine aw_aload_n dX11_search_81 rfl rfl ?_
    refine aw_aload dX11_search_82 rfl ?_
    refine aw_iload dX11_search_84 rfl ?_
    refine aw_iload dX11_search_86 rfl ?_
    refine aw_invVi (M := MX11_search) (ci := 11) [vR 3 x7, vI x4, vI x6] rfl mo_X11_matchOf rfl lm_X11_318 li_X11_matchOf ls_X11_matchOf (by decide +kernel) dX11_search_88 rfl (Nat.le_of_ble_eq_true rfl) (ACi.mono (fun v3 σ2 h => ?_) h)
    exact aw_ireturn dX11_search_91 rfl h
  · replace h := h.2 k1
    refine aw_aload_n dX11_search_37 rfl rfl ?_
    obtain ⟨lc4, h⟩ := h
    refine aw_getA' rfl fk_1113 (by decide) lf_X11_64 dX11_search_38 (LC.ne lc4 rfl rfl) ?_
    refine aw_iload dX11_search_41 rfl ?_
    refine aw_lload_n dX11_search_43 rfl rfl ?_
    refine aw_iload dX11_search_44 rfl ?_
    refine aw_if_eq (tgt := 59) dX11_search_46 (by decide) (fun k5 => ?_) (fun k5 => ?_)
    · replace h := h.1 k5
      refine aw_iload dX11_search_59 rfl ?_
      exact aw_fgt (L' := [some (vR 11 (some x0)), none, some (vJ x2), none, some (vI x4), some (vI x5), some (vI x6), some (vR 3 x7), some (vI x8)]) ⟨rfl, ⟨rfl, ⟨rfl, ⟨rfl, ⟨rfl, ⟨rfl, ⟨rfl, trivial⟩⟩⟩⟩⟩⟩⟩ h
    · replace h := h.2 k5
      refine aw_iload dX11_search_49 rfl ?_
      refine aw_iconst (x := 1) dX11_search_51 rfl ?_
      obtain ⟨⟨c6, c6x⟩, h⟩ := h
      refine aw_isubc dX11_search_52 c6 c6x ?_
      refine aw_iload dX11_search_53 rfl ?_
      obtain ⟨⟨c7, c7x⟩, h⟩ := h
      refine aw_isubc dX11_search_55 c7 c7x ?_
      refine aw_goto (tgt := 61) dX11_search_56 (by decide) ?_
      exact aw_fgt (L' := [some (vR 11 (some x0)), none, some (vJ x2), none, some (vI x4), some (vI x5), some (vI x6), some (vR 3 x7), some (vI x8)]) ⟨rfl, ⟨rfl, ⟨rfl, ⟨rfl, ⟨rfl, ⟨rfl, ⟨rfl, trivial⟩⟩⟩⟩⟩⟩⟩ h
set_option maxRecDepth 4000 in
theorem bk_X11_search_61 {g : GP} {l : Launch} {d : Nat} {σ : St} {Q : Option AV → St → Prop} {x0 : Nat} {x2 : Int64} {x4 : Int} {x5 : Int} {x6 : Int} {x7 : Option Nat} {x8 : Int} {y0 : Int} {y1 : Int64} {y2 : Int} {y3 : Nat}
    (h : ACi g l d MX11_byteOf [vJ y1, vI y0] σ (fun v2 σ1 => LC 11 σ1 y3 ∧ Bd y2 3000 ∧ LC 11 σ1 x0 ∧ Bd x8 3000 ∧ R32 (x8 + 1) ∧ AW g l (d + 1) MX11_search 30 [some (vR 11 (some x0)), none, some (vJ x2), none, some (vI x4), some (vI x5), some (vI x6), some (vR 3 x7), some (vI (x8 + 1))] [] (sI (sI σ1 1113 y3 y2.toNat v2) 1114 x0 x8.toNat 255) Q)) :
    AW g l (d + 1) MX11_search 61 [some (vR 11 (some x0)), none, some (vJ x2), none, some (vI x4), some (vI x5), some (vI x6), some (vR 3 x7), some (vI x8)] [vI y0, vJ y1, vI y2, vA 1113 y3] σ Q := by
  refine aw_invSi (M := MX11_search) [vJ y1, vI y0] mo_X11_byteOf rfl lm_X11_315 lt_X11_byteOf dX11_search_61 rfl (Nat.le_of_ble_eq_true rfl) (ACi.mono (fun v2 σ1 h => ?_) h)
  obtain ⟨lc3, h⟩ := h
  obtain ⟨⟨c4, c4x⟩, h⟩ := h
  refine aw_iastore (by decide) rfl dX11_search_64 c4 (LC.lt lc3 rfl rfl c4x) ?_
  refine aw_aload_n dX11_search_65 rfl rfl ?_
  obtain ⟨lc5, h⟩ := h
  refine aw_getA' rfl fk_1114 (by decide) lf_X11_68 dX11_search_66 (LC.ne lc5 rfl rfl) ?_
  refine aw_iload dX11_search_69 rfl ?_
  refine aw_sipush (x := 255) dX11_search_71 rfl ?_
  obtain ⟨⟨c6, c6x⟩, h⟩ := h
  refine aw_iastore (by decide) rfl dX11_search_74 c6 (LC.lt lc5 rfl rfl c6x) ?_
  obtain ⟨⟨c7, c7x⟩, h⟩ := h
  refine aw_iincc (L' := [some (vR 11 (some x0)), none, some (vJ x2), none, some (vI x4), some (vI x5), some (vI x6), some (vR 3 x7), some (vI (x8 + 1))]) dX11_search_75 rfl (by decide) rfl c7 c7x rfl ?_
  refine aw_goto (tgt := 30) dX11_search_78 (by decide) ?_
  exact aw_fgt (L' := [some (vR 11 (some x0)), none, some (vJ x2), none, some (vI x4), some (vI x5), some (vI x6), some (vR 3 x7), some (vI (x8 + 1))]) ⟨rfl, ⟨rfl, ⟨rfl, ⟨rfl, ⟨rfl, ⟨rfl, ⟨rfl, trivial⟩⟩⟩⟩⟩⟩⟩ h
set_option maxRecDepth 4000 in
theorem bk_X11_set_0 {g : GP} {l : Launch} {d : Nat} {σ : St} {Q : Option AV → St → Prop} {x0 : Nat} {x1 : Int} {x2 : Int} {x3 : Int64}
    (h : ACr g l d MX11_treeOf 10 [vR 11 (some x0), vI x1] σ (fun v2 σ1 => ACr g l d MX11_nodeOf 5 [vR 11 (some x0), vI x1, vI x2] σ1 (fun v4 σ3 => ((v2 = none → Q (some (vI (-1))) σ3) ∧ (∀ r5, v2 = some r5 → ((v4 = none → Q (some (vI (-1))) σ3) ∧ (∀ r7, v4 = some r7 → ACi g l d MX5_hasNumber [vR 5 (some r7)] σ3 (fun v10 σ9 => ((v10 = 0 → Q (some (vI (-4))) σ9) ∧ (¬ v10 = 0 → ((gR σ9 513 r7 0 = none → Q (some (vI (-4))) σ9) ∧ (∀ r12, gR σ9 513 r7 0 = some r12 → ((¬ (gI σ9 504 r7 0) = 1 → ACi g l d MX5_canHave [vR 5 (some r7), vJ x3] σ9 (fun v16 σ15 => ((¬ v16 = 0 → ((¬ (gI σ15 501 r7 0) = 4 → AW g l (d + 1) MX11_set 123 [none, none, none, none, none, none, some (vR 5 v4), some (vR 3 (gR σ15 1000 r5 0)), some (vR 2 (gR σ15 513 r7 0)), none, none] [vJ x3] σ15 Q) ∧ ((gI σ15 501 r7 0) = 4 → ∃ r19, gR σ15 513 r7 0 = some r19 ∧ ∃ r21, gR σ15 1000 r5 0 = some r21 ∧ ACj g l d MX3_read [vR 3 (some r21), vI (gI σ15 502 r7 0), vI (gI σ15 203 r19 0), vI (gI σ15 205 r19 0)] σ15 (fun v24 σ23 => ACj g l d MX5_withPart [vR 5 (some r7), vJ v24, vJ x3] σ23 (fun v26 σ25 => AW g l (d + 1) MX11_set 123 [none, none, none, none, none, none, some (vR 5 v4), some (vR 3 (gR σ15 1000 r5 0)), some (vR 2 (gR σ15 513 r7 0)), none, none] [vJ v26] σ25 Q))))) ∧ (v16 = 0 → Q (some (vI (-3))) σ15)))) ∧ ((gI σ9 504 r7 0) = 1 → Q (some (vI (-5))) σ9)))))))))))))) :
    AW g l (d + 1) MX11_set 0 [some (vR 11 (some x0)), some (vI x1), some (vI x2), some (vJ x3), none, none, none, none, none, none, none] [] σ Q := by
  refine aw_aload_n dX11_set_0 rfl rfl ?_
  refine aw_iload_n dX11_set_1 rfl rfl ?_
  refine aw_invVr (M := MX11_set) (ci := 11) [vI x1] rfl mo_X11_treeOf rfl lm_X11_173 li_X11_treeOf ls_X11_treeOf (by decide +kernel) dX11_set_2 rfl (Nat.le_of_ble_eq_true rfl) (ACr.mono (fun v2 σ1 h => ?_) h)
  refine aw_astore (L' := [some (vR 11 (some x0)), some (vI x1), some (vI x2), some (vJ x3), none, some (vR 10 v2), none, none, none, none, none]) dX11_set_5 (by decide) rfl ?_
  refine aw_aload_n dX11_set_7 rfl rfl ?_
  refine aw_iload_n dX11_set_8 rfl rfl ?_
  refine aw_iload_n dX11_set_9 rfl rfl ?_
  refine aw_invVr (M := MX11_set) (ci := 11) [vI x1, vI x2] rfl mo_X11_nodeOf rfl lm_X11_188 li_X11_nodeOf ls_X11_nodeOf (by decide +kernel) dX11_set_10 rfl (Nat.le_of_ble_eq_true rfl) (ACr.mono (fun v4 σ3 h => ?_) h)
  refine aw_astore (L' := [some (vR 11 (some x0)), some (vI x1), some (vI x2), some (vJ x3), none, some (vR 10 v2), some (vR 5 v4), none, none, none, none]) dX11_set_13 (by decide) rfl ?_
  refine aw_aload dX11_set_15 rfl ?_
  refine aw_ifnull (tgt := 25) dX11_set_17 (by decide) (fun hc => ?_) (fun r5 e6 => ?_)
  · replace h := h.1 hc
    refine aw_iconst (x := (-1)) dX11_set_25 rfl ?_
    exact aw_ireturn dX11_set_26 rfl h
  · replace h := h.2 r5 e6
    refine aw_aload dX11_set_20 rfl ?_
    refine aw_ifnonnull (tgt := 27) dX11_set_22 (by decide) (fun r7 e8 => ?_) (fun hc => ?_)
    · replace h := h.2 r7 e8
      refine aw_aload dX11_set_27 rfl ?_
      refine aw_invVi (M := MX11_set) (ci := 5) [] e8 mo_X5_hasNumber rfl lm_X11_284 li_X5_hasNumber ls_X5_hasNumber (by decide +kernel) dX11_set_29 rfl (Nat.le_of_ble_eq_true rfl) (ACi.mono (fun v10 σ9 h => ?_) h)
      refine aw_if_eq (tgt := 43) dX11_set_32 (by decide) (fun k11 => ?_) (fun k11 => ?_)
      · replace h := h.1 k11
        refine aw_bipush (x := (-4)) dX11_set_43 rfl ?_
        exact aw_ireturn dX11_set_45 rfl h
      · replace h := h.2 k11
        refine aw_aload dX11_set_35 rfl ?_
        refine aw_getR' (ci := 2) e8 fk_513 (by decide +kernel) lf_X11_237 dX11_set_37 ?_
        refine aw_ifnonnull (tgt := 46) dX11_set_40 (by decide) (fun r12 e13 => ?_) (fun hc => ?_)
        · replace h := h.2 r12 e13
          refine aw_aload dX11_set_46 rfl ?_
          refine aw_getI' e8 fk_504 lf_X11_213 dX11_set_48 ?_
          refine aw_iconst (x := 1) dX11_set_51 rfl ?_
          refine aw_icmp_ne (tgt := 58) dX11_set_52 (by decide) (fun k14 => ?_) (fun k14 => ?_)
          · replace h := h.1 k14
            refine aw_aload dX11_set_58 rfl ?_
            refine aw_lload_n dX11_set_60 rfl rfl ?_
            refine aw_invVi (M := MX11_set) (ci := 5) [vJ x3] e8 mo_X5_canHave rfl lm_X11_288 li_X5_canHave ls_X5_canHave (by decide +kernel) dX11_set_61 rfl (Nat.le_of_ble_eq_true rfl) (ACi.mono (fun v16 σ15 h => ?_) h)
            refine aw_if_ne (tgt := 70) dX11_set_64 (by decide) (fun k17 => ?_) (fun k17 => ?_)
            · replace h := h.1 k17
              refine aw_aload dX11_set_70 rfl ?_
              refine aw_getR' (ci := 3) e6 fk_1000 (by decide +kernel) lf_X11_177 dX11_set_72 ?_
              refine aw_astore (L' := [some (vR 11 (some x0)), some (vI x1), some (vI x2), some (vJ x3), none, some (vR 10 v2), some (vR 5 v4), some (vR 3 (gR σ15 1000 r5 0)), none, none, none]) dX11_set_75 (by decide) rfl ?_
              refine aw_aload dX11_set_77 rfl ?_
              refine aw_getR' (ci := 2) e8 fk_513 (by decide +kernel) lf_X11_237 dX11_set_79 ?_
              refine aw_astore (L' := [some (vR 11 (some x0)), some (vI x1), some (vI x2), some (vJ x3), none, some (vR 10 v2), some (vR 5 v4), some (vR 3 (gR σ15 1000 r5 0)), some (vR 2 (gR σ15 513 r7 0)), none, none]) dX11_set_82 (by decide) rfl ?_
              refine aw_aload dX11_set_84 rfl ?_
              refine aw_getI' e8 fk_501 lf_X11_192 dX11_set_86 ?_
              refine aw_iconst (x := 4) dX11_set_89 rfl ?_
              refine aw_icmp_ne (tgt := 122) dX11_set_90 (by decide) (fun k18 => ?_) (fun k18 => ?_)
              · replace h := h.1 k18
                refine aw_lload_n dX11_set_122 rfl rfl ?_
                exact aw_fgt (L' := [none, none, none, none, none, none, some (vR 5 v4), some (vR 3 (gR σ15 1000 r5 0)), some (vR 2 (gR σ15 513 r7 0)), none, none]) ⟨rfl, ⟨rfl, ⟨rfl, trivial⟩⟩⟩ h
              · replace h := h.2 k18
                refine aw_aload dX11_set_93 rfl ?_
                refine aw_aload dX11_set_95 rfl ?_
                refine aw_aload dX11_set_97 rfl ?_
                refine aw_getI' e8 fk_502 lf_X11_197 dX11_set_99 ?_
                refine aw_aload dX11_set_102 rfl ?_
                obtain ⟨r19, e20, h⟩ := h
                refine aw_getI' e20 fk_203 lf_X11_292 dX11_set_104 ?_
                refine aw_aload dX11_set_107 rfl ?_
                refine aw_getZ' e20 fk_205 lf_X11_295 dX11_set_109 ?_
                obtain ⟨r21, e22, h⟩ := h
                refine aw_invVj (M := MX11_set) (ci := 3) [vI (gI σ15 502 r7 0), vI (gI σ15 203 r19 0), vI (gI σ15 205 r19 0)] e22 mo_X3_read rfl lm_X11_298 li_X3_read ls_X3_read (by decide +kernel) dX11_set_112 rfl (Nat.le_of_ble_eq_true rfl) (ACj.mono (fun v24 σ23 h => ?_) h)
                refine aw_lload_n dX11_set_115 rfl rfl ?_
                refine aw_invVj (M := MX11_set) (ci := 5) [vJ v24, vJ x3] e8 mo_X5_withPart rfl lm_X11_302 li_X5_withPart ls_X5_withPart (by decide +kernel) dX11_set_116 rfl (Nat.le_of_ble_eq_true rfl) (ACj.mono (fun v26 σ25 h => ?_) h)
                refine aw_goto (tgt := 123) dX11_set_119 (by decide) ?_
                exact aw_fgt (L' := [none, none, none, none, none, none, some (vR 5 v4), some (vR 3 (gR σ15 1000 r5 0)), some (vR 2 (gR σ15 513 r7 0)), none, none]) ⟨rfl, ⟨rfl, ⟨rfl, trivial⟩⟩⟩ h
            · replace h := h.2 k17
              refine aw_bipush (x := (-3)) dX11_set_67 rfl ?_
              exact aw_ireturn dX11_set_69 rfl h
          · replace h := h.2 k14
            refine aw_bipush (x := (-5)) dX11_set_55 rfl ?_
            exact aw_ireturn dX11_set_57 rfl h
        · replace h := h.1 hc
          refine aw_bipush (x := (-4)) dX11_set_43 rfl ?_
          exact aw_ireturn dX11_set_45 rfl h
    · replace h := h.1 hc
      refine aw_iconst (x := (-1)) dX11_set_25 rfl ?_
      exact aw_ireturn dX11_set_26 rfl h
set_option maxRecDepth 4000 in
theorem bk_X11_set_123 {g : GP} {l : Launch} {d : Nat} {σ : St} {Q : Option AV → St → Prop} {x6 : Option Nat} {x7 : Option Nat} {x8 : Option Nat} {y0 : Int64}
    (h : ∃ r1, x6 = some r1 ∧ ∃ r3, x8 = some r3 ∧ ∃ r5, x7 = some r5 ∧ ACv g l d MX3_write [vR 3 (some r5), vI (gI σ 502 r1 0), vI (gI σ 203 r3 0), vJ y0, vI (gI σ 205 r3 0)] σ (fun σ7 => Q (some (vI 0)) σ7)) :
    AW g l (d + 1) MX11_set 123 [none, none, none, none, none, none, some (vR 5 x6), some (vR 3 x7), some (vR 2 x8), none, none] [vJ y0] σ Q := by
  refine aw_lstore (L' := [none, none, none, none, none, none, some (vR 5 x6), some (vR 3 x7), some (vR 2 x8), some (vJ y0), none]) dX11_set_123 (by decide) rfl ?_
  refine aw_aload dX11_set_125 rfl ?_
  refine aw_aload dX11_set_127 rfl ?_
  obtain ⟨r1, e2, h⟩ := h
  refine aw_getI' e2 fk_502 lf_X11_197 dX11_set_129 ?_
  refine aw_aload dX11_set_132 rfl ?_
  obtain ⟨r3, e4, h⟩ := h
  refine aw_getI' e4 fk_203 lf_X11_292 dX11_set_134 ?_
  refine aw_lload dX11_set_137 rfl ?_
  refine aw_aload dX11_set_139 rfl ?_
  refine aw_getZ' e4 fk_205 lf_X11_295 dX11_set_141 ?_
  obtain ⟨r5, e6, h⟩ := h
  refine aw_invVv (M := MX11_set) (ci := 3) [vI (gI σ 502 r1 0), vI (gI σ 203 r3 0), vJ y0, vI (gI σ 205 r3 0)] e6 mo_X3_write rfl lm_X11_107 li_X3_write ls_X3_write (by decide +kernel) dX11_set_144 rfl (Nat.le_of_ble_eq_true rfl) (ACv.mono (fun σ7 h => ?_) h)
  refine aw_iconst (x := 0) dX11_set_147 rfl ?_
  exact aw_ireturn dX11_set_148 rfl h
set_option maxRecDepth 4000 in
theorem bk_X11_sign_0 {g : GP} {l : Launch} {d : Nat} {σ : St} {Q : Option AV → St → Prop} {x0 : Nat} {x1 : Int} {x2 : Int} {x3 : Int}
    (h : ACr g l d MX11_treeOf 10 [vR 11 (some x0), vI x1] σ (fun v2 σ1 => ACr g l d MX11_nodeOf 5 [vR 11 (some x0), vI x1, vI x2] σ1 (fun v4 σ3 => ((v2 = none → Q (some (vI (-1))) σ3) ∧ (∀ r5, v2 = some r5 → ((v4 = none → Q (some (vI (-1))) σ3) ∧ (∀ r7, v4 = some r7 → ACi g l d MX5_hasSign [vR 5 (some r7), vI x3] σ3 (fun v10 σ9 => ((¬ v10 = 0 → R32 ((gI σ9 502 r7 0) + x3) ∧ ∃ r13, gR σ9 1000 r5 0 = some r13 ∧ ACi g l d MX3_has [vR 3 (some r13), vI ((gI σ9 502 r7 0) + x3)] σ9 (fun v16 σ15 => Q (some (vI v16)) σ15)) ∧ (v10 = 0 → Q (some (vI (-1))) σ9)))))))))) :
    AW g l (d + 1) MX11_sign 0 [some (vR 11 (some x0)), some (vI x1), some (vI x2), some (vI x3), none, none] [] σ Q := by
  refine aw_aload_n dX11_sign_0 rfl rfl ?_
  refine aw_iload_n dX11_sign_1 rfl rfl ?_
  refine aw_invVr (M := MX11_sign) (ci := 11) [vI x1] rfl mo_X11_treeOf rfl lm_X11_173 li_X11_treeOf ls_X11_treeOf (by decide +kernel) dX11_sign_2 rfl (Nat.le_of_ble_eq_true rfl) (ACr.mono (fun v2 σ1 h => ?_) h)
  refine aw_astore (L' := [some (vR 11 (some x0)), some (vI x1), some (vI x2), some (vI x3), some (vR 10 v2), none]) dX11_sign_5 (by decide) rfl ?_
  refine aw_aload_n dX11_sign_7 rfl rfl ?_
  refine aw_iload_n dX11_sign_8 rfl rfl ?_
  refine aw_iload_n dX11_sign_9 rfl rfl ?_
  refine aw_invVr (M := MX11_sign) (ci := 11) [vI x1, vI x2] rfl mo_X11_nodeOf rfl lm_X11_188 li_X11_nodeOf ls_X11_nodeOf (by decide +kernel) dX11_sign_10 rfl (Nat.le_of_ble_eq_true rfl) (ACr.mono (fun v4 σ3 h => ?_) h)
  refine aw_astore (L' := [some (vR 11 (some x0)), some (vI x1), some (vI x2), some (vI x3), some (vR 10 v2), some (vR 5 v4)]) dX11_sign_13 (by decide) rfl ?_
  refine aw_aload dX11_sign_15 rfl ?_
  refine aw_ifnull (tgt := 34) dX11_sign_17 (by decide) (fun hc => ?_) (fun r5 e6 => ?_)
  · replace h := h.1 hc
    refine aw_iconst (x := (-1)) dX11_sign_34 rfl ?_
    exact aw_ireturn dX11_sign_35 rfl h
  · replace h := h.2 r5 e6
    refine aw_aload dX11_sign_20 rfl ?_
    refine aw_ifnull (tgt := 34) dX11_sign_22 (by decide) (fun hc => ?_) (fun r7 e8 => ?_)
    · replace h := h.1 hc
      refine aw_iconst (x := (-1)) dX11_sign_34 rfl ?_
      exact aw_ireturn dX11_sign_35 rfl h
    · replace h := h.2 r7 e8
      refine aw_aload dX11_sign_25 rfl ?_
      refine aw_iload_n dX11_sign_27 rfl rfl ?_
      refine aw_invVi (M := MX11_sign) (ci := 5) [vI x3] e8 mo_X5_hasSign rfl lm_X11_226 li_X5_hasSign ls_X5_hasSign (by decide +kernel) dX11_sign_28 rfl (Nat.le_of_ble_eq_true rfl) (ACi.mono (fun v10 σ9 h => ?_) h)
      refine aw_if_ne (tgt := 36) dX11_sign_31 (by decide) (fun k11 => ?_) (fun k11 => ?_)
      · replace h := h.1 k11
        refine aw_aload dX11_sign_36 rfl ?_
        refine aw_getR' (ci := 3) e6 fk_1000 (by decide +kernel) lf_X11_177 dX11_sign_38 ?_
        refine aw_aload dX11_sign_41 rfl ?_
        refine aw_getI' e8 fk_502 lf_X11_197 dX11_sign_43 ?_
        refine aw_iload_n dX11_sign_46 rfl rfl ?_
        obtain ⟨⟨c12, c12x⟩, h⟩ := h
        refine aw_iaddc dX11_sign_47 c12 c12x ?_
        obtain ⟨r13, e14, h⟩ := h
        refine aw_invVi (M := MX11_sign) (ci := 3) [vI ((gI σ9 502 r7 0) + x3)] e14 mo_X3_has rfl lm_X11_93 li_X3_has ls_X3_has (by decide +kernel) dX11_sign_48 rfl (Nat.le_of_ble_eq_true rfl) (ACi.mono (fun v16 σ15 h => ?_) h)
        exact aw_ireturn dX11_sign_51 rfl h
      · replace h := h.2 k11
        refine aw_iconst (x := (-1)) dX11_sign_34 rfl ?_
        exact aw_ireturn dX11_sign_35 rfl h
set_option maxRecDepth 4000 in
theorem bk_X11_size_0 {g : GP} {l : Launch} {d : Nat} {σ : St} {Q : Option AV → St → Prop} {x0 : Nat} {x1 : Int}
    (h : ACi g l d MX11_isStructure [vR 11 (some x0), vI x1] σ (fun v2 σ1 => ((¬ v2 = 0 → ∃ r4, gR σ1 1105 x0 0 = some r4 ∧ LC 1 σ1 r4 ∧ Bd x1 20 ∧ ∃ r8, gR σ1 100 r4 x1.toNat = some r8 ∧ ((¬ (gI σ1 803 r8 0) = (-1) → Q (some (vI (gI σ1 803 r8 0))) σ1) ∧ ((gI σ1 803 r8 0) = (-1) → Q (some (vI (-3))) σ1))) ∧ (v2 = 0 → Q (some (vI (-1))) σ1)))) :
    AW g l (d + 1) MX11_size 0 [some (vR 11 (some x0)), some (vI x1), none] [] σ Q := by
  refine aw_aload_n dX11_size_0 rfl rfl ?_
  refine aw_iload_n dX11_size_1 rfl rfl ?_
  refine aw_invVi (M := MX11_size) (ci := 11) [vI x1] rfl mo_X11_isStructure rfl lm_X11_149 li_X11_isStructure ls_X11_isStructure (by decide +kernel) dX11_size_2 rfl (Nat.le_of_ble_eq_true rfl) (ACi.mono (fun v2 σ1 h => ?_) h)
  refine aw_if_ne (tgt := 10) dX11_size_5 (by decide) (fun k3 => ?_) (fun k3 => ?_)
  · replace h := h.1 k3
    refine aw_aload_n dX11_size_10 rfl rfl ?_
    refine aw_getR' (ci := 1) rfl fk_1105 (by decide +kernel) lf_X11_39 dX11_size_11 ?_
    obtain ⟨r4, e5, h⟩ := h
    obtain ⟨lc6, h⟩ := h
    refine aw_getA' e5 fk_100 (by decide) lf_X11_153 dX11_size_14 (LC.ne lc6 rfl rfl) ?_
    refine aw_iload_n dX11_size_17 rfl rfl ?_
    obtain ⟨⟨c7, c7x⟩, h⟩ := h
    refine aw_aaload (ci := 8) (by decide) rfl (by decide +kernel) dX11_size_18 c7 (LC.lt lc6 rfl rfl c7x) ?_
    obtain ⟨r8, e9, h⟩ := h
    refine aw_getI' e9 fk_803 lf_X11_157 dX11_size_19 ?_
    refine aw_istore_n (L' := [some (vR 11 (some x0)), some (vI x1), some (vI (gI σ1 803 r8 0))]) dX11_size_22 rfl (by decide) rfl ?_
    refine aw_iload_n dX11_size_23 rfl rfl ?_
    refine aw_iconst (x := (-1)) dX11_size_24 rfl ?_
    refine aw_icmp_ne (tgt := 33) dX11_size_25 (by decide) (fun k10 => ?_) (fun k10 => ?_)
    · replace h := h.1 k10
      refine aw_iload_n dX11_size_33 rfl rfl ?_
      exact aw_ireturn dX11_size_34 rfl h
    · replace h := h.2 k10
      refine aw_bipush (x := (-3)) dX11_size_28 rfl ?_
      refine aw_goto (tgt := 34) dX11_size_30 (by decide) ?_
      exact aw_ireturn dX11_size_34 rfl h
  · replace h := h.2 k3
    refine aw_iconst (x := (-1)) dX11_size_8 rfl ?_
    exact aw_ireturn dX11_size_9 rfl h
set_option maxRecDepth 4000 in
theorem bk_X11_stretchOf_0 {g : GP} {l : Launch} {d : Nat} {σ : St} {Q : Option AV → St → Prop} {x0 : Nat} {x1 : Int} {x2 : Int} {x3 : Int}
    (h : AW g l d MX11_stretchOf 9 [some (vR 11 (some x0)), some (vI x1), some (vI x2), some (vI x3), some (vI x2), some (vI (-1)), some (vI 0), none] [] σ Q) :
    AW g l d MX11_stretchOf 0 [some (vR 11 (some x0)), some (vI x1), some (vI x2), some (vI x3), none, none, none, none] [] σ Q := by
  refine aw_iload_n dX11_stretchOf_0 rfl rfl ?_
  refine aw_istore (L' := [some (vR 11 (some x0)), some (vI x1), some (vI x2), some (vI x3), some (vI x2), none, none, none]) dX11_stretchOf_1 (by decide) rfl ?_
  refine aw_iconst (x := (-1)) dX11_stretchOf_3 rfl ?_
  refine aw_istore (L' := [some (vR 11 (some x0)), some (vI x1), some (vI x2), some (vI x3), some (vI x2), some (vI (-1)), none, none]) dX11_stretchOf_4 (by decide) rfl ?_
  refine aw_iconst (x := 0) dX11_stretchOf_6 rfl ?_
  refine aw_istore (L' := [some (vR 11 (some x0)), some (vI x1), some (vI x2), some (vI x3), some (vI x2), some (vI (-1)), some (vI 0), none]) dX11_stretchOf_7 (by decide) rfl ?_
  exact aw_fgt (L' := [some (vR 11 (some x0)), some (vI x1), some (vI x2), some (vI x3), some (vI x2), some (vI (-1)), some (vI 0), none]) ⟨rfl, ⟨rfl, ⟨rfl, ⟨rfl, ⟨rfl, ⟨rfl, ⟨rfl, trivial⟩⟩⟩⟩⟩⟩⟩ h
set_option maxRecDepth 4000 in
theorem bk_X11_stretchOf_9 {g : GP} {l : Launch} {d : Nat} {σ : St} {Q : Option AV → St → Prop} {x0 : Nat} {x1 : Int} {x2 : Int} {x3 : Int} {x4 : Int} {x5 : Int} {x6 : Int}
    (h : ((x1 < x6 → Q (some (vI (-1))) σ) ∧ (¬ x1 < x6 → ((x2 < 0 → Q (some (vI (-1))) σ) ∧ (¬ x2 < 0 → ((x3 = 0 → AW g l d MX11_stretchOf 28 [some (vR 11 (some x0)), some (vI x1), some (vI x2), some (vI x3), some (vI x4), some (vI x5), some (vI x6), none] [] σ Q) ∧ (¬ x3 = 0 → ((¬ x3 = 1 → Q (some (vI (-1))) σ) ∧ (x3 = 1 → AW g l d MX11_stretchOf 28 [some (vR 11 (some x0)), some (vI x1), some (vI x2), some (vI x3), some (vI x4), some (vI x5), some (vI x6), none] [] σ Q))))))))) :
    AW g l d MX11_stretchOf 9 [some (vR 11 (some x0)), some (vI x1), some (vI x2), some (vI x3), some (vI x4), some (vI x5), some (vI x6), none] [] σ Q := by
  refine aw_iload dX11_stretchOf_9 rfl ?_
  refine aw_iload_n dX11_stretchOf_11 rfl rfl ?_
  refine aw_icmp_gt (tgt := 106) dX11_stretchOf_12 (by decide) (fun k1 => ?_) (fun k1 => ?_)
  · replace h := h.1 k1
    refine aw_iconst (x := (-1)) dX11_stretchOf_106 rfl ?_
    exact aw_ireturn dX11_stretchOf_107 rfl h
  · replace h := h.2 k1
    refine aw_iload_n dX11_stretchOf_15 rfl rfl ?_
    refine aw_if_lt (tgt := 106) dX11_stretchOf_16 (by decide) (fun k2 => ?_) (fun k2 => ?_)
    · replace h := h.1 k2
      refine aw_iconst (x := (-1)) dX11_stretchOf_106 rfl ?_
      exact aw_ireturn dX11_stretchOf_107 rfl h
    · replace h := h.2 k2
      refine aw_iload_n dX11_stretchOf_19 rfl rfl ?_
      refine aw_if_eq (tgt := 28) dX11_stretchOf_20 (by decide) (fun k3 => ?_) (fun k3 => ?_)
      · replace h := h.1 k3
        exact aw_fgt (L' := [some (vR 11 (some x0)), some (vI x1), some (vI x2), some (vI x3), some (vI x4), some (vI x5), some (vI x6), none]) ⟨rfl, ⟨rfl, ⟨rfl, ⟨rfl, ⟨rfl, ⟨rfl, ⟨rfl, trivial⟩⟩⟩⟩⟩⟩⟩ h
      · replace h := h.2 k3
        refine aw_iload_n dX11_stretchOf_23 rfl rfl ?_
        refine aw_iconst (x := 1) dX11_stretchOf_24 rfl ?_
        refine aw_icmp_ne (tgt := 106) dX11_stretchOf_25 (by decide) (fun k4 => ?_) (fun k4 => ?_)
        · replace h := h.1 k4
          refine aw_iconst (x := (-1)) dX11_stretchOf_106 rfl ?_
          exact aw_ireturn dX11_stretchOf_107 rfl h
        · replace h := h.2 k4
          exact aw_fgt (L' := [some (vR 11 (some x0)), some (vI x1), some (vI x2), some (vI x3), some (vI x4), some (vI x5), some (vI x6), none]) ⟨rfl, ⟨rfl, ⟨rfl, ⟨rfl, ⟨rfl, ⟨rfl, ⟨rfl, trivial⟩⟩⟩⟩⟩⟩⟩ h
set_option maxRecDepth 4000 in
theorem bk_X11_stretchOf_28 {g : GP} {l : Launch} {d : Nat} {σ : St} {Q : Option AV → St → Prop} {x0 : Nat} {x1 : Int} {x2 : Int} {x3 : Int} {x4 : Int} {x5 : Int} {x6 : Int}
    (h : ((x1 ≤ x6 → (((0 : Int) = 0 → AW g l d MX11_stretchOf 66 [some (vR 11 (some x0)), some (vI x1), some (vI x2), some (vI x3), some (vI x4), some (vI x5), some (vI x6), some (vI 0)] [] σ Q) ∧ (¬ (0 : Int) = 0 → ((¬ x5 = (-1) → AW g l d MX11_stretchOf 66 [some (vR 11 (some x0)), some (vI x1), some (vI x2), some (vI x3), some (vI x4), some (vI x5), some (vI x6), some (vI 0)] [] σ Q) ∧ (x5 = (-1) → AW g l d MX11_stretchOf 66 [some (vR 11 (some x0)), some (vI x1), some (vI x2), some (vI x3), some (vI x4), some (vI x6), some (vI x6), some (vI 0)] [] σ Q))))) ∧ (¬ x1 ≤ x6 → LC 11 σ x0 ∧ Bd x6 2001 ∧ (((gI σ 1115 x0 x6.toNat) = 0 → (((0 : Int) = 0 → AW g l d MX11_stretchOf 66 [some (vR 11 (some x0)), some (vI x1), some (vI x2), some (vI x3), some (vI x4), some (vI x5), some (vI x6), some (vI 0)] [] σ Q) ∧ (¬ (0 : Int) = 0 → ((¬ x5 = (-1) → AW g l d MX11_stretchOf 66 [some (vR 11 (some x0)), some (vI x1), some (vI x2), some (vI x3), some (vI x4), some (vI x5), some (vI x6), some (vI 0)] [] σ Q) ∧ (x5 = (-1) → AW g l d MX11_stretchOf 66 [some (vR 11 (some x0)), some (vI x1), some (vI x2), some (vI x3), some (vI x4), some (vI x6), some (vI x6), some (vI 0)] [] σ Q))))) ∧ (¬ (gI σ 1115 x0 x6.toNat) = 0 → (((1 : Int) = 0 → AW g l d MX11_stretchOf 66 [some (vR 11 (some x0)), some (vI x1), some (vI x2), some (vI x3), some (vI x4), some (vI x5), some (vI x6), some (vI 1)] [] σ Q) ∧ (¬ (1 : Int) = 0 → ((¬ x5 = (-1) → AW g l d MX11_stretchOf 66 [some (vR 11 (some x0)), some (vI x1), some (vI x2), some (vI x3), some (vI x4), some (vI x5), some (vI x6), some (vI 1)] [] σ Q) ∧ (x5 = (-1) → AW g l d MX11_stretchOf 66 [some (vR 11 (some x0)), some (vI x1), some (vI x2), some (vI x3), some (vI x4), some (vI x6), some (vI x6), some (vI 1)] [] σ Q))))))))) :
    AW g l d MX11_stretchOf 28 [some (vR 11 (some x0)), some (vI x1), some (vI x2), some (vI x3), some (vI x4), some (vI x5), some (vI x6), none] [] σ Q := by
  refine aw_iload dX11_stretchOf_28 rfl ?_
  refine aw_iload_n dX11_stretchOf_30 rfl rfl ?_
  refine aw_icmp_ge (tgt := 48) dX11_stretchOf_31 (by decide) (fun k1 => ?_) (fun k1 => ?_)
  · replace h := h.1 k1
    refine aw_iconst (x := 0) dX11_stretchOf_48 rfl ?_
    refine aw_istore (L' := [some (vR 11 (some x0)), some (vI x1), some (vI x2), some (vI x3), some (vI x4), some (vI x5), some (vI x6), some (vI 0)]) dX11_stretchOf_49 (by decide) rfl ?_
    refine aw_iload dX11_stretchOf_51 rfl ?_
    refine aw_if_eq (tgt := 66) dX11_stretchOf_53 (by decide) (fun k2 => ?_) (fun k2 => ?_)
    · replace h := h.1 k2
      exact aw_fgt (L' := [some (vR 11 (some x0)), some (vI x1), some (vI x2), some (vI x3), some (vI x4), some (vI x5), some (vI x6), some (vI 0)]) ⟨rfl, ⟨rfl, ⟨rfl, ⟨rfl, ⟨rfl, ⟨rfl, ⟨rfl, ⟨rfl, trivial⟩⟩⟩⟩⟩⟩⟩⟩ h
    · replace h := h.2 k2
      refine aw_iload dX11_stretchOf_56 rfl ?_
      refine aw_iconst (x := (-1)) dX11_stretchOf_58 rfl ?_
      refine aw_icmp_ne (tgt := 66) dX11_stretchOf_59 (by decide) (fun k3 => ?_) (fun k3 => ?_)
      · replace h := h.1 k3
        exact aw_fgt (L' := [some (vR 11 (some x0)), some (vI x1), some (vI x2), some (vI x3), some (vI x4), some (vI x5), some (vI x6), some (vI 0)]) ⟨rfl, ⟨rfl, ⟨rfl, ⟨rfl, ⟨rfl, ⟨rfl, ⟨rfl, ⟨rfl, trivial⟩⟩⟩⟩⟩⟩⟩⟩ h
      · replace h := h.2 k3
        refine aw_iload dX11_stretchOf_62 rfl ?_
        refine aw_istore (L' := [some (vR 11 (some x0)), some (vI x1), some (vI x2), some (vI x3), some (vI x4), some (vI x6), some (vI x6), some (vI 0)]) dX11_stretchOf_64 (by decide) rfl ?_
        exact aw_fgt (L' := [some (vR 11 (some x0)), some (vI x1), some (vI x2), some (vI x3), some (vI x4), some (vI x6), some (vI x6), some (vI 0)]) ⟨rfl, ⟨rfl, ⟨rfl, ⟨rfl, ⟨rfl, ⟨rfl, ⟨rfl, ⟨rfl, trivial⟩⟩⟩⟩⟩⟩⟩⟩ h
  · replace h := h.2 k1
    refine aw_aload_n dX11_stretchOf_34 rfl rfl ?_
    obtain ⟨lc4, h⟩ := h
    refine aw_getA' rfl fk_1115 (by decide) lf_X11_71 dX11_stretchOf_35 (LC.ne lc4 rfl rfl) ?_
    refine aw_iload dX11_stretchOf_38 rfl ?_
    obtain ⟨⟨c5, c5x⟩, h⟩ := h
    refine aw_iaload (by decide) rfl dX11_stretchOf_40 c5 (LC.lt lc4 rfl rfl c5x) ?_
    refine aw_if_eq (tgt := 48) dX11_stretchOf_41 (by decide) (fun k6 => ?_) (fun k6 => ?_)
    · replace h := h.1 k6
      refine aw_iconst (x := 0) dX11_stretchOf_48 rfl ?_
      refine aw_istore (L' := [some (vR 11 (some x0)), some (vI x1), some (vI x2), some (vI x3), some (vI x4), some (vI x5), some (vI x6), some (vI 0)]) dX11_stretchOf_49 (by decide) rfl ?_
      refine aw_iload dX11_stretchOf_51 rfl ?_
      refine aw_if_eq (tgt := 66) dX11_stretchOf_53 (by decide) (fun k7 => ?_) (fun k7 => ?_)
      · replace h := h.1 k7
        exact aw_fgt (L' := [some (vR 11 (some x0)), some (vI x1), some (vI x2), some (vI x3), some (vI x4), some (vI x5), some (vI x6), some (vI 0)]) ⟨rfl, ⟨rfl, ⟨rfl, ⟨rfl, ⟨rfl, ⟨rfl, ⟨rfl, ⟨rfl, trivial⟩⟩⟩⟩⟩⟩⟩⟩ h
      · replace h := h.2 k7
        refine aw_iload dX11_stretchOf_56 rfl ?_
        refine aw_iconst (x := (-1)) dX11_stretchOf_58 rfl ?_
        refine aw_icmp_ne (tgt := 66) dX11_stretchOf_59 (by decide) (fun k8 => ?_) (fun k8 => ?_)
        · replace h := h.1 k8
          exact aw_fgt (L' := [some (vR 11 (some x0)), some (vI x1), some (vI x2), some (vI x3), some (vI x4), some (vI x5), some (vI x6), some (vI 0)]) ⟨rfl, ⟨rfl, ⟨rfl, ⟨rfl, ⟨rfl, ⟨rfl, ⟨rfl, ⟨rfl, trivial⟩⟩⟩⟩⟩⟩⟩⟩ h
        · replace h := h.2 k8
          refine aw_iload dX11_stretchOf_62 rfl ?_
          refine aw_istore (L' := [some (vR 11 (some x0)), some (vI x1), some (vI x2), some (vI x3), some (vI x4), some (vI x6), some (vI x6), some (vI 0)]) dX11_stretchOf_64 (by decide) rfl ?_
          exact aw_fgt (L' := [some (vR 11 (some x0)), some (vI x1), some (vI x2), some (vI x3), some (vI x4), some (vI x6), some (vI x6), some (vI 0)]) ⟨rfl, ⟨rfl, ⟨rfl, ⟨rfl, ⟨rfl, ⟨rfl, ⟨rfl, ⟨rfl, trivial⟩⟩⟩⟩⟩⟩⟩⟩ h
    · replace h := h.2 k6
      refine aw_iconst (x := 1) dX11_stretchOf_44 rfl ?_
      refine aw_goto (tgt := 49) dX11_stretchOf_45 (by decide) ?_
      refine aw_istore (L' := [some (vR 11 (some x0)), some (vI x1), some (vI x2), some (vI x3), some (vI x4), some (vI x5), some (vI x6), some (vI 1)]) dX11_stretchOf_49 (by decide) rfl ?_
      refine aw_iload dX11_stretchOf_51 rfl ?_
      refine aw_if_eq (tgt := 66) dX11_stretchOf_53 (by decide) (fun k9 => ?_) (fun k9 => ?_)
      · replace h := h.1 k9
        exact aw_fgt (L' := [some (vR 11 (some x0)), some (vI x1), some (vI x2), some (vI x3), some (vI x4), some (vI x5), some (vI x6), some (vI 1)]) ⟨rfl, ⟨rfl, ⟨rfl, ⟨rfl, ⟨rfl, ⟨rfl, ⟨rfl, ⟨rfl, trivial⟩⟩⟩⟩⟩⟩⟩⟩ h
      · replace h := h.2 k9
        refine aw_iload dX11_stretchOf_56 rfl ?_
        refine aw_iconst (x := (-1)) dX11_stretchOf_58 rfl ?_
        refine aw_icmp_ne (tgt := 66) dX11_stretchOf_59 (by decide) (fun k10 => ?_) (fun k10 => ?_)
        · replace h := h.1 k10
          exact aw_fgt (L' := [some (vR 11 (some x0)), some (vI x1), some (vI x2), some (vI x3), some (vI x4), some (vI x5), some (vI x6), some (vI 1)]) ⟨rfl, ⟨rfl, ⟨rfl, ⟨rfl, ⟨rfl, ⟨rfl, ⟨rfl, ⟨rfl, trivial⟩⟩⟩⟩⟩⟩⟩⟩ h
        · replace h := h.2 k10
          refine aw_iload dX11_stretchOf_62 rfl ?_
          refine aw_istore (L' := [some (vR 11 (some x0)), some (vI x1), some (vI x2), some (vI x3), some (vI x4), some (vI x6), some (vI x6), some (vI 1)]) dX11_stretchOf_64 (by decide) rfl ?_
          exact aw_fgt (L' := [some (vR 11 (some x0)), some (vI x1), some (vI x2), some (vI x3), some (vI x4), some (vI x6), some (vI x6), some (vI 1)]) ⟨rfl, ⟨rfl, ⟨rfl, ⟨rfl, ⟨rfl, ⟨rfl, ⟨rfl, ⟨rfl, trivial⟩⟩⟩⟩⟩⟩⟩⟩ h
set_option maxRecDepth 4000 in
theorem bk_X11_stretchOf_66 {g : GP} {l : Launch} {d : Nat} {σ : St} {Q : Option AV → St → Prop} {x0 : Nat} {x1 : Int} {x2 : Int} {x3 : Int} {x4 : Int} {x5 : Int} {x6 : Int} {x7 : Int}
    (h : ((¬ x7 = 0 → R32 (x6 + 1) ∧ AW g l d MX11_stretchOf 9 [some (vR 11 (some x0)), some (vI x1), some (vI x2), some (vI x3), some (vI x4), some (vI x5), some (vI (x6 + 1)), none] [] σ Q) ∧ (x7 = 0 → ((x5 = (-1) → R32 (x6 + 1) ∧ AW g l d MX11_stretchOf 9 [some (vR 11 (some x0)), some (vI x1), some (vI x2), some (vI x3), some (vI x4), some (vI x5), some (vI (x6 + 1)), none] [] σ Q) ∧ (¬ x5 = (-1) → ((¬ x4 = 0 → R32 (x4 + (-1)) ∧ R32 (x6 + 1) ∧ AW g l d MX11_stretchOf 9 [some (vR 11 (some x0)), some (vI x1), some (vI x2), some (vI x3), some (vI (x4 + (-1))), some (vI (-1)), some (vI (x6 + 1)), none] [] σ Q) ∧ (x4 = 0 → ((¬ x3 = 0 → Q (some (vI x6)) σ) ∧ (x3 = 0 → Q (some (vI x5)) σ))))))))) :
    AW g l d MX11_stretchOf 66 [some (vR 11 (some x0)), some (vI x1), some (vI x2), some (vI x3), some (vI x4), some (vI x5), some (vI x6), some (vI x7)] [] σ Q := by
  refine aw_iload dX11_stretchOf_66 rfl ?_
  refine aw_if_ne (tgt := 100) dX11_stretchOf_68 (by decide) (fun k1 => ?_) (fun k1 => ?_)
  · replace h := h.1 k1
    obtain ⟨⟨c2, c2x⟩, h⟩ := h
    refine aw_iincc (L' := [some (vR 11 (some x0)), some (vI x1), some (vI x2), some (vI x3), some (vI x4), some (vI x5), some (vI (x6 + 1)), some (vI x7)]) dX11_stretchOf_100 rfl (by decide) rfl c2 c2x rfl ?_
    refine aw_goto (tgt := 9) dX11_stretchOf_103 (by decide) ?_
    exact aw_fgt (L' := [some (vR 11 (some x0)), some (vI x1), some (vI x2), some (vI x3), some (vI x4), some (vI x5), some (vI (x6 + 1)), none]) ⟨rfl, ⟨rfl, ⟨rfl, ⟨rfl, ⟨rfl, ⟨rfl, ⟨rfl, trivial⟩⟩⟩⟩⟩⟩⟩ h
  · replace h := h.2 k1
    refine aw_iload dX11_stretchOf_71 rfl ?_
    refine aw_iconst (x := (-1)) dX11_stretchOf_73 rfl ?_
    refine aw_icmp_eq (tgt := 100) dX11_stretchOf_74 (by decide) (fun k3 => ?_) (fun k3 => ?_)
    · replace h := h.1 k3
      obtain ⟨⟨c4, c4x⟩, h⟩ := h
      refine aw_iincc (L' := [some (vR 11 (some x0)), some (vI x1), some (vI x2), some (vI x3), some (vI x4), some (vI x5), some (vI (x6 + 1)), some (vI x7)]) dX11_stretchOf_100 rfl (by decide) rfl c4 c4x rfl ?_
      refine aw_goto (tgt := 9) dX11_stretchOf_103 (by decide) ?_
      exact aw_fgt (L' := [some (vR 11 (some x0)), some (vI x1), some (vI x2), some (vI x3), some (vI x4), some (vI x5), some (vI (x6 + 1)), none]) ⟨rfl, ⟨rfl, ⟨rfl, ⟨rfl, ⟨rfl, ⟨rfl, ⟨rfl, trivial⟩⟩⟩⟩⟩⟩⟩ h
    · replace h := h.2 k3
      refine aw_iload dX11_stretchOf_77 rfl ?_
      refine aw_if_ne (tgt := 94) dX11_stretchOf_79 (by decide) (fun k5 => ?_) (fun k5 => ?_)
      · replace h := h.1 k5
        obtain ⟨⟨c6, c6x⟩, h⟩ := h
        refine aw_iincc (L' := [some (vR 11 (some x0)), some (vI x1), some (vI x2), some (vI x3), some (vI (x4 + (-1))), some (vI x5), some (vI x6), some (vI x7)]) dX11_stretchOf_94 rfl (by decide) rfl c6 c6x rfl ?_
        refine aw_iconst (x := (-1)) dX11_stretchOf_97 rfl ?_
        refine aw_istore (L' := [some (vR 11 (some x0)), some (vI x1), some (vI x2), some (vI x3), some (vI (x4 + (-1))), some (vI (-1)), some (vI x6), some (vI x7)]) dX11_stretchOf_98 (by decide) rfl ?_
        obtain ⟨⟨c7, c7x⟩, h⟩ := h
        refine aw_iincc (L' := [some (vR 11 (some x0)), some (vI x1), some (vI x2), some (vI x3), some (vI (x4 + (-1))), some (vI (-1)), some (vI (x6 + 1)), some (vI x7)]) dX11_stretchOf_100 rfl (by decide) rfl c7 c7x rfl ?_
        refine aw_goto (tgt := 9) dX11_stretchOf_103 (by decide) ?_
        exact aw_fgt (L' := [some (vR 11 (some x0)), some (vI x1), some (vI x2), some (vI x3), some (vI (x4 + (-1))), some (vI (-1)), some (vI (x6 + 1)), none]) ⟨rfl, ⟨rfl, ⟨rfl, ⟨rfl, ⟨rfl, ⟨rfl, ⟨rfl, trivial⟩⟩⟩⟩⟩⟩⟩ h
      · replace h := h.2 k5
        refine aw_iload_n dX11_stretchOf_82 rfl rfl ?_
        refine aw_if_ne (tgt := 91) dX11_stretchOf_83 (by decide) (fun k8 => ?_) (fun k8 => ?_)
        · replace h := h.1 k8
          refine aw_iload dX11_stretchOf_91 rfl ?_
          exact aw_ireturn dX11_stretchOf_93 rfl h
        · replace h := h.2 k8
          refine aw_iload dX11_stretchOf_86 rfl ?_
          refine aw_goto (tgt := 93) dX11_stretchOf_88 (by decide) ?_
          exact aw_ireturn dX11_stretchOf_93 rfl h
set_option maxRecDepth 4000 in
theorem bk_X11_treeOf_0 {g : GP} {l : Launch} {d : Nat} {σ : St} {Q : Option AV → St → Prop} {x0 : Nat} {x1 : Int}
    (h : ((x1 < 0 → Q (some (vR 10 none)) σ) ∧ (¬ x1 < 0 → ((x1 < (gI σ 1110 x0 0) → LC 11 σ x0 ∧ Bd x1 6 ∧ Q (some (vR 10 (gR σ 1108 x0 x1.toNat))) σ) ∧ (¬ x1 < (gI σ 1110 x0 0) → Q (some (vR 10 none)) σ))))) :
    AW g l d MX11_treeOf 0 [some (vR 11 (some x0)), some (vI x1)] [] σ Q := by
  refine aw_iload_n dX11_treeOf_0 rfl rfl ?_
  refine aw_if_lt (tgt := 12) dX11_treeOf_1 (by decide) (fun k1 => ?_) (fun k1 => ?_)
  · replace h := h.1 k1
    refine aw_null 10 dX11_treeOf_12 ?_
    refine aw_goto (tgt := 22) dX11_treeOf_13 (by decide) ?_
    exact aw_areturn dX11_treeOf_22 rfl h
  · replace h := h.2 k1
    refine aw_iload_n dX11_treeOf_4 rfl rfl ?_
    refine aw_aload_n dX11_treeOf_5 rfl rfl ?_
    refine aw_getI' rfl fk_1110 lf_X11_143 dX11_treeOf_6 ?_
    refine aw_icmp_lt (tgt := 16) dX11_treeOf_9 (by decide) (fun k2 => ?_) (fun k2 => ?_)
    · replace h := h.1 k2
      refine aw_aload_n dX11_treeOf_16 rfl rfl ?_
      obtain ⟨lc3, h⟩ := h
      refine aw_getA' rfl fk_1108 (by decide) lf_X11_55 dX11_treeOf_17 (LC.ne lc3 rfl rfl) ?_
      refine aw_iload_n dX11_treeOf_20 rfl rfl ?_
      obtain ⟨⟨c4, c4x⟩, h⟩ := h
      refine aw_aaload (ci := 10) (by decide) rfl (by decide +kernel) dX11_treeOf_21 c4 (LC.lt lc3 rfl rfl c4x) ?_
      exact aw_areturn dX11_treeOf_22 rfl h
    · replace h := h.2 k2
      refine aw_null 10 dX11_treeOf_12 ?_
      refine aw_goto (tgt := 22) dX11_treeOf_13 (by decide) ?_
      exact aw_areturn dX11_treeOf_22 rfl h
set_option maxRecDepth 4000 in
theorem bk_X11_undo_0 {g : GP} {l : Launch} {d : Nat} {σ : St} {Q : Option AV → St → Prop} {x0 : Nat} {x1 : Int}
    (h : ACr g l d MX11_imageOf 3 [vR 11 (some x0), vI x1] σ (fun v2 σ1 => ((v2 = none → Q (some (vI (-1))) σ1) ∧ (∀ r3, v2 = some r3 → ((¬ (gI σ1 303 r3 0) = 0 → ACi g l d MX3_takeBack [vR 3 (some r3)] σ1 (fun v7 σ6 => Q (some (vI v7)) σ6)) ∧ ((gI σ1 303 r3 0) = 0 → Q (some (vI (-7))) σ1)))))) :
    AW g l (d + 1) MX11_undo 0 [some (vR 11 (some x0)), some (vI x1), none] [] σ Q := by
  refine aw_aload_n dX11_undo_0 rfl rfl ?_
  refine aw_iload_n dX11_undo_1 rfl rfl ?_
  refine aw_invVr (M := MX11_undo) (ci := 11) [vI x1] rfl mo_X11_imageOf rfl lm_X11_79 li_X11_imageOf ls_X11_imageOf (by decide +kernel) dX11_undo_2 rfl (Nat.le_of_ble_eq_true rfl) (ACr.mono (fun v2 σ1 h => ?_) h)
  refine aw_astore_n (L' := [some (vR 11 (some x0)), some (vI x1), some (vR 3 v2)]) dX11_undo_5 rfl (by decide) rfl ?_
  refine aw_aload_n dX11_undo_6 rfl rfl ?_
  refine aw_ifnonnull (tgt := 12) dX11_undo_7 (by decide) (fun r3 e4 => ?_) (fun hc => ?_)
  · replace h := h.2 r3 e4
    refine aw_aload_n dX11_undo_12 rfl rfl ?_
    refine aw_getI' e4 fk_303 lf_X11_83 dX11_undo_13 ?_
    refine aw_if_ne (tgt := 24) dX11_undo_16 (by decide) (fun k5 => ?_) (fun k5 => ?_)
    · replace h := h.1 k5
      refine aw_aload_n dX11_undo_24 rfl rfl ?_
      refine aw_invVi (M := MX11_undo) (ci := 3) [] e4 mo_X3_takeBack rfl lm_X11_111 li_X3_takeBack ls_X3_takeBack (by decide +kernel) dX11_undo_25 rfl (Nat.le_of_ble_eq_true rfl) (ACi.mono (fun v7 σ6 h => ?_) h)
      exact aw_ireturn dX11_undo_28 rfl h
    · replace h := h.2 k5
      refine aw_bipush (x := (-7)) dX11_undo_19 rfl ?_
      refine aw_goto (tgt := 28) dX11_undo_21 (by decide) ?_
      exact aw_ireturn dX11_undo_28 rfl h
  · replace h := h.1 hc
    refine aw_iconst (x := (-1)) dX11_undo_10 rfl ?_
    exact aw_ireturn dX11_undo_11 rfl h
