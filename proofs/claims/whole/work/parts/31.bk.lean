set_option maxRecDepth 4000 in
theorem bk_X3_refresh_0 {g : GP} {l : Launch} {d : Nat} {σ : St} {Q : Option AV → St → Prop} {x0 : Nat} {x1 : Int}
    (h : LC 3 σ x0 ∧ Bd x1 2000 ∧ AW g l d MX3_refresh 9 [some (vR 3 (some x0)), some (vI x1), some (vI (gI σ 300 x0 x1.toNat)), some (vI 0)] [] σ Q) :
    AW g l d MX3_refresh 0 [some (vR 3 (some x0)), some (vI x1), none, none] [] σ Q := by
  refine aw_aload_n dX3_refresh_0 rfl rfl ?_
  obtain ⟨lc1, h⟩ := h
  refine aw_getA' rfl fk_300 (by decide) lf_X3_9 dX3_refresh_1 (LC.ne lc1 rfl rfl) ?_
  refine aw_iload_n dX3_refresh_4 rfl rfl ?_
  obtain ⟨⟨c2, c2x⟩, h⟩ := h
  refine aw_iaload (by decide) rfl dX3_refresh_5 c2 (LC.lt lc1 rfl rfl c2x) ?_
  refine aw_istore_n (L' := [some (vR 3 (some x0)), some (vI x1), some (vI (gI σ 300 x0 x1.toNat)), none]) dX3_refresh_6 rfl (by decide) rfl ?_
  refine aw_iconst (x := 0) dX3_refresh_7 rfl ?_
  refine aw_istore_n (L' := [some (vR 3 (some x0)), some (vI x1), some (vI (gI σ 300 x0 x1.toNat)), some (vI 0)]) dX3_refresh_8 rfl (by decide) rfl ?_
  exact aw_fgt (L' := [some (vR 3 (some x0)), some (vI x1), some (vI (gI σ 300 x0 x1.toNat)), some (vI 0)]) ⟨rfl, ⟨rfl, ⟨rfl, ⟨rfl, trivial⟩⟩⟩⟩ h
set_option maxRecDepth 4000 in
theorem bk_X3_refresh_9 {g : GP} {l : Launch} {d : Nat} {σ : St} {Q : Option AV → St → Prop} {x0 : Nat} {x1 : Int} {x2 : Int} {x3 : Int}
    (h : (((gI σ 303 x0 0) ≤ x3 → LC 3 σ x0 ∧ Bd x1 2000 ∧ Q none (sI σ 301 x0 x1.toNat x2)) ∧ (¬ (gI σ 303 x0 0) ≤ x3 → LC 3 σ x0 ∧ Bd x3 4 ∧ ∃ r6, gR σ 302 x0 x3.toNat = some r6 ∧ LC 4 σ r6 ∧ Bd x1 2000 ∧ (((gI σ 400 r6 x1.toNat) = (-1) → R32 (x3 + 1) ∧ AW g l d MX3_refresh 9 [some (vR 3 (some x0)), some (vI x1), some (vI x2), some (vI (x3 + 1))] [] σ Q) ∧ (¬ (gI σ 400 r6 x1.toNat) = (-1) → R32 (x3 + 1) ∧ AW g l d MX3_refresh 9 [some (vR 3 (some x0)), some (vI x1), some (vI (gI σ 400 r6 x1.toNat)), some (vI (x3 + 1))] [] σ Q))))) :
    AW g l d MX3_refresh 9 [some (vR 3 (some x0)), some (vI x1), some (vI x2), some (vI x3)] [] σ Q := by
  refine aw_iload_n dX3_refresh_9 rfl rfl ?_
  refine aw_aload_n dX3_refresh_10 rfl rfl ?_
  refine aw_getI' rfl fk_303 lf_X3_28 dX3_refresh_11 ?_
  refine aw_icmp_ge (tgt := 50) dX3_refresh_14 (by decide) (fun k1 => ?_) (fun k1 => ?_)
  · replace h := h.1 k1
    refine aw_aload_n dX3_refresh_50 rfl rfl ?_
    obtain ⟨lc2, h⟩ := h
    refine aw_getA' rfl fk_301 (by decide) lf_X3_15 dX3_refresh_51 (LC.ne lc2 rfl rfl) ?_
    refine aw_iload_n dX3_refresh_54 rfl rfl ?_
    refine aw_iload_n dX3_refresh_55 rfl rfl ?_
    obtain ⟨⟨c3, c3x⟩, h⟩ := h
    refine aw_iastore (by decide) rfl dX3_refresh_56 c3 (LC.lt lc2 rfl rfl c3x) ?_
    exact aw_ret h rfl dX3_refresh_57
  · replace h := h.2 k1
    refine aw_aload_n dX3_refresh_17 rfl rfl ?_
    obtain ⟨lc4, h⟩ := h
    refine aw_getA' rfl fk_302 (by decide) lf_X3_20 dX3_refresh_18 (LC.ne lc4 rfl rfl) ?_
    refine aw_iload_n dX3_refresh_21 rfl rfl ?_
    obtain ⟨⟨c5, c5x⟩, h⟩ := h
    refine aw_aaload (ci := 4) (by decide) rfl (by decide +kernel) dX3_refresh_22 c5 (LC.lt lc4 rfl rfl c5x) ?_
    obtain ⟨r6, e7, h⟩ := h
    obtain ⟨lc8, h⟩ := h
    refine aw_getA' e7 fk_400 (by decide) lf_X3_43 dX3_refresh_23 (LC.ne lc8 rfl rfl) ?_
    refine aw_iload_n dX3_refresh_26 rfl rfl ?_
    obtain ⟨⟨c9, c9x⟩, h⟩ := h
    refine aw_iaload (by decide) rfl dX3_refresh_27 c9 (LC.lt lc8 rfl rfl c9x) ?_
    refine aw_iconst (x := (-1)) dX3_refresh_28 rfl ?_
    refine aw_icmp_eq (tgt := 44) dX3_refresh_29 (by decide) (fun k10 => ?_) (fun k10 => ?_)
    · replace h := h.1 k10
      obtain ⟨⟨c11, c11x⟩, h⟩ := h
      refine aw_iincc (L' := [some (vR 3 (some x0)), some (vI x1), some (vI x2), some (vI (x3 + 1))]) dX3_refresh_44 rfl (by decide) rfl c11 c11x rfl ?_
      refine aw_goto (tgt := 9) dX3_refresh_47 (by decide) ?_
      exact aw_fgt (L' := [some (vR 3 (some x0)), some (vI x1), some (vI x2), some (vI (x3 + 1))]) ⟨rfl, ⟨rfl, ⟨rfl, ⟨rfl, trivial⟩⟩⟩⟩ h
    · replace h := h.2 k10
      refine aw_aload_n dX3_refresh_32 rfl rfl ?_
      refine aw_getA' rfl fk_302 (by decide) lf_X3_20 dX3_refresh_33 (LC.ne lc4 rfl rfl) ?_
      refine aw_iload_n dX3_refresh_36 rfl rfl ?_
      refine aw_aaload (ci := 4) (by decide) rfl (by decide +kernel) dX3_refresh_37 c5 (LC.lt lc4 rfl rfl c5x) ?_
      refine aw_getA' e7 fk_400 (by decide) lf_X3_43 dX3_refresh_38 (LC.ne lc8 rfl rfl) ?_
      refine aw_iload_n dX3_refresh_41 rfl rfl ?_
      refine aw_iaload (by decide) rfl dX3_refresh_42 c9 (LC.lt lc8 rfl rfl c9x) ?_
      refine aw_istore_n (L' := [some (vR 3 (some x0)), some (vI x1), some (vI (gI σ 400 r6 x1.toNat)), some (vI x3)]) dX3_refresh_43 rfl (by decide) rfl ?_
      obtain ⟨⟨c12, c12x⟩, h⟩ := h
      refine aw_iincc (L' := [some (vR 3 (some x0)), some (vI x1), some (vI (gI σ 400 r6 x1.toNat)), some (vI (x3 + 1))]) dX3_refresh_44 rfl (by decide) rfl c12 c12x rfl ?_
      refine aw_goto (tgt := 9) dX3_refresh_47 (by decide) ?_
      exact aw_fgt (L' := [some (vR 3 (some x0)), some (vI x1), some (vI (gI σ 400 r6 x1.toNat)), some (vI (x3 + 1))]) ⟨rfl, ⟨rfl, ⟨rfl, ⟨rfl, trivial⟩⟩⟩⟩ h
set_option maxRecDepth 4000 in
theorem bk_X3_shedTop_0 {g : GP} {l : Launch} {d : Nat} {σ : St} {Q : Option AV → St → Prop} {x0 : Nat}
    (h : ACr g l d MX3_top 4 [vR 3 (some x0)] σ (fun v2 σ1 => ((v2 = none → Q (some (vI 0)) σ1) ∧ (∀ r3, v2 = some r3 → R32 ((gI σ1 303 x0 0) - 1) ∧ AW g l (d + 1) MX3_shedTop 23 [some (vR 3 (some x0)), some (vR 4 v2), some (vI 0)] [] (sI σ1 303 x0 0 ((gI σ1 303 x0 0) - 1)) Q)))) :
    AW g l (d + 1) MX3_shedTop 0 [some (vR 3 (some x0)), none, none] [] σ Q := by
  refine aw_aload_n dX3_shedTop_0 rfl rfl ?_
  refine aw_invVr (M := MX3_shedTop) (ci := 3) [] rfl mo_X3_top rfl lm_X3_39 li_X3_top ls_X3_top (by decide +kernel) dX3_shedTop_1 rfl (Nat.le_of_ble_eq_true rfl) (ACr.mono (fun v2 σ1 h => ?_) h)
  refine aw_astore_n (L' := [some (vR 3 (some x0)), some (vR 4 v2), none]) dX3_shedTop_4 rfl (by decide) rfl ?_
  refine aw_aload_n dX3_shedTop_5 rfl rfl ?_
  refine aw_ifnonnull (tgt := 11) dX3_shedTop_6 (by decide) (fun r3 e4 => ?_) (fun hc => ?_)
  · replace h := h.2 r3 e4
    refine aw_aload_n dX3_shedTop_11 rfl rfl ?_
    refine aw_dup dX3_shedTop_12 rfl ?_
    refine aw_getI' rfl fk_303 lf_X3_28 dX3_shedTop_13 ?_
    refine aw_iconst (x := 1) dX3_shedTop_16 rfl ?_
    obtain ⟨⟨c5, c5x⟩, h⟩ := h
    refine aw_isubc dX3_shedTop_17 c5 c5x ?_
    refine aw_putI' rfl fk_303 (Or.inl rfl) lf_X3_28 dX3_shedTop_18 ?_
    refine aw_iconst (x := 0) dX3_shedTop_21 rfl ?_
    refine aw_istore_n (L' := [some (vR 3 (some x0)), some (vR 4 v2), some (vI 0)]) dX3_shedTop_22 rfl (by decide) rfl ?_
    exact aw_fgt (L' := [some (vR 3 (some x0)), some (vR 4 v2), some (vI 0)]) ⟨rfl, ⟨rfl, ⟨rfl, trivial⟩⟩⟩ h
  · replace h := h.1 hc
    refine aw_iconst (x := 0) dX3_shedTop_9 rfl ?_
    exact aw_ireturn dX3_shedTop_10 rfl h
set_option maxRecDepth 4000 in
theorem bk_X3_shedTop_23 {g : GP} {l : Launch} {d : Nat} {σ : St} {Q : Option AV → St → Prop} {x0 : Nat} {x1 : Option Nat} {x2 : Int}
    (h : (((gI σ 304 x0 0) ≤ x2 → ∃ r2, x1 = some r2 ∧ Q (some (vI (gI σ 401 r2 0))) σ) ∧ (¬ (gI σ 304 x0 0) ≤ x2 → ∃ r4, x1 = some r4 ∧ LC 4 σ r4 ∧ Bd x2 2000 ∧ (((gI σ 400 r4 x2.toNat) = (-1) → R32 (x2 + 1) ∧ AW g l (d + 1) MX3_shedTop 23 [some (vR 3 (some x0)), some (vR 4 x1), some (vI (x2 + 1))] [] σ Q) ∧ (¬ (gI σ 400 r4 x2.toNat) = (-1) → ACv g l d MX3_refresh [vR 3 (some x0), vI x2] σ (fun σ10 => R32 (x2 + 1) ∧ AW g l (d + 1) MX3_shedTop 23 [some (vR 3 (some x0)), some (vR 4 x1), some (vI (x2 + 1))] [] σ10 Q)))))) :
    AW g l (d + 1) MX3_shedTop 23 [some (vR 3 (some x0)), some (vR 4 x1), some (vI x2)] [] σ Q := by
  refine aw_iload_n dX3_shedTop_23 rfl rfl ?_
  refine aw_aload_n dX3_shedTop_24 rfl rfl ?_
  refine aw_getI' rfl fk_304 lf_X3_24 dX3_shedTop_25 ?_
  refine aw_icmp_ge (tgt := 52) dX3_shedTop_28 (by decide) (fun k1 => ?_) (fun k1 => ?_)
  · replace h := h.1 k1
    refine aw_aload_n dX3_shedTop_52 rfl rfl ?_
    obtain ⟨r2, e3, h⟩ := h
    refine aw_getI' e3 fk_401 lf_X3_50 dX3_shedTop_53 ?_
    exact aw_ireturn dX3_shedTop_56 rfl h
  · replace h := h.2 k1
    refine aw_aload_n dX3_shedTop_31 rfl rfl ?_
    obtain ⟨r4, e5, h⟩ := h
    obtain ⟨lc6, h⟩ := h
    refine aw_getA' e5 fk_400 (by decide) lf_X3_43 dX3_shedTop_32 (LC.ne lc6 rfl rfl) ?_
    refine aw_iload_n dX3_shedTop_35 rfl rfl ?_
    obtain ⟨⟨c7, c7x⟩, h⟩ := h
    refine aw_iaload (by decide) rfl dX3_shedTop_36 c7 (LC.lt lc6 rfl rfl c7x) ?_
    refine aw_iconst (x := (-1)) dX3_shedTop_37 rfl ?_
    refine aw_icmp_eq (tgt := 46) dX3_shedTop_38 (by decide) (fun k8 => ?_) (fun k8 => ?_)
    · replace h := h.1 k8
      obtain ⟨⟨c9, c9x⟩, h⟩ := h
      refine aw_iincc (L' := [some (vR 3 (some x0)), some (vR 4 x1), some (vI (x2 + 1))]) dX3_shedTop_46 rfl (by decide) rfl c9 c9x rfl ?_
      refine aw_goto (tgt := 23) dX3_shedTop_49 (by decide) ?_
      exact aw_fgt (L' := [some (vR 3 (some x0)), some (vR 4 x1), some (vI (x2 + 1))]) ⟨rfl, ⟨rfl, ⟨rfl, trivial⟩⟩⟩ h
    · replace h := h.2 k8
      refine aw_aload_n dX3_shedTop_41 rfl rfl ?_
      refine aw_iload_n dX3_shedTop_42 rfl rfl ?_
      refine aw_invVv (M := MX3_shedTop) (ci := 3) [vI x2] rfl mo_X3_refresh rfl lm_X3_53 li_X3_refresh ls_X3_refresh (by decide +kernel) dX3_shedTop_43 rfl (Nat.le_of_ble_eq_true rfl) (ACv.mono (fun σ10 h => ?_) h)
      obtain ⟨⟨c11, c11x⟩, h⟩ := h
      refine aw_iincc (L' := [some (vR 3 (some x0)), some (vR 4 x1), some (vI (x2 + 1))]) dX3_shedTop_46 rfl (by decide) rfl c11 c11x rfl ?_
      refine aw_goto (tgt := 23) dX3_shedTop_49 (by decide) ?_
      exact aw_fgt (L' := [some (vR 3 (some x0)), some (vR 4 x1), some (vI (x2 + 1))]) ⟨rfl, ⟨rfl, ⟨rfl, trivial⟩⟩⟩ h
set_option maxRecDepth 4000 in
theorem bk_X3_sinkTop_0 {g : GP} {l : Launch} {d : Nat} {σ : St} {Q : Option AV → St → Prop} {x0 : Nat}
    (h : ACr g l d MX3_top 4 [vR 3 (some x0)] σ (fun v2 σ1 => ((v2 = none → Q (some (vI 0)) σ1) ∧ (∀ r3, v2 = some r3 → R32 ((gI σ1 303 x0 0) - 1) ∧ ACr g l d MX3_top 4 [vR 3 (some x0)] (sI σ1 303 x0 0 ((gI σ1 303 x0 0) - 1)) (fun v7 σ6 => AW g l (d + 1) MX3_sinkTop 28 [some (vR 3 (some x0)), some (vR 4 v2), some (vR 4 v7), some (vI 0), none] [] σ6 Q))))) :
    AW g l (d + 1) MX3_sinkTop 0 [some (vR 3 (some x0)), none, none, none, none] [] σ Q := by
  refine aw_aload_n dX3_sinkTop_0 rfl rfl ?_
  refine aw_invVr (M := MX3_sinkTop) (ci := 3) [] rfl mo_X3_top rfl lm_X3_39 li_X3_top ls_X3_top (by decide +kernel) dX3_sinkTop_1 rfl (Nat.le_of_ble_eq_true rfl) (ACr.mono (fun v2 σ1 h => ?_) h)
  refine aw_astore_n (L' := [some (vR 3 (some x0)), some (vR 4 v2), none, none, none]) dX3_sinkTop_4 rfl (by decide) rfl ?_
  refine aw_aload_n dX3_sinkTop_5 rfl rfl ?_
  refine aw_ifnonnull (tgt := 11) dX3_sinkTop_6 (by decide) (fun r3 e4 => ?_) (fun hc => ?_)
  · replace h := h.2 r3 e4
    refine aw_aload_n dX3_sinkTop_11 rfl rfl ?_
    refine aw_dup dX3_sinkTop_12 rfl ?_
    refine aw_getI' rfl fk_303 lf_X3_28 dX3_sinkTop_13 ?_
    refine aw_iconst (x := 1) dX3_sinkTop_16 rfl ?_
    obtain ⟨⟨c5, c5x⟩, h⟩ := h
    refine aw_isubc dX3_sinkTop_17 c5 c5x ?_
    refine aw_putI' rfl fk_303 (Or.inl rfl) lf_X3_28 dX3_sinkTop_18 ?_
    refine aw_aload_n dX3_sinkTop_21 rfl rfl ?_
    refine aw_invVr (M := MX3_sinkTop) (ci := 3) [] rfl mo_X3_top rfl lm_X3_39 li_X3_top ls_X3_top (by decide +kernel) dX3_sinkTop_22 rfl (Nat.le_of_ble_eq_true rfl) (ACr.mono (fun v7 σ6 h => ?_) h)
    refine aw_astore_n (L' := [some (vR 3 (some x0)), some (vR 4 v2), some (vR 4 v7), none, none]) dX3_sinkTop_25 rfl (by decide) rfl ?_
    refine aw_iconst (x := 0) dX3_sinkTop_26 rfl ?_
    refine aw_istore_n (L' := [some (vR 3 (some x0)), some (vR 4 v2), some (vR 4 v7), some (vI 0), none]) dX3_sinkTop_27 rfl (by decide) rfl ?_
    exact aw_fgt (L' := [some (vR 3 (some x0)), some (vR 4 v2), some (vR 4 v7), some (vI 0), none]) ⟨rfl, ⟨rfl, ⟨rfl, ⟨rfl, trivial⟩⟩⟩⟩ h
  · replace h := h.1 hc
    refine aw_iconst (x := 0) dX3_sinkTop_9 rfl ?_
    exact aw_ireturn dX3_sinkTop_10 rfl h
set_option maxRecDepth 4000 in
theorem bk_X3_sinkTop_28 {g : GP} {l : Launch} {d : Nat} {σ : St} {Q : Option AV → St → Prop} {x0 : Nat} {x1 : Option Nat} {x2 : Option Nat} {x3 : Int}
    (h : (((gI σ 304 x0 0) ≤ x3 → ∃ r2, x1 = some r2 ∧ Q (some (vI (gI σ 401 r2 0))) σ) ∧ (¬ (gI σ 304 x0 0) ≤ x3 → ∃ r4, x1 = some r4 ∧ LC 4 σ r4 ∧ Bd x3 2000 ∧ (((gI σ 400 r4 x3.toNat) = (-1) → AW g l (d + 1) MX3_sinkTop 65 [some (vR 3 (some x0)), some (vR 4 x1), some (vR 4 x2), some (vI x3), some (vI (gI σ 400 r4 x3.toNat))] [] σ Q) ∧ (¬ (gI σ 400 r4 x3.toNat) = (-1) → ((x2 = none → LC 3 σ x0 ∧ R32 (x3 + 1) ∧ AW g l (d + 1) MX3_sinkTop 28 [some (vR 3 (some x0)), some (vR 4 x1), some (vR 4 x2), some (vI (x3 + 1)), none] [] (sI σ 300 x0 x3.toNat (gI σ 400 r4 x3.toNat)) Q) ∧ (∀ r9, x2 = some r9 → AW g l (d + 1) MX3_sinkTop 65 [some (vR 3 (some x0)), some (vR 4 x1), some (vR 4 x2), some (vI x3), some (vI (gI σ 400 r4 x3.toNat))] [] σ Q))))))) :
    AW g l (d + 1) MX3_sinkTop 28 [some (vR 3 (some x0)), some (vR 4 x1), some (vR 4 x2), some (vI x3), none] [] σ Q := by
  refine aw_iload_n dX3_sinkTop_28 rfl rfl ?_
  refine aw_aload_n dX3_sinkTop_29 rfl rfl ?_
  refine aw_getI' rfl fk_304 lf_X3_24 dX3_sinkTop_30 ?_
  refine aw_icmp_ge (tgt := 84) dX3_sinkTop_33 (by decide) (fun k1 => ?_) (fun k1 => ?_)
  · replace h := h.1 k1
    refine aw_aload_n dX3_sinkTop_84 rfl rfl ?_
    obtain ⟨r2, e3, h⟩ := h
    refine aw_getI' e3 fk_401 lf_X3_50 dX3_sinkTop_85 ?_
    exact aw_ireturn dX3_sinkTop_88 rfl h
  · replace h := h.2 k1
    refine aw_aload_n dX3_sinkTop_36 rfl rfl ?_
    obtain ⟨r4, e5, h⟩ := h
    obtain ⟨lc6, h⟩ := h
    refine aw_getA' e5 fk_400 (by decide) lf_X3_43 dX3_sinkTop_37 (LC.ne lc6 rfl rfl) ?_
    refine aw_iload_n dX3_sinkTop_40 rfl rfl ?_
    obtain ⟨⟨c7, c7x⟩, h⟩ := h
    refine aw_iaload (by decide) rfl dX3_sinkTop_41 c7 (LC.lt lc6 rfl rfl c7x) ?_
    refine aw_istore (L' := [some (vR 3 (some x0)), some (vR 4 x1), some (vR 4 x2), some (vI x3), some (vI (gI σ 400 r4 x3.toNat))]) dX3_sinkTop_42 (by decide) rfl ?_
    refine aw_iload dX3_sinkTop_44 rfl ?_
    refine aw_iconst (x := (-1)) dX3_sinkTop_46 rfl ?_
    refine aw_icmp_eq (tgt := 65) dX3_sinkTop_47 (by decide) (fun k8 => ?_) (fun k8 => ?_)
    · replace h := h.1 k8
      exact aw_fgt (L' := [some (vR 3 (some x0)), some (vR 4 x1), some (vR 4 x2), some (vI x3), some (vI (gI σ 400 r4 x3.toNat))]) ⟨rfl, ⟨rfl, ⟨rfl, ⟨rfl, ⟨rfl, trivial⟩⟩⟩⟩⟩ h
    · replace h := h.2 k8
      refine aw_aload_n dX3_sinkTop_50 rfl rfl ?_
      refine aw_ifnonnull (tgt := 65) dX3_sinkTop_51 (by decide) (fun r9 e10 => ?_) (fun hc => ?_)
      · replace h := h.2 r9 e10
        exact aw_fgt (L' := [some (vR 3 (some x0)), some (vR 4 x1), some (vR 4 x2), some (vI x3), some (vI (gI σ 400 r4 x3.toNat))]) ⟨rfl, ⟨rfl, ⟨rfl, ⟨rfl, ⟨rfl, trivial⟩⟩⟩⟩⟩ h
      · replace h := h.1 hc
        refine aw_aload_n dX3_sinkTop_54 rfl rfl ?_
        obtain ⟨lc11, h⟩ := h
        refine aw_getA' rfl fk_300 (by decide) lf_X3_9 dX3_sinkTop_55 (LC.ne lc11 rfl rfl) ?_
        refine aw_iload_n dX3_sinkTop_58 rfl rfl ?_
        refine aw_iload dX3_sinkTop_59 rfl ?_
        refine aw_iastore (by decide) rfl dX3_sinkTop_61 c7 (LC.lt lc11 rfl rfl c7x) ?_
        refine aw_goto (tgt := 78) dX3_sinkTop_62 (by decide) ?_
        obtain ⟨⟨c12, c12x⟩, h⟩ := h
        refine aw_iincc (L' := [some (vR 3 (some x0)), some (vR 4 x1), some (vR 4 x2), some (vI (x3 + 1)), some (vI (gI σ 400 r4 x3.toNat))]) dX3_sinkTop_78 rfl (by decide) rfl c12 c12x rfl ?_
        refine aw_goto (tgt := 28) dX3_sinkTop_81 (by decide) ?_
        exact aw_fgt (L' := [some (vR 3 (some x0)), some (vR 4 x1), some (vR 4 x2), some (vI (x3 + 1)), none]) ⟨rfl, ⟨rfl, ⟨rfl, ⟨rfl, trivial⟩⟩⟩⟩ h
set_option maxRecDepth 4000 in
theorem bk_X3_sinkTop_65 {g : GP} {l : Launch} {d : Nat} {σ : St} {Q : Option AV → St → Prop} {x0 : Nat} {x1 : Option Nat} {x2 : Option Nat} {x3 : Int} {x4 : Int}
    (h : ((x4 = (-1) → R32 (x3 + 1) ∧ AW g l (d + 1) MX3_sinkTop 28 [some (vR 3 (some x0)), some (vR 4 x1), some (vR 4 x2), some (vI (x3 + 1)), none] [] σ Q) ∧ (¬ x4 = (-1) → ∃ r3, x2 = some r3 ∧ ACv g l d MX4_give [vR 4 (some r3), vI x3, vI x4] σ (fun σ5 => R32 (x3 + 1) ∧ AW g l (d + 1) MX3_sinkTop 28 [some (vR 3 (some x0)), some (vR 4 x1), some (vR 4 x2), some (vI (x3 + 1)), none] [] σ5 Q)))) :
    AW g l (d + 1) MX3_sinkTop 65 [some (vR 3 (some x0)), some (vR 4 x1), some (vR 4 x2), some (vI x3), some (vI x4)] [] σ Q := by
  refine aw_iload dX3_sinkTop_65 rfl ?_
  refine aw_iconst (x := (-1)) dX3_sinkTop_67 rfl ?_
  refine aw_icmp_eq (tgt := 78) dX3_sinkTop_68 (by decide) (fun k1 => ?_) (fun k1 => ?_)
  · replace h := h.1 k1
    obtain ⟨⟨c2, c2x⟩, h⟩ := h
    refine aw_iincc (L' := [some (vR 3 (some x0)), some (vR 4 x1), some (vR 4 x2), some (vI (x3 + 1)), some (vI x4)]) dX3_sinkTop_78 rfl (by decide) rfl c2 c2x rfl ?_
    refine aw_goto (tgt := 28) dX3_sinkTop_81 (by decide) ?_
    exact aw_fgt (L' := [some (vR 3 (some x0)), some (vR 4 x1), some (vR 4 x2), some (vI (x3 + 1)), none]) ⟨rfl, ⟨rfl, ⟨rfl, ⟨rfl, trivial⟩⟩⟩⟩ h
  · replace h := h.2 k1
    refine aw_aload_n dX3_sinkTop_71 rfl rfl ?_
    refine aw_iload_n dX3_sinkTop_72 rfl rfl ?_
    refine aw_iload dX3_sinkTop_73 rfl ?_
    obtain ⟨r3, e4, h⟩ := h
    refine aw_invVv (M := MX3_sinkTop) (ci := 4) [vI x3, vI x4] e4 mo_X4_give rfl lm_X3_46 li_X4_give ls_X4_give (by decide +kernel) dX3_sinkTop_75 rfl (Nat.le_of_ble_eq_true rfl) (ACv.mono (fun σ5 h => ?_) h)
    obtain ⟨⟨c6, c6x⟩, h⟩ := h
    refine aw_iincc (L' := [some (vR 3 (some x0)), some (vR 4 x1), some (vR 4 x2), some (vI (x3 + 1)), some (vI x4)]) dX3_sinkTop_78 rfl (by decide) rfl c6 c6x rfl ?_
    refine aw_goto (tgt := 28) dX3_sinkTop_81 (by decide) ?_
    exact aw_fgt (L' := [some (vR 3 (some x0)), some (vR 4 x1), some (vR 4 x2), some (vI (x3 + 1)), none]) ⟨rfl, ⟨rfl, ⟨rfl, ⟨rfl, trivial⟩⟩⟩⟩ h
set_option maxRecDepth 4000 in
theorem bk_X3_takeBack_0 {g : GP} {l : Launch} {d : Nat} {σ : St} {Q : Option AV → St → Prop} {x0 : Nat}
    (h : ACr g l d MX3_top 4 [vR 3 (some x0)] σ (fun v2 σ1 => ((v2 = none → Q (some (vI 0)) σ1) ∧ (∀ r3, v2 = some r3 → ((¬ (gI σ1 405 r3 0) = 0 → R32 ((gI σ1 405 r3 0) - 1) ∧ LC 4 σ1 r3 ∧ Bd ((gI σ1 405 r3 0) - 1) 20 ∧ ∀ z9 : Int, z9 = gI σ1 402 r3 ((gI σ1 405 r3 0) - 1).toNat → ∀ z10 : Int, z10 = gI σ1 403 r3 ((gI σ1 405 r3 0) - 1).toNat → AW g l (d + 1) MX3_takeBack 51 [some (vR 3 (some x0)), some (vR 4 v2), some (vI z9), some (vI z10), some (vI 0)] [] (sI σ1 405 r3 0 ((gI σ1 405 r3 0) - 1)) Q) ∧ ((gI σ1 405 r3 0) = 0 → Q (some (vI 0)) σ1)))))) :
    AW g l (d + 1) MX3_takeBack 0 [some (vR 3 (some x0)), none, none, none, none] [] σ Q := by
  refine aw_aload_n dX3_takeBack_0 rfl rfl ?_
  refine aw_invVr (M := MX3_takeBack) (ci := 3) [] rfl mo_X3_top rfl lm_X3_39 li_X3_top ls_X3_top (by decide +kernel) dX3_takeBack_1 rfl (Nat.le_of_ble_eq_true rfl) (ACr.mono (fun v2 σ1 h => ?_) h)
  refine aw_astore_n (L' := [some (vR 3 (some x0)), some (vR 4 v2), none, none, none]) dX3_takeBack_4 rfl (by decide) rfl ?_
  refine aw_aload_n dX3_takeBack_5 rfl rfl ?_
  refine aw_ifnull (tgt := 16) dX3_takeBack_6 (by decide) (fun hc => ?_) (fun r3 e4 => ?_)
  · replace h := h.1 hc
    refine aw_iconst (x := 0) dX3_takeBack_16 rfl ?_
    exact aw_ireturn dX3_takeBack_17 rfl h
  · replace h := h.2 r3 e4
    refine aw_aload_n dX3_takeBack_9 rfl rfl ?_
    refine aw_getI' e4 fk_405 lf_X3_57 dX3_takeBack_10 ?_
    refine aw_if_ne (tgt := 18) dX3_takeBack_13 (by decide) (fun k5 => ?_) (fun k5 => ?_)
    · replace h := h.1 k5
      refine aw_aload_n dX3_takeBack_18 rfl rfl ?_
      refine aw_dup dX3_takeBack_19 rfl ?_
      refine aw_getI' e4 fk_405 lf_X3_57 dX3_takeBack_20 ?_
      refine aw_iconst (x := 1) dX3_takeBack_23 rfl ?_
      obtain ⟨⟨c6, c6x⟩, h⟩ := h
      refine aw_isubc dX3_takeBack_24 c6 c6x ?_
      refine aw_putI' e4 fk_405 (Or.inl rfl) lf_X3_57 dX3_takeBack_25 ?_
      refine aw_aload_n dX3_takeBack_28 rfl rfl ?_
      obtain ⟨lc7, h⟩ := h
      refine aw_getA' e4 fk_402 (by decide) lf_X3_60 dX3_takeBack_29 (LC.ne lc7 rfl rfl) ?_
      refine aw_aload_n dX3_takeBack_32 rfl rfl ?_
      refine aw_getIe (v := ((gI σ1 405 r3 0) - 1)) e4 fk_405 lf_X3_57 dX3_takeBack_33 (gI_slf σ1 405 r3 0 ((gI σ1 405 r3 0) - 1)) ?_
      obtain ⟨⟨c8, c8x⟩, h⟩ := h
      refine aw_ialoade (v := gI σ1 402 r3 ((gI σ1 405 r3 0) - 1).toNat) (by decide) rfl dX3_takeBack_36 c8 (LC.lt lc7 rfl rfl c8x) rfl ?_
      refine aw_istore_n (L' := [some (vR 3 (some x0)), some (vR 4 v2), some (vI (gI σ1 402 r3 ((gI σ1 405 r3 0) - 1).toNat)), none, none]) dX3_takeBack_37 rfl (by decide) rfl ?_
      obtain ⟨z9, hz9⟩ : ∃ z : Int, z = gI σ1 402 r3 ((gI σ1 405 r3 0) - 1).toNat := ⟨_, rfl⟩
      rw [← hz9]
      replace h := h z9 hz9
      refine aw_aload_n dX3_takeBack_38 rfl rfl ?_
      refine aw_getA' e4 fk_403 (by decide) lf_X3_63 dX3_takeBack_39 (LC.ne lc7 rfl rfl) ?_
      refine aw_aload_n dX3_takeBack_42 rfl rfl ?_
      refine aw_getIe (v := ((gI σ1 405 r3 0) - 1)) e4 fk_405 lf_X3_57 dX3_takeBack_43 (gI_slf σ1 405 r3 0 ((gI σ1 405 r3 0) - 1)) ?_
      refine aw_ialoade (v := gI σ1 403 r3 ((gI σ1 405 r3 0) - 1).toNat) (by decide) rfl dX3_takeBack_46 c8 (LC.lt lc7 rfl rfl c8x) rfl ?_
      refine aw_istore_n (L' := [some (vR 3 (some x0)), some (vR 4 v2), some (vI z9), some (vI (gI σ1 403 r3 ((gI σ1 405 r3 0) - 1).toNat)), none]) dX3_takeBack_47 rfl (by decide) rfl ?_
      obtain ⟨z10, hz10⟩ : ∃ z : Int, z = gI σ1 403 r3 ((gI σ1 405 r3 0) - 1).toNat := ⟨_, rfl⟩
      rw [← hz10]
      replace h := h z10 hz10
      refine aw_iconst (x := 0) dX3_takeBack_48 rfl ?_
      refine aw_istore (L' := [some (vR 3 (some x0)), some (vR 4 v2), some (vI z9), some (vI z10), some (vI 0)]) dX3_takeBack_49 (by decide) rfl ?_
      exact aw_fgt (L' := [some (vR 3 (some x0)), some (vR 4 v2), some (vI z9), some (vI z10), some (vI 0)]) ⟨rfl, ⟨rfl, ⟨rfl, ⟨rfl, ⟨rfl, trivial⟩⟩⟩⟩⟩ h
    · replace h := h.2 k5
      refine aw_iconst (x := 0) dX3_takeBack_16 rfl ?_
      exact aw_ireturn dX3_takeBack_17 rfl h
set_option maxRecDepth 4000 in
theorem bk_X3_takeBack_51 {g : GP} {l : Launch} {d : Nat} {σ : St} {Q : Option AV → St → Prop} {x0 : Nat} {x1 : Option Nat} {x2 : Int} {x3 : Int} {x4 : Int}
    (h : ((x3 ≤ x4 → Q (some (vI x3)) σ) ∧ (¬ x3 ≤ x4 → R32 (x2 + x4) ∧ ∃ r3, x1 = some r3 ∧ LC 4 σ r3 ∧ R32 ((gI σ 405 r3 0) * 8) ∧ R32 (((gI σ 405 r3 0) * 8) + x4) ∧ Bd (((gI σ 405 r3 0) * 8) + x4) 160 ∧ ACv g l d MX4_give [vR 4 (some r3), vI (x2 + x4), vI (gI σ 404 r3 (((gI σ 405 r3 0) * 8) + x4).toNat)] σ (fun σ9 => ACv g l d MX3_refresh [vR 3 (some x0), vI (x2 + x4)] σ9 (fun σ10 => R32 (x4 + 1) ∧ AW g l (d + 1) MX3_takeBack 51 [some (vR 3 (some x0)), some (vR 4 x1), some (vI x2), some (vI x3), some (vI (x4 + 1))] [] σ10 Q))))) :
    AW g l (d + 1) MX3_takeBack 51 [some (vR 3 (some x0)), some (vR 4 x1), some (vI x2), some (vI x3), some (vI x4)] [] σ Q := by
  refine aw_iload dX3_takeBack_51 rfl ?_
  refine aw_iload_n dX3_takeBack_53 rfl rfl ?_
  refine aw_icmp_ge (tgt := 94) dX3_takeBack_54 (by decide) (fun k1 => ?_) (fun k1 => ?_)
  · replace h := h.1 k1
    refine aw_iload_n dX3_takeBack_94 rfl rfl ?_
    exact aw_ireturn dX3_takeBack_95 rfl h
  · replace h := h.2 k1
    refine aw_aload_n dX3_takeBack_57 rfl rfl ?_
    refine aw_iload_n dX3_takeBack_58 rfl rfl ?_
    refine aw_iload dX3_takeBack_59 rfl ?_
    obtain ⟨⟨c2, c2x⟩, h⟩ := h
    refine aw_iaddc dX3_takeBack_61 c2 c2x ?_
    refine aw_aload_n dX3_takeBack_62 rfl rfl ?_
    obtain ⟨r3, e4, h⟩ := h
    obtain ⟨lc5, h⟩ := h
    refine aw_getA' e4 fk_404 (by decide) lf_X3_66 dX3_takeBack_63 (LC.ne lc5 rfl rfl) ?_
    refine aw_aload_n dX3_takeBack_66 rfl rfl ?_
    refine aw_getI' e4 fk_405 lf_X3_57 dX3_takeBack_67 ?_
    refine aw_bipush (x := 8) dX3_takeBack_70 rfl ?_
    obtain ⟨⟨c6, c6x⟩, h⟩ := h
    refine aw_imulc dX3_takeBack_72 c6 c6x ?_
    refine aw_iload dX3_takeBack_73 rfl ?_
    obtain ⟨⟨c7, c7x⟩, h⟩ := h
    refine aw_iaddc dX3_takeBack_75 c7 c7x ?_
    obtain ⟨⟨c8, c8x⟩, h⟩ := h
    refine aw_iaload (by decide) rfl dX3_takeBack_76 c8 (LC.lt lc5 rfl rfl c8x) ?_
    refine aw_invVv (M := MX3_takeBack) (ci := 4) [vI (x2 + x4), vI (gI σ 404 r3 (((gI σ 405 r3 0) * 8) + x4).toNat)] e4 mo_X4_give rfl lm_X3_46 li_X4_give ls_X4_give (by decide +kernel) dX3_takeBack_77 rfl (Nat.le_of_ble_eq_true rfl) (ACv.mono (fun σ9 h => ?_) h)
    refine aw_aload_n dX3_takeBack_80 rfl rfl ?_
    refine aw_iload_n dX3_takeBack_81 rfl rfl ?_
    refine aw_iload dX3_takeBack_82 rfl ?_
    refine aw_iaddc dX3_takeBack_84 c2 c2x ?_
    refine aw_invVv (M := MX3_takeBack) (ci := 3) [vI (x2 + x4)] rfl mo_X3_refresh rfl lm_X3_53 li_X3_refresh ls_X3_refresh (by decide +kernel) dX3_takeBack_85 rfl (Nat.le_of_ble_eq_true rfl) (ACv.mono (fun σ10 h => ?_) h)
    obtain ⟨⟨c11, c11x⟩, h⟩ := h
    refine aw_iincc (L' := [some (vR 3 (some x0)), some (vR 4 x1), some (vI x2), some (vI x3), some (vI (x4 + 1))]) dX3_takeBack_88 rfl (by decide) rfl c11 c11x rfl ?_
    refine aw_goto (tgt := 51) dX3_takeBack_91 (by decide) ?_
    exact aw_fgt (L' := [some (vR 3 (some x0)), some (vR 4 x1), some (vI x2), some (vI x3), some (vI (x4 + 1))]) ⟨rfl, ⟨rfl, ⟨rfl, ⟨rfl, ⟨rfl, trivial⟩⟩⟩⟩⟩ h
set_option maxRecDepth 4000 in
theorem bk_X3_top_0 {g : GP} {l : Launch} {d : Nat} {σ : St} {Q : Option AV → St → Prop} {x0 : Nat}
    (h : ((¬ (gI σ 303 x0 0) = 0 → LC 3 σ x0 ∧ R32 ((gI σ 303 x0 0) - 1) ∧ Bd ((gI σ 303 x0 0) - 1) 4 ∧ Q (some (vR 4 (gR σ 302 x0 ((gI σ 303 x0 0) - 1).toNat))) σ) ∧ ((gI σ 303 x0 0) = 0 → Q (some (vR 4 none)) σ))) :
    AW g l d MX3_top 0 [some (vR 3 (some x0))] [] σ Q := by
  refine aw_aload_n dX3_top_0 rfl rfl ?_
  refine aw_getI' rfl fk_303 lf_X3_28 dX3_top_1 ?_
  refine aw_if_ne (tgt := 11) dX3_top_4 (by decide) (fun k1 => ?_) (fun k1 => ?_)
  · replace h := h.1 k1
    refine aw_aload_n dX3_top_11 rfl rfl ?_
    obtain ⟨lc2, h⟩ := h
    refine aw_getA' rfl fk_302 (by decide) lf_X3_20 dX3_top_12 (LC.ne lc2 rfl rfl) ?_
    refine aw_aload_n dX3_top_15 rfl rfl ?_
    refine aw_getI' rfl fk_303 lf_X3_28 dX3_top_16 ?_
    refine aw_iconst (x := 1) dX3_top_19 rfl ?_
    obtain ⟨⟨c3, c3x⟩, h⟩ := h
    refine aw_isubc dX3_top_20 c3 c3x ?_
    obtain ⟨⟨c4, c4x⟩, h⟩ := h
    refine aw_aaload (ci := 4) (by decide) rfl (by decide +kernel) dX3_top_21 c4 (LC.lt lc2 rfl rfl c4x) ?_
    exact aw_areturn dX3_top_22 rfl h
  · replace h := h.2 k1
    refine aw_null 4 dX3_top_7 ?_
    refine aw_goto (tgt := 22) dX3_top_8 (by decide) ?_
    exact aw_areturn dX3_top_22 rfl h
set_option maxRecDepth 4000 in
theorem bk_X3_write_0 {g : GP} {l : Launch} {d : Nat} {σ : St} {Q : Option AV → St → Prop} {x0 : Nat} {x1 : Int} {x2 : Int} {x3 : Int64} {x5 : Int}
    (h : ((x1 < 0 → Q none σ) ∧ (¬ x1 < 0 → ((8 < x2 → Q none σ) ∧ (¬ 8 < x2 → R32 (x1 + x2) ∧ (((x1 + x2) ≤ (gI σ 304 x0 0) → ACr g l d MX3_top 4 [vR 3 (some x0)] σ (fun v6 σ5 => ((v6 = none → AW g l (d + 1) MX3_write 42 [some (vR 3 (some x0)), some (vI x1), some (vI x2), some (vJ x3), none, some (vI x5), some (vR 4 v6), some (vI 0), none] [] σ5 Q) ∧ (∀ r7, v6 = some r7 → ACv g l d MX4_keep [vR 4 (some r7), vI x1, vI x2] σ5 (fun σ9 => AW g l (d + 1) MX3_write 42 [some (vR 3 (some x0)), some (vI x1), some (vI x2), some (vJ x3), none, some (vI x5), some (vR 4 v6), some (vI 0), none] [] σ9 Q))))) ∧ (¬ (x1 + x2) ≤ (gI σ 304 x0 0) → Q none σ))))))) :
    AW g l (d + 1) MX3_write 0 [some (vR 3 (some x0)), some (vI x1), some (vI x2), some (vJ x3), none, some (vI x5), none, none, none] [] σ Q := by
  refine aw_iload_n dX3_write_0 rfl rfl ?_
  refine aw_if_lt (tgt := 20) dX3_write_1 (by decide) (fun k1 => ?_) (fun k1 => ?_)
  · replace h := h.1 k1
    exact aw_ret h rfl dX3_write_20
  · replace h := h.2 k1
    refine aw_iload_n dX3_write_4 rfl rfl ?_
    refine aw_bipush (x := 8) dX3_write_5 rfl ?_
    refine aw_icmp_gt (tgt := 20) dX3_write_7 (by decide) (fun k2 => ?_) (fun k2 => ?_)
    · replace h := h.1 k2
      exact aw_ret h rfl dX3_write_20
    · replace h := h.2 k2
      refine aw_iload_n dX3_write_10 rfl rfl ?_
      refine aw_iload_n dX3_write_11 rfl rfl ?_
      obtain ⟨⟨c3, c3x⟩, h⟩ := h
      refine aw_iaddc dX3_write_12 c3 c3x ?_
      refine aw_aload_n dX3_write_13 rfl rfl ?_
      refine aw_getI' rfl fk_304 lf_X3_24 dX3_write_14 ?_
      refine aw_icmp_le (tgt := 21) dX3_write_17 (by decide) (fun k4 => ?_) (fun k4 => ?_)
      · replace h := h.1 k4
        refine aw_aload_n dX3_write_21 rfl rfl ?_
        refine aw_invVr (M := MX3_write) (ci := 3) [] rfl mo_X3_top rfl lm_X3_39 li_X3_top ls_X3_top (by decide +kernel) dX3_write_22 rfl (Nat.le_of_ble_eq_true rfl) (ACr.mono (fun v6 σ5 h => ?_) h)
        refine aw_astore (L' := [some (vR 3 (some x0)), some (vI x1), some (vI x2), some (vJ x3), none, some (vI x5), some (vR 4 v6), none, none]) dX3_write_25 (by decide) rfl ?_
        refine aw_aload dX3_write_27 rfl ?_
        refine aw_ifnull (tgt := 39) dX3_write_29 (by decide) (fun hc => ?_) (fun r7 e8 => ?_)
        · replace h := h.1 hc
          refine aw_iconst (x := 0) dX3_write_39 rfl ?_
          refine aw_istore (L' := [some (vR 3 (some x0)), some (vI x1), some (vI x2), some (vJ x3), none, some (vI x5), some (vR 4 v6), some (vI 0), none]) dX3_write_40 (by decide) rfl ?_
          exact aw_fgt (L' := [some (vR 3 (some x0)), some (vI x1), some (vI x2), some (vJ x3), none, some (vI x5), some (vR 4 v6), some (vI 0), none]) ⟨rfl, ⟨rfl, ⟨rfl, ⟨rfl, ⟨rfl, ⟨rfl, ⟨rfl, trivial⟩⟩⟩⟩⟩⟩⟩ h
        · replace h := h.2 r7 e8
          refine aw_aload dX3_write_32 rfl ?_
          refine aw_iload_n dX3_write_34 rfl rfl ?_
          refine aw_iload_n dX3_write_35 rfl rfl ?_
          refine aw_invVv (M := MX3_write) (ci := 4) [vI x1, vI x2] e8 mo_X4_keep rfl lm_X3_69 li_X4_keep ls_X4_keep (by decide +kernel) dX3_write_36 rfl (Nat.le_of_ble_eq_true rfl) (ACv.mono (fun σ9 h => ?_) h)
          refine aw_iconst (x := 0) dX3_write_39 rfl ?_
          refine aw_istore (L' := [some (vR 3 (some x0)), some (vI x1), some (vI x2), some (vJ x3), none, some (vI x5), some (vR 4 v6), some (vI 0), none]) dX3_write_40 (by decide) rfl ?_
          exact aw_fgt (L' := [some (vR 3 (some x0)), some (vI x1), some (vI x2), some (vJ x3), none, some (vI x5), some (vR 4 v6), some (vI 0), none]) ⟨rfl, ⟨rfl, ⟨rfl, ⟨rfl, ⟨rfl, ⟨rfl, ⟨rfl, trivial⟩⟩⟩⟩⟩⟩⟩ h
      · replace h := h.2 k4
        exact aw_ret h rfl dX3_write_20
set_option maxRecDepth 4000 in
theorem bk_X3_write_42 {g : GP} {l : Launch} {d : Nat} {σ : St} {Q : Option AV → St → Prop} {x0 : Nat} {x1 : Int} {x2 : Int} {x3 : Int64} {x5 : Int} {x6 : Option Nat} {x7 : Int}
    (h : ((x2 ≤ x7 → Q none σ) ∧ (¬ x2 ≤ x7 → ((x5 = 0 → AW g l (d + 1) MX3_write 65 [some (vR 3 (some x0)), some (vI x1), some (vI x2), some (vJ x3), none, some (vI x5), some (vR 4 x6), some (vI x7), none] [vI x7, vJ x3] σ Q) ∧ (¬ x5 = 0 → R32 (x2 - 1) ∧ R32 ((x2 - 1) - x7) ∧ AW g l (d + 1) MX3_write 65 [some (vR 3 (some x0)), some (vI x1), some (vI x2), some (vJ x3), none, some (vI x5), some (vR 4 x6), some (vI x7), none] [vI ((x2 - 1) - x7), vJ x3] σ Q))))) :
    AW g l (d + 1) MX3_write 42 [some (vR 3 (some x0)), some (vI x1), some (vI x2), some (vJ x3), none, some (vI x5), some (vR 4 x6), some (vI x7), none] [] σ Q := by
  refine aw_iload dX3_write_42 rfl ?_
  refine aw_iload_n dX3_write_44 rfl rfl ?_
  refine aw_icmp_ge (tgt := 117) dX3_write_45 (by decide) (fun k1 => ?_) (fun k1 => ?_)
  · replace h := h.1 k1
    exact aw_ret h rfl dX3_write_117
  · replace h := h.2 k1
    refine aw_lload_n dX3_write_48 rfl rfl ?_
    refine aw_iload dX3_write_49 rfl ?_
    refine aw_if_eq (tgt := 63) dX3_write_51 (by decide) (fun k2 => ?_) (fun k2 => ?_)
    · replace h := h.1 k2
      refine aw_iload dX3_write_63 rfl ?_
      exact aw_fgt (L' := [some (vR 3 (some x0)), some (vI x1), some (vI x2), some (vJ x3), none, some (vI x5), some (vR 4 x6), some (vI x7), none]) ⟨rfl, ⟨rfl, ⟨rfl, ⟨rfl, ⟨rfl, ⟨rfl, ⟨rfl, trivial⟩⟩⟩⟩⟩⟩⟩ h
    · replace h := h.2 k2
      refine aw_iload_n dX3_write_54 rfl rfl ?_
      refine aw_iconst (x := 1) dX3_write_55 rfl ?_
      obtain ⟨⟨c3, c3x⟩, h⟩ := h
      refine aw_isubc dX3_write_56 c3 c3x ?_
      refine aw_iload dX3_write_57 rfl ?_
      obtain ⟨⟨c4, c4x⟩, h⟩ := h
      refine aw_isubc dX3_write_59 c4 c4x ?_
      refine aw_goto (tgt := 65) dX3_write_60 (by decide) ?_
      exact aw_fgt (L' := [some (vR 3 (some x0)), some (vI x1), some (vI x2), some (vJ x3), none, some (vI x5), some (vR 4 x6), some (vI x7), none]) ⟨rfl, ⟨rfl, ⟨rfl, ⟨rfl, ⟨rfl, ⟨rfl, ⟨rfl, trivial⟩⟩⟩⟩⟩⟩⟩ h
set_option maxRecDepth 4000 in
theorem bk_X3_write_65 {g : GP} {l : Launch} {d : Nat} {σ : St} {Q : Option AV → St → Prop} {x0 : Nat} {x1 : Int} {x2 : Int} {x3 : Int64} {x5 : Int} {x6 : Option Nat} {x7 : Int} {y0 : Int} {y1 : Int64}
    (h : ACi g l d MX11_byteOf [vJ y1, vI y0] σ (fun v2 σ1 => ((x6 = none → LC 3 σ1 x0 ∧ R32 (x1 + x7) ∧ Bd (x1 + x7) 2000 ∧ R32 (x7 + 1) ∧ AW g l (d + 1) MX3_write 42 [some (vR 3 (some x0)), some (vI x1), some (vI x2), some (vJ x3), none, some (vI x5), some (vR 4 x6), some (vI (x7 + 1)), none] [] (sI (sI σ1 300 x0 (x1 + x7).toNat v2) 301 x0 (x1 + x7).toNat v2) Q) ∧ (∀ r3, x6 = some r3 → R32 (x1 + x7) ∧ ACv g l d MX4_give [vR 4 (some r3), vI (x1 + x7), vI v2] σ1 (fun σ10 => LC 3 σ10 x0 ∧ Bd (x1 + x7) 2000 ∧ R32 (x7 + 1) ∧ AW g l (d + 1) MX3_write 42 [some (vR 3 (some x0)), some (vI x1), some (vI x2), some (vJ x3), none, some (vI x5), some (vR 4 x6), some (vI (x7 + 1)), none] [] (sI σ10 301 x0 (x1 + x7).toNat v2) Q))))) :
    AW g l (d + 1) MX3_write 65 [some (vR 3 (some x0)), some (vI x1), some (vI x2), some (vJ x3), none, some (vI x5), some (vR 4 x6), some (vI x7), none] [vI y0, vJ y1] σ Q := by
  refine aw_invSNi (M := MX3_write) [vJ y1, vI y0] mo_X11_byteOf rfl lm_X3_31 lt_X11_byteOf dX3_write_65 rfl (Nat.le_of_ble_eq_true rfl) (ACi.mono (fun v2 σ1 h => ?_) h)
  refine aw_istore (L' := [some (vR 3 (some x0)), some (vI x1), some (vI x2), some (vJ x3), none, some (vI x5), some (vR 4 x6), some (vI x7), some (vI v2)]) dX3_write_68 (by decide) rfl ?_
  refine aw_aload dX3_write_70 rfl ?_
  refine aw_ifnonnull (tgt := 89) dX3_write_72 (by decide) (fun r3 e4 => ?_) (fun hc => ?_)
  · replace h := h.2 r3 e4
    refine aw_aload dX3_write_89 rfl ?_
    refine aw_iload_n dX3_write_91 rfl rfl ?_
    refine aw_iload dX3_write_92 rfl ?_
    obtain ⟨⟨c9, c9x⟩, h⟩ := h
    refine aw_iaddc dX3_write_94 c9 c9x ?_
    refine aw_iload dX3_write_95 rfl ?_
    refine aw_invVv (M := MX3_write) (ci := 4) [vI (x1 + x7), vI v2] e4 mo_X4_give rfl lm_X3_46 li_X4_give ls_X4_give (by decide +kernel) dX3_write_97 rfl (Nat.le_of_ble_eq_true rfl) (ACv.mono (fun σ10 h => ?_) h)
    refine aw_aload_n dX3_write_100 rfl rfl ?_
    obtain ⟨lc11, h⟩ := h
    refine aw_getA' rfl fk_301 (by decide) lf_X3_15 dX3_write_101 (LC.ne lc11 rfl rfl) ?_
    refine aw_iload_n dX3_write_104 rfl rfl ?_
    refine aw_iload dX3_write_105 rfl ?_
    refine aw_iaddc dX3_write_107 c9 c9x ?_
    refine aw_iload dX3_write_108 rfl ?_
    obtain ⟨⟨c12, c12x⟩, h⟩ := h
    refine aw_iastore (by decide) rfl dX3_write_110 c12 (LC.lt lc11 rfl rfl c12x) ?_
    obtain ⟨⟨c13, c13x⟩, h⟩ := h
    refine aw_iincc (L' := [some (vR 3 (some x0)), some (vI x1), some (vI x2), some (vJ x3), none, some (vI x5), some (vR 4 x6), some (vI (x7 + 1)), some (vI v2)]) dX3_write_111 rfl (by decide) rfl c13 c13x rfl ?_
    refine aw_goto (tgt := 42) dX3_write_114 (by decide) ?_
    exact aw_fgt (L' := [some (vR 3 (some x0)), some (vI x1), some (vI x2), some (vJ x3), none, some (vI x5), some (vR 4 x6), some (vI (x7 + 1)), none]) ⟨rfl, ⟨rfl, ⟨rfl, ⟨rfl, ⟨rfl, ⟨rfl, ⟨rfl, trivial⟩⟩⟩⟩⟩⟩⟩ h
  · replace h := h.1 hc
    refine aw_aload_n dX3_write_75 rfl rfl ?_
    obtain ⟨lc5, h⟩ := h
    refine aw_getA' rfl fk_300 (by decide) lf_X3_9 dX3_write_76 (LC.ne lc5 rfl rfl) ?_
    refine aw_iload_n dX3_write_79 rfl rfl ?_
    refine aw_iload dX3_write_80 rfl ?_
    obtain ⟨⟨c6, c6x⟩, h⟩ := h
    refine aw_iaddc dX3_write_82 c6 c6x ?_
    refine aw_iload dX3_write_83 rfl ?_
    obtain ⟨⟨c7, c7x⟩, h⟩ := h
    refine aw_iastore (by decide) rfl dX3_write_85 c7 (LC.lt lc5 rfl rfl c7x) ?_
    refine aw_goto (tgt := 100) dX3_write_86 (by decide) ?_
    refine aw_aload_n dX3_write_100 rfl rfl ?_
    refine aw_getA' rfl fk_301 (by decide) lf_X3_15 dX3_write_101 (LC.ne lc5 rfl rfl) ?_
    refine aw_iload_n dX3_write_104 rfl rfl ?_
    refine aw_iload dX3_write_105 rfl ?_
    refine aw_iaddc dX3_write_107 c6 c6x ?_
    refine aw_iload dX3_write_108 rfl ?_
    refine aw_iastore (by decide) rfl dX3_write_110 c7 (LC.lt lc5 rfl rfl c7x) ?_
    obtain ⟨⟨c8, c8x⟩, h⟩ := h
    refine aw_iincc (L' := [some (vR 3 (some x0)), some (vI x1), some (vI x2), some (vJ x3), none, some (vI x5), some (vR 4 x6), some (vI (x7 + 1)), some (vI v2)]) dX3_write_111 rfl (by decide) rfl c8 c8x rfl ?_
    refine aw_goto (tgt := 42) dX3_write_114 (by decide) ?_
    exact aw_fgt (L' := [some (vR 3 (some x0)), some (vI x1), some (vI x2), some (vJ x3), none, some (vI x5), some (vR 4 x6), some (vI (x7 + 1)), none]) ⟨rfl, ⟨rfl, ⟨rfl, ⟨rfl, ⟨rfl, ⟨rfl, ⟨rfl, trivial⟩⟩⟩⟩⟩⟩⟩ h
set_option maxRecDepth 4000 in
theorem bk_X5_init_0 {g : GP} {l : Launch} {d : Nat} {σ : St} {Q : Option AV → St → Prop} {x0 : Nat} {x1 : Int}
    (h : Q none (sI σ 500 x0 0 x1)) :
    AW g l (d + 1) MX5_init 0 [some (vR 5 (some x0)), some (vI x1)] [] σ Q := by
  refine aw_aload_n dX5_init_0 rfl rfl ?_
  refine aw_objInit (M := MX5_init) lm_X5_3 loi_i loi_c dX5_init_1 (Nat.le_of_ble_eq_true rfl) ?_
  refine aw_aload_n dX5_init_4 rfl rfl ?_
  refine aw_iload_n dX5_init_5 rfl rfl ?_
  refine aw_putI' rfl fk_500 (Or.inr ⟨rfl, rfl⟩) lf_X5_9 dX5_init_6 ?_
  exact aw_ret h rfl dX5_init_9
set_option maxRecDepth 4000 in
theorem bk_X5_addKid_0 {g : GP} {l : Launch} {d : Nat} {σ : St} {Q : Option AV → St → Prop} {x0 : Nat} {x1 : Option Nat}
    (h : ((gR σ 509 x0 0 = none → R32 ((gI σ 511 x0 0) + 1) ∧ Q none (sI (sR (sR σ 508 x0 0 x1) 509 x0 0 x1) 511 x0 0 ((gI σ 511 x0 0) + 1))) ∧ (∀ r1, gR σ 509 x0 0 = some r1 → R32 ((gI σ 511 x0 0) + 1) ∧ Q none (sI (sR (sR σ 510 r1 0 x1) 509 x0 0 x1) 511 x0 0 ((gI σ 511 x0 0) + 1))))) :
    AW g l d MX5_addKid 0 [some (vR 5 (some x0)), some (vR 5 x1)] [] σ Q := by
  refine aw_aload_n dX5_addKid_0 rfl rfl ?_
  refine aw_getR' (ci := 5) rfl fk_509 (by decide +kernel) lf_X5_42 dX5_addKid_1 ?_
  refine aw_ifnonnull (tgt := 15) dX5_addKid_4 (by decide) (fun r1 e2 => ?_) (fun hc => ?_)
  · replace h := h.2 r1 e2
    refine aw_aload_n dX5_addKid_15 rfl rfl ?_
    refine aw_getR' (ci := 5) rfl fk_509 (by decide +kernel) lf_X5_42 dX5_addKid_16 ?_
    refine aw_aload_n dX5_addKid_19 rfl rfl ?_
    refine aw_putR' e2 fk_510 (by decide +kernel) (Or.inl rfl) lf_X5_45 dX5_addKid_20 ?_
    refine aw_aload_n dX5_addKid_23 rfl rfl ?_
    refine aw_aload_n dX5_addKid_24 rfl rfl ?_
    refine aw_putR' rfl fk_509 (by decide +kernel) (Or.inl rfl) lf_X5_42 dX5_addKid_25 ?_
    refine aw_aload_n dX5_addKid_28 rfl rfl ?_
    refine aw_dup dX5_addKid_29 rfl ?_
    refine aw_getIe (v := gI σ 511 x0 0) rfl fk_511 lf_X5_48 dX5_addKid_30 rfl ?_
    refine aw_iconst (x := 1) dX5_addKid_33 rfl ?_
    obtain ⟨⟨c4, c4x⟩, h⟩ := h
    refine aw_iaddc dX5_addKid_34 c4 c4x ?_
    refine aw_putI' rfl fk_511 (Or.inl rfl) lf_X5_48 dX5_addKid_35 ?_
    exact aw_ret h rfl dX5_addKid_38
  · replace h := h.1 hc
    refine aw_aload_n dX5_addKid_7 rfl rfl ?_
    refine aw_aload_n dX5_addKid_8 rfl rfl ?_
    refine aw_putR' rfl fk_508 (by decide +kernel) (Or.inl rfl) lf_X5_39 dX5_addKid_9 ?_
    refine aw_goto (tgt := 23) dX5_addKid_12 (by decide) ?_
    refine aw_aload_n dX5_addKid_23 rfl rfl ?_
    refine aw_aload_n dX5_addKid_24 rfl rfl ?_
    refine aw_putR' rfl fk_509 (by decide +kernel) (Or.inl rfl) lf_X5_42 dX5_addKid_25 ?_
    refine aw_aload_n dX5_addKid_28 rfl rfl ?_
    refine aw_dup dX5_addKid_29 rfl ?_
    refine aw_getIe (v := gI σ 511 x0 0) rfl fk_511 lf_X5_48 dX5_addKid_30 rfl ?_
    refine aw_iconst (x := 1) dX5_addKid_33 rfl ?_
    obtain ⟨⟨c3, c3x⟩, h⟩ := h
    refine aw_iaddc dX5_addKid_34 c3 c3x ?_
    refine aw_putI' rfl fk_511 (Or.inl rfl) lf_X5_48 dX5_addKid_35 ?_
    exact aw_ret h rfl dX5_addKid_38
set_option maxRecDepth 4000 in
theorem bk_X5_begin_0 {g : GP} {l : Launch} {d : Nat} {σ : St} {Q : Option AV → St → Prop} {x0 : Nat} {x1 : Option Nat} {x2 : Int} {x3 : Int} {x4 : Int64} {x6 : Option Nat}
    (h : ((x1 = none → Q none (sI (sI (sI (sR (sI (sI (sR (sR (sR (sR (sJ (sI (sI (sI (sI (sI σ 501 x0 0 x2) 502 x0 0 x3) 503 x0 0 x3) 504 x0 0 0) 505 x0 0 0) 506 x0 0 x4) 507 x0 0 x1) 508 x0 0 none) 509 x0 0 none) 510 x0 0 none) 511 x0 0 0) 512 x0 0 0) 513 x0 0 x6) 514 x0 0 (-1)) 515 x0 0 0) 516 x0 0 0)) ∧ (∀ r1, x1 = some r1 → R32 ((gI σ 512 r1 0) + 1) ∧ Q none (sI (sI (sI (sR (sI (sI (sR (sR (sR (sR (sJ (sI (sI (sI (sI (sI σ 501 x0 0 x2) 502 x0 0 x3) 503 x0 0 x3) 504 x0 0 0) 505 x0 0 0) 506 x0 0 x4) 507 x0 0 x1) 508 x0 0 none) 509 x0 0 none) 510 x0 0 none) 511 x0 0 0) 512 x0 0 ((gI σ 512 r1 0) + 1)) 513 x0 0 x6) 514 x0 0 (-1)) 515 x0 0 0) 516 x0 0 0)))) :
    AW g l d MX5_begin 0 [some (vR 5 (some x0)), some (vR 5 x1), some (vI x2), some (vI x3), some (vJ x4), none, some (vR 2 x6)] [] σ Q := by
  refine aw_aload_n dX5_begin_0 rfl rfl ?_
  refine aw_iload_n dX5_begin_1 rfl rfl ?_
  refine aw_putI' rfl fk_501 (Or.inl rfl) lf_X5_15 dX5_begin_2 ?_
  refine aw_aload_n dX5_begin_5 rfl rfl ?_
  refine aw_iload_n dX5_begin_6 rfl rfl ?_
  refine aw_putI' rfl fk_502 (Or.inl rfl) lf_X5_18 dX5_begin_7 ?_
  refine aw_aload_n dX5_begin_10 rfl rfl ?_
  refine aw_iload_n dX5_begin_11 rfl rfl ?_
  refine aw_putI' rfl fk_503 (Or.inl rfl) lf_X5_21 dX5_begin_12 ?_
  refine aw_aload_n dX5_begin_15 rfl rfl ?_
  refine aw_iconst (x := 0) dX5_begin_16 rfl ?_
  refine aw_putI' rfl fk_504 (Or.inl rfl) lf_X5_24 dX5_begin_17 ?_
  refine aw_aload_n dX5_begin_20 rfl rfl ?_
  refine aw_iconst (x := 0) dX5_begin_21 rfl ?_
  refine aw_putZ' rfl fk_505 (Or.inl rfl) lf_X5_27 dX5_begin_22 (Or.inl rfl) ?_
  refine aw_aload_n dX5_begin_25 rfl rfl ?_
  refine aw_lload dX5_begin_26 rfl ?_
  refine aw_putJ' rfl fk_506 (Or.inl rfl) lf_X5_31 dX5_begin_28 ?_
  refine aw_aload_n dX5_begin_31 rfl rfl ?_
  refine aw_aload_n dX5_begin_32 rfl rfl ?_
  refine aw_putR' rfl fk_507 (by decide +kernel) (Or.inl rfl) lf_X5_35 dX5_begin_33 ?_
  refine aw_aload_n dX5_begin_36 rfl rfl ?_
  refine aw_null 5 dX5_begin_37 ?_
  refine aw_putR' rfl fk_508 (by decide +kernel) (Or.inl rfl) lf_X5_39 dX5_begin_38 ?_
  refine aw_aload_n dX5_begin_41 rfl rfl ?_
  refine aw_null 5 dX5_begin_42 ?_
  refine aw_putR' rfl fk_509 (by decide +kernel) (Or.inl rfl) lf_X5_42 dX5_begin_43 ?_
  refine aw_aload_n dX5_begin_46 rfl rfl ?_
  refine aw_null 5 dX5_begin_47 ?_
  refine aw_putR' rfl fk_510 (by decide +kernel) (Or.inl rfl) lf_X5_45 dX5_begin_48 ?_
  refine aw_aload_n dX5_begin_51 rfl rfl ?_
  refine aw_iconst (x := 0) dX5_begin_52 rfl ?_
  refine aw_putI' rfl fk_511 (Or.inl rfl) lf_X5_48 dX5_begin_53 ?_
  refine aw_aload_n dX5_begin_56 rfl rfl ?_
  refine aw_aload_n dX5_begin_57 rfl rfl ?_
  refine aw_ifnonnull (tgt := 65) dX5_begin_58 (by decide) (fun r1 e2 => ?_) (fun hc => ?_)
  · replace h := h.2 r1 e2
    refine aw_aload_n dX5_begin_65 rfl rfl ?_
    refine aw_getIe (v := gI σ 512 r1 0) e2 fk_512 lf_X5_51 dX5_begin_66 rfl ?_
    refine aw_iconst (x := 1) dX5_begin_69 rfl ?_
    obtain ⟨⟨c3, c3x⟩, h⟩ := h
    refine aw_iaddc dX5_begin_70 c3 c3x ?_
    refine aw_putI' rfl fk_512 (Or.inl rfl) lf_X5_51 dX5_begin_71 ?_
    refine aw_aload_n dX5_begin_74 rfl rfl ?_
    refine aw_aload dX5_begin_75 rfl ?_
    refine aw_putR' rfl fk_513 (by decide +kernel) (Or.inl rfl) lf_X5_54 dX5_begin_77 ?_
    refine aw_aload_n dX5_begin_80 rfl rfl ?_
    refine aw_iconst (x := (-1)) dX5_begin_81 rfl ?_
    refine aw_putI' rfl fk_514 (Or.inl rfl) lf_X5_58 dX5_begin_82 ?_
    refine aw_aload_n dX5_begin_85 rfl rfl ?_
    refine aw_iconst (x := 0) dX5_begin_86 rfl ?_
    refine aw_putI' rfl fk_515 (Or.inl rfl) lf_X5_61 dX5_begin_87 ?_
    refine aw_aload_n dX5_begin_90 rfl rfl ?_
    refine aw_iconst (x := 0) dX5_begin_91 rfl ?_
    refine aw_putI' rfl fk_516 (Or.inl rfl) lf_X5_64 dX5_begin_92 ?_
    exact aw_ret h rfl dX5_begin_95
  · replace h := h.1 hc
    refine aw_iconst (x := 0) dX5_begin_61 rfl ?_
    refine aw_goto (tgt := 71) dX5_begin_62 (by decide) ?_
    refine aw_putI' rfl fk_512 (Or.inl rfl) lf_X5_51 dX5_begin_71 ?_
    refine aw_aload_n dX5_begin_74 rfl rfl ?_
    refine aw_aload dX5_begin_75 rfl ?_
    refine aw_putR' rfl fk_513 (by decide +kernel) (Or.inl rfl) lf_X5_54 dX5_begin_77 ?_
    refine aw_aload_n dX5_begin_80 rfl rfl ?_
    refine aw_iconst (x := (-1)) dX5_begin_81 rfl ?_
    refine aw_putI' rfl fk_514 (Or.inl rfl) lf_X5_58 dX5_begin_82 ?_
    refine aw_aload_n dX5_begin_85 rfl rfl ?_
    refine aw_iconst (x := 0) dX5_begin_86 rfl ?_
    refine aw_putI' rfl fk_515 (Or.inl rfl) lf_X5_61 dX5_begin_87 ?_
    refine aw_aload_n dX5_begin_90 rfl rfl ?_
    refine aw_iconst (x := 0) dX5_begin_91 rfl ?_
    refine aw_putI' rfl fk_516 (Or.inl rfl) lf_X5_64 dX5_begin_92 ?_
    exact aw_ret h rfl dX5_begin_95
set_option maxRecDepth 4000 in
theorem bk_X5_canHave_0 {g : GP} {l : Launch} {d : Nat} {σ : St} {Q : Option AV → St → Prop} {x0 : Nat} {x1 : Int64}
    (h : ((¬ (gI σ 501 x0 0) = 4 → ∃ r2, gR σ 513 x0 0 = some r2 ∧ R32 (8 * (gI σ 203 r2 0)) ∧ AW g l (d + 1) MX5_canHave 25 [some (vR 5 (some x0)), some (vJ x1), none, none, none, none] [vI (8 * (gI σ 203 r2 0))] σ Q) ∧ ((gI σ 501 x0 0) = 4 → AW g l (d + 1) MX5_canHave 25 [some (vR 5 (some x0)), some (vJ x1), none, none, none, none] [vI (gI σ 516 x0 0)] σ Q))) :
    AW g l (d + 1) MX5_canHave 0 [some (vR 5 (some x0)), some (vJ x1), none, none, none, none] [] σ Q := by
  refine aw_aload_n dX5_canHave_0 rfl rfl ?_
  refine aw_getI' rfl fk_501 lf_X5_15 dX5_canHave_1 ?_
  refine aw_iconst (x := 4) dX5_canHave_4 rfl ?_
  refine aw_icmp_ne (tgt := 15) dX5_canHave_5 (by decide) (fun k1 => ?_) (fun k1 => ?_)
  · replace h := h.1 k1
    refine aw_bipush (x := 8) dX5_canHave_15 rfl ?_
    refine aw_aload_n dX5_canHave_17 rfl rfl ?_
    refine aw_getR' (ci := 2) rfl fk_513 (by decide +kernel) lf_X5_54 dX5_canHave_18 ?_
    obtain ⟨r2, e3, h⟩ := h
    refine aw_getI' e3 fk_203 lf_X5_87 dX5_canHave_21 ?_
    obtain ⟨⟨c4, c4x⟩, h⟩ := h
    refine aw_imulc dX5_canHave_24 c4 c4x ?_
    exact aw_fgt (L' := [some (vR 5 (some x0)), some (vJ x1), none, none, none, none]) ⟨rfl, ⟨rfl, trivial⟩⟩ h
  · replace h := h.2 k1
    refine aw_aload_n dX5_canHave_8 rfl rfl ?_
    refine aw_getI' rfl fk_516 lf_X5_64 dX5_canHave_9 ?_
    refine aw_goto (tgt := 25) dX5_canHave_12 (by decide) ?_
    exact aw_fgt (L' := [some (vR 5 (some x0)), some (vJ x1), none, none, none, none]) ⟨rfl, ⟨rfl, trivial⟩⟩ h
set_option maxRecDepth 4000 in
theorem bk_X5_canHave_25 {g : GP} {l : Launch} {d : Nat} {σ : St} {Q : Option AV → St → Prop} {x0 : Nat} {x1 : Int64} {y0 : Int}
    (h : ((y0 < 64 → ∃ r2, gR σ 513 x0 0 = some r2 ∧ (((gI σ 204 r2 0) = 0 → AW g l (d + 1) MX5_canHave 88 [none, some (vJ x1), none, some (vI y0), none, none] [] σ Q) ∧ (¬ (gI σ 204 r2 0) = 0 → (((gI σ 501 x0 0) = 4 → AW g l (d + 1) MX5_canHave 88 [none, some (vJ x1), none, some (vI y0), none, none] [] σ Q) ∧ (¬ (gI σ 501 x0 0) = 4 → (((gI σ 501 x0 0) = 3 → AW g l (d + 1) MX5_canHave 88 [none, some (vJ x1), none, some (vI y0), none, none] [] σ Q) ∧ (¬ (gI σ 501 x0 0) = 3 → R32 (y0 - 1) ∧ ((x1.toInt < (-(j_shl 1 (y0 - 1))).toInt → Q (some (vI 0)) σ) ∧ (¬ x1.toInt < (-(j_shl 1 (y0 - 1))).toInt → (((j_shl 1 (y0 - 1)).toInt ≤ x1.toInt → Q (some (vI 0)) σ) ∧ (¬ (j_shl 1 (y0 - 1)).toInt ≤ x1.toInt → Q (some (vI 1)) σ))))))))))) ∧ (¬ y0 < 64 → Q (some (vI 1)) σ))) :
    AW g l (d + 1) MX5_canHave 25 [some (vR 5 (some x0)), some (vJ x1), none, none, none, none] [vI y0] σ Q := by
  refine aw_istore_n (L' := [some (vR 5 (some x0)), some (vJ x1), none, some (vI y0), none, none]) dX5_canHave_25 rfl (by decide) rfl ?_
  refine aw_iload_n dX5_canHave_26 rfl rfl ?_
  refine aw_bipush (x := 64) dX5_canHave_27 rfl ?_
  refine aw_icmp_lt (tgt := 34) dX5_canHave_29 (by decide) (fun k1 => ?_) (fun k1 => ?_)
  · replace h := h.1 k1
    refine aw_aload_n dX5_canHave_34 rfl rfl ?_
    refine aw_getR' (ci := 2) rfl fk_513 (by decide +kernel) lf_X5_54 dX5_canHave_35 ?_
    obtain ⟨r2, e3, h⟩ := h
    refine aw_getZ' e3 fk_204 lf_X5_103 dX5_canHave_38 ?_
    refine aw_if_eq (tgt := 88) dX5_canHave_41 (by decide) (fun k4 => ?_) (fun k4 => ?_)
    · replace h := h.1 k4
      exact aw_fgt (L' := [none, some (vJ x1), none, some (vI y0), none, none]) ⟨rfl, ⟨rfl, trivial⟩⟩ h
    · replace h := h.2 k4
      refine aw_aload_n dX5_canHave_44 rfl rfl ?_
      refine aw_getI' rfl fk_501 lf_X5_15 dX5_canHave_45 ?_
      refine aw_iconst (x := 4) dX5_canHave_48 rfl ?_
      refine aw_icmp_eq (tgt := 88) dX5_canHave_49 (by decide) (fun k5 => ?_) (fun k5 => ?_)
      · replace h := h.1 k5
        exact aw_fgt (L' := [none, some (vJ x1), none, some (vI y0), none, none]) ⟨rfl, ⟨rfl, trivial⟩⟩ h
      · replace h := h.2 k5
        refine aw_aload_n dX5_canHave_52 rfl rfl ?_
        refine aw_getI' rfl fk_501 lf_X5_15 dX5_canHave_53 ?_
        refine aw_iconst (x := 3) dX5_canHave_56 rfl ?_
        refine aw_icmp_eq (tgt := 88) dX5_canHave_57 (by decide) (fun k6 => ?_) (fun k6 => ?_)
        · replace h := h.1 k6
          exact aw_fgt (L' := [none, some (vJ x1), none, some (vI y0), none, none]) ⟨rfl, ⟨rfl, trivial⟩⟩ h
        · replace h := h.2 k6
          refine aw_lconst (x := 1) dX5_canHave_60 rfl ?_
          refine aw_iload_n dX5_canHave_61 rfl rfl ?_
          refine aw_iconst (x := 1) dX5_canHave_62 rfl ?_
          obtain ⟨⟨c7, c7x⟩, h⟩ := h
          refine aw_isubc dX5_canHave_63 c7 c7x ?_
          refine aw_lshl dX5_canHave_64 ?_
          refine aw_lstore (L' := [some (vR 5 (some x0)), some (vJ x1), none, some (vI y0), some (vJ (j_shl 1 (y0 - 1))), none]) dX5_canHave_65 (by decide) rfl ?_
          refine aw_lload_n dX5_canHave_67 rfl rfl ?_
          refine aw_lload dX5_canHave_68 rfl ?_
          refine aw_lneg dX5_canHave_70 ?_
          refine aw_lcmp_lt (M := MX5_canHave) (tgt := 86) dX5_canHave_71 dX5_canHave_72 (by decide) (fun k8 => ?_) (fun k8 => ?_)
          · replace h := h.1 k8
            refine aw_iconst (x := 0) dX5_canHave_86 rfl ?_
            exact aw_zreturn dX5_canHave_87 rfl (Or.inl rfl) h
          · replace h := h.2 k8
            refine aw_lload_n dX5_canHave_75 rfl rfl ?_
            refine aw_lload dX5_canHave_76 rfl ?_
            refine aw_lcmp_ge (M := MX5_canHave) (tgt := 86) dX5_canHave_78 dX5_canHave_79 (by decide) (fun k9 => ?_) (fun k9 => ?_)
            · replace h := h.1 k9
              refine aw_iconst (x := 0) dX5_canHave_86 rfl ?_
              exact aw_zreturn dX5_canHave_87 rfl (Or.inl rfl) h
            · replace h := h.2 k9
              refine aw_iconst (x := 1) dX5_canHave_82 rfl ?_
              refine aw_goto (tgt := 87) dX5_canHave_83 (by decide) ?_
              exact aw_zreturn dX5_canHave_87 rfl (Or.inr rfl) h
  · replace h := h.2 k1
    refine aw_iconst (x := 1) dX5_canHave_32 rfl ?_
    exact aw_zreturn dX5_canHave_33 rfl (Or.inr rfl) h
set_option maxRecDepth 4000 in
theorem bk_X5_canHave_88 {g : GP} {l : Launch} {d : Nat} {σ : St} {Q : Option AV → St → Prop} {x1 : Int64} {x3 : Int}
    (h : ((x1.toInt < (0 : Int64).toInt → Q (some (vI 0)) σ) ∧ (¬ x1.toInt < (0 : Int64).toInt → ACj g l d MX11_lowBits [vI x3] σ (fun v3 σ2 => ((v3.toInt < x1.toInt → Q (some (vI 0)) σ2) ∧ (¬ v3.toInt < x1.toInt → Q (some (vI 1)) σ2)))))) :
    AW g l (d + 1) MX5_canHave 88 [none, some (vJ x1), none, some (vI x3), none, none] [] σ Q := by
  refine aw_lload_n dX5_canHave_88 rfl rfl ?_
  refine aw_lconst (x := 0) dX5_canHave_89 rfl ?_
  refine aw_lcmp_lt (M := MX5_canHave) (tgt := 107) dX5_canHave_90 dX5_canHave_91 (by decide) (fun k1 => ?_) (fun k1 => ?_)
  · replace h := h.1 k1
    refine aw_iconst (x := 0) dX5_canHave_107 rfl ?_
    exact aw_zreturn dX5_canHave_108 rfl (Or.inl rfl) h
  · replace h := h.2 k1
    refine aw_lload_n dX5_canHave_94 rfl rfl ?_
    refine aw_iload_n dX5_canHave_95 rfl rfl ?_
    refine aw_invSNj (M := MX5_canHave) [vI x3] mo_X11_lowBits rfl lm_X5_99 lt_X11_lowBits dX5_canHave_96 rfl (Nat.le_of_ble_eq_true rfl) (ACj.mono (fun v3 σ2 h => ?_) h)
    refine aw_lcmp_gt (M := MX5_canHave) (tgt := 107) dX5_canHave_99 dX5_canHave_100 (by decide) (fun k4 => ?_) (fun k4 => ?_)
    · replace h := h.1 k4
      refine aw_iconst (x := 0) dX5_canHave_107 rfl ?_
      exact aw_zreturn dX5_canHave_108 rfl (Or.inl rfl) h
    · replace h := h.2 k4
      refine aw_iconst (x := 1) dX5_canHave_103 rfl ?_
      refine aw_goto (tgt := 108) dX5_canHave_104 (by decide) ?_
      exact aw_zreturn dX5_canHave_108 rfl (Or.inr rfl) h
set_option maxRecDepth 4000 in
theorem bk_X5_covers_0 {g : GP} {l : Launch} {d : Nat} {σ : St} {Q : Option AV → St → Prop} {x0 : Nat} {x1 : Int}
    (h : ((x1 < (gI σ 502 x0 0) → Q (some (vI 0)) σ) ∧ (¬ x1 < (gI σ 502 x0 0) → (((gI σ 503 x0 0) ≤ x1 → Q (some (vI 0)) σ) ∧ (¬ (gI σ 503 x0 0) ≤ x1 → Q (some (vI 1)) σ))))) :
    AW g l d MX5_covers 0 [some (vR 5 (some x0)), some (vI x1)] [] σ Q := by
  refine aw_aload_n dX5_covers_0 rfl rfl ?_
  refine aw_getI' rfl fk_502 lf_X5_18 dX5_covers_1 ?_
  refine aw_iload_n dX5_covers_4 rfl rfl ?_
  refine aw_icmp_gt (tgt := 20) dX5_covers_5 (by decide) (fun k1 => ?_) (fun k1 => ?_)
  · replace h := h.1 k1
    refine aw_iconst (x := 0) dX5_covers_20 rfl ?_
    exact aw_zreturn dX5_covers_21 rfl (Or.inl rfl) h
  · replace h := h.2 k1
    refine aw_iload_n dX5_covers_8 rfl rfl ?_
    refine aw_aload_n dX5_covers_9 rfl rfl ?_
    refine aw_getI' rfl fk_503 lf_X5_21 dX5_covers_10 ?_
    refine aw_icmp_ge (tgt := 20) dX5_covers_13 (by decide) (fun k2 => ?_) (fun k2 => ?_)
    · replace h := h.1 k2
      refine aw_iconst (x := 0) dX5_covers_20 rfl ?_
      exact aw_zreturn dX5_covers_21 rfl (Or.inl rfl) h
    · replace h := h.2 k2
      refine aw_iconst (x := 1) dX5_covers_16 rfl ?_
      refine aw_goto (tgt := 21) dX5_covers_17 (by decide) ?_
      exact aw_zreturn dX5_covers_21 rfl (Or.inr rfl) h
set_option maxRecDepth 4000 in
theorem bk_X5_hasNumber_0 {g : GP} {l : Launch} {d : Nat} {σ : St} {Q : Option AV → St → Prop} {x0 : Nat}
    (h : (((gI σ 501 x0 0) = 1 → Q (some (vI 1)) σ) ∧ (¬ (gI σ 501 x0 0) = 1 → (((gI σ 501 x0 0) = 3 → Q (some (vI 1)) σ) ∧ (¬ (gI σ 501 x0 0) = 3 → (((gI σ 501 x0 0) = 4 → Q (some (vI 1)) σ) ∧ (¬ (gI σ 501 x0 0) = 4 → (((gI σ 501 x0 0) = 7 → Q (some (vI 1)) σ) ∧ (¬ (gI σ 501 x0 0) = 7 → ((¬ (gI σ 501 x0 0) = 10 → Q (some (vI 0)) σ) ∧ ((gI σ 501 x0 0) = 10 → Q (some (vI 1)) σ))))))))))) :
    AW g l d MX5_hasNumber 0 [some (vR 5 (some x0))] [] σ Q := by
  refine aw_aload_n dX5_hasNumber_0 rfl rfl ?_
  refine aw_getI' rfl fk_501 lf_X5_15 dX5_hasNumber_1 ?_
  refine aw_iconst (x := 1) dX5_hasNumber_4 rfl ?_
  refine aw_icmp_eq (tgt := 42) dX5_hasNumber_5 (by decide) (fun k1 => ?_) (fun k1 => ?_)
  · replace h := h.1 k1
    refine aw_iconst (x := 1) dX5_hasNumber_42 rfl ?_
    refine aw_goto (tgt := 47) dX5_hasNumber_43 (by decide) ?_
    exact aw_zreturn dX5_hasNumber_47 rfl (Or.inr rfl) h
  · replace h := h.2 k1
    refine aw_aload_n dX5_hasNumber_8 rfl rfl ?_
    refine aw_getI' rfl fk_501 lf_X5_15 dX5_hasNumber_9 ?_
    refine aw_iconst (x := 3) dX5_hasNumber_12 rfl ?_
    refine aw_icmp_eq (tgt := 42) dX5_hasNumber_13 (by decide) (fun k2 => ?_) (fun k2 => ?_)
    · replace h := h.1 k2
      refine aw_iconst (x := 1) dX5_hasNumber_42 rfl ?_
      refine aw_goto (tgt := 47) dX5_hasNumber_43 (by decide) ?_
      exact aw_zreturn dX5_hasNumber_47 rfl (Or.inr rfl) h
    · replace h := h.2 k2
      refine aw_aload_n dX5_hasNumber_16 rfl rfl ?_
      refine aw_getI' rfl fk_501 lf_X5_15 dX5_hasNumber_17 ?_
      refine aw_iconst (x := 4) dX5_hasNumber_20 rfl ?_
      refine aw_icmp_eq (tgt := 42) dX5_hasNumber_21 (by decide) (fun k3 => ?_) (fun k3 => ?_)
      · replace h := h.1 k3
        refine aw_iconst (x := 1) dX5_hasNumber_42 rfl ?_
        refine aw_goto (tgt := 47) dX5_hasNumber_43 (by decide) ?_
        exact aw_zreturn dX5_hasNumber_47 rfl (Or.inr rfl) h
      · replace h := h.2 k3
        refine aw_aload_n dX5_hasNumber_24 rfl rfl ?_
        refine aw_getI' rfl fk_501 lf_X5_15 dX5_hasNumber_25 ?_
        refine aw_bipush (x := 7) dX5_hasNumber_28 rfl ?_
        refine aw_icmp_eq (tgt := 42) dX5_hasNumber_30 (by decide) (fun k4 => ?_) (fun k4 => ?_)
        · replace h := h.1 k4
          refine aw_iconst (x := 1) dX5_hasNumber_42 rfl ?_
          refine aw_goto (tgt := 47) dX5_hasNumber_43 (by decide) ?_
          exact aw_zreturn dX5_hasNumber_47 rfl (Or.inr rfl) h
        · replace h := h.2 k4
          refine aw_aload_n dX5_hasNumber_33 rfl rfl ?_
          refine aw_getI' rfl fk_501 lf_X5_15 dX5_hasNumber_34 ?_
          refine aw_bipush (x := 10) dX5_hasNumber_37 rfl ?_
          refine aw_icmp_ne (tgt := 46) dX5_hasNumber_39 (by decide) (fun k5 => ?_) (fun k5 => ?_)
          · replace h := h.1 k5
            refine aw_iconst (x := 0) dX5_hasNumber_46 rfl ?_
            exact aw_zreturn dX5_hasNumber_47 rfl (Or.inl rfl) h
          · replace h := h.2 k5
            refine aw_iconst (x := 1) dX5_hasNumber_42 rfl ?_
            refine aw_goto (tgt := 47) dX5_hasNumber_43 (by decide) ?_
            exact aw_zreturn dX5_hasNumber_47 rfl (Or.inr rfl) h
set_option maxRecDepth 4000 in
theorem bk_X5_hasSign_0 {g : GP} {l : Launch} {d : Nat} {σ : St} {Q : Option AV → St → Prop} {x0 : Nat} {x1 : Int}
    (h : ((¬ (gI σ 501 x0 0) = 5 → Q (some (vI 0)) σ) ∧ ((gI σ 501 x0 0) = 5 → ((x1 < 0 → Q (some (vI 0)) σ) ∧ (¬ x1 < 0 → ACi g l d MX5_signs [vR 5 (some x0)] σ (fun v4 σ3 => ((v4 ≤ x1 → Q (some (vI 0)) σ3) ∧ (¬ v4 ≤ x1 → Q (some (vI 1)) σ3)))))))) :
    AW g l (d + 1) MX5_hasSign 0 [some (vR 5 (some x0)), some (vI x1)] [] σ Q := by
  refine aw_aload_n dX5_hasSign_0 rfl rfl ?_
  refine aw_getI' rfl fk_501 lf_X5_15 dX5_hasSign_1 ?_
  refine aw_iconst (x := 5) dX5_hasSign_4 rfl ?_
  refine aw_icmp_ne (tgt := 24) dX5_hasSign_5 (by decide) (fun k1 => ?_) (fun k1 => ?_)
  · replace h := h.1 k1
    refine aw_iconst (x := 0) dX5_hasSign_24 rfl ?_
    exact aw_zreturn dX5_hasSign_25 rfl (Or.inl rfl) h
  · replace h := h.2 k1
    refine aw_iload_n dX5_hasSign_8 rfl rfl ?_
    refine aw_if_lt (tgt := 24) dX5_hasSign_9 (by decide) (fun k2 => ?_) (fun k2 => ?_)
    · replace h := h.1 k2
      refine aw_iconst (x := 0) dX5_hasSign_24 rfl ?_
      exact aw_zreturn dX5_hasSign_25 rfl (Or.inl rfl) h
    · replace h := h.2 k2
      refine aw_iload_n dX5_hasSign_12 rfl rfl ?_
      refine aw_aload_n dX5_hasSign_13 rfl rfl ?_
      refine aw_invVi (M := MX5_hasSign) (ci := 5) [] rfl mo_X5_signs rfl lm_X5_76 li_X5_signs ls_X5_signs (by decide +kernel) dX5_hasSign_14 rfl (Nat.le_of_ble_eq_true rfl) (ACi.mono (fun v4 σ3 h => ?_) h)
      refine aw_icmp_ge (tgt := 24) dX5_hasSign_17 (by decide) (fun k5 => ?_) (fun k5 => ?_)
      · replace h := h.1 k5
        refine aw_iconst (x := 0) dX5_hasSign_24 rfl ?_
        exact aw_zreturn dX5_hasSign_25 rfl (Or.inl rfl) h
      · replace h := h.2 k5
        refine aw_iconst (x := 1) dX5_hasSign_20 rfl ?_
        refine aw_goto (tgt := 25) dX5_hasSign_21 (by decide) ?_
        exact aw_zreturn dX5_hasSign_25 rfl (Or.inr rfl) h
set_option maxRecDepth 4000 in
theorem bk_X5_holdsOthers_0 {g : GP} {l : Launch} {d : Nat} {σ : St} {Q : Option AV → St → Prop} {x0 : Nat}
    (h : (((gI σ 501 x0 0) = 0 → Q (some (vI 1)) σ) ∧ (¬ (gI σ 501 x0 0) = 0 → (((gI σ 501 x0 0) = 2 → Q (some (vI 1)) σ) ∧ (¬ (gI σ 501 x0 0) = 2 → ((¬ (gI σ 501 x0 0) = 6 → Q (some (vI 0)) σ) ∧ ((gI σ 501 x0 0) = 6 → Q (some (vI 1)) σ))))))) :
    AW g l d MX5_holdsOthers 0 [some (vR 5 (some x0))] [] σ Q := by
  refine aw_aload_n dX5_holdsOthers_0 rfl rfl ?_
  refine aw_getI' rfl fk_501 lf_X5_15 dX5_holdsOthers_1 ?_
  refine aw_if_eq (tgt := 24) dX5_holdsOthers_4 (by decide) (fun k1 => ?_) (fun k1 => ?_)
  · replace h := h.1 k1
    refine aw_iconst (x := 1) dX5_holdsOthers_24 rfl ?_
    refine aw_goto (tgt := 29) dX5_holdsOthers_25 (by decide) ?_
    exact aw_zreturn dX5_holdsOthers_29 rfl (Or.inr rfl) h
  · replace h := h.2 k1
    refine aw_aload_n dX5_holdsOthers_7 rfl rfl ?_
    refine aw_getI' rfl fk_501 lf_X5_15 dX5_holdsOthers_8 ?_
    refine aw_iconst (x := 2) dX5_holdsOthers_11 rfl ?_
    refine aw_icmp_eq (tgt := 24) dX5_holdsOthers_12 (by decide) (fun k2 => ?_) (fun k2 => ?_)
    · replace h := h.1 k2
      refine aw_iconst (x := 1) dX5_holdsOthers_24 rfl ?_
      refine aw_goto (tgt := 29) dX5_holdsOthers_25 (by decide) ?_
      exact aw_zreturn dX5_holdsOthers_29 rfl (Or.inr rfl) h
    · replace h := h.2 k2
      refine aw_aload_n dX5_holdsOthers_15 rfl rfl ?_
      refine aw_getI' rfl fk_501 lf_X5_15 dX5_holdsOthers_16 ?_
      refine aw_bipush (x := 6) dX5_holdsOthers_19 rfl ?_
      refine aw_icmp_ne (tgt := 28) dX5_holdsOthers_21 (by decide) (fun k3 => ?_) (fun k3 => ?_)
      · replace h := h.1 k3
        refine aw_iconst (x := 0) dX5_holdsOthers_28 rfl ?_
        exact aw_zreturn dX5_holdsOthers_29 rfl (Or.inl rfl) h
      · replace h := h.2 k3
        refine aw_iconst (x := 1) dX5_holdsOthers_24 rfl ?_
        refine aw_goto (tgt := 29) dX5_holdsOthers_25 (by decide) ?_
        exact aw_zreturn dX5_holdsOthers_29 rfl (Or.inr rfl) h
set_option maxRecDepth 4000 in
theorem bk_X5_kidAt_0 {g : GP} {l : Launch} {d : Nat} {σ : St} {Q : Option AV → St → Prop} {x0 : Nat} {x1 : Int}
    (h : ((x1 < 0 → Q (some (vR 5 none)) σ) ∧ (¬ x1 < 0 → ((x1 < (gI σ 511 x0 0) → AW g l d MX5_kidAt 21 [none, some (vI x1), some (vR 5 (gR σ 508 x0 0)), some (vI 0)] [] σ Q) ∧ (¬ x1 < (gI σ 511 x0 0) → Q (some (vR 5 none)) σ))))) :
    AW g l d MX5_kidAt 0 [some (vR 5 (some x0)), some (vI x1), none, none] [] σ Q := by
  refine aw_iload_n dX5_kidAt_0 rfl rfl ?_
  refine aw_if_lt (tgt := 12) dX5_kidAt_1 (by decide) (fun k1 => ?_) (fun k1 => ?_)
  · replace h := h.1 k1
    refine aw_null 5 dX5_kidAt_12 ?_
    exact aw_areturn dX5_kidAt_13 rfl h
  · replace h := h.2 k1
    refine aw_iload_n dX5_kidAt_4 rfl rfl ?_
    refine aw_aload_n dX5_kidAt_5 rfl rfl ?_
    refine aw_getI' rfl fk_511 lf_X5_48 dX5_kidAt_6 ?_
    refine aw_icmp_lt (tgt := 14) dX5_kidAt_9 (by decide) (fun k2 => ?_) (fun k2 => ?_)
    · replace h := h.1 k2
      refine aw_aload_n dX5_kidAt_14 rfl rfl ?_
      refine aw_getR' (ci := 5) rfl fk_508 (by decide +kernel) lf_X5_39 dX5_kidAt_15 ?_
      refine aw_astore_n (L' := [some (vR 5 (some x0)), some (vI x1), some (vR 5 (gR σ 508 x0 0)), none]) dX5_kidAt_18 rfl (by decide) rfl ?_
      refine aw_iconst (x := 0) dX5_kidAt_19 rfl ?_
      refine aw_istore_n (L' := [some (vR 5 (some x0)), some (vI x1), some (vR 5 (gR σ 508 x0 0)), some (vI 0)]) dX5_kidAt_20 rfl (by decide) rfl ?_
      exact aw_fgt (L' := [none, some (vI x1), some (vR 5 (gR σ 508 x0 0)), some (vI 0)]) ⟨rfl, ⟨rfl, ⟨rfl, trivial⟩⟩⟩ h
    · replace h := h.2 k2
      refine aw_null 5 dX5_kidAt_12 ?_
      exact aw_areturn dX5_kidAt_13 rfl h
set_option maxRecDepth 4000 in
theorem bk_X5_kidAt_21 {g : GP} {l : Launch} {d : Nat} {σ : St} {Q : Option AV → St → Prop} {x1 : Int} {x2 : Option Nat} {x3 : Int}
    (h : ((x1 ≤ x3 → Q (some (vR 5 x2)) σ) ∧ (¬ x1 ≤ x3 → ((x2 = none → Q (some (vR 5 x2)) σ) ∧ (∀ r2, x2 = some r2 → R32 (x3 + 1) ∧ AW g l d MX5_kidAt 21 [none, some (vI x1), some (vR 5 (gR σ 510 r2 0)), some (vI (x3 + 1))] [] σ Q))))) :
    AW g l d MX5_kidAt 21 [none, some (vI x1), some (vR 5 x2), some (vI x3)] [] σ Q := by
  refine aw_iload_n dX5_kidAt_21 rfl rfl ?_
  refine aw_iload_n dX5_kidAt_22 rfl rfl ?_
  refine aw_icmp_ge (tgt := 41) dX5_kidAt_23 (by decide) (fun k1 => ?_) (fun k1 => ?_)
  · replace h := h.1 k1
    refine aw_aload_n dX5_kidAt_41 rfl rfl ?_
    exact aw_areturn dX5_kidAt_42 rfl h
  · replace h := h.2 k1
    refine aw_aload_n dX5_kidAt_26 rfl rfl ?_
    refine aw_ifnull (tgt := 41) dX5_kidAt_27 (by decide) (fun hc => ?_) (fun r2 e3 => ?_)
    · replace h := h.1 hc
      refine aw_aload_n dX5_kidAt_41 rfl rfl ?_
      exact aw_areturn dX5_kidAt_42 rfl h
    · replace h := h.2 r2 e3
      refine aw_aload_n dX5_kidAt_30 rfl rfl ?_
      refine aw_getR' (ci := 5) e3 fk_510 (by decide +kernel) lf_X5_45 dX5_kidAt_31 ?_
      refine aw_astore_n (L' := [none, some (vI x1), some (vR 5 (gR σ 510 r2 0)), some (vI x3)]) dX5_kidAt_34 rfl (by decide) rfl ?_
      obtain ⟨⟨c4, c4x⟩, h⟩ := h
      refine aw_iincc (L' := [none, some (vI x1), some (vR 5 (gR σ 510 r2 0)), some (vI (x3 + 1))]) dX5_kidAt_35 rfl (by decide) rfl c4 c4x rfl ?_
      refine aw_goto (tgt := 21) dX5_kidAt_38 (by decide) ?_
      exact aw_fgt (L' := [none, some (vI x1), some (vR 5 (gR σ 510 r2 0)), some (vI (x3 + 1))]) ⟨rfl, ⟨rfl, ⟨rfl, trivial⟩⟩⟩ h
set_option maxRecDepth 4000 in
theorem bk_X5_kidMeant_0 {g : GP} {l : Launch} {d : Nat} {σ : St} {Q : Option AV → St → Prop} {x0 : Nat} {x1 : Int}
    (h : R32 ((i_rem x1 13) - 1) ∧ AW g l (d + 1) MX5_kidMeant 12 [none, some (vI x1), some (vI ((i_rem x1 13) - 1)), some (vR 5 (gR σ 508 x0 0))] [] σ Q) :
    AW g l (d + 1) MX5_kidMeant 0 [some (vR 5 (some x0)), some (vI x1), none, none] [] σ Q := by
  refine aw_iload_n dX5_kidMeant_0 rfl rfl ?_
  refine aw_bipush (x := 13) dX5_kidMeant_1 rfl ?_
  refine aw_irem dX5_kidMeant_3 (by decide) ?_
  refine aw_iconst (x := 1) dX5_kidMeant_4 rfl ?_
  obtain ⟨⟨c1, c1x⟩, h⟩ := h
  refine aw_isubc dX5_kidMeant_5 c1 c1x ?_
  refine aw_istore_n (L' := [some (vR 5 (some x0)), some (vI x1), some (vI ((i_rem x1 13) - 1)), none]) dX5_kidMeant_6 rfl (by decide) rfl ?_
  refine aw_aload_n dX5_kidMeant_7 rfl rfl ?_
  refine aw_getR' (ci := 5) rfl fk_508 (by decide +kernel) lf_X5_39 dX5_kidMeant_8 ?_
  refine aw_astore_n (L' := [some (vR 5 (some x0)), some (vI x1), some (vI ((i_rem x1 13) - 1)), some (vR 5 (gR σ 508 x0 0))]) dX5_kidMeant_11 rfl (by decide) rfl ?_
  exact aw_fgt (L' := [none, some (vI x1), some (vI ((i_rem x1 13) - 1)), some (vR 5 (gR σ 508 x0 0))]) ⟨rfl, ⟨rfl, ⟨rfl, trivial⟩⟩⟩ h
set_option maxRecDepth 4000 in
theorem bk_X5_kidMeant_12 {g : GP} {l : Launch} {d : Nat} {σ : St} {Q : Option AV → St → Prop} {x1 : Int} {x2 : Int} {x3 : Option Nat}
    (h : ((x3 = none → Q (some (vR 5 none)) σ) ∧ (∀ r1, x3 = some r1 → ((gR σ 513 r1 0 = none → AW g l (d + 1) MX5_kidMeant 12 [none, some (vI x1), some (vI x2), some (vR 5 (gR σ 510 r1 0))] [] σ Q) ∧ (∀ r3, gR σ 513 r1 0 = some r3 → ((¬ (gI σ 200 r3 0) = (i_div x1 13) → AW g l (d + 1) MX5_kidMeant 12 [none, some (vI x1), some (vI x2), some (vR 5 (gR σ 510 r1 0))] [] σ Q) ∧ ((gI σ 200 r3 0) = (i_div x1 13) → ((0 ≤ x2 → ACr g l d MX5_kidAt 5 [vR 5 (some r1), vI x2] σ (fun v8 σ7 => Q (some (vR 5 v8)) σ7)) ∧ (¬ 0 ≤ x2 → Q (some (vR 5 x3)) σ))))))))) :
    AW g l (d + 1) MX5_kidMeant 12 [none, some (vI x1), some (vI x2), some (vR 5 x3)] [] σ Q := by
  refine aw_aload_n dX5_kidMeant_12 rfl rfl ?_
  refine aw_ifnull (tgt := 59) dX5_kidMeant_13 (by decide) (fun hc => ?_) (fun r1 e2 => ?_)
  · replace h := h.1 hc
    refine aw_null 5 dX5_kidMeant_59 ?_
    exact aw_areturn dX5_kidMeant_60 rfl h
  · replace h := h.2 r1 e2
    refine aw_aload_n dX5_kidMeant_16 rfl rfl ?_
    refine aw_getR' (ci := 2) e2 fk_513 (by decide +kernel) lf_X5_54 dX5_kidMeant_17 ?_
    refine aw_ifnull (tgt := 51) dX5_kidMeant_20 (by decide) (fun hc => ?_) (fun r3 e4 => ?_)
    · replace h := h.1 hc
      refine aw_aload_n dX5_kidMeant_51 rfl rfl ?_
      refine aw_getR' (ci := 5) e2 fk_510 (by decide +kernel) lf_X5_45 dX5_kidMeant_52 ?_
      refine aw_astore_n (L' := [none, some (vI x1), some (vI x2), some (vR 5 (gR σ 510 r1 0))]) dX5_kidMeant_55 rfl (by decide) rfl ?_
      refine aw_goto (tgt := 12) dX5_kidMeant_56 (by decide) ?_
      exact aw_fgt (L' := [none, some (vI x1), some (vI x2), some (vR 5 (gR σ 510 r1 0))]) ⟨rfl, ⟨rfl, ⟨rfl, trivial⟩⟩⟩ h
    · replace h := h.2 r3 e4
      refine aw_aload_n dX5_kidMeant_23 rfl rfl ?_
      refine aw_getR' (ci := 2) e2 fk_513 (by decide +kernel) lf_X5_54 dX5_kidMeant_24 ?_
      refine aw_getI' e4 fk_200 lf_X5_67 dX5_kidMeant_27 ?_
      refine aw_iload_n dX5_kidMeant_30 rfl rfl ?_
      refine aw_bipush (x := 13) dX5_kidMeant_31 rfl ?_
      refine aw_idiv dX5_kidMeant_33 (by decide) ?_
      refine aw_icmp_ne (tgt := 51) dX5_kidMeant_34 (by decide) (fun k5 => ?_) (fun k5 => ?_)
      · replace h := h.1 k5
        refine aw_aload_n dX5_kidMeant_51 rfl rfl ?_
        refine aw_getR' (ci := 5) e2 fk_510 (by decide +kernel) lf_X5_45 dX5_kidMeant_52 ?_
        refine aw_astore_n (L' := [none, some (vI x1), some (vI x2), some (vR 5 (gR σ 510 r1 0))]) dX5_kidMeant_55 rfl (by decide) rfl ?_
        refine aw_goto (tgt := 12) dX5_kidMeant_56 (by decide) ?_
        exact aw_fgt (L' := [none, some (vI x1), some (vI x2), some (vR 5 (gR σ 510 r1 0))]) ⟨rfl, ⟨rfl, ⟨rfl, trivial⟩⟩⟩ h
      · replace h := h.2 k5
        refine aw_iload_n dX5_kidMeant_37 rfl rfl ?_
        refine aw_if_ge (tgt := 45) dX5_kidMeant_38 (by decide) (fun k6 => ?_) (fun k6 => ?_)
        · replace h := h.1 k6
          refine aw_aload_n dX5_kidMeant_45 rfl rfl ?_
          refine aw_iload_n dX5_kidMeant_46 rfl rfl ?_
          refine aw_invVr (M := MX5_kidMeant) (ci := 5) [vI x2] e2 mo_X5_kidAt rfl lm_X5_72 li_X5_kidAt ls_X5_kidAt (by decide +kernel) dX5_kidMeant_47 rfl (Nat.le_of_ble_eq_true rfl) (ACr.mono (fun v8 σ7 h => ?_) h)
          exact aw_areturn dX5_kidMeant_50 rfl h
        · replace h := h.2 k6
          refine aw_aload_n dX5_kidMeant_41 rfl rfl ?_
          refine aw_goto (tgt := 50) dX5_kidMeant_42 (by decide) ?_
          exact aw_areturn dX5_kidMeant_50 rfl h
set_option maxRecDepth 4000 in
theorem bk_X5_kidNamed_0 {g : GP} {l : Launch} {d : Nat} {σ : St} {Q : Option AV → St → Prop} {x0 : Nat} {x1 : Int64}
    (h : AW g l d MX5_kidNamed 5 [none, some (vJ x1), none, some (vR 5 (gR σ 508 x0 0))] [] σ Q) :
    AW g l d MX5_kidNamed 0 [some (vR 5 (some x0)), some (vJ x1), none, none] [] σ Q := by
  refine aw_aload_n dX5_kidNamed_0 rfl rfl ?_
  refine aw_getR' (ci := 5) rfl fk_508 (by decide +kernel) lf_X5_39 dX5_kidNamed_1 ?_
  refine aw_astore_n (L' := [some (vR 5 (some x0)), some (vJ x1), none, some (vR 5 (gR σ 508 x0 0))]) dX5_kidNamed_4 rfl (by decide) rfl ?_
  exact aw_fgt (L' := [none, some (vJ x1), none, some (vR 5 (gR σ 508 x0 0))]) ⟨rfl, ⟨rfl, trivial⟩⟩ h
set_option maxRecDepth 4000 in
theorem bk_X5_kidNamed_5 {g : GP} {l : Launch} {d : Nat} {σ : St} {Q : Option AV → St → Prop} {x1 : Int64} {x3 : Option Nat}
    (h : ((x3 = none → Q (some (vR 5 none)) σ) ∧ (∀ r1, x3 = some r1 → ((¬ (gJ σ 506 r1 0) = x1 → AW g l d MX5_kidNamed 5 [none, some (vJ x1), none, some (vR 5 (gR σ 510 r1 0))] [] σ Q) ∧ ((gJ σ 506 r1 0) = x1 → Q (some (vR 5 x3)) σ))))) :
    AW g l d MX5_kidNamed 5 [none, some (vJ x1), none, some (vR 5 x3)] [] σ Q := by
  refine aw_aload_n dX5_kidNamed_5 rfl rfl ?_
  refine aw_ifnull (tgt := 28) dX5_kidNamed_6 (by decide) (fun hc => ?_) (fun r1 e2 => ?_)
  · replace h := h.1 hc
    refine aw_null 5 dX5_kidNamed_28 ?_
    exact aw_areturn dX5_kidNamed_29 rfl h
  · replace h := h.2 r1 e2
    refine aw_aload_n dX5_kidNamed_9 rfl rfl ?_
    refine aw_getJ' e2 fk_506 lf_X5_31 dX5_kidNamed_10 ?_
    refine aw_lload_n dX5_kidNamed_13 rfl rfl ?_
    refine aw_lcmp_ne (M := MX5_kidNamed) (tgt := 20) dX5_kidNamed_14 dX5_kidNamed_15 (by decide) (fun k3 => ?_) (fun k3 => ?_)
    · replace h := h.1 k3
      refine aw_aload_n dX5_kidNamed_20 rfl rfl ?_
      refine aw_getR' (ci := 5) e2 fk_510 (by decide +kernel) lf_X5_45 dX5_kidNamed_21 ?_
      refine aw_astore_n (L' := [none, some (vJ x1), none, some (vR 5 (gR σ 510 r1 0))]) dX5_kidNamed_24 rfl (by decide) rfl ?_
      refine aw_goto (tgt := 5) dX5_kidNamed_25 (by decide) ?_
      exact aw_fgt (L' := [none, some (vJ x1), none, some (vR 5 (gR σ 510 r1 0))]) ⟨rfl, ⟨rfl, trivial⟩⟩ h
    · replace h := h.2 k3
      refine aw_aload_n dX5_kidNamed_18 rfl rfl ?_
      exact aw_areturn dX5_kidNamed_19 rfl h
set_option maxRecDepth 4000 in
theorem bk_X5_reading_0 {g : GP} {l : Launch} {d : Nat} {σ : St} {Q : Option AV → St → Prop} {x0 : Nat} {x1 : Option Nat}
    (h : ((¬ (gI σ 504 x0 0) = 1 → ((¬ (gI σ 501 x0 0) = 2 → ((¬ (gI σ 501 x0 0) = 5 → ACi g l d MX5_hasNumber [vR 5 (some x0)] σ (fun v5 σ4 => ((v5 = 0 → Q (some (vJ 0)) σ4) ∧ (¬ v5 = 0 → ((gR σ4 513 x0 0 = none → Q (some (vJ 0)) σ4) ∧ (∀ r7, gR σ4 513 x0 0 = some r7 → ∃ r9, x1 = some r9 ∧ ACj g l d MX3_read [vR 3 (some r9), vI (gI σ4 502 x0 0), vI (gI σ4 203 r7 0), vI (gI σ4 205 r7 0)] σ4 (fun v12 σ11 => ((¬ (gI σ11 501 x0 0) = 4 → ∃ r14, gR σ11 513 x0 0 = some r14 ∧ R32 (8 * (gI σ11 203 r14 0)) ∧ R32 (64 - (8 * (gI σ11 203 r14 0))) ∧ ∀ z18 : Int, z18 = 64 - (8 * (gI σ11 203 r14 0)) → (((gI σ11 501 x0 0) = 3 → Q (some (vJ v12)) σ11) ∧ (¬ (gI σ11 501 x0 0) = 3 → (((gI σ11 204 r14 0) = 0 → Q (some (vJ v12)) σ11) ∧ (¬ (gI σ11 204 r14 0) = 0 → Q (some (vJ (j_shr (j_shl v12 z18) z18))) σ11))))) ∧ ((gI σ11 501 x0 0) = 4 → ACj g l d MX11_lowBits [vI (gI σ11 516 x0 0)] σ11 (fun v22 σ21 => Q (some (vJ ((j_ushr v12 (gI σ11 515 x0 0)) &&& v22))) σ21)))))))))) ∧ ((gI σ 501 x0 0) = 5 → ACi g l d MX5_signs [vR 5 (some x0)] σ (fun v24 σ23 => Q (some (vJ (i2j v24))) σ23)))) ∧ ((gI σ 501 x0 0) = 2 → Q (some (vJ (i2j (gI σ 511 x0 0)))) σ))) ∧ ((gI σ 504 x0 0) = 1 → Q (some (vJ 0)) σ))) :
    AW g l (d + 1) MX5_reading 0 [some (vR 5 (some x0)), some (vR 3 x1), none, none, none] [] σ Q := by
  refine aw_aload_n dX5_reading_0 rfl rfl ?_
  refine aw_getI' rfl fk_504 lf_X5_24 dX5_reading_1 ?_
  refine aw_iconst (x := 1) dX5_reading_4 rfl ?_
  refine aw_icmp_ne (tgt := 10) dX5_reading_5 (by decide) (fun k1 => ?_) (fun k1 => ?_)
  · replace h := h.1 k1
    refine aw_aload_n dX5_reading_10 rfl rfl ?_
    refine aw_getI' rfl fk_501 lf_X5_15 dX5_reading_11 ?_
    refine aw_iconst (x := 2) dX5_reading_14 rfl ?_
    refine aw_icmp_ne (tgt := 24) dX5_reading_15 (by decide) (fun k2 => ?_) (fun k2 => ?_)
    · replace h := h.1 k2
      refine aw_aload_n dX5_reading_24 rfl rfl ?_
      refine aw_getI' rfl fk_501 lf_X5_15 dX5_reading_25 ?_
      refine aw_iconst (x := 5) dX5_reading_28 rfl ?_
      refine aw_icmp_ne (tgt := 38) dX5_reading_29 (by decide) (fun k3 => ?_) (fun k3 => ?_)
      · replace h := h.1 k3
        refine aw_aload_n dX5_reading_38 rfl rfl ?_
        refine aw_invVi (M := MX5_reading) (ci := 5) [] rfl mo_X5_hasNumber rfl lm_X5_83 li_X5_hasNumber ls_X5_hasNumber (by decide +kernel) dX5_reading_39 rfl (Nat.le_of_ble_eq_true rfl) (ACi.mono (fun v5 σ4 h => ?_) h)
        refine aw_if_eq (tgt := 52) dX5_reading_42 (by decide) (fun k6 => ?_) (fun k6 => ?_)
        · replace h := h.1 k6
          refine aw_lconst (x := 0) dX5_reading_52 rfl ?_
          exact aw_lreturn dX5_reading_53 rfl h
        · replace h := h.2 k6
          refine aw_aload_n dX5_reading_45 rfl rfl ?_
          refine aw_getR' (ci := 2) rfl fk_513 (by decide +kernel) lf_X5_54 dX5_reading_46 ?_
          refine aw_ifnonnull (tgt := 54) dX5_reading_49 (by decide) (fun r7 e8 => ?_) (fun hc => ?_)
          · replace h := h.2 r7 e8
            refine aw_aload_n dX5_reading_54 rfl rfl ?_
            refine aw_aload_n dX5_reading_55 rfl rfl ?_
            refine aw_getI' rfl fk_502 lf_X5_18 dX5_reading_56 ?_
            refine aw_aload_n dX5_reading_59 rfl rfl ?_
            refine aw_getR' (ci := 2) rfl fk_513 (by decide +kernel) lf_X5_54 dX5_reading_60 ?_
            refine aw_getI' e8 fk_203 lf_X5_87 dX5_reading_63 ?_
            refine aw_aload_n dX5_reading_66 rfl rfl ?_
            refine aw_getR' (ci := 2) rfl fk_513 (by decide +kernel) lf_X5_54 dX5_reading_67 ?_
            refine aw_getZ' e8 fk_205 lf_X5_90 dX5_reading_70 ?_
            obtain ⟨r9, e10, h⟩ := h
            refine aw_invVj (M := MX5_reading) (ci := 3) [vI (gI σ4 502 x0 0), vI (gI σ4 203 r7 0), vI (gI σ4 205 r7 0)] e10 mo_X3_read rfl lm_X5_93 li_X3_read ls_X3_read (by decide +kernel) dX5_reading_73 rfl (Nat.le_of_ble_eq_true rfl) (ACj.mono (fun v12 σ11 h => ?_) h)
            refine aw_lstore_n (L' := [some (vR 5 (some x0)), some (vR 3 x1), some (vJ v12), none, none]) dX5_reading_76 rfl (by decide) rfl ?_
            refine aw_aload_n dX5_reading_77 rfl rfl ?_
            refine aw_getI' rfl fk_501 lf_X5_15 dX5_reading_78 ?_
            refine aw_iconst (x := 4) dX5_reading_81 rfl ?_
            refine aw_icmp_ne (tgt := 100) dX5_reading_82 (by decide) (fun k13 => ?_) (fun k13 => ?_)
            · replace h := h.1 k13
              refine aw_bipush (x := 64) dX5_reading_100 rfl ?_
              refine aw_bipush (x := 8) dX5_reading_102 rfl ?_
              refine aw_aload_n dX5_reading_104 rfl rfl ?_
              refine aw_getR' (ci := 2) rfl fk_513 (by decide +kernel) lf_X5_54 dX5_reading_105 ?_
              obtain ⟨r14, e15, h⟩ := h
              refine aw_getI' e15 fk_203 lf_X5_87 dX5_reading_108 ?_
              obtain ⟨⟨c16, c16x⟩, h⟩ := h
              refine aw_imulc dX5_reading_111 c16 c16x ?_
              obtain ⟨⟨c17, c17x⟩, h⟩ := h
              refine aw_isubc dX5_reading_112 c17 c17x ?_
              refine aw_istore (L' := [some (vR 5 (some x0)), some (vR 3 x1), some (vJ v12), none, some (vI (64 - (8 * (gI σ11 203 r14 0))))]) dX5_reading_113 (by decide) rfl ?_
              obtain ⟨z18, hz18⟩ : ∃ z : Int, z = 64 - (8 * (gI σ11 203 r14 0)) := ⟨_, rfl⟩
              rw [← hz18]
              replace h := h z18 hz18
              refine aw_aload_n dX5_reading_115 rfl rfl ?_
              refine aw_getI' rfl fk_501 lf_X5_15 dX5_reading_116 ?_
              refine aw_iconst (x := 3) dX5_reading_119 rfl ?_
              refine aw_icmp_eq (tgt := 143) dX5_reading_120 (by decide) (fun k19 => ?_) (fun k19 => ?_)
              · replace h := h.1 k19
                refine aw_lload_n dX5_reading_143 rfl rfl ?_
                exact aw_lreturn dX5_reading_144 rfl h
              · replace h := h.2 k19
                refine aw_aload_n dX5_reading_123 rfl rfl ?_
                refine aw_getR' (ci := 2) rfl fk_513 (by decide +kernel) lf_X5_54 dX5_reading_124 ?_
                refine aw_getZ' e15 fk_204 lf_X5_103 dX5_reading_127 ?_
                refine aw_if_eq (tgt := 143) dX5_reading_130 (by decide) (fun k20 => ?_) (fun k20 => ?_)
                · replace h := h.1 k20
                  refine aw_lload_n dX5_reading_143 rfl rfl ?_
                  exact aw_lreturn dX5_reading_144 rfl h
                · replace h := h.2 k20
                  refine aw_lload_n dX5_reading_133 rfl rfl ?_
                  refine aw_iload dX5_reading_134 rfl ?_
                  refine aw_lshl dX5_reading_136 ?_
                  refine aw_iload dX5_reading_137 rfl ?_
                  refine aw_lshr dX5_reading_139 ?_
                  refine aw_goto (tgt := 144) dX5_reading_140 (by decide) ?_
                  exact aw_lreturn dX5_reading_144 rfl h
            · replace h := h.2 k13
              refine aw_lload_n dX5_reading_85 rfl rfl ?_
              refine aw_aload_n dX5_reading_86 rfl rfl ?_
              refine aw_getI' rfl fk_515 lf_X5_61 dX5_reading_87 ?_
              refine aw_lushr dX5_reading_90 ?_
              refine aw_aload_n dX5_reading_91 rfl rfl ?_
              refine aw_getI' rfl fk_516 lf_X5_64 dX5_reading_92 ?_
              refine aw_invSNj (M := MX5_reading) [vI (gI σ11 516 x0 0)] mo_X11_lowBits rfl lm_X5_99 lt_X11_lowBits dX5_reading_95 rfl (Nat.le_of_ble_eq_true rfl) (ACj.mono (fun v22 σ21 h => ?_) h)
              refine aw_land dX5_reading_98 ?_
              exact aw_lreturn dX5_reading_99 rfl h
          · replace h := h.1 hc
            refine aw_lconst (x := 0) dX5_reading_52 rfl ?_
            exact aw_lreturn dX5_reading_53 rfl h
      · replace h := h.2 k3
        refine aw_aload_n dX5_reading_32 rfl rfl ?_
        refine aw_invVi (M := MX5_reading) (ci := 5) [] rfl mo_X5_signs rfl lm_X5_76 li_X5_signs ls_X5_signs (by decide +kernel) dX5_reading_33 rfl (Nat.le_of_ble_eq_true rfl) (ACi.mono (fun v24 σ23 h => ?_) h)
        refine aw_i2l dX5_reading_36 ?_
        exact aw_lreturn dX5_reading_37 rfl h
    · replace h := h.2 k2
      refine aw_aload_n dX5_reading_18 rfl rfl ?_
      refine aw_getI' rfl fk_511 lf_X5_48 dX5_reading_19 ?_
      refine aw_i2l dX5_reading_22 ?_
      exact aw_lreturn dX5_reading_23 rfl h
  · replace h := h.2 k1
    refine aw_lconst (x := 0) dX5_reading_8 rfl ?_
    exact aw_lreturn dX5_reading_9 rfl h
set_option maxRecDepth 4000 in
theorem bk_X5_signs_0 {g : GP} {l : Launch} {d : Nat} {σ : St} {Q : Option AV → St → Prop} {x0 : Nat}
    (h : ((gR σ 513 x0 0 = none → AW g l d MX5_signs 23 [some (vR 5 (some x0)), none] [vI 0] σ Q) ∧ (∀ r1, gR σ 513 x0 0 = some r1 → ((¬ (gI σ 209 r1 0) = (-1) → AW g l d MX5_signs 23 [some (vR 5 (some x0)), none] [vI 0] σ Q) ∧ ((gI σ 209 r1 0) = (-1) → AW g l d MX5_signs 23 [some (vR 5 (some x0)), none] [vI 1] σ Q))))) :
    AW g l d MX5_signs 0 [some (vR 5 (some x0)), none] [] σ Q := by
  refine aw_aload_n dX5_signs_0 rfl rfl ?_
  refine aw_getR' (ci := 2) rfl fk_513 (by decide +kernel) lf_X5_54 dX5_signs_1 ?_
  refine aw_ifnull (tgt := 22) dX5_signs_4 (by decide) (fun hc => ?_) (fun r1 e2 => ?_)
  · replace h := h.1 hc
    refine aw_iconst (x := 0) dX5_signs_22 rfl ?_
    exact aw_fgt (L' := [some (vR 5 (some x0)), none]) ⟨rfl, trivial⟩ h
  · replace h := h.2 r1 e2
    refine aw_aload_n dX5_signs_7 rfl rfl ?_
    refine aw_getR' (ci := 2) rfl fk_513 (by decide +kernel) lf_X5_54 dX5_signs_8 ?_
    refine aw_getI' e2 fk_209 lf_X5_80 dX5_signs_11 ?_
    refine aw_iconst (x := (-1)) dX5_signs_14 rfl ?_
    refine aw_icmp_ne (tgt := 22) dX5_signs_15 (by decide) (fun k3 => ?_) (fun k3 => ?_)
    · replace h := h.1 k3
      refine aw_iconst (x := 0) dX5_signs_22 rfl ?_
      exact aw_fgt (L' := [some (vR 5 (some x0)), none]) ⟨rfl, trivial⟩ h
    · replace h := h.2 k3
      refine aw_iconst (x := 1) dX5_signs_18 rfl ?_
      refine aw_goto (tgt := 23) dX5_signs_19 (by decide) ?_
      exact aw_fgt (L' := [some (vR 5 (some x0)), none]) ⟨rfl, trivial⟩ h
set_option maxRecDepth 4000 in
theorem bk_X5_signs_23 {g : GP} {l : Launch} {d : Nat} {σ : St} {Q : Option AV → St → Prop} {x0 : Nat} {y0 : Int}
    (h : ((¬ (gI σ 504 x0 0) = 1 → R32 ((gI σ 503 x0 0) - (gI σ 502 x0 0)) ∧ ((y0 = 0 → R32 (((gI σ 503 x0 0) - (gI σ 502 x0 0)) - 0) ∧ Q (some (vI (((gI σ 503 x0 0) - (gI σ 502 x0 0)) - 0))) σ) ∧ (¬ y0 = 0 → R32 (((gI σ 503 x0 0) - (gI σ 502 x0 0)) - 1) ∧ Q (some (vI (((gI σ 503 x0 0) - (gI σ 502 x0 0)) - 1))) σ))) ∧ ((gI σ 504 x0 0) = 1 → Q (some (vI 0)) σ))) :
    AW g l d MX5_signs 23 [some (vR 5 (some x0)), none] [vI y0] σ Q := by
  refine aw_istore_n (L' := [some (vR 5 (some x0)), some (vI y0)]) dX5_signs_23 rfl (by decide) rfl ?_
  refine aw_aload_n dX5_signs_24 rfl rfl ?_
  refine aw_getI' rfl fk_504 lf_X5_24 dX5_signs_25 ?_
  refine aw_iconst (x := 1) dX5_signs_28 rfl ?_
  refine aw_icmp_ne (tgt := 36) dX5_signs_29 (by decide) (fun k1 => ?_) (fun k1 => ?_)
  · replace h := h.1 k1
    refine aw_aload_n dX5_signs_36 rfl rfl ?_
    refine aw_getI' rfl fk_503 lf_X5_21 dX5_signs_37 ?_
    refine aw_aload_n dX5_signs_40 rfl rfl ?_
    refine aw_getI' rfl fk_502 lf_X5_18 dX5_signs_41 ?_
    obtain ⟨⟨c2, c2x⟩, h⟩ := h
    refine aw_isubc dX5_signs_44 c2 c2x ?_
    refine aw_iload_n dX5_signs_45 rfl rfl ?_
    refine aw_if_eq (tgt := 53) dX5_signs_46 (by decide) (fun k3 => ?_) (fun k3 => ?_)
    · replace h := h.1 k3
      refine aw_iconst (x := 0) dX5_signs_53 rfl ?_
      obtain ⟨⟨c4, c4x⟩, h⟩ := h
      refine aw_isubc dX5_signs_54 c4 c4x ?_
      exact aw_ireturn dX5_signs_55 rfl h
    · replace h := h.2 k3
      refine aw_iconst (x := 1) dX5_signs_49 rfl ?_
      refine aw_goto (tgt := 54) dX5_signs_50 (by decide) ?_
      obtain ⟨⟨c5, c5x⟩, h⟩ := h
      refine aw_isubc dX5_signs_54 c5 c5x ?_
      exact aw_ireturn dX5_signs_55 rfl h
  · replace h := h.2 k1
    refine aw_iconst (x := 0) dX5_signs_32 rfl ?_
    refine aw_goto (tgt := 55) dX5_signs_33 (by decide) ?_
    exact aw_ireturn dX5_signs_55 rfl h
set_option maxRecDepth 4000 in
theorem bk_X5_withPart_0 {g : GP} {l : Launch} {d : Nat} {σ : St} {Q : Option AV → St → Prop} {x0 : Nat} {x1 : Int64} {x3 : Int64}
    (h : ACj g l d MX11_lowBits [vI (gI σ 516 x0 0)] σ (fun v2 σ1 => Q (some (vJ ((x1 &&& ((j_shl v2 (gI σ1 515 x0 0)) ^^^ ((-1) : Int64))) ||| (j_shl x3 (gI σ1 515 x0 0))))) σ1)) :
    AW g l (d + 1) MX5_withPart 0 [some (vR 5 (some x0)), some (vJ x1), none, some (vJ x3), none] [] σ Q := by
  refine aw_lload_n dX5_withPart_0 rfl rfl ?_
  refine aw_aload_n dX5_withPart_1 rfl rfl ?_
  refine aw_getI' rfl fk_516 lf_X5_64 dX5_withPart_2 ?_
  refine aw_invSNj (M := MX5_withPart) [vI (gI σ 516 x0 0)] mo_X11_lowBits rfl lm_X5_99 lt_X11_lowBits dX5_withPart_5 rfl (Nat.le_of_ble_eq_true rfl) (ACj.mono (fun v2 σ1 h => ?_) h)
  refine aw_aload_n dX5_withPart_8 rfl rfl ?_
  refine aw_getI' rfl fk_515 lf_X5_61 dX5_withPart_9 ?_
  refine aw_lshl dX5_withPart_12 ?_
  refine aw_ldc2 lk_X5_106 dX5_withPart_13 ?_
  refine aw_lxor dX5_withPart_16 ?_
  refine aw_land dX5_withPart_17 ?_
  refine aw_lload_n dX5_withPart_18 rfl rfl ?_
  refine aw_aload_n dX5_withPart_19 rfl rfl ?_
  refine aw_getI' rfl fk_515 lf_X5_61 dX5_withPart_20 ?_
  refine aw_lshl dX5_withPart_23 ?_
  refine aw_lor dX5_withPart_24 ?_
  exact aw_lreturn dX5_withPart_25 rfl h
set_option maxRecDepth 4000 in
theorem bk_X6_init_0 {g : GP} {l : Launch} {d : Nat} {σ : St} {Q : Option AV → St → Prop} {x0 : Nat}
    (h : Q none σ) :
    AW g l (d + 1) MX6_init 0 [some (vR 6 (some x0))] [] σ Q := by
  refine aw_aload_n dX6_init_0 rfl rfl ?_
  refine aw_objInit (M := MX6_init) lm_X6_3 loi_i loi_c dX6_init_1 (Nat.le_of_ble_eq_true rfl) ?_
  exact aw_ret h rfl dX6_init_4
set_option maxRecDepth 4000 in
theorem bk_X6_check_0 {g : GP} {l : Launch} {d : Nat} {σ : St} {Q : Option AV → St → Prop} {x0 : Nat} {x1 : Int} {x2 : Int}
    (h : ((¬ x1 = 0 → ((x1 = 0 ∨ x1 = 1) ∧ Q (some (vI x1)) σ)) ∧ (x1 = 0 → ((¬ (gI σ 604 x0 0) = 1 → ∃ r3, gR σ 602 x0 0 = some r3 ∧ LC 9 σ r3 ∧ Bd (gI σ 603 x0 0) 3001 ∧ ((x1 = 0 ∨ x1 = 1) ∧ Q (some (vI x1)) (sI (sI σ 600 x0 0 x2) 601 x0 0 (gI σ 903 r3 (gI σ 603 x0 0).toNat)))) ∧ ((gI σ 604 x0 0) = 1 → ∃ r7, gR σ 602 x0 0 = some r7 ∧ LC 9 σ r7 ∧ Bd (gI σ 603 x0 0) 3001 ∧ ((x1 = 0 ∨ x1 = 1) ∧ Q (some (vI x1)) (sI (sI σ 600 x0 0 1) 601 x0 0 (gI σ 903 r7 (gI σ 603 x0 0).toNat)))))))) :
    AW g l d MX6_check 0 [some (vR 6 (some x0)), some (vI x1), some (vI x2)] [] σ Q := by
  refine aw_iload_n dX6_check_0 rfl rfl ?_
  refine aw_if_ne (tgt := 37) dX6_check_1 (by decide) (fun k1 => ?_) (fun k1 => ?_)
  · replace h := h.1 k1
    refine aw_iload_n dX6_check_37 rfl rfl ?_
    exact aw_zreturn dX6_check_38 rfl h.1 h.2
  · replace h := h.2 k1
    refine aw_aload_n dX6_check_4 rfl rfl ?_
    refine aw_aload_n dX6_check_5 rfl rfl ?_
    refine aw_getI' rfl fk_604 lf_X6_24 dX6_check_6 ?_
    refine aw_iconst (x := 1) dX6_check_9 rfl ?_
    refine aw_icmp_ne (tgt := 17) dX6_check_10 (by decide) (fun k2 => ?_) (fun k2 => ?_)
    · replace h := h.1 k2
      refine aw_iload_n dX6_check_17 rfl rfl ?_
      refine aw_putI' rfl fk_600 (Or.inl rfl) lf_X6_71 dX6_check_18 ?_
      refine aw_aload_n dX6_check_21 rfl rfl ?_
      refine aw_aload_n dX6_check_22 rfl rfl ?_
      refine aw_getRe (ci := 9) (v := gR σ 602 x0 0) rfl fk_602 (by decide +kernel) lf_X6_62 dX6_check_23 rfl ?_
      obtain ⟨r3, e4, h⟩ := h
      obtain ⟨lc5, h⟩ := h
      refine aw_getA' e4 fk_903 (by decide) lf_X6_94 dX6_check_26 (LC.ne lc5 rfl rfl) ?_
      refine aw_aload_n dX6_check_29 rfl rfl ?_
      refine aw_getIe (v := gI σ 603 x0 0) rfl fk_603 lf_X6_77 dX6_check_30 rfl ?_
      obtain ⟨⟨c6, c6x⟩, h⟩ := h
      refine aw_ialoade (v := gI σ 903 r3 (gI σ 603 x0 0).toNat) (by decide) rfl dX6_check_33 c6 (LC.lt lc5 rfl rfl c6x) rfl ?_
      refine aw_putI' rfl fk_601 (Or.inl rfl) lf_X6_74 dX6_check_34 ?_
      refine aw_iload_n dX6_check_37 rfl rfl ?_
      exact aw_zreturn dX6_check_38 rfl h.1 h.2
    · replace h := h.2 k2
      refine aw_iconst (x := 1) dX6_check_13 rfl ?_
      refine aw_goto (tgt := 18) dX6_check_14 (by decide) ?_
      refine aw_putI' rfl fk_600 (Or.inl rfl) lf_X6_71 dX6_check_18 ?_
      refine aw_aload_n dX6_check_21 rfl rfl ?_
      refine aw_aload_n dX6_check_22 rfl rfl ?_
      refine aw_getRe (ci := 9) (v := gR σ 602 x0 0) rfl fk_602 (by decide +kernel) lf_X6_62 dX6_check_23 rfl ?_
      obtain ⟨r7, e8, h⟩ := h
      obtain ⟨lc9, h⟩ := h
      refine aw_getA' e8 fk_903 (by decide) lf_X6_94 dX6_check_26 (LC.ne lc9 rfl rfl) ?_
      refine aw_aload_n dX6_check_29 rfl rfl ?_
      refine aw_getIe (v := gI σ 603 x0 0) rfl fk_603 lf_X6_77 dX6_check_30 rfl ?_
      obtain ⟨⟨c10, c10x⟩, h⟩ := h
      refine aw_ialoade (v := gI σ 903 r7 (gI σ 603 x0 0).toNat) (by decide) rfl dX6_check_33 c10 (LC.lt lc9 rfl rfl c10x) rfl ?_
      refine aw_putI' rfl fk_601 (Or.inl rfl) lf_X6_74 dX6_check_34 ?_
      refine aw_iload_n dX6_check_37 rfl rfl ?_
      exact aw_zreturn dX6_check_38 rfl h.1 h.2
set_option maxRecDepth 4000 in
theorem bk_X6_findAim_0 {g : GP} {l : Launch} {d : Nat} {σ : St} {Q : Option AV → St → Prop} {x0 : Nat} {x1 : Option Nat}
    (h : ∃ r1, x1 = some r1 ∧ ∃ r3, gR σ 606 x0 0 = some r3 ∧ ACi g l d MX1_structureNamed [vR 1 (some r3), vJ (gJ σ 215 r1 0)] σ (fun v6 σ5 => ((¬ v6 = (-1) → Q (some (vI 1)) (sI σ5 206 r1 0 v6)) ∧ (v6 = (-1) → Q (some (vI 0)) (sI (sI (sI σ5 206 r1 0 v6) 600 x0 0 4) 601 x0 0 (gI σ5 216 r1 0)))))) :
    AW g l (d + 1) MX6_findAim 0 [some (vR 6 (some x0)), some (vR 2 x1)] [] σ Q := by
  refine aw_aload_n dX6_findAim_0 rfl rfl ?_
  refine aw_aload_n dX6_findAim_1 rfl rfl ?_
  refine aw_getR' (ci := 1) rfl fk_606 (by decide +kernel) lf_X6_66 dX6_findAim_2 ?_
  refine aw_aload_n dX6_findAim_5 rfl rfl ?_
  obtain ⟨r1, e2, h⟩ := h
  refine aw_getJ' e2 fk_215 lf_X6_283 dX6_findAim_6 ?_
  obtain ⟨r3, e4, h⟩ := h
  refine aw_invVi (M := MX6_findAim) (ci := 1) [vJ (gJ σ 215 r1 0)] e4 mo_X1_structureNamed rfl lm_X6_120 li_X1_structureNamed ls_X1_structureNamed (by decide +kernel) dX6_findAim_9 rfl (Nat.le_of_ble_eq_true rfl) (ACi.mono (fun v6 σ5 h => ?_) h)
  refine aw_putI' e2 fk_206 (Or.inl rfl) lf_X6_243 dX6_findAim_12 ?_
  refine aw_aload_n dX6_findAim_15 rfl rfl ?_
  refine aw_getIe (v := v6) e2 fk_206 lf_X6_243 dX6_findAim_16 (gI_slf σ5 206 r1 0 v6) ?_
  refine aw_iconst (x := (-1)) dX6_findAim_19 rfl ?_
  refine aw_icmp_ne (tgt := 36) dX6_findAim_20 (by decide) (fun k7 => ?_) (fun k7 => ?_)
  · replace h := h.1 k7
    refine aw_aload_n dX6_findAim_36 rfl rfl ?_
    refine aw_getIe (v := v6) e2 fk_206 lf_X6_243 dX6_findAim_37 (gI_slf σ5 206 r1 0 v6) ?_
    refine aw_iconst (x := (-1)) dX6_findAim_40 rfl ?_
    refine aw_icmp_eq (tgt := 48) dX6_findAim_41 (by decide) (fun q => absurd q k7) (fun _ => ?_)
    refine aw_iconst (x := 1) dX6_findAim_44 rfl ?_
    refine aw_goto (tgt := 49) dX6_findAim_45 (by decide) ?_
    exact aw_zreturn dX6_findAim_49 rfl (Or.inr rfl) h
  · replace h := h.2 k7
    refine aw_aload_n dX6_findAim_23 rfl rfl ?_
    refine aw_iconst (x := 4) dX6_findAim_24 rfl ?_
    refine aw_putI' rfl fk_600 (Or.inl rfl) lf_X6_71 dX6_findAim_25 ?_
    refine aw_aload_n dX6_findAim_28 rfl rfl ?_
    refine aw_aload_n dX6_findAim_29 rfl rfl ?_
    refine aw_getIe (v := gI σ5 216 r1 0) e2 fk_216 lf_X6_286 dX6_findAim_30 rfl ?_
    refine aw_putI' rfl fk_601 (Or.inl rfl) lf_X6_74 dX6_findAim_33 ?_
    refine aw_aload_n dX6_findAim_36 rfl rfl ?_
    refine aw_getIe (v := v6) e2 fk_206 lf_X6_243 dX6_findAim_37 (gI_slf σ5 206 r1 0 v6) ?_
    refine aw_iconst (x := (-1)) dX6_findAim_40 rfl ?_
    refine aw_icmp_eq (tgt := 48) dX6_findAim_41 (by decide) (fun _ => ?_) (fun q => absurd k7 q)
    refine aw_iconst (x := 0) dX6_findAim_48 rfl ?_
    exact aw_zreturn dX6_findAim_49 rfl (Or.inl rfl) h
set_option maxRecDepth 4000 in
theorem bk_X6_findAims_0 {g : GP} {l : Launch} {d : Nat} {σ : St} {Q : Option AV → St → Prop} {x0 : Nat}
    (h : AW g l (d + 1) MX6_findAims 2 [some (vR 6 (some x0)), some (vI 0), none, none] [] σ Q) :
    AW g l (d + 1) MX6_findAims 0 [some (vR 6 (some x0)), none, none, none] [] σ Q := by
  refine aw_iconst (x := 0) dX6_findAims_0 rfl ?_
  refine aw_istore_n (L' := [some (vR 6 (some x0)), some (vI 0), none, none]) dX6_findAims_1 rfl (by decide) rfl ?_
  exact aw_fgt (L' := [some (vR 6 (some x0)), some (vI 0), none, none]) ⟨rfl, ⟨rfl, trivial⟩⟩ h
set_option maxRecDepth 4000 in
theorem bk_X6_findAims_2 {g : GP} {l : Launch} {d : Nat} {σ : St} {Q : Option AV → St → Prop} {x0 : Nat} {x1 : Int}
    (h : ∃ r1, gR σ 606 x0 0 = some r1 ∧ (((gI σ 101 r1 0) ≤ x1 → Q (some (vI 1)) σ) ∧ (¬ (gI σ 101 r1 0) ≤ x1 → LC 1 σ r1 ∧ Bd x1 20 ∧ AW g l (d + 1) MX6_findAims 25 [some (vR 6 (some x0)), some (vI x1), some (vR 8 (gR σ 100 r1 x1.toNat)), some (vI 0)] [] σ Q))) :
    AW g l (d + 1) MX6_findAims 2 [some (vR 6 (some x0)), some (vI x1), none, none] [] σ Q := by
  refine aw_iload_n dX6_findAims_2 rfl rfl ?_
  refine aw_aload_n dX6_findAims_3 rfl rfl ?_
  refine aw_getR' (ci := 1) rfl fk_606 (by decide +kernel) lf_X6_66 dX6_findAims_4 ?_
  obtain ⟨r1, e2, h⟩ := h
  refine aw_getI' e2 fk_101 lf_X6_162 dX6_findAims_7 ?_
  refine aw_icmp_ge (tgt := 74) dX6_findAims_10 (by decide) (fun k3 => ?_) (fun k3 => ?_)
  · replace h := h.1 k3
    refine aw_iconst (x := 1) dX6_findAims_74 rfl ?_
    exact aw_zreturn dX6_findAims_75 rfl (Or.inr rfl) h
  · replace h := h.2 k3
    refine aw_aload_n dX6_findAims_13 rfl rfl ?_
    refine aw_getR' (ci := 1) rfl fk_606 (by decide +kernel) lf_X6_66 dX6_findAims_14 ?_
    obtain ⟨lc4, h⟩ := h
    refine aw_getA' e2 fk_100 (by decide) lf_X6_50 dX6_findAims_17 (LC.ne lc4 rfl rfl) ?_
    refine aw_iload_n dX6_findAims_20 rfl rfl ?_
    obtain ⟨⟨c5, c5x⟩, h⟩ := h
    refine aw_aaload (ci := 8) (by decide) rfl (by decide +kernel) dX6_findAims_21 c5 (LC.lt lc4 rfl rfl c5x) ?_
    refine aw_astore_n (L' := [some (vR 6 (some x0)), some (vI x1), some (vR 8 (gR σ 100 r1 x1.toNat)), none]) dX6_findAims_22 rfl (by decide) rfl ?_
    refine aw_iconst (x := 0) dX6_findAims_23 rfl ?_
    refine aw_istore_n (L' := [some (vR 6 (some x0)), some (vI x1), some (vR 8 (gR σ 100 r1 x1.toNat)), some (vI 0)]) dX6_findAims_24 rfl (by decide) rfl ?_
    exact aw_fgt (L' := [some (vR 6 (some x0)), some (vI x1), some (vR 8 (gR σ 100 r1 x1.toNat)), some (vI 0)]) ⟨rfl, ⟨rfl, ⟨rfl, ⟨rfl, trivial⟩⟩⟩⟩ h
set_option maxRecDepth 4000 in
theorem bk_X6_findAims_25 {g : GP} {l : Launch} {d : Nat} {σ : St} {Q : Option AV → St → Prop} {x0 : Nat} {x1 : Int} {x2 : Option Nat} {x3 : Int}
    (h : ∃ r1, x2 = some r1 ∧ (((gI σ 802 r1 0) ≤ x3 → R32 (x1 + 1) ∧ AW g l (d + 1) MX6_findAims 2 [some (vR 6 (some x0)), some (vI (x1 + 1)), none, none] [] σ Q) ∧ (¬ (gI σ 802 r1 0) ≤ x3 → LC 8 σ r1 ∧ Bd x3 14 ∧ ∃ r7, gR σ 801 r1 x3.toNat = some r7 ∧ ((¬ (gI σ 201 r7 0) = 7 → R32 (x3 + 1) ∧ AW g l (d + 1) MX6_findAims 25 [some (vR 6 (some x0)), some (vI x1), some (vR 8 x2), some (vI (x3 + 1))] [] σ Q) ∧ ((gI σ 201 r7 0) = 7 → ACi g l d MX6_findAim [vR 6 (some x0), vR 2 (gR σ 801 r1 x3.toNat)] σ (fun v12 σ11 => ((¬ v12 = 0 → R32 (x3 + 1) ∧ AW g l (d + 1) MX6_findAims 25 [some (vR 6 (some x0)), some (vI x1), some (vR 8 x2), some (vI (x3 + 1))] [] σ11 Q) ∧ (v12 = 0 → Q (some (vI 0)) σ11)))))))) :
    AW g l (d + 1) MX6_findAims 25 [some (vR 6 (some x0)), some (vI x1), some (vR 8 x2), some (vI x3)] [] σ Q := by
  refine aw_iload_n dX6_findAims_25 rfl rfl ?_
  refine aw_aload_n dX6_findAims_26 rfl rfl ?_
  obtain ⟨r1, e2, h⟩ := h
  refine aw_getI' e2 fk_802 lf_X6_170 dX6_findAims_27 ?_
  refine aw_icmp_ge (tgt := 68) dX6_findAims_30 (by decide) (fun k3 => ?_) (fun k3 => ?_)
  · replace h := h.1 k3
    obtain ⟨⟨c4, c4x⟩, h⟩ := h
    refine aw_iincc (L' := [some (vR 6 (some x0)), some (vI (x1 + 1)), some (vR 8 x2), some (vI x3)]) dX6_findAims_68 rfl (by decide) rfl c4 c4x rfl ?_
    refine aw_goto (tgt := 2) dX6_findAims_71 (by decide) ?_
    exact aw_fgt (L' := [some (vR 6 (some x0)), some (vI (x1 + 1)), none, none]) ⟨rfl, ⟨rfl, trivial⟩⟩ h
  · replace h := h.2 k3
    refine aw_aload_n dX6_findAims_33 rfl rfl ?_
    obtain ⟨lc5, h⟩ := h
    refine aw_getA' e2 fk_801 (by decide) lf_X6_186 dX6_findAims_34 (LC.ne lc5 rfl rfl) ?_
    refine aw_iload_n dX6_findAims_37 rfl rfl ?_
    obtain ⟨⟨c6, c6x⟩, h⟩ := h
    refine aw_aaload (ci := 2) (by decide) rfl (by decide +kernel) dX6_findAims_38 c6 (LC.lt lc5 rfl rfl c6x) ?_
    obtain ⟨r7, e8, h⟩ := h
    refine aw_getI' e8 fk_201 lf_X6_229 dX6_findAims_39 ?_
    refine aw_bipush (x := 7) dX6_findAims_42 rfl ?_
    refine aw_icmp_ne (tgt := 62) dX6_findAims_44 (by decide) (fun k9 => ?_) (fun k9 => ?_)
    · replace h := h.1 k9
      obtain ⟨⟨c10, c10x⟩, h⟩ := h
      refine aw_iincc (L' := [some (vR 6 (some x0)), some (vI x1), some (vR 8 x2), some (vI (x3 + 1))]) dX6_findAims_62 rfl (by decide) rfl c10 c10x rfl ?_
      refine aw_goto (tgt := 25) dX6_findAims_65 (by decide) ?_
      exact aw_fgt (L' := [some (vR 6 (some x0)), some (vI x1), some (vR 8 x2), some (vI (x3 + 1))]) ⟨rfl, ⟨rfl, ⟨rfl, ⟨rfl, trivial⟩⟩⟩⟩ h
    · replace h := h.2 k9
      refine aw_aload_n dX6_findAims_47 rfl rfl ?_
      refine aw_aload_n dX6_findAims_48 rfl rfl ?_
      refine aw_getA' e2 fk_801 (by decide) lf_X6_186 dX6_findAims_49 (LC.ne lc5 rfl rfl) ?_
      refine aw_iload_n dX6_findAims_52 rfl rfl ?_
      refine aw_aaload (ci := 2) (by decide) rfl (by decide +kernel) dX6_findAims_53 c6 (LC.lt lc5 rfl rfl c6x) ?_
      refine aw_invVi (M := MX6_findAims) (ci := 6) [vR 2 (gR σ 801 r1 x3.toNat)] rfl mo_X6_findAim rfl lm_X6_301 li_X6_findAim ls_X6_findAim (by decide +kernel) dX6_findAims_54 rfl (Nat.le_of_ble_eq_true rfl) (ACi.mono (fun v12 σ11 h => ?_) h)
      refine aw_if_ne (tgt := 62) dX6_findAims_57 (by decide) (fun k13 => ?_) (fun k13 => ?_)
      · replace h := h.1 k13
        obtain ⟨⟨c14, c14x⟩, h⟩ := h
        refine aw_iincc (L' := [some (vR 6 (some x0)), some (vI x1), some (vR 8 x2), some (vI (x3 + 1))]) dX6_findAims_62 rfl (by decide) rfl c14 c14x rfl ?_
        refine aw_goto (tgt := 25) dX6_findAims_65 (by decide) ?_
        exact aw_fgt (L' := [some (vR 6 (some x0)), some (vI x1), some (vR 8 x2), some (vI (x3 + 1))]) ⟨rfl, ⟨rfl, ⟨rfl, ⟨rfl, trivial⟩⟩⟩⟩ h
      · replace h := h.2 k13
        refine aw_iconst (x := 0) dX6_findAims_60 rfl ?_
        exact aw_zreturn dX6_findAims_61 rfl (Or.inl rfl) h
set_option maxRecDepth 4000 in
theorem bk_X6_isNewItem_0 {g : GP} {l : Launch} {d : Nat} {σ : St} {Q : Option AV → St → Prop} {x0 : Nat}
    (h : ((¬ (gI σ 604 x0 0) = 2 → AW g l (d + 1) MX6_isNewItem 14 [some (vR 6 (some x0))] [vI 0, vR 6 (some x0)] σ Q) ∧ ((gI σ 604 x0 0) = 2 → AW g l (d + 1) MX6_isNewItem 14 [some (vR 6 (some x0))] [vI 1, vR 6 (some x0)] σ Q))) :
    AW g l (d + 1) MX6_isNewItem 0 [some (vR 6 (some x0))] [] σ Q := by
  refine aw_aload_n dX6_isNewItem_0 rfl rfl ?_
  refine aw_aload_n dX6_isNewItem_1 rfl rfl ?_
  refine aw_getI' rfl fk_604 lf_X6_24 dX6_isNewItem_2 ?_
  refine aw_iconst (x := 2) dX6_isNewItem_5 rfl ?_
  refine aw_icmp_ne (tgt := 13) dX6_isNewItem_6 (by decide) (fun k1 => ?_) (fun k1 => ?_)
  · replace h := h.1 k1
    refine aw_iconst (x := 0) dX6_isNewItem_13 rfl ?_
    exact aw_fgt (L' := [some (vR 6 (some x0))]) ⟨rfl, trivial⟩ h
  · replace h := h.2 k1
    refine aw_iconst (x := 1) dX6_isNewItem_9 rfl ?_
    refine aw_goto (tgt := 14) dX6_isNewItem_10 (by decide) ?_
    exact aw_fgt (L' := [some (vR 6 (some x0))]) ⟨rfl, trivial⟩ h
set_option maxRecDepth 4000 in
theorem bk_X6_isNewItem_14 {g : GP} {l : Launch} {d : Nat} {σ : St} {Q : Option AV → St → Prop} {x0 : Nat} {y0 : Int} {y1 : Option Nat}
    (h : ∃ r1, y1 = some r1 ∧ ACi g l d MX6_check [vR 6 (some r1), vI y0, vI 2] σ (fun v4 σ3 => ((v4 = 0 → Q (some (vI 0)) σ3) ∧ (¬ v4 = 0 → ∃ r6, gR σ3 606 x0 0 = some r6 ∧ ACi g l d MX1_enumNamed [vR 1 (some r6), vJ (gJ σ3 605 x0 0)] σ3 (fun v9 σ8 => ((¬ v9 = (-1) → AW g l (d + 1) MX6_isNewItem 42 [some (vR 6 (some x0))] [vI 0, vR 6 (some x0)] σ8 Q) ∧ (v9 = (-1) → AW g l (d + 1) MX6_isNewItem 42 [some (vR 6 (some x0))] [vI 1, vR 6 (some x0)] σ8 Q))))))) :
    AW g l (d + 1) MX6_isNewItem 14 [some (vR 6 (some x0))] [vI y0, vR 6 y1] σ Q := by
  refine aw_iconst (x := 2) dX6_isNewItem_14 rfl ?_
  obtain ⟨r1, e2, h⟩ := h
  refine aw_invVi (M := MX6_isNewItem) (ci := 6) [vI y0, vI 2] e2 mo_X6_check rfl lm_X6_28 li_X6_check ls_X6_check (by decide +kernel) dX6_isNewItem_15 rfl (Nat.le_of_ble_eq_true rfl) (ACi.mono (fun v4 σ3 h => ?_) h)
  refine aw_if_eq (tgt := 81) dX6_isNewItem_18 (by decide) (fun k5 => ?_) (fun k5 => ?_)
  · replace h := h.1 k5
    refine aw_iconst (x := 0) dX6_isNewItem_81 rfl ?_
    exact aw_zreturn dX6_isNewItem_82 rfl (Or.inl rfl) h
  · replace h := h.2 k5
    refine aw_aload_n dX6_isNewItem_21 rfl rfl ?_
    refine aw_aload_n dX6_isNewItem_22 rfl rfl ?_
    refine aw_getR' (ci := 1) rfl fk_606 (by decide +kernel) lf_X6_66 dX6_isNewItem_23 ?_
    refine aw_aload_n dX6_isNewItem_26 rfl rfl ?_
    refine aw_getJ' rfl fk_605 lf_X6_90 dX6_isNewItem_27 ?_
    obtain ⟨r6, e7, h⟩ := h
    refine aw_invVi (M := MX6_isNewItem) (ci := 1) [vJ (gJ σ3 605 x0 0)] e7 mo_X1_enumNamed rfl lm_X6_124 li_X1_enumNamed ls_X1_enumNamed (by decide +kernel) dX6_isNewItem_30 rfl (Nat.le_of_ble_eq_true rfl) (ACi.mono (fun v9 σ8 h => ?_) h)
    refine aw_iconst (x := (-1)) dX6_isNewItem_33 rfl ?_
    refine aw_icmp_ne (tgt := 41) dX6_isNewItem_34 (by decide) (fun k10 => ?_) (fun k10 => ?_)
    · replace h := h.1 k10
      refine aw_iconst (x := 0) dX6_isNewItem_41 rfl ?_
      exact aw_fgt (L' := [some (vR 6 (some x0))]) ⟨rfl, trivial⟩ h
    · replace h := h.2 k10
      refine aw_iconst (x := 1) dX6_isNewItem_37 rfl ?_
      refine aw_goto (tgt := 42) dX6_isNewItem_38 (by decide) ?_
      exact aw_fgt (L' := [some (vR 6 (some x0))]) ⟨rfl, trivial⟩ h
set_option maxRecDepth 4000 in
theorem bk_X6_isNewItem_42 {g : GP} {l : Launch} {d : Nat} {σ : St} {Q : Option AV → St → Prop} {x0 : Nat} {y0 : Int} {y1 : Option Nat}
    (h : ∃ r1, y1 = some r1 ∧ ACi g l d MX6_check [vR 6 (some r1), vI y0, vI 3] σ (fun v4 σ3 => ((v4 = 0 → Q (some (vI 0)) σ3) ∧ (¬ v4 = 0 → ∃ r6, gR σ3 606 x0 0 = some r6 ∧ ACi g l d MX1_structureNamed [vR 1 (some r6), vJ (gJ σ3 605 x0 0)] σ3 (fun v9 σ8 => ((¬ v9 = (-1) → ACi g l d MX6_check [vR 6 (some x0), vI 0, vI 3] σ8 (fun v12 σ11 => ((v12 = 0 → Q (some (vI 0)) σ11) ∧ (¬ v12 = 0 → Q (some (vI 1)) σ11)))) ∧ (v9 = (-1) → ACi g l d MX6_check [vR 6 (some x0), vI 1, vI 3] σ8 (fun v15 σ14 => ((v15 = 0 → Q (some (vI 0)) σ14) ∧ (¬ v15 = 0 → Q (some (vI 1)) σ14)))))))))) :
    AW g l (d + 1) MX6_isNewItem 42 [some (vR 6 (some x0))] [vI y0, vR 6 y1] σ Q := by
  refine aw_iconst (x := 3) dX6_isNewItem_42 rfl ?_
  obtain ⟨r1, e2, h⟩ := h
  refine aw_invVi (M := MX6_isNewItem) (ci := 6) [vI y0, vI 3] e2 mo_X6_check rfl lm_X6_28 li_X6_check ls_X6_check (by decide +kernel) dX6_isNewItem_43 rfl (Nat.le_of_ble_eq_true rfl) (ACi.mono (fun v4 σ3 h => ?_) h)
  refine aw_if_eq (tgt := 81) dX6_isNewItem_46 (by decide) (fun k5 => ?_) (fun k5 => ?_)
  · replace h := h.1 k5
    refine aw_iconst (x := 0) dX6_isNewItem_81 rfl ?_
    exact aw_zreturn dX6_isNewItem_82 rfl (Or.inl rfl) h
  · replace h := h.2 k5
    refine aw_aload_n dX6_isNewItem_49 rfl rfl ?_
    refine aw_aload_n dX6_isNewItem_50 rfl rfl ?_
    refine aw_getR' (ci := 1) rfl fk_606 (by decide +kernel) lf_X6_66 dX6_isNewItem_51 ?_
    refine aw_aload_n dX6_isNewItem_54 rfl rfl ?_
    refine aw_getJ' rfl fk_605 lf_X6_90 dX6_isNewItem_55 ?_
    obtain ⟨r6, e7, h⟩ := h
    refine aw_invVi (M := MX6_isNewItem) (ci := 1) [vJ (gJ σ3 605 x0 0)] e7 mo_X1_structureNamed rfl lm_X6_120 li_X1_structureNamed ls_X1_structureNamed (by decide +kernel) dX6_isNewItem_58 rfl (Nat.le_of_ble_eq_true rfl) (ACi.mono (fun v9 σ8 h => ?_) h)
    refine aw_iconst (x := (-1)) dX6_isNewItem_61 rfl ?_
    refine aw_icmp_ne (tgt := 69) dX6_isNewItem_62 (by decide) (fun k10 => ?_) (fun k10 => ?_)
    · replace h := h.1 k10
      refine aw_iconst (x := 0) dX6_isNewItem_69 rfl ?_
      refine aw_iconst (x := 3) dX6_isNewItem_70 rfl ?_
      refine aw_invVi (M := MX6_isNewItem) (ci := 6) [vI 0, vI 3] rfl mo_X6_check rfl lm_X6_28 li_X6_check ls_X6_check (by decide +kernel) dX6_isNewItem_71 rfl (Nat.le_of_ble_eq_true rfl) (ACi.mono (fun v12 σ11 h => ?_) h)
      refine aw_if_eq (tgt := 81) dX6_isNewItem_74 (by decide) (fun k13 => ?_) (fun k13 => ?_)
      · replace h := h.1 k13
        refine aw_iconst (x := 0) dX6_isNewItem_81 rfl ?_
        exact aw_zreturn dX6_isNewItem_82 rfl (Or.inl rfl) h
      · replace h := h.2 k13
        refine aw_iconst (x := 1) dX6_isNewItem_77 rfl ?_
        refine aw_goto (tgt := 82) dX6_isNewItem_78 (by decide) ?_
        exact aw_zreturn dX6_isNewItem_82 rfl (Or.inr rfl) h
    · replace h := h.2 k10
      refine aw_iconst (x := 1) dX6_isNewItem_65 rfl ?_
      refine aw_goto (tgt := 70) dX6_isNewItem_66 (by decide) ?_
      refine aw_iconst (x := 3) dX6_isNewItem_70 rfl ?_
      refine aw_invVi (M := MX6_isNewItem) (ci := 6) [vI 1, vI 3] rfl mo_X6_check rfl lm_X6_28 li_X6_check ls_X6_check (by decide +kernel) dX6_isNewItem_71 rfl (Nat.le_of_ble_eq_true rfl) (ACi.mono (fun v15 σ14 h => ?_) h)
      refine aw_if_eq (tgt := 81) dX6_isNewItem_74 (by decide) (fun k16 => ?_) (fun k16 => ?_)
      · replace h := h.1 k16
        refine aw_iconst (x := 0) dX6_isNewItem_81 rfl ?_
        exact aw_zreturn dX6_isNewItem_82 rfl (Or.inl rfl) h
      · replace h := h.2 k16
        refine aw_iconst (x := 1) dX6_isNewItem_77 rfl ?_
        refine aw_goto (tgt := 82) dX6_isNewItem_78 (by decide) ?_
        exact aw_zreturn dX6_isNewItem_82 rfl (Or.inr rfl) h
set_option maxRecDepth 4000 in
theorem bk_X6_isTold_0 {g : GP} {l : Launch} {d : Nat} {σ : St} {Q : Option AV → St → Prop} {x0 : Nat} {x1 : Int64}
    (h : AW g l (d + 1) MX6_isTold 2 [some (vR 6 (some x0)), some (vJ x1), none, some (vI 0), none, none] [] σ Q) :
    AW g l (d + 1) MX6_isTold 0 [some (vR 6 (some x0)), some (vJ x1), none, none, none, none] [] σ Q := by
  refine aw_iconst (x := 0) dX6_isTold_0 rfl ?_
  refine aw_istore_n (L' := [some (vR 6 (some x0)), some (vJ x1), none, some (vI 0), none, none]) dX6_isTold_1 rfl (by decide) rfl ?_
  exact aw_fgt (L' := [some (vR 6 (some x0)), some (vJ x1), none, some (vI 0), none, none]) ⟨rfl, ⟨rfl, ⟨rfl, trivial⟩⟩⟩ h
set_option maxRecDepth 4000 in
theorem bk_X6_isTold_2 {g : GP} {l : Launch} {d : Nat} {σ : St} {Q : Option AV → St → Prop} {x0 : Nat} {x1 : Int64} {x3 : Int}
    (h : ∃ r1, gR σ 608 x0 0 = some r1 ∧ (((gI σ 802 r1 0) < x3 → Q (some (vI 0)) σ) ∧ (¬ (gI σ 802 r1 0) < x3 → ((14 ≤ x3 → Q (some (vI 0)) σ) ∧ (¬ 14 ≤ x3 → LC 8 σ r1 ∧ Bd x3 14 ∧ ∃ r7, gR σ 801 r1 x3.toNat = some r7 ∧ ((¬ (gI σ 201 r7 0) = 3 → AW g l (d + 1) MX6_isTold 66 [some (vR 6 (some x0)), some (vJ x1), none, some (vI x3), some (vR 2 (gR σ 801 r1 x3.toNat)), none] [vI 0] σ Q) ∧ ((gI σ 201 r7 0) = 3 → ∃ r10, gR σ 606 x0 0 = some r10 ∧ ACi g l d MX1_entryNamed [vR 1 (some r10), vI (gI σ 213 r7 0), vI (gI σ 214 r7 0), vJ x1] σ (fun v13 σ12 => ((v13 = (-1) → AW g l (d + 1) MX6_isTold 66 [some (vR 6 (some x0)), some (vJ x1), none, some (vI x3), some (vR 2 (gR σ 801 r1 x3.toNat)), none] [vI 0] σ12 Q) ∧ (¬ v13 = (-1) → AW g l (d + 1) MX6_isTold 66 [some (vR 6 (some x0)), some (vJ x1), none, some (vI x3), some (vR 2 (gR σ 801 r1 x3.toNat)), none] [vI 1] σ12 Q)))))))))) :
    AW g l (d + 1) MX6_isTold 2 [some (vR 6 (some x0)), some (vJ x1), none, some (vI x3), none, none] [] σ Q := by
  refine aw_iload_n dX6_isTold_2 rfl rfl ?_
  refine aw_aload_n dX6_isTold_3 rfl rfl ?_
  refine aw_getR' (ci := 8) rfl fk_608 (by decide +kernel) lf_X6_54 dX6_isTold_4 ?_
  obtain ⟨r1, e2, h⟩ := h
  refine aw_getI' e2 fk_802 lf_X6_170 dX6_isTold_7 ?_
  refine aw_icmp_gt (tgt := 91) dX6_isTold_10 (by decide) (fun k3 => ?_) (fun k3 => ?_)
  · replace h := h.1 k3
    refine aw_iconst (x := 0) dX6_isTold_91 rfl ?_
    exact aw_zreturn dX6_isTold_92 rfl (Or.inl rfl) h
  · replace h := h.2 k3
    refine aw_iload_n dX6_isTold_13 rfl rfl ?_
    refine aw_bipush (x := 14) dX6_isTold_14 rfl ?_
    refine aw_icmp_ge (tgt := 91) dX6_isTold_16 (by decide) (fun k4 => ?_) (fun k4 => ?_)
    · replace h := h.1 k4
      refine aw_iconst (x := 0) dX6_isTold_91 rfl ?_
      exact aw_zreturn dX6_isTold_92 rfl (Or.inl rfl) h
    · replace h := h.2 k4
      refine aw_aload_n dX6_isTold_19 rfl rfl ?_
      refine aw_getR' (ci := 8) rfl fk_608 (by decide +kernel) lf_X6_54 dX6_isTold_20 ?_
      obtain ⟨lc5, h⟩ := h
      refine aw_getA' e2 fk_801 (by decide) lf_X6_186 dX6_isTold_23 (LC.ne lc5 rfl rfl) ?_
      refine aw_iload_n dX6_isTold_26 rfl rfl ?_
      obtain ⟨⟨c6, c6x⟩, h⟩ := h
      refine aw_aaload (ci := 2) (by decide) rfl (by decide +kernel) dX6_isTold_27 c6 (LC.lt lc5 rfl rfl c6x) ?_
      refine aw_astore (L' := [some (vR 6 (some x0)), some (vJ x1), none, some (vI x3), some (vR 2 (gR σ 801 r1 x3.toNat)), none]) dX6_isTold_28 (by decide) rfl ?_
      refine aw_aload dX6_isTold_30 rfl ?_
      obtain ⟨r7, e8, h⟩ := h
      refine aw_getI' e8 fk_201 lf_X6_229 dX6_isTold_32 ?_
      refine aw_iconst (x := 3) dX6_isTold_35 rfl ?_
      refine aw_icmp_ne (tgt := 65) dX6_isTold_36 (by decide) (fun k9 => ?_) (fun k9 => ?_)
      · replace h := h.1 k9
        refine aw_iconst (x := 0) dX6_isTold_65 rfl ?_
        exact aw_fgt (L' := [some (vR 6 (some x0)), some (vJ x1), none, some (vI x3), some (vR 2 (gR σ 801 r1 x3.toNat)), none]) ⟨rfl, ⟨rfl, ⟨rfl, ⟨rfl, trivial⟩⟩⟩⟩ h
      · replace h := h.2 k9
        refine aw_aload_n dX6_isTold_39 rfl rfl ?_
        refine aw_getR' (ci := 1) rfl fk_606 (by decide +kernel) lf_X6_66 dX6_isTold_40 ?_
        refine aw_aload dX6_isTold_43 rfl ?_
        refine aw_getI' e8 fk_213 lf_X6_230 dX6_isTold_45 ?_
        refine aw_aload dX6_isTold_48 rfl ?_
        refine aw_getI' e8 fk_214 lf_X6_233 dX6_isTold_50 ?_
        refine aw_lload_n dX6_isTold_53 rfl rfl ?_
        obtain ⟨r10, e11, h⟩ := h
        refine aw_invVi (M := MX6_isTold) (ci := 1) [vI (gI σ 213 r7 0), vI (gI σ 214 r7 0), vJ x1] e11 mo_X1_entryNamed rfl lm_X6_151 li_X1_entryNamed ls_X1_entryNamed (by decide +kernel) dX6_isTold_54 rfl (Nat.le_of_ble_eq_true rfl) (ACi.mono (fun v13 σ12 h => ?_) h)
        refine aw_iconst (x := (-1)) dX6_isTold_57 rfl ?_
        refine aw_icmp_eq (tgt := 65) dX6_isTold_58 (by decide) (fun k14 => ?_) (fun k14 => ?_)
        · replace h := h.1 k14
          refine aw_iconst (x := 0) dX6_isTold_65 rfl ?_
          exact aw_fgt (L' := [some (vR 6 (some x0)), some (vJ x1), none, some (vI x3), some (vR 2 (gR σ 801 r1 x3.toNat)), none]) ⟨rfl, ⟨rfl, ⟨rfl, ⟨rfl, trivial⟩⟩⟩⟩ h
        · replace h := h.2 k14
          refine aw_iconst (x := 1) dX6_isTold_61 rfl ?_
          refine aw_goto (tgt := 66) dX6_isTold_62 (by decide) ?_
          exact aw_fgt (L' := [some (vR 6 (some x0)), some (vJ x1), none, some (vI x3), some (vR 2 (gR σ 801 r1 x3.toNat)), none]) ⟨rfl, ⟨rfl, ⟨rfl, ⟨rfl, trivial⟩⟩⟩⟩ h
set_option maxRecDepth 4000 in
theorem bk_X6_isTold_66 {g : GP} {l : Launch} {d : Nat} {σ : St} {Q : Option AV → St → Prop} {x0 : Nat} {x1 : Int64} {x3 : Int} {x4 : Option Nat} {y0 : Int}
    (h : ∃ r1, x4 = some r1 ∧ (((gJ σ 202 r1 0) = x1 → Q (some (vI 1)) σ) ∧ (¬ (gJ σ 202 r1 0) = x1 → ((y0 = 0 → R32 (x3 + 1) ∧ AW g l (d + 1) MX6_isTold 2 [some (vR 6 (some x0)), some (vJ x1), none, some (vI (x3 + 1)), none, none] [] σ Q) ∧ (¬ y0 = 0 → Q (some (vI 1)) σ))))) :
    AW g l (d + 1) MX6_isTold 66 [some (vR 6 (some x0)), some (vJ x1), none, some (vI x3), some (vR 2 x4), none] [vI y0] σ Q := by
  refine aw_istore (L' := [some (vR 6 (some x0)), some (vJ x1), none, some (vI x3), some (vR 2 x4), some (vI y0)]) dX6_isTold_66 (by decide) rfl ?_
  refine aw_aload dX6_isTold_68 rfl ?_
  obtain ⟨r1, e2, h⟩ := h
  refine aw_getJ' e2 fk_202 lf_X6_228 dX6_isTold_70 ?_
  refine aw_lload_n dX6_isTold_73 rfl rfl ?_
  refine aw_lcmp_eq (M := MX6_isTold) (tgt := 83) dX6_isTold_74 dX6_isTold_75 (by decide) (fun k3 => ?_) (fun k3 => ?_)
  · replace h := h.1 k3
    refine aw_iconst (x := 1) dX6_isTold_83 rfl ?_
    exact aw_zreturn dX6_isTold_84 rfl (Or.inr rfl) h
  · replace h := h.2 k3
    refine aw_iload dX6_isTold_78 rfl ?_
    refine aw_if_eq (tgt := 85) dX6_isTold_80 (by decide) (fun k4 => ?_) (fun k4 => ?_)
    · replace h := h.1 k4
      obtain ⟨⟨c5, c5x⟩, h⟩ := h
      refine aw_iincc (L' := [some (vR 6 (some x0)), some (vJ x1), none, some (vI (x3 + 1)), some (vR 2 x4), some (vI y0)]) dX6_isTold_85 rfl (by decide) rfl c5 c5x rfl ?_
      refine aw_goto (tgt := 2) dX6_isTold_88 (by decide) ?_
      exact aw_fgt (L' := [some (vR 6 (some x0)), some (vJ x1), none, some (vI (x3 + 1)), none, none]) ⟨rfl, ⟨rfl, ⟨rfl, trivial⟩⟩⟩ h
    · replace h := h.2 k4
      refine aw_iconst (x := 1) dX6_isTold_83 rfl ?_
      exact aw_zreturn dX6_isTold_84 rfl (Or.inr rfl) h
set_option maxRecDepth 4000 in
theorem bk_X6_levelOf_0 {g : GP} {l : Launch} {d : Nat} {σ : St} {Q : Option AV → St → Prop} {x0 : Int}
    (h : ((x0 = 37 → Q (some (vI 4)) σ) ∧ (x0 = 38 → Q (some (vI 4)) σ) ∧ (x0 = 42 → Q (some (vI 4)) σ) ∧ (x0 = 43 → Q (some (vI 3)) σ) ∧ (x0 = 45 → Q (some (vI 3)) σ) ∧ (x0 = 47 → Q (some (vI 4)) σ) ∧ (x0 = 60 → Q (some (vI 2)) σ) ∧ (x0 = 61 → Q (some (vI 2)) σ) ∧ (x0 = 62 → Q (some (vI 2)) σ) ∧ (x0 = 224 → Q (some (vI 1)) σ) ∧ (x0 = 225 → Q (some (vI 0)) σ) ∧ (¬ x0 = 37 → ¬ x0 = 38 → ¬ x0 = 42 → ¬ x0 = 43 → ¬ x0 = 45 → ¬ x0 = 47 → ¬ x0 = 60 → ¬ x0 = 61 → ¬ x0 = 62 → ¬ x0 = 224 → ¬ x0 = 225 → Q (some (vI (-1))) σ))) :
    AW g l d MX6_levelOf 0 [some (vI x0)] [] σ Q := by
  refine aw_iload_n dX6_levelOf_0 rfl rfl ?_
  obtain ⟨h0, h1, h2, h3, h4, h5, h6, h7, h8, h9, h10, hd⟩ := h
  refine aw_lookup (M := MX6_levelOf) (dt := 110) [(37, 108), (38, 108), (42, 108), (43, 106), (45, 106), (47, 108), (60, 104), (61, 104), (62, 104), (224, 102), (225, 100)] dX6_levelOf_1 (by decide) (by decide) (by decide) ⟨fun hc => ?_, fun n0 => ⟨fun hc => ?_, fun n1 => ⟨fun hc => ?_, fun n2 => ⟨fun hc => ?_, fun n3 => ⟨fun hc => ?_, fun n4 => ⟨fun hc => ?_, fun n5 => ⟨fun hc => ?_, fun n6 => ⟨fun hc => ?_, fun n7 => ⟨fun hc => ?_, fun n8 => ⟨fun hc => ?_, fun n9 => ⟨fun hc => ?_, fun n10 => ?_⟩⟩⟩⟩⟩⟩⟩⟩⟩⟩⟩
  · have h := h0 hc; clear h0 h1 h2 h3 h4 h5 h6 h7 h8 h9 h10 hd
    refine aw_iconst (x := 4) dX6_levelOf_108 rfl ?_
    exact aw_ireturn dX6_levelOf_109 rfl h
  · have h := h1 hc; clear h0 h1 h2 h3 h4 h5 h6 h7 h8 h9 h10 hd
    refine aw_iconst (x := 4) dX6_levelOf_108 rfl ?_
    exact aw_ireturn dX6_levelOf_109 rfl h
  · have h := h2 hc; clear h0 h1 h2 h3 h4 h5 h6 h7 h8 h9 h10 hd
    refine aw_iconst (x := 4) dX6_levelOf_108 rfl ?_
    exact aw_ireturn dX6_levelOf_109 rfl h
  · have h := h3 hc; clear h0 h1 h2 h3 h4 h5 h6 h7 h8 h9 h10 hd
    refine aw_iconst (x := 3) dX6_levelOf_106 rfl ?_
    exact aw_ireturn dX6_levelOf_107 rfl h
  · have h := h4 hc; clear h0 h1 h2 h3 h4 h5 h6 h7 h8 h9 h10 hd
    refine aw_iconst (x := 3) dX6_levelOf_106 rfl ?_
    exact aw_ireturn dX6_levelOf_107 rfl h
  · have h := h5 hc; clear h0 h1 h2 h3 h4 h5 h6 h7 h8 h9 h10 hd
    refine aw_iconst (x := 4) dX6_levelOf_108 rfl ?_
    exact aw_ireturn dX6_levelOf_109 rfl h
  · have h := h6 hc; clear h0 h1 h2 h3 h4 h5 h6 h7 h8 h9 h10 hd
    refine aw_iconst (x := 2) dX6_levelOf_104 rfl ?_
    exact aw_ireturn dX6_levelOf_105 rfl h
  · have h := h7 hc; clear h0 h1 h2 h3 h4 h5 h6 h7 h8 h9 h10 hd
    refine aw_iconst (x := 2) dX6_levelOf_104 rfl ?_
    exact aw_ireturn dX6_levelOf_105 rfl h
  · have h := h8 hc; clear h0 h1 h2 h3 h4 h5 h6 h7 h8 h9 h10 hd
    refine aw_iconst (x := 2) dX6_levelOf_104 rfl ?_
    exact aw_ireturn dX6_levelOf_105 rfl h
  · have h := h9 hc; clear h0 h1 h2 h3 h4 h5 h6 h7 h8 h9 h10 hd
    refine aw_iconst (x := 1) dX6_levelOf_102 rfl ?_
    exact aw_ireturn dX6_levelOf_103 rfl h
  · have h := h10 hc; clear h0 h1 h2 h3 h4 h5 h6 h7 h8 h9 h10 hd
    refine aw_iconst (x := 0) dX6_levelOf_100 rfl ?_
    exact aw_ireturn dX6_levelOf_101 rfl h
  · have h := hd n0 n1 n2 n3 n4 n5 n6 n7 n8 n9 n10; clear h0 h1 h2 h3 h4 h5 h6 h7 h8 h9 h10 hd
    refine aw_iconst (x := (-1)) dX6_levelOf_110 rfl ?_
    exact aw_ireturn dX6_levelOf_111 rfl h
set_option maxRecDepth 4000 in
theorem bk_X6_operandNamed_0 {g : GP} {l : Launch} {d : Nat} {σ : St} {Q : Option AV → St → Prop} {x0 : Nat} {x1 : Int64}
    (h : AW g l d MX6_operandNamed 2 [some (vR 6 (some x0)), some (vJ x1), none, some (vI 0), none, none, none] [] σ Q) :
    AW g l d MX6_operandNamed 0 [some (vR 6 (some x0)), some (vJ x1), none, none, none, none, none] [] σ Q := by
  refine aw_iconst (x := 0) dX6_operandNamed_0 rfl ?_
  refine aw_istore_n (L' := [some (vR 6 (some x0)), some (vJ x1), none, some (vI 0), none, none, none]) dX6_operandNamed_1 rfl (by decide) rfl ?_
  exact aw_fgt (L' := [some (vR 6 (some x0)), some (vJ x1), none, some (vI 0), none, none, none]) ⟨rfl, ⟨rfl, ⟨rfl, trivial⟩⟩⟩ h
set_option maxRecDepth 4000 in
theorem bk_X6_operandNamed_2 {g : GP} {l : Launch} {d : Nat} {σ : St} {Q : Option AV → St → Prop} {x0 : Nat} {x1 : Int64} {x3 : Int}
    (h : ∃ r1, gR σ 608 x0 0 = some r1 ∧ (((gI σ 802 r1 0) ≤ x3 → Q (some (vI (-1))) σ) ∧ (¬ (gI σ 802 r1 0) ≤ x3 → LC 8 σ r1 ∧ Bd x3 14 ∧ ∃ r6, gR σ 801 r1 x3.toNat = some r6 ∧ (((gI σ 201 r6 0) = 1 → AW g l d MX6_operandNamed 58 [some (vR 6 (some x0)), some (vJ x1), none, some (vI x3), some (vR 2 (gR σ 801 r1 x3.toNat)), none, none] [vI 1] σ Q) ∧ (¬ (gI σ 201 r6 0) = 1 → (((gI σ 201 r6 0) = 10 → AW g l d MX6_operandNamed 58 [some (vR 6 (some x0)), some (vJ x1), none, some (vI x3), some (vR 2 (gR σ 801 r1 x3.toNat)), none, none] [vI 1] σ Q) ∧ (¬ (gI σ 201 r6 0) = 10 → ((¬ (gI σ 201 r6 0) = 7 → AW g l d MX6_operandNamed 58 [some (vR 6 (some x0)), some (vJ x1), none, some (vI x3), some (vR 2 (gR σ 801 r1 x3.toNat)), none, none] [vI 0] σ Q) ∧ ((gI σ 201 r6 0) = 7 → AW g l d MX6_operandNamed 58 [some (vR 6 (some x0)), some (vJ x1), none, some (vI x3), some (vR 2 (gR σ 801 r1 x3.toNat)), none, none] [vI 1] σ Q))))))))) :
    AW g l d MX6_operandNamed 2 [some (vR 6 (some x0)), some (vJ x1), none, some (vI x3), none, none, none] [] σ Q := by
  refine aw_iload_n dX6_operandNamed_2 rfl rfl ?_
  refine aw_aload_n dX6_operandNamed_3 rfl rfl ?_
  refine aw_getR' (ci := 8) rfl fk_608 (by decide +kernel) lf_X6_54 dX6_operandNamed_4 ?_
  obtain ⟨r1, e2, h⟩ := h
  refine aw_getI' e2 fk_802 lf_X6_170 dX6_operandNamed_7 ?_
  refine aw_icmp_ge (tgt := 145) dX6_operandNamed_10 (by decide) (fun k3 => ?_) (fun k3 => ?_)
  · replace h := h.1 k3
    refine aw_iconst (x := (-1)) dX6_operandNamed_145 rfl ?_
    exact aw_ireturn dX6_operandNamed_146 rfl h
  · replace h := h.2 k3
    refine aw_aload_n dX6_operandNamed_13 rfl rfl ?_
    refine aw_getR' (ci := 8) rfl fk_608 (by decide +kernel) lf_X6_54 dX6_operandNamed_14 ?_
    obtain ⟨lc4, h⟩ := h
    refine aw_getA' e2 fk_801 (by decide) lf_X6_186 dX6_operandNamed_17 (LC.ne lc4 rfl rfl) ?_
    refine aw_iload_n dX6_operandNamed_20 rfl rfl ?_
    obtain ⟨⟨c5, c5x⟩, h⟩ := h
    refine aw_aaload (ci := 2) (by decide) rfl (by decide +kernel) dX6_operandNamed_21 c5 (LC.lt lc4 rfl rfl c5x) ?_
    refine aw_astore (L' := [some (vR 6 (some x0)), some (vJ x1), none, some (vI x3), some (vR 2 (gR σ 801 r1 x3.toNat)), none, none]) dX6_operandNamed_22 (by decide) rfl ?_
    refine aw_aload dX6_operandNamed_24 rfl ?_
    obtain ⟨r6, e7, h⟩ := h
    refine aw_getI' e7 fk_201 lf_X6_229 dX6_operandNamed_26 ?_
    refine aw_iconst (x := 1) dX6_operandNamed_29 rfl ?_
    refine aw_icmp_eq (tgt := 53) dX6_operandNamed_30 (by decide) (fun k8 => ?_) (fun k8 => ?_)
    · replace h := h.1 k8
      refine aw_iconst (x := 1) dX6_operandNamed_53 rfl ?_
      refine aw_goto (tgt := 58) dX6_operandNamed_54 (by decide) ?_
      exact aw_fgt (L' := [some (vR 6 (some x0)), some (vJ x1), none, some (vI x3), some (vR 2 (gR σ 801 r1 x3.toNat)), none, none]) ⟨rfl, ⟨rfl, ⟨rfl, ⟨rfl, trivial⟩⟩⟩⟩ h
    · replace h := h.2 k8
      refine aw_aload dX6_operandNamed_33 rfl ?_
      refine aw_getI' e7 fk_201 lf_X6_229 dX6_operandNamed_35 ?_
      refine aw_bipush (x := 10) dX6_operandNamed_38 rfl ?_
      refine aw_icmp_eq (tgt := 53) dX6_operandNamed_40 (by decide) (fun k9 => ?_) (fun k9 => ?_)
      · replace h := h.1 k9
        refine aw_iconst (x := 1) dX6_operandNamed_53 rfl ?_
        refine aw_goto (tgt := 58) dX6_operandNamed_54 (by decide) ?_
        exact aw_fgt (L' := [some (vR 6 (some x0)), some (vJ x1), none, some (vI x3), some (vR 2 (gR σ 801 r1 x3.toNat)), none, none]) ⟨rfl, ⟨rfl, ⟨rfl, ⟨rfl, trivial⟩⟩⟩⟩ h
      · replace h := h.2 k9
        refine aw_aload dX6_operandNamed_43 rfl ?_
        refine aw_getI' e7 fk_201 lf_X6_229 dX6_operandNamed_45 ?_
        refine aw_bipush (x := 7) dX6_operandNamed_48 rfl ?_
        refine aw_icmp_ne (tgt := 57) dX6_operandNamed_50 (by decide) (fun k10 => ?_) (fun k10 => ?_)
        · replace h := h.1 k10
          refine aw_iconst (x := 0) dX6_operandNamed_57 rfl ?_
          exact aw_fgt (L' := [some (vR 6 (some x0)), some (vJ x1), none, some (vI x3), some (vR 2 (gR σ 801 r1 x3.toNat)), none, none]) ⟨rfl, ⟨rfl, ⟨rfl, ⟨rfl, trivial⟩⟩⟩⟩ h
        · replace h := h.2 k10
          refine aw_iconst (x := 1) dX6_operandNamed_53 rfl ?_
          refine aw_goto (tgt := 58) dX6_operandNamed_54 (by decide) ?_
          exact aw_fgt (L' := [some (vR 6 (some x0)), some (vJ x1), none, some (vI x3), some (vR 2 (gR σ 801 r1 x3.toNat)), none, none]) ⟨rfl, ⟨rfl, ⟨rfl, ⟨rfl, trivial⟩⟩⟩⟩ h
set_option maxRecDepth 4000 in
theorem bk_X6_operandNamed_58 {g : GP} {l : Launch} {d : Nat} {σ : St} {Q : Option AV → St → Prop} {x0 : Nat} {x1 : Int64} {x3 : Int} {x4 : Option Nat} {y0 : Int}
    (h : ((y0 = 0 → AW g l d MX6_operandNamed 83 [some (vR 6 (some x0)), some (vJ x1), none, some (vI x3), some (vR 2 x4), none, some (vI 0)] [] σ Q) ∧ (¬ y0 = 0 → ∃ r2, x4 = some r2 ∧ ((¬ (gJ σ 202 r2 0) = x1 → AW g l d MX6_operandNamed 83 [some (vR 6 (some x0)), some (vJ x1), none, some (vI x3), some (vR 2 x4), none, some (vI 0)] [] σ Q) ∧ ((gJ σ 202 r2 0) = x1 → R32 (x3 * 13) ∧ Q (some (vI (x3 * 13))) σ))))) :
    AW g l d MX6_operandNamed 58 [some (vR 6 (some x0)), some (vJ x1), none, some (vI x3), some (vR 2 x4), none, none] [vI y0] σ Q := by
  refine aw_istore (L' := [some (vR 6 (some x0)), some (vJ x1), none, some (vI x3), some (vR 2 x4), some (vI y0), none]) dX6_operandNamed_58 (by decide) rfl ?_
  refine aw_iload dX6_operandNamed_60 rfl ?_
  refine aw_if_eq (tgt := 80) dX6_operandNamed_62 (by decide) (fun k1 => ?_) (fun k1 => ?_)
  · replace h := h.1 k1
    refine aw_iconst (x := 0) dX6_operandNamed_80 rfl ?_
    refine aw_istore (L' := [some (vR 6 (some x0)), some (vJ x1), none, some (vI x3), some (vR 2 x4), some (vI y0), some (vI 0)]) dX6_operandNamed_81 (by decide) rfl ?_
    exact aw_fgt (L' := [some (vR 6 (some x0)), some (vJ x1), none, some (vI x3), some (vR 2 x4), none, some (vI 0)]) ⟨rfl, ⟨rfl, ⟨rfl, ⟨rfl, ⟨rfl, trivial⟩⟩⟩⟩⟩ h
  · replace h := h.2 k1
    refine aw_aload dX6_operandNamed_65 rfl ?_
    obtain ⟨r2, e3, h⟩ := h
    refine aw_getJ' e3 fk_202 lf_X6_228 dX6_operandNamed_67 ?_
    refine aw_lload_n dX6_operandNamed_70 rfl rfl ?_
    refine aw_lcmp_ne (M := MX6_operandNamed) (tgt := 80) dX6_operandNamed_71 dX6_operandNamed_72 (by decide) (fun k4 => ?_) (fun k4 => ?_)
    · replace h := h.1 k4
      refine aw_iconst (x := 0) dX6_operandNamed_80 rfl ?_
      refine aw_istore (L' := [some (vR 6 (some x0)), some (vJ x1), none, some (vI x3), some (vR 2 x4), some (vI y0), some (vI 0)]) dX6_operandNamed_81 (by decide) rfl ?_
      exact aw_fgt (L' := [some (vR 6 (some x0)), some (vJ x1), none, some (vI x3), some (vR 2 x4), none, some (vI 0)]) ⟨rfl, ⟨rfl, ⟨rfl, ⟨rfl, ⟨rfl, trivial⟩⟩⟩⟩⟩ h
    · replace h := h.2 k4
      refine aw_iload_n dX6_operandNamed_75 rfl rfl ?_
      refine aw_bipush (x := 13) dX6_operandNamed_76 rfl ?_
      obtain ⟨⟨c5, c5x⟩, h⟩ := h
      refine aw_imulc dX6_operandNamed_78 c5 c5x ?_
      exact aw_ireturn dX6_operandNamed_79 rfl h
set_option maxRecDepth 4000 in
theorem bk_X6_operandNamed_83 {g : GP} {l : Launch} {d : Nat} {σ : St} {Q : Option AV → St → Prop} {x0 : Nat} {x1 : Int64} {x3 : Int} {x4 : Option Nat} {x6 : Int}
    (h : ∃ r1, x4 = some r1 ∧ ((¬ (gI σ 201 r1 0) = 3 → R32 (x3 + 1) ∧ AW g l d MX6_operandNamed 2 [some (vR 6 (some x0)), some (vJ x1), none, some (vI (x3 + 1)), none, none, none] [] σ Q) ∧ ((gI σ 201 r1 0) = 3 → (((gI σ 214 r1 0) ≤ x6 → R32 (x3 + 1) ∧ AW g l d MX6_operandNamed 2 [some (vR 6 (some x0)), some (vJ x1), none, some (vI (x3 + 1)), none, none, none] [] σ Q) ∧ (¬ (gI σ 214 r1 0) ≤ x6 → ∃ r7, gR σ 606 x0 0 = some r7 ∧ LC 1 σ r7 ∧ R32 ((gI σ 213 r1 0) + x6) ∧ Bd ((gI σ 213 r1 0) + x6) 3000 ∧ ((¬ (gJ σ 106 r7 ((gI σ 213 r1 0) + x6).toNat) = x1 → R32 (x6 + 1) ∧ AW g l d MX6_operandNamed 83 [some (vR 6 (some x0)), some (vJ x1), none, some (vI x3), some (vR 2 x4), none, some (vI (x6 + 1))] [] σ Q) ∧ ((gJ σ 106 r7 ((gI σ 213 r1 0) + x6).toNat) = x1 → R32 (x3 * 13) ∧ R32 ((x3 * 13) + 1) ∧ R32 (((x3 * 13) + 1) + x6) ∧ Q (some (vI (((x3 * 13) + 1) + x6))) σ))))))) :
    AW g l d MX6_operandNamed 83 [some (vR 6 (some x0)), some (vJ x1), none, some (vI x3), some (vR 2 x4), none, some (vI x6)] [] σ Q := by
  refine aw_aload dX6_operandNamed_83 rfl ?_
  obtain ⟨r1, e2, h⟩ := h
  refine aw_getI' e2 fk_201 lf_X6_229 dX6_operandNamed_85 ?_
  refine aw_iconst (x := 3) dX6_operandNamed_88 rfl ?_
  refine aw_icmp_ne (tgt := 139) dX6_operandNamed_89 (by decide) (fun k3 => ?_) (fun k3 => ?_)
  · replace h := h.1 k3
    obtain ⟨⟨c4, c4x⟩, h⟩ := h
    refine aw_iincc (L' := [some (vR 6 (some x0)), some (vJ x1), none, some (vI (x3 + 1)), some (vR 2 x4), none, some (vI x6)]) dX6_operandNamed_139 rfl (by decide) rfl c4 c4x rfl ?_
    refine aw_goto (tgt := 2) dX6_operandNamed_142 (by decide) ?_
    exact aw_fgt (L' := [some (vR 6 (some x0)), some (vJ x1), none, some (vI (x3 + 1)), none, none, none]) ⟨rfl, ⟨rfl, ⟨rfl, trivial⟩⟩⟩ h
  · replace h := h.2 k3
    refine aw_iload dX6_operandNamed_92 rfl ?_
    refine aw_aload dX6_operandNamed_94 rfl ?_
    refine aw_getI' e2 fk_214 lf_X6_233 dX6_operandNamed_96 ?_
    refine aw_icmp_ge (tgt := 139) dX6_operandNamed_99 (by decide) (fun k5 => ?_) (fun k5 => ?_)
    · replace h := h.1 k5
      obtain ⟨⟨c6, c6x⟩, h⟩ := h
      refine aw_iincc (L' := [some (vR 6 (some x0)), some (vJ x1), none, some (vI (x3 + 1)), some (vR 2 x4), none, some (vI x6)]) dX6_operandNamed_139 rfl (by decide) rfl c6 c6x rfl ?_
      refine aw_goto (tgt := 2) dX6_operandNamed_142 (by decide) ?_
      exact aw_fgt (L' := [some (vR 6 (some x0)), some (vJ x1), none, some (vI (x3 + 1)), none, none, none]) ⟨rfl, ⟨rfl, ⟨rfl, trivial⟩⟩⟩ h
    · replace h := h.2 k5
      refine aw_aload_n dX6_operandNamed_102 rfl rfl ?_
      refine aw_getR' (ci := 1) rfl fk_606 (by decide +kernel) lf_X6_66 dX6_operandNamed_103 ?_
      obtain ⟨r7, e8, h⟩ := h
      obtain ⟨lc9, h⟩ := h
      refine aw_getA' e8 fk_106 (by decide) lf_X6_322 dX6_operandNamed_106 (LC.ne lc9 rfl rfl) ?_
      refine aw_aload dX6_operandNamed_109 rfl ?_
      refine aw_getI' e2 fk_213 lf_X6_230 dX6_operandNamed_111 ?_
      refine aw_iload dX6_operandNamed_114 rfl ?_
      obtain ⟨⟨c10, c10x⟩, h⟩ := h
      refine aw_iaddc dX6_operandNamed_116 c10 c10x ?_
      obtain ⟨⟨c11, c11x⟩, h⟩ := h
      refine aw_laload (by decide) rfl dX6_operandNamed_117 c11 (LC.lt lc9 rfl rfl c11x) ?_
      refine aw_lload_n dX6_operandNamed_118 rfl rfl ?_
      refine aw_lcmp_ne (M := MX6_operandNamed) (tgt := 133) dX6_operandNamed_119 dX6_operandNamed_120 (by decide) (fun k12 => ?_) (fun k12 => ?_)
      · replace h := h.1 k12
        obtain ⟨⟨c13, c13x⟩, h⟩ := h
        refine aw_iincc (L' := [some (vR 6 (some x0)), some (vJ x1), none, some (vI x3), some (vR 2 x4), none, some (vI (x6 + 1))]) dX6_operandNamed_133 rfl (by decide) rfl c13 c13x rfl ?_
        refine aw_goto (tgt := 83) dX6_operandNamed_136 (by decide) ?_
        exact aw_fgt (L' := [some (vR 6 (some x0)), some (vJ x1), none, some (vI x3), some (vR 2 x4), none, some (vI (x6 + 1))]) ⟨rfl, ⟨rfl, ⟨rfl, ⟨rfl, ⟨rfl, trivial⟩⟩⟩⟩⟩ h
      · replace h := h.2 k12
        refine aw_iload_n dX6_operandNamed_123 rfl rfl ?_
        refine aw_bipush (x := 13) dX6_operandNamed_124 rfl ?_
        obtain ⟨⟨c14, c14x⟩, h⟩ := h
        refine aw_imulc dX6_operandNamed_126 c14 c14x ?_
        refine aw_iconst (x := 1) dX6_operandNamed_127 rfl ?_
        obtain ⟨⟨c15, c15x⟩, h⟩ := h
        refine aw_iaddc dX6_operandNamed_128 c15 c15x ?_
        refine aw_iload dX6_operandNamed_129 rfl ?_
        obtain ⟨⟨c16, c16x⟩, h⟩ := h
        refine aw_iaddc dX6_operandNamed_131 c16 c16x ?_
        exact aw_ireturn dX6_operandNamed_132 rfl h
set_option maxRecDepth 4000 in
theorem bk_X6_pass_0 {g : GP} {l : Launch} {d : Nat} {σ : St} {Q : Option AV → St → Prop} {x0 : Nat}
    (h : ∃ r1, gR σ 602 x0 0 = some r1 ∧ R32 ((gI σ 905 r1 0) - 1) ∧ ((((gI σ 905 r1 0) - 1) ≤ (gI σ 603 x0 0) → Q none σ) ∧ (¬ ((gI σ 905 r1 0) - 1) ≤ (gI σ 603 x0 0) → R32 ((gI σ 603 x0 0) + 1) ∧ LC 9 σ r1 ∧ Bd ((gI σ 603 x0 0) + 1) 3001 ∧ Q none (sJ (sI (sI σ 603 x0 0 ((gI σ 603 x0 0) + 1)) 604 x0 0 (gI σ 902 r1 ((gI σ 603 x0 0) + 1).toNat)) 605 x0 0 (gJ σ 904 r1 ((gI σ 603 x0 0) + 1).toNat))))) :
    AW g l d MX6_pass 0 [some (vR 6 (some x0))] [] σ Q := by
  refine aw_aload_n dX6_pass_0 rfl rfl ?_
  refine aw_getI' rfl fk_603 lf_X6_77 dX6_pass_1 ?_
  refine aw_aload_n dX6_pass_4 rfl rfl ?_
  refine aw_getR' (ci := 9) rfl fk_602 (by decide +kernel) lf_X6_62 dX6_pass_5 ?_
  obtain ⟨r1, e2, h⟩ := h
  refine aw_getI' e2 fk_905 lf_X6_97 dX6_pass_8 ?_
  refine aw_iconst (x := 1) dX6_pass_11 rfl ?_
  obtain ⟨⟨c3, c3x⟩, h⟩ := h
  refine aw_isubc dX6_pass_12 c3 c3x ?_
  refine aw_icmp_ge (tgt := 58) dX6_pass_13 (by decide) (fun k4 => ?_) (fun k4 => ?_)
  · replace h := h.1 k4
    exact aw_ret h rfl dX6_pass_58
  · replace h := h.2 k4
    refine aw_aload_n dX6_pass_16 rfl rfl ?_
    refine aw_dup dX6_pass_17 rfl ?_
    refine aw_getI' rfl fk_603 lf_X6_77 dX6_pass_18 ?_
    refine aw_iconst (x := 1) dX6_pass_21 rfl ?_
    obtain ⟨⟨c5, c5x⟩, h⟩ := h
    refine aw_iaddc dX6_pass_22 c5 c5x ?_
    refine aw_putI' rfl fk_603 (Or.inl rfl) lf_X6_77 dX6_pass_23 ?_
    refine aw_aload_n dX6_pass_26 rfl rfl ?_
    refine aw_aload_n dX6_pass_27 rfl rfl ?_
    refine aw_getRe (ci := 9) (v := gR σ 602 x0 0) rfl fk_602 (by decide +kernel) lf_X6_62 dX6_pass_28 rfl ?_
    obtain ⟨lc6, h⟩ := h
    refine aw_getA' e2 fk_902 (by decide) lf_X6_80 dX6_pass_31 (LC.ne lc6 rfl rfl) ?_
    refine aw_aload_n dX6_pass_34 rfl rfl ?_
    refine aw_getIe (v := ((gI σ 603 x0 0) + 1)) rfl fk_603 lf_X6_77 dX6_pass_35 (gI_slf σ 603 x0 0 ((gI σ 603 x0 0) + 1)) ?_
    obtain ⟨⟨c7, c7x⟩, h⟩ := h
    refine aw_ialoade (v := gI σ 902 r1 ((gI σ 603 x0 0) + 1).toNat) (by decide) rfl dX6_pass_38 c7 (LC.lt lc6 rfl rfl c7x) rfl ?_
    refine aw_putI' rfl fk_604 (Or.inl rfl) lf_X6_24 dX6_pass_39 ?_
    refine aw_aload_n dX6_pass_42 rfl rfl ?_
    refine aw_aload_n dX6_pass_43 rfl rfl ?_
    refine aw_getRe (ci := 9) (v := gR σ 602 x0 0) rfl fk_602 (by decide +kernel) lf_X6_62 dX6_pass_44 rfl ?_
    refine aw_getA' e2 fk_904 (by decide) lf_X6_86 dX6_pass_47 (LC.ne lc6 rfl rfl) ?_
    refine aw_aload_n dX6_pass_50 rfl rfl ?_
    refine aw_getIe (v := ((gI σ 603 x0 0) + 1)) rfl fk_603 lf_X6_77 dX6_pass_51 (gI_slf σ 603 x0 0 ((gI σ 603 x0 0) + 1)) ?_
    refine aw_laloade (v := gJ σ 904 r1 ((gI σ 603 x0 0) + 1).toNat) (by decide) rfl dX6_pass_54 c7 (LC.lt lc6 rfl rfl c7x) rfl ?_
    refine aw_putJ' rfl fk_605 (Or.inl rfl) lf_X6_90 dX6_pass_55 ?_
    exact aw_ret h rfl dX6_pass_58
set_option maxRecDepth 4000 in
theorem bk_X6_readBits_0 {g : GP} {l : Launch} {d : Nat} {σ : St} {Q : Option AV → St → Prop} {x0 : Nat}
    (h : ∃ r1, gR σ 609 x0 0 = some r1 ∧ ∃ r3, gR σ 606 x0 0 = some r3 ∧ ACv g l d MX6_pass [vR 6 (some x0)] (sI (sI σ 201 r1 0 3) 213 r1 0 (gI σ 109 r3 0)) (fun σ5 => ACi g l d MX6_takeType [vR 6 (some x0)] σ5 (fun v7 σ6 => ((v7 = 0 → Q (some (vI 0)) σ6) ∧ (¬ v7 = 0 → ACi g l d MX6_takeOwnName [vR 6 (some x0)] σ6 (fun v10 σ9 => ((v10 = 0 → Q (some (vI 0)) σ9) ∧ (¬ v10 = 0 → ACi g l d MX6_take [vR 6 (some x0), vI 123] σ9 (fun v13 σ12 => ((¬ v13 = 0 → AW g l (d + 1) MX6_readBits 57 [some (vR 6 (some x0)), some (vI 0), some (vI 1), some (vI 0)] [] σ12 Q) ∧ (v13 = 0 → Q (some (vI 0)) σ12))))))))))) :
    AW g l (d + 1) MX6_readBits 0 [some (vR 6 (some x0)), none, none, none] [] σ Q := by
  refine aw_aload_n dX6_readBits_0 rfl rfl ?_
  refine aw_getR' (ci := 2) rfl fk_609 (by decide +kernel) lf_X6_106 dX6_readBits_1 ?_
  refine aw_iconst (x := 3) dX6_readBits_4 rfl ?_
  obtain ⟨r1, e2, h⟩ := h
  refine aw_putI' e2 fk_201 (Or.inl rfl) lf_X6_229 dX6_readBits_5 ?_
  refine aw_aload_n dX6_readBits_8 rfl rfl ?_
  refine aw_getRe (ci := 2) (v := gR σ 609 x0 0) rfl fk_609 (by decide +kernel) lf_X6_106 dX6_readBits_9 rfl ?_
  refine aw_aload_n dX6_readBits_12 rfl rfl ?_
  refine aw_getRe (ci := 1) (v := gR σ 606 x0 0) rfl fk_606 (by decide +kernel) lf_X6_66 dX6_readBits_13 rfl ?_
  obtain ⟨r3, e4, h⟩ := h
  refine aw_getIe (v := gI σ 109 r3 0) e4 fk_109 lf_X6_139 dX6_readBits_16 rfl ?_
  refine aw_putI' e2 fk_213 (Or.inl rfl) lf_X6_230 dX6_readBits_19 ?_
  refine aw_aload_n dX6_readBits_22 rfl rfl ?_
  refine aw_invVv (M := MX6_readBits) (ci := 6) [] rfl mo_X6_pass rfl lm_X6_100 li_X6_pass ls_X6_pass (by decide +kernel) dX6_readBits_23 rfl (Nat.le_of_ble_eq_true rfl) (ACv.mono (fun σ5 h => ?_) h)
  refine aw_aload_n dX6_readBits_26 rfl rfl ?_
  refine aw_invVi (M := MX6_readBits) (ci := 6) [] rfl mo_X6_takeType rfl lm_X6_234 li_X6_takeType ls_X6_takeType (by decide +kernel) dX6_readBits_27 rfl (Nat.le_of_ble_eq_true rfl) (ACi.mono (fun v7 σ6 h => ?_) h)
  refine aw_if_eq (tgt := 49) dX6_readBits_30 (by decide) (fun k8 => ?_) (fun k8 => ?_)
  · replace h := h.1 k8
    refine aw_iconst (x := 0) dX6_readBits_49 rfl ?_
    exact aw_zreturn dX6_readBits_50 rfl (Or.inl rfl) h
  · replace h := h.2 k8
    refine aw_aload_n dX6_readBits_33 rfl rfl ?_
    refine aw_invVi (M := MX6_readBits) (ci := 6) [] rfl mo_X6_takeOwnName rfl lm_X6_237 li_X6_takeOwnName ls_X6_takeOwnName (by decide +kernel) dX6_readBits_34 rfl (Nat.le_of_ble_eq_true rfl) (ACi.mono (fun v10 σ9 h => ?_) h)
    refine aw_if_eq (tgt := 49) dX6_readBits_37 (by decide) (fun k11 => ?_) (fun k11 => ?_)
    · replace h := h.1 k11
      refine aw_iconst (x := 0) dX6_readBits_49 rfl ?_
      exact aw_zreturn dX6_readBits_50 rfl (Or.inl rfl) h
    · replace h := h.2 k11
      refine aw_aload_n dX6_readBits_40 rfl rfl ?_
      refine aw_bipush (x := 123) dX6_readBits_41 rfl ?_
      refine aw_invVi (M := MX6_readBits) (ci := 6) [vI 123] rfl mo_X6_take rfl lm_X6_116 li_X6_take ls_X6_take (by decide +kernel) dX6_readBits_43 rfl (Nat.le_of_ble_eq_true rfl) (ACi.mono (fun v13 σ12 h => ?_) h)
      refine aw_if_ne (tgt := 51) dX6_readBits_46 (by decide) (fun k14 => ?_) (fun k14 => ?_)
      · replace h := h.1 k14
        refine aw_iconst (x := 0) dX6_readBits_51 rfl ?_
        refine aw_istore_n (L' := [some (vR 6 (some x0)), some (vI 0), none, none]) dX6_readBits_52 rfl (by decide) rfl ?_
        refine aw_iconst (x := 1) dX6_readBits_53 rfl ?_
        refine aw_istore_n (L' := [some (vR 6 (some x0)), some (vI 0), some (vI 1), none]) dX6_readBits_54 rfl (by decide) rfl ?_
        refine aw_iconst (x := 0) dX6_readBits_55 rfl ?_
        refine aw_istore_n (L' := [some (vR 6 (some x0)), some (vI 0), some (vI 1), some (vI 0)]) dX6_readBits_56 rfl (by decide) rfl ?_
        exact aw_fgt (L' := [some (vR 6 (some x0)), some (vI 0), some (vI 1), some (vI 0)]) ⟨rfl, ⟨rfl, ⟨rfl, ⟨rfl, trivial⟩⟩⟩⟩ h
      · replace h := h.2 k14
        refine aw_iconst (x := 0) dX6_readBits_49 rfl ?_
        exact aw_zreturn dX6_readBits_50 rfl (Or.inl rfl) h
set_option maxRecDepth 4000 in
theorem bk_X6_readBits_57 {g : GP} {l : Launch} {d : Nat} {σ : St} {Q : Option AV → St → Prop} {x0 : Nat} {x1 : Int} {x2 : Int} {x3 : Int}
    (h : ((12 < x3 → ACi g l d MX6_take [vR 6 (some x0), vI 125] σ (fun v3 σ2 => ((v3 = 0 ∨ v3 = 1) ∧ Q (some (vI v3)) σ2))) ∧ (¬ 12 < x3 → ((x2 = 0 → ACi g l d MX6_take [vR 6 (some x0), vI 125] σ (fun v6 σ5 => ((v6 = 0 ∨ v6 = 1) ∧ Q (some (vI v6)) σ5))) ∧ (¬ x2 = 0 → ACi g l d MX6_readPart [vR 6 (some x0), vI x1] σ (fun v8 σ7 => ((¬ v8 = 0 → R32 (x1 + (j2i (gJ σ7 610 x0 0))) ∧ ∀ z11 : Int, z11 = x1 + (j2i (gJ σ7 610 x0 0)) → ACi g l d MX6_takeIf [vR 6 (some x0), vI 44] σ7 (fun v13 σ12 => R32 (x3 + 1) ∧ AW g l (d + 1) MX6_readBits 57 [some (vR 6 (some x0)), some (vI z11), some (vI v13), some (vI (x3 + 1))] [] σ12 Q)) ∧ (v8 = 0 → Q (some (vI 0)) σ7)))))))) :
    AW g l (d + 1) MX6_readBits 57 [some (vR 6 (some x0)), some (vI x1), some (vI x2), some (vI x3)] [] σ Q := by
  refine aw_iload_n dX6_readBits_57 rfl rfl ?_
  refine aw_bipush (x := 12) dX6_readBits_58 rfl ?_
  refine aw_icmp_gt (tgt := 98) dX6_readBits_60 (by decide) (fun k1 => ?_) (fun k1 => ?_)
  · replace h := h.1 k1
    refine aw_aload_n dX6_readBits_98 rfl rfl ?_
    refine aw_bipush (x := 125) dX6_readBits_99 rfl ?_
    refine aw_invVi (M := MX6_readBits) (ci := 6) [vI 125] rfl mo_X6_take rfl lm_X6_116 li_X6_take ls_X6_take (by decide +kernel) dX6_readBits_101 rfl (Nat.le_of_ble_eq_true rfl) (ACi.mono (fun v3 σ2 h => ?_) h)
    exact aw_zreturn dX6_readBits_104 rfl h.1 h.2
  · replace h := h.2 k1
    refine aw_iload_n dX6_readBits_63 rfl rfl ?_
    refine aw_if_eq (tgt := 98) dX6_readBits_64 (by decide) (fun k4 => ?_) (fun k4 => ?_)
    · replace h := h.1 k4
      refine aw_aload_n dX6_readBits_98 rfl rfl ?_
      refine aw_bipush (x := 125) dX6_readBits_99 rfl ?_
      refine aw_invVi (M := MX6_readBits) (ci := 6) [vI 125] rfl mo_X6_take rfl lm_X6_116 li_X6_take ls_X6_take (by decide +kernel) dX6_readBits_101 rfl (Nat.le_of_ble_eq_true rfl) (ACi.mono (fun v6 σ5 h => ?_) h)
      exact aw_zreturn dX6_readBits_104 rfl h.1 h.2
    · replace h := h.2 k4
      refine aw_aload_n dX6_readBits_67 rfl rfl ?_
      refine aw_iload_n dX6_readBits_68 rfl rfl ?_
      refine aw_invVi (M := MX6_readBits) (ci := 6) [vI x1] rfl mo_X6_readPart rfl lm_X6_258 li_X6_readPart ls_X6_readPart (by decide +kernel) dX6_readBits_69 rfl (Nat.le_of_ble_eq_true rfl) (ACi.mono (fun v8 σ7 h => ?_) h)
      refine aw_if_ne (tgt := 77) dX6_readBits_72 (by decide) (fun k9 => ?_) (fun k9 => ?_)
      · replace h := h.1 k9
        refine aw_iload_n dX6_readBits_77 rfl rfl ?_
        refine aw_aload_n dX6_readBits_78 rfl rfl ?_
        refine aw_getJ' rfl fk_610 lf_X6_103 dX6_readBits_79 ?_
        refine aw_l2i dX6_readBits_82 ?_
        obtain ⟨⟨c10, c10x⟩, h⟩ := h
        refine aw_iaddc dX6_readBits_83 c10 c10x ?_
        refine aw_istore_n (L' := [some (vR 6 (some x0)), some (vI (x1 + (j2i (gJ σ7 610 x0 0)))), some (vI x2), some (vI x3)]) dX6_readBits_84 rfl (by decide) rfl ?_
        obtain ⟨z11, hz11⟩ : ∃ z : Int, z = x1 + (j2i (gJ σ7 610 x0 0)) := ⟨_, rfl⟩
        rw [← hz11]
        replace h := h z11 hz11
        refine aw_aload_n dX6_readBits_85 rfl rfl ?_
        refine aw_bipush (x := 44) dX6_readBits_86 rfl ?_
        refine aw_invVi (M := MX6_readBits) (ci := 6) [vI 44] rfl mo_X6_takeIf rfl lm_X6_148 li_X6_takeIf ls_X6_takeIf (by decide +kernel) dX6_readBits_88 rfl (Nat.le_of_ble_eq_true rfl) (ACi.mono (fun v13 σ12 h => ?_) h)
        refine aw_istore_n (L' := [some (vR 6 (some x0)), some (vI z11), some (vI v13), some (vI x3)]) dX6_readBits_91 rfl (by decide) rfl ?_
        obtain ⟨⟨c14, c14x⟩, h⟩ := h
        refine aw_iincc (L' := [some (vR 6 (some x0)), some (vI z11), some (vI v13), some (vI (x3 + 1))]) dX6_readBits_92 rfl (by decide) rfl c14 c14x rfl ?_
        refine aw_goto (tgt := 57) dX6_readBits_95 (by decide) ?_
        exact aw_fgt (L' := [some (vR 6 (some x0)), some (vI z11), some (vI v13), some (vI (x3 + 1))]) ⟨rfl, ⟨rfl, ⟨rfl, ⟨rfl, trivial⟩⟩⟩⟩ h
      · replace h := h.2 k9
        refine aw_iconst (x := 0) dX6_readBits_75 rfl ?_
        exact aw_zreturn dX6_readBits_76 rfl (Or.inl rfl) h
set_option maxRecDepth 4000 in
theorem bk_X6_readByte_0 {g : GP} {l : Launch} {d : Nat} {σ : St} {Q : Option AV → St → Prop} {x0 : Nat}
    (h : (((gI σ 604 x0 0) = 3 → AW g l (d + 1) MX6_readByte 23 [some (vR 6 (some x0)), none] [vI 1, vR 6 (some x0)] σ Q) ∧ (¬ (gI σ 604 x0 0) = 3 → ((¬ (gI σ 604 x0 0) = 42 → AW g l (d + 1) MX6_readByte 23 [some (vR 6 (some x0)), none] [vI 0, vR 6 (some x0)] σ Q) ∧ ((gI σ 604 x0 0) = 42 → AW g l (d + 1) MX6_readByte 23 [some (vR 6 (some x0)), none] [vI 1, vR 6 (some x0)] σ Q))))) :
    AW g l (d + 1) MX6_readByte 0 [some (vR 6 (some x0)), none] [] σ Q := by
  refine aw_aload_n dX6_readByte_0 rfl rfl ?_
  refine aw_aload_n dX6_readByte_1 rfl rfl ?_
  refine aw_getI' rfl fk_604 lf_X6_24 dX6_readByte_2 ?_
  refine aw_iconst (x := 3) dX6_readByte_5 rfl ?_
  refine aw_icmp_eq (tgt := 18) dX6_readByte_6 (by decide) (fun k1 => ?_) (fun k1 => ?_)
  · replace h := h.1 k1
    refine aw_iconst (x := 1) dX6_readByte_18 rfl ?_
    refine aw_goto (tgt := 23) dX6_readByte_19 (by decide) ?_
    exact aw_fgt (L' := [some (vR 6 (some x0)), none]) ⟨rfl, trivial⟩ h
  · replace h := h.2 k1
    refine aw_aload_n dX6_readByte_9 rfl rfl ?_
    refine aw_getI' rfl fk_604 lf_X6_24 dX6_readByte_10 ?_
    refine aw_bipush (x := 42) dX6_readByte_13 rfl ?_
    refine aw_icmp_ne (tgt := 22) dX6_readByte_15 (by decide) (fun k2 => ?_) (fun k2 => ?_)
    · replace h := h.1 k2
      refine aw_iconst (x := 0) dX6_readByte_22 rfl ?_
      exact aw_fgt (L' := [some (vR 6 (some x0)), none]) ⟨rfl, trivial⟩ h
    · replace h := h.2 k2
      refine aw_iconst (x := 1) dX6_readByte_18 rfl ?_
      refine aw_goto (tgt := 23) dX6_readByte_19 (by decide) ?_
      exact aw_fgt (L' := [some (vR 6 (some x0)), none]) ⟨rfl, trivial⟩ h
set_option maxRecDepth 4000 in
theorem bk_X6_readByte_23 {g : GP} {l : Launch} {d : Nat} {σ : St} {Q : Option AV → St → Prop} {x0 : Nat} {y0 : Int} {y1 : Option Nat}
    (h : ∃ r1, y1 = some r1 ∧ ACi g l d MX6_check [vR 6 (some r1), vI y0, vI 2] σ (fun v4 σ3 => ((v4 = 0 → Q (some (vI 0)) σ3) ∧ (¬ v4 = 0 → ∃ r6, gR σ3 609 x0 0 = some r6 ∧ ((16 ≤ (gI σ3 214 r6 0) → AW g l (d + 1) MX6_readByte 48 [some (vR 6 (some x0)), none] [vI 0, vR 6 (some x0)] σ3 Q) ∧ (¬ 16 ≤ (gI σ3 214 r6 0) → AW g l (d + 1) MX6_readByte 48 [some (vR 6 (some x0)), none] [vI 1, vR 6 (some x0)] σ3 Q)))))) :
    AW g l (d + 1) MX6_readByte 23 [some (vR 6 (some x0)), none] [vI y0, vR 6 y1] σ Q := by
  refine aw_iconst (x := 2) dX6_readByte_23 rfl ?_
  obtain ⟨r1, e2, h⟩ := h
  refine aw_invVi (M := MX6_readByte) (ci := 6) [vI y0, vI 2] e2 mo_X6_check rfl lm_X6_28 li_X6_check ls_X6_check (by decide +kernel) dX6_readByte_24 rfl (Nat.le_of_ble_eq_true rfl) (ACi.mono (fun v4 σ3 h => ?_) h)
  refine aw_if_eq (tgt := 55) dX6_readByte_27 (by decide) (fun k5 => ?_) (fun k5 => ?_)
  · replace h := h.1 k5
    refine aw_iconst (x := 0) dX6_readByte_55 rfl ?_
    exact aw_zreturn dX6_readByte_56 rfl (Or.inl rfl) h
  · replace h := h.2 k5
    refine aw_aload_n dX6_readByte_30 rfl rfl ?_
    refine aw_aload_n dX6_readByte_31 rfl rfl ?_
    refine aw_getR' (ci := 2) rfl fk_609 (by decide +kernel) lf_X6_106 dX6_readByte_32 ?_
    obtain ⟨r6, e7, h⟩ := h
    refine aw_getI' e7 fk_214 lf_X6_233 dX6_readByte_35 ?_
    refine aw_bipush (x := 16) dX6_readByte_38 rfl ?_
    refine aw_icmp_ge (tgt := 47) dX6_readByte_40 (by decide) (fun k8 => ?_) (fun k8 => ?_)
    · replace h := h.1 k8
      refine aw_iconst (x := 0) dX6_readByte_47 rfl ?_
      exact aw_fgt (L' := [some (vR 6 (some x0)), none]) ⟨rfl, trivial⟩ h
    · replace h := h.2 k8
      refine aw_iconst (x := 1) dX6_readByte_43 rfl ?_
      refine aw_goto (tgt := 48) dX6_readByte_44 (by decide) ?_
      exact aw_fgt (L' := [some (vR 6 (some x0)), none]) ⟨rfl, trivial⟩ h
set_option maxRecDepth 4000 in
theorem bk_X6_readByte_48 {g : GP} {l : Launch} {d : Nat} {σ : St} {Q : Option AV → St → Prop} {x0 : Nat} {y0 : Int} {y1 : Option Nat}
    (h : ∃ r1, y1 = some r1 ∧ ACi g l d MX6_check [vR 6 (some r1), vI y0, vI 5] σ (fun v4 σ3 => ((¬ v4 = 0 → ACi g l d MX6_takeIf [vR 6 (some x0), vI 42] σ3 (fun v7 σ6 => ((¬ v7 = 0 → AW g l (d + 1) MX6_readByte 100 [some (vR 6 (some x0)), none] [vJ (-1), vJ 0, vR 1 (gR σ6 606 x0 0)] σ6 Q) ∧ (v7 = 0 → ACi g l d MX6_takeNumber [vR 6 (some x0), vJ 0, vJ 255] σ6 (fun v10 σ9 => ((¬ v10 = 0 → AW g l (d + 1) MX6_readByte 100 [some (vR 6 (some x0)), none] [vJ (gJ σ9 610 x0 0), vJ 0, vR 1 (gR σ9 606 x0 0)] σ9 Q) ∧ (v10 = 0 → Q (some (vI 0)) σ9))))))) ∧ (v4 = 0 → Q (some (vI 0)) σ3)))) :
    AW g l (d + 1) MX6_readByte 48 [some (vR 6 (some x0)), none] [vI y0, vR 6 y1] σ Q := by
  refine aw_iconst (x := 5) dX6_readByte_48 rfl ?_
  obtain ⟨r1, e2, h⟩ := h
  refine aw_invVi (M := MX6_readByte) (ci := 6) [vI y0, vI 5] e2 mo_X6_check rfl lm_X6_28 li_X6_check ls_X6_check (by decide +kernel) dX6_readByte_49 rfl (Nat.le_of_ble_eq_true rfl) (ACi.mono (fun v4 σ3 h => ?_) h)
  refine aw_if_ne (tgt := 57) dX6_readByte_52 (by decide) (fun k5 => ?_) (fun k5 => ?_)
  · replace h := h.1 k5
    refine aw_aload_n dX6_readByte_57 rfl rfl ?_
    refine aw_bipush (x := 42) dX6_readByte_58 rfl ?_
    refine aw_invVi (M := MX6_readByte) (ci := 6) [vI 42] rfl mo_X6_takeIf rfl lm_X6_148 li_X6_takeIf ls_X6_takeIf (by decide +kernel) dX6_readByte_60 rfl (Nat.le_of_ble_eq_true rfl) (ACi.mono (fun v7 σ6 h => ?_) h)
    refine aw_istore_n (L' := [some (vR 6 (some x0)), some (vI v7)]) dX6_readByte_63 rfl (by decide) rfl ?_
    refine aw_iload_n dX6_readByte_64 rfl rfl ?_
    refine aw_if_ne (tgt := 81) dX6_readByte_65 (by decide) (fun k8 => ?_) (fun k8 => ?_)
    · replace h := h.1 k8
      refine aw_aload_n dX6_readByte_81 rfl rfl ?_
      refine aw_getR' (ci := 1) rfl fk_606 (by decide +kernel) lf_X6_66 dX6_readByte_82 ?_
      refine aw_lconst (x := 0) dX6_readByte_85 rfl ?_
      refine aw_iload_n dX6_readByte_86 rfl rfl ?_
      refine aw_if_eq (tgt := 96) dX6_readByte_87 (by decide) (fun q => absurd q k8) (fun _ => ?_)
      refine aw_ldc2 lk_X6_296 dX6_readByte_90 ?_
      refine aw_goto (tgt := 100) dX6_readByte_93 (by decide) ?_
      exact aw_fgt (L' := [some (vR 6 (some x0)), none]) ⟨rfl, trivial⟩ h
    · replace h := h.2 k8
      refine aw_aload_n dX6_readByte_68 rfl rfl ?_
      refine aw_lconst (x := 0) dX6_readByte_69 rfl ?_
      refine aw_ldc2 lk_X6_274 dX6_readByte_70 ?_
      refine aw_invVi (M := MX6_readByte) (ci := 6) [vJ 0, vJ 255] rfl mo_X6_takeNumber rfl lm_X6_270 li_X6_takeNumber ls_X6_takeNumber (by decide +kernel) dX6_readByte_73 rfl (Nat.le_of_ble_eq_true rfl) (ACi.mono (fun v10 σ9 h => ?_) h)
      refine aw_if_ne (tgt := 81) dX6_readByte_76 (by decide) (fun k11 => ?_) (fun k11 => ?_)
      · replace h := h.1 k11
        refine aw_aload_n dX6_readByte_81 rfl rfl ?_
        refine aw_getR' (ci := 1) rfl fk_606 (by decide +kernel) lf_X6_66 dX6_readByte_82 ?_
        refine aw_lconst (x := 0) dX6_readByte_85 rfl ?_
        refine aw_iload_n dX6_readByte_86 rfl rfl ?_
        refine aw_if_eq (tgt := 96) dX6_readByte_87 (by decide) (fun _ => ?_) (fun q => absurd k8 q)
        refine aw_aload_n dX6_readByte_96 rfl rfl ?_
        refine aw_getJ' rfl fk_610 lf_X6_103 dX6_readByte_97 ?_
        exact aw_fgt (L' := [some (vR 6 (some x0)), none]) ⟨rfl, trivial⟩ h
      · replace h := h.2 k11
        refine aw_iconst (x := 0) dX6_readByte_79 rfl ?_
        exact aw_zreturn dX6_readByte_80 rfl (Or.inl rfl) h
  · replace h := h.2 k5
    refine aw_iconst (x := 0) dX6_readByte_55 rfl ?_
    exact aw_zreturn dX6_readByte_56 rfl (Or.inl rfl) h
set_option maxRecDepth 4000 in
theorem bk_X6_readByte_100 {g : GP} {l : Launch} {d : Nat} {σ : St} {Q : Option AV → St → Prop} {x0 : Nat} {y0 : Int64} {y1 : Int64} {y2 : Option Nat}
    (h : ∃ r1, y2 = some r1 ∧ ACv g l d MX1_addEntry [vR 1 (some r1), vJ y1, vJ y0, vI 0] σ (fun σ3 => ∃ r4, gR σ3 609 x0 0 = some r4 ∧ R32 ((gI σ3 214 r4 0) + 1) ∧ Q (some (vI 1)) (sI σ3 214 r4 0 ((gI σ3 214 r4 0) + 1)))) :
    AW g l (d + 1) MX6_readByte 100 [some (vR 6 (some x0)), none] [vJ y0, vJ y1, vR 1 y2] σ Q := by
  refine aw_iconst (x := 0) dX6_readByte_100 rfl ?_
  obtain ⟨r1, e2, h⟩ := h
  refine aw_invVv (M := MX6_readByte) (ci := 1) [vJ y1, vJ y0, vI 0] e2 mo_X1_addEntry rfl lm_X6_158 li_X1_addEntry ls_X1_addEntry (by decide +kernel) dX6_readByte_101 rfl (Nat.le_of_ble_eq_true rfl) (ACv.mono (fun σ3 h => ?_) h)
  refine aw_aload_n dX6_readByte_104 rfl rfl ?_
  refine aw_getR' (ci := 2) rfl fk_609 (by decide +kernel) lf_X6_106 dX6_readByte_105 ?_
  refine aw_dup dX6_readByte_108 rfl ?_
  obtain ⟨r4, e5, h⟩ := h
  refine aw_getI' e5 fk_214 lf_X6_233 dX6_readByte_109 ?_
  refine aw_iconst (x := 1) dX6_readByte_112 rfl ?_
  obtain ⟨⟨c6, c6x⟩, h⟩ := h
  refine aw_iaddc dX6_readByte_113 c6 c6x ?_
  refine aw_putI' e5 fk_214 (Or.inl rfl) lf_X6_233 dX6_readByte_114 ?_
  refine aw_iconst (x := 1) dX6_readByte_117 rfl ?_
  exact aw_zreturn dX6_readByte_118 rfl (Or.inr rfl) h
set_option maxRecDepth 4000 in
theorem bk_X6_readCase_0 {g : GP} {l : Launch} {d : Nat} {σ : St} {Q : Option AV → St → Prop} {x0 : Nat}
    (h : (((gI σ 604 x0 0) = 3 → AW g l (d + 1) MX6_readCase 23 [some (vR 6 (some x0)), none] [vI 1, vR 6 (some x0)] σ Q) ∧ (¬ (gI σ 604 x0 0) = 3 → ((¬ (gI σ 604 x0 0) = 45 → AW g l (d + 1) MX6_readCase 23 [some (vR 6 (some x0)), none] [vI 0, vR 6 (some x0)] σ Q) ∧ ((gI σ 604 x0 0) = 45 → AW g l (d + 1) MX6_readCase 23 [some (vR 6 (some x0)), none] [vI 1, vR 6 (some x0)] σ Q))))) :
    AW g l (d + 1) MX6_readCase 0 [some (vR 6 (some x0)), none] [] σ Q := by
  refine aw_aload_n dX6_readCase_0 rfl rfl ?_
  refine aw_aload_n dX6_readCase_1 rfl rfl ?_
  refine aw_getI' rfl fk_604 lf_X6_24 dX6_readCase_2 ?_
  refine aw_iconst (x := 3) dX6_readCase_5 rfl ?_
  refine aw_icmp_eq (tgt := 18) dX6_readCase_6 (by decide) (fun k1 => ?_) (fun k1 => ?_)
  · replace h := h.1 k1
    refine aw_iconst (x := 1) dX6_readCase_18 rfl ?_
    refine aw_goto (tgt := 23) dX6_readCase_19 (by decide) ?_
    exact aw_fgt (L' := [some (vR 6 (some x0)), none]) ⟨rfl, trivial⟩ h
  · replace h := h.2 k1
    refine aw_aload_n dX6_readCase_9 rfl rfl ?_
    refine aw_getI' rfl fk_604 lf_X6_24 dX6_readCase_10 ?_
    refine aw_bipush (x := 45) dX6_readCase_13 rfl ?_
    refine aw_icmp_ne (tgt := 22) dX6_readCase_15 (by decide) (fun k2 => ?_) (fun k2 => ?_)
    · replace h := h.1 k2
      refine aw_iconst (x := 0) dX6_readCase_22 rfl ?_
      exact aw_fgt (L' := [some (vR 6 (some x0)), none]) ⟨rfl, trivial⟩ h
    · replace h := h.2 k2
      refine aw_iconst (x := 1) dX6_readCase_18 rfl ?_
      refine aw_goto (tgt := 23) dX6_readCase_19 (by decide) ?_
      exact aw_fgt (L' := [some (vR 6 (some x0)), none]) ⟨rfl, trivial⟩ h
set_option maxRecDepth 4000 in
theorem bk_X6_readCase_23 {g : GP} {l : Launch} {d : Nat} {σ : St} {Q : Option AV → St → Prop} {x0 : Nat} {y0 : Int} {y1 : Option Nat}
    (h : ∃ r1, y1 = some r1 ∧ ACi g l d MX6_check [vR 6 (some r1), vI y0, vI 2] σ (fun v4 σ3 => ((v4 = 0 → Q (some (vI 0)) σ3) ∧ (¬ v4 = 0 → ∃ r6, gR σ3 609 x0 0 = some r6 ∧ ((8 ≤ (gI σ3 214 r6 0) → AW g l (d + 1) MX6_readCase 48 [some (vR 6 (some x0)), none] [vI 0, vR 6 (some x0)] σ3 Q) ∧ (¬ 8 ≤ (gI σ3 214 r6 0) → AW g l (d + 1) MX6_readCase 48 [some (vR 6 (some x0)), none] [vI 1, vR 6 (some x0)] σ3 Q)))))) :
    AW g l (d + 1) MX6_readCase 23 [some (vR 6 (some x0)), none] [vI y0, vR 6 y1] σ Q := by
  refine aw_iconst (x := 2) dX6_readCase_23 rfl ?_
  obtain ⟨r1, e2, h⟩ := h
  refine aw_invVi (M := MX6_readCase) (ci := 6) [vI y0, vI 2] e2 mo_X6_check rfl lm_X6_28 li_X6_check ls_X6_check (by decide +kernel) dX6_readCase_24 rfl (Nat.le_of_ble_eq_true rfl) (ACi.mono (fun v4 σ3 h => ?_) h)
  refine aw_if_eq (tgt := 55) dX6_readCase_27 (by decide) (fun k5 => ?_) (fun k5 => ?_)
  · replace h := h.1 k5
    refine aw_iconst (x := 0) dX6_readCase_55 rfl ?_
    exact aw_zreturn dX6_readCase_56 rfl (Or.inl rfl) h
  · replace h := h.2 k5
    refine aw_aload_n dX6_readCase_30 rfl rfl ?_
    refine aw_aload_n dX6_readCase_31 rfl rfl ?_
    refine aw_getR' (ci := 2) rfl fk_609 (by decide +kernel) lf_X6_106 dX6_readCase_32 ?_
    obtain ⟨r6, e7, h⟩ := h
    refine aw_getI' e7 fk_214 lf_X6_233 dX6_readCase_35 ?_
    refine aw_bipush (x := 8) dX6_readCase_38 rfl ?_
    refine aw_icmp_ge (tgt := 47) dX6_readCase_40 (by decide) (fun k8 => ?_) (fun k8 => ?_)
    · replace h := h.1 k8
      refine aw_iconst (x := 0) dX6_readCase_47 rfl ?_
      exact aw_fgt (L' := [some (vR 6 (some x0)), none]) ⟨rfl, trivial⟩ h
    · replace h := h.2 k8
      refine aw_iconst (x := 1) dX6_readCase_43 rfl ?_
      refine aw_goto (tgt := 48) dX6_readCase_44 (by decide) ?_
      exact aw_fgt (L' := [some (vR 6 (some x0)), none]) ⟨rfl, trivial⟩ h
set_option maxRecDepth 4000 in
theorem bk_X6_readCase_48 {g : GP} {l : Launch} {d : Nat} {σ : St} {Q : Option AV → St → Prop} {x0 : Nat} {y0 : Int} {y1 : Option Nat}
    (h : ∃ r1, y1 = some r1 ∧ ACi g l d MX6_check [vR 6 (some r1), vI y0, vI 5] σ (fun v4 σ3 => ((¬ v4 = 0 → ACi g l d MX6_takeSigned [vR 6 (some x0)] σ3 (fun v7 σ6 => ((v7 = 0 → Q (some (vI 0)) σ6) ∧ (¬ v7 = 0 → ACi g l d MX6_take [vR 6 (some x0), vI 58] σ6 (fun v10 σ9 => ((¬ v10 = 0 → ACi g l d MX6_takeStructure [vR 6 (some x0)] σ9 (fun v13 σ12 => ((v13 = (-1) → Q (some (vI 0)) σ12) ∧ (¬ v13 = (-1) → ACi g l d MX6_take [vR 6 (some x0), vI 59] σ12 (fun v16 σ15 => ((¬ v16 = 0 → ∃ r18, gR σ15 606 x0 0 = some r18 ∧ ACv g l d MX1_addEntry [vR 1 (some r18), vJ 0, vJ (gJ σ15 610 x0 0), vI v13] σ15 (fun σ20 => ∃ r21, gR σ20 609 x0 0 = some r21 ∧ R32 ((gI σ20 214 r21 0) + 1) ∧ Q (some (vI 1)) (sI σ20 214 r21 0 ((gI σ20 214 r21 0) + 1)))) ∧ (v16 = 0 → Q (some (vI 0)) σ15))))))) ∧ (v10 = 0 → Q (some (vI 0)) σ9))))))) ∧ (v4 = 0 → Q (some (vI 0)) σ3)))) :
    AW g l (d + 1) MX6_readCase 48 [some (vR 6 (some x0)), none] [vI y0, vR 6 y1] σ Q := by
  refine aw_iconst (x := 5) dX6_readCase_48 rfl ?_
  obtain ⟨r1, e2, h⟩ := h
  refine aw_invVi (M := MX6_readCase) (ci := 6) [vI y0, vI 5] e2 mo_X6_check rfl lm_X6_28 li_X6_check ls_X6_check (by decide +kernel) dX6_readCase_49 rfl (Nat.le_of_ble_eq_true rfl) (ACi.mono (fun v4 σ3 h => ?_) h)
  refine aw_if_ne (tgt := 57) dX6_readCase_52 (by decide) (fun k5 => ?_) (fun k5 => ?_)
  · replace h := h.1 k5
    refine aw_aload_n dX6_readCase_57 rfl rfl ?_
    refine aw_invVi (M := MX6_readCase) (ci := 6) [] rfl mo_X6_takeSigned rfl lm_X6_155 li_X6_takeSigned ls_X6_takeSigned (by decide +kernel) dX6_readCase_58 rfl (Nat.le_of_ble_eq_true rfl) (ACi.mono (fun v7 σ6 h => ?_) h)
    refine aw_if_eq (tgt := 73) dX6_readCase_61 (by decide) (fun k8 => ?_) (fun k8 => ?_)
    · replace h := h.1 k8
      refine aw_iconst (x := 0) dX6_readCase_73 rfl ?_
      exact aw_zreturn dX6_readCase_74 rfl (Or.inl rfl) h
    · replace h := h.2 k8
      refine aw_aload_n dX6_readCase_64 rfl rfl ?_
      refine aw_bipush (x := 58) dX6_readCase_65 rfl ?_
      refine aw_invVi (M := MX6_readCase) (ci := 6) [vI 58] rfl mo_X6_take rfl lm_X6_116 li_X6_take ls_X6_take (by decide +kernel) dX6_readCase_67 rfl (Nat.le_of_ble_eq_true rfl) (ACi.mono (fun v10 σ9 h => ?_) h)
      refine aw_if_ne (tgt := 75) dX6_readCase_70 (by decide) (fun k11 => ?_) (fun k11 => ?_)
      · replace h := h.1 k11
        refine aw_aload_n dX6_readCase_75 rfl rfl ?_
        refine aw_invVi (M := MX6_readCase) (ci := 6) [] rfl mo_X6_takeStructure rfl lm_X6_240 li_X6_takeStructure ls_X6_takeStructure (by decide +kernel) dX6_readCase_76 rfl (Nat.le_of_ble_eq_true rfl) (ACi.mono (fun v13 σ12 h => ?_) h)
        refine aw_istore_n (L' := [some (vR 6 (some x0)), some (vI v13)]) dX6_readCase_79 rfl (by decide) rfl ?_
        refine aw_iload_n dX6_readCase_80 rfl rfl ?_
        refine aw_iconst (x := (-1)) dX6_readCase_81 rfl ?_
        refine aw_icmp_eq (tgt := 94) dX6_readCase_82 (by decide) (fun k14 => ?_) (fun k14 => ?_)
        · replace h := h.1 k14
          refine aw_iconst (x := 0) dX6_readCase_94 rfl ?_
          exact aw_zreturn dX6_readCase_95 rfl (Or.inl rfl) h
        · replace h := h.2 k14
          refine aw_aload_n dX6_readCase_85 rfl rfl ?_
          refine aw_bipush (x := 59) dX6_readCase_86 rfl ?_
          refine aw_invVi (M := MX6_readCase) (ci := 6) [vI 59] rfl mo_X6_take rfl lm_X6_116 li_X6_take ls_X6_take (by decide +kernel) dX6_readCase_88 rfl (Nat.le_of_ble_eq_true rfl) (ACi.mono (fun v16 σ15 h => ?_) h)
          refine aw_if_ne (tgt := 96) dX6_readCase_91 (by decide) (fun k17 => ?_) (fun k17 => ?_)
          · replace h := h.1 k17
            refine aw_aload_n dX6_readCase_96 rfl rfl ?_
            refine aw_getR' (ci := 1) rfl fk_606 (by decide +kernel) lf_X6_66 dX6_readCase_97 ?_
            refine aw_lconst (x := 0) dX6_readCase_100 rfl ?_
            refine aw_aload_n dX6_readCase_101 rfl rfl ?_
            refine aw_getJ' rfl fk_610 lf_X6_103 dX6_readCase_102 ?_
            refine aw_iload_n dX6_readCase_105 rfl rfl ?_
            obtain ⟨r18, e19, h⟩ := h
            refine aw_invVv (M := MX6_readCase) (ci := 1) [vJ 0, vJ (gJ σ15 610 x0 0), vI v13] e19 mo_X1_addEntry rfl lm_X6_158 li_X1_addEntry ls_X1_addEntry (by decide +kernel) dX6_readCase_106 rfl (Nat.le_of_ble_eq_true rfl) (ACv.mono (fun σ20 h => ?_) h)
            refine aw_aload_n dX6_readCase_109 rfl rfl ?_
            refine aw_getR' (ci := 2) rfl fk_609 (by decide +kernel) lf_X6_106 dX6_readCase_110 ?_
            refine aw_dup dX6_readCase_113 rfl ?_
            obtain ⟨r21, e22, h⟩ := h
            refine aw_getI' e22 fk_214 lf_X6_233 dX6_readCase_114 ?_
            refine aw_iconst (x := 1) dX6_readCase_117 rfl ?_
            obtain ⟨⟨c23, c23x⟩, h⟩ := h
            refine aw_iaddc dX6_readCase_118 c23 c23x ?_
            refine aw_putI' e22 fk_214 (Or.inl rfl) lf_X6_233 dX6_readCase_119 ?_
            refine aw_iconst (x := 1) dX6_readCase_122 rfl ?_
            exact aw_zreturn dX6_readCase_123 rfl (Or.inr rfl) h
          · replace h := h.2 k17
            refine aw_iconst (x := 0) dX6_readCase_94 rfl ?_
            exact aw_zreturn dX6_readCase_95 rfl (Or.inl rfl) h
      · replace h := h.2 k11
        refine aw_iconst (x := 0) dX6_readCase_73 rfl ?_
        exact aw_zreturn dX6_readCase_74 rfl (Or.inl rfl) h
  · replace h := h.2 k5
    refine aw_iconst (x := 0) dX6_readCase_55 rfl ?_
    exact aw_zreturn dX6_readCase_56 rfl (Or.inl rfl) h
set_option maxRecDepth 4000 in
theorem bk_X6_readDescription_0 {g : GP} {l : Launch} {d : Nat} {σ : St} {Q : Option AV → St → Prop} {x0 : Nat} {x1 : Option Nat} {x2 : Option Nat}
    (h : ∃ r1, x2 = some r1 ∧ ACv g l d MX6_start [vR 6 (some x0), vR 9 x1, vR 1 x2, vR 0 (gR σ 110 r1 0)] σ (fun σ3 => ACv g l d MX1_forget [vR 1 (some r1)] σ3 (fun σ4 => AW g l (d + 1) MX6_readDescription 16 [some (vR 6 (some x0)), none, some (vR 1 x2), some (vI 0)] [] σ4 Q))) :
    AW g l (d + 1) MX6_readDescription 0 [some (vR 6 (some x0)), some (vR 9 x1), some (vR 1 x2), none] [] σ Q := by
  refine aw_aload_n dX6_readDescription_0 rfl rfl ?_
  refine aw_aload_n dX6_readDescription_1 rfl rfl ?_
  refine aw_aload_n dX6_readDescription_2 rfl rfl ?_
  refine aw_aload_n dX6_readDescription_3 rfl rfl ?_
  obtain ⟨r1, e2, h⟩ := h
  refine aw_getR' (ci := 0) e2 fk_110 (by decide +kernel) lf_X6_9 dX6_readDescription_4 ?_
  refine aw_invVv (M := MX6_readDescription) (ci := 6) [vR 9 x1, vR 1 x2, vR 0 (gR σ 110 r1 0)] rfl mo_X6_start rfl lm_X6_15 li_X6_start ls_X6_start (by decide +kernel) dX6_readDescription_7 rfl (Nat.le_of_ble_eq_true rfl) (ACv.mono (fun σ3 h => ?_) h)
  refine aw_aload_n dX6_readDescription_10 rfl rfl ?_
  refine aw_invVv (M := MX6_readDescription) (ci := 1) [] e2 mo_X1_forget rfl lm_X6_21 li_X1_forget ls_X1_forget (by decide +kernel) dX6_readDescription_11 rfl (Nat.le_of_ble_eq_true rfl) (ACv.mono (fun σ4 h => ?_) h)
  refine aw_iconst (x := 0) dX6_readDescription_14 rfl ?_
  refine aw_istore_n (L' := [some (vR 6 (some x0)), some (vR 9 x1), some (vR 1 x2), some (vI 0)]) dX6_readDescription_15 rfl (by decide) rfl ?_
  exact aw_fgt (L' := [some (vR 6 (some x0)), none, some (vR 1 x2), some (vI 0)]) ⟨rfl, ⟨rfl, ⟨rfl, trivial⟩⟩⟩ h
set_option maxRecDepth 4000 in
theorem bk_X6_readDescription_16 {g : GP} {l : Launch} {d : Nat} {σ : St} {Q : Option AV → St → Prop} {x0 : Nat} {x2 : Option Nat} {x3 : Int}
    (h : ((3000 < x3 → AW g l (d + 1) MX6_readDescription 104 [some (vR 6 (some x0)), none, some (vR 1 x2), none] [] σ Q) ∧ (¬ 3000 < x3 → ((x3 = 0 → AW g l (d + 1) MX6_readDescription 34 [some (vR 6 (some x0)), none, some (vR 1 x2), some (vI x3)] [] σ Q) ∧ (¬ x3 = 0 → (((gI σ 604 x0 0) = 0 → AW g l (d + 1) MX6_readDescription 104 [some (vR 6 (some x0)), none, some (vR 1 x2), none] [] σ Q) ∧ (¬ (gI σ 604 x0 0) = 0 → AW g l (d + 1) MX6_readDescription 34 [some (vR 6 (some x0)), none, some (vR 1 x2), some (vI x3)] [] σ Q))))))) :
    AW g l (d + 1) MX6_readDescription 16 [some (vR 6 (some x0)), none, some (vR 1 x2), some (vI x3)] [] σ Q := by
  refine aw_iload_n dX6_readDescription_16 rfl rfl ?_
  refine aw_sipush (x := 3000) dX6_readDescription_17 rfl ?_
  refine aw_icmp_gt (tgt := 104) dX6_readDescription_20 (by decide) (fun k1 => ?_) (fun k1 => ?_)
  · replace h := h.1 k1
    exact aw_fgt (L' := [some (vR 6 (some x0)), none, some (vR 1 x2), none]) ⟨rfl, ⟨rfl, trivial⟩⟩ h
  · replace h := h.2 k1
    refine aw_iload_n dX6_readDescription_23 rfl rfl ?_
    refine aw_if_eq (tgt := 34) dX6_readDescription_24 (by decide) (fun k2 => ?_) (fun k2 => ?_)
    · replace h := h.1 k2
      exact aw_fgt (L' := [some (vR 6 (some x0)), none, some (vR 1 x2), some (vI x3)]) ⟨rfl, ⟨rfl, ⟨rfl, trivial⟩⟩⟩ h
    · replace h := h.2 k2
      refine aw_aload_n dX6_readDescription_27 rfl rfl ?_
      refine aw_getI' rfl fk_604 lf_X6_24 dX6_readDescription_28 ?_
      refine aw_if_eq (tgt := 104) dX6_readDescription_31 (by decide) (fun k3 => ?_) (fun k3 => ?_)
      · replace h := h.1 k3
        exact aw_fgt (L' := [some (vR 6 (some x0)), none, some (vR 1 x2), none]) ⟨rfl, ⟨rfl, trivial⟩⟩ h
      · replace h := h.2 k3
        exact aw_fgt (L' := [some (vR 6 (some x0)), none, some (vR 1 x2), some (vI x3)]) ⟨rfl, ⟨rfl, ⟨rfl, trivial⟩⟩⟩ h
set_option maxRecDepth 4000 in
theorem bk_X6_readDescription_34 {g : GP} {l : Launch} {d : Nat} {σ : St} {Q : Option AV → St → Prop} {x0 : Nat} {x2 : Option Nat} {x3 : Int}
    (h : (((gI σ 604 x0 0) = 200 → AW g l (d + 1) MX6_readDescription 60 [some (vR 6 (some x0)), none, some (vR 1 x2), some (vI x3)] [vI 1, vR 6 (some x0)] σ Q) ∧ (¬ (gI σ 604 x0 0) = 200 → ((¬ (gI σ 604 x0 0) = 201 → AW g l (d + 1) MX6_readDescription 60 [some (vR 6 (some x0)), none, some (vR 1 x2), some (vI x3)] [vI 0, vR 6 (some x0)] σ Q) ∧ ((gI σ 604 x0 0) = 201 → AW g l (d + 1) MX6_readDescription 60 [some (vR 6 (some x0)), none, some (vR 1 x2), some (vI x3)] [vI 1, vR 6 (some x0)] σ Q))))) :
    AW g l (d + 1) MX6_readDescription 34 [some (vR 6 (some x0)), none, some (vR 1 x2), some (vI x3)] [] σ Q := by
  refine aw_aload_n dX6_readDescription_34 rfl rfl ?_
  refine aw_aload_n dX6_readDescription_35 rfl rfl ?_
  refine aw_getI' rfl fk_604 lf_X6_24 dX6_readDescription_36 ?_
  refine aw_sipush (x := 200) dX6_readDescription_39 rfl ?_
  refine aw_icmp_eq (tgt := 55) dX6_readDescription_42 (by decide) (fun k1 => ?_) (fun k1 => ?_)
  · replace h := h.1 k1
    refine aw_iconst (x := 1) dX6_readDescription_55 rfl ?_
    refine aw_goto (tgt := 60) dX6_readDescription_56 (by decide) ?_
    exact aw_fgt (L' := [some (vR 6 (some x0)), none, some (vR 1 x2), some (vI x3)]) ⟨rfl, ⟨rfl, ⟨rfl, trivial⟩⟩⟩ h
  · replace h := h.2 k1
    refine aw_aload_n dX6_readDescription_45 rfl rfl ?_
    refine aw_getI' rfl fk_604 lf_X6_24 dX6_readDescription_46 ?_
    refine aw_sipush (x := 201) dX6_readDescription_49 rfl ?_
    refine aw_icmp_ne (tgt := 59) dX6_readDescription_52 (by decide) (fun k2 => ?_) (fun k2 => ?_)
    · replace h := h.1 k2
      refine aw_iconst (x := 0) dX6_readDescription_59 rfl ?_
      exact aw_fgt (L' := [some (vR 6 (some x0)), none, some (vR 1 x2), some (vI x3)]) ⟨rfl, ⟨rfl, ⟨rfl, trivial⟩⟩⟩ h
    · replace h := h.2 k2
      refine aw_iconst (x := 1) dX6_readDescription_55 rfl ?_
      refine aw_goto (tgt := 60) dX6_readDescription_56 (by decide) ?_
      exact aw_fgt (L' := [some (vR 6 (some x0)), none, some (vR 1 x2), some (vI x3)]) ⟨rfl, ⟨rfl, ⟨rfl, trivial⟩⟩⟩ h
set_option maxRecDepth 4000 in
theorem bk_X6_readDescription_60 {g : GP} {l : Launch} {d : Nat} {σ : St} {Q : Option AV → St → Prop} {x0 : Nat} {x2 : Option Nat} {x3 : Int} {y0 : Int} {y1 : Option Nat}
    (h : ∃ r1, y1 = some r1 ∧ ACi g l d MX6_check [vR 6 (some r1), vI y0, vI 2] σ (fun v4 σ3 => ((¬ v4 = 0 → ((¬ (gI σ3 604 x0 0) = 200 → ACi g l d MX6_readStructure [vR 6 (some x0)] σ3 (fun v8 σ7 => ((¬ v8 = 0 → R32 (x3 + 1) ∧ AW g l (d + 1) MX6_readDescription 16 [some (vR 6 (some x0)), none, some (vR 1 x2), some (vI (x3 + 1))] [] σ7 Q) ∧ (v8 = 0 → Q (some (vI 0)) σ7)))) ∧ ((gI σ3 604 x0 0) = 200 → ACi g l d MX6_readEnum [vR 6 (some x0)] σ3 (fun v12 σ11 => ((¬ v12 = 0 → R32 (x3 + 1) ∧ AW g l (d + 1) MX6_readDescription 16 [some (vR 6 (some x0)), none, some (vR 1 x2), some (vI (x3 + 1))] [] σ11 Q) ∧ (v12 = 0 → Q (some (vI 0)) σ11)))))) ∧ (v4 = 0 → Q (some (vI 0)) σ3)))) :
    AW g l (d + 1) MX6_readDescription 60 [some (vR 6 (some x0)), none, some (vR 1 x2), some (vI x3)] [vI y0, vR 6 y1] σ Q := by
  refine aw_iconst (x := 2) dX6_readDescription_60 rfl ?_
  obtain ⟨r1, e2, h⟩ := h
  refine aw_invVi (M := MX6_readDescription) (ci := 6) [vI y0, vI 2] e2 mo_X6_check rfl lm_X6_28 li_X6_check ls_X6_check (by decide +kernel) dX6_readDescription_61 rfl (Nat.le_of_ble_eq_true rfl) (ACi.mono (fun v4 σ3 h => ?_) h)
  refine aw_if_ne (tgt := 69) dX6_readDescription_64 (by decide) (fun k5 => ?_) (fun k5 => ?_)
  · replace h := h.1 k5
    refine aw_aload_n dX6_readDescription_69 rfl rfl ?_
    refine aw_getI' rfl fk_604 lf_X6_24 dX6_readDescription_70 ?_
    refine aw_sipush (x := 200) dX6_readDescription_73 rfl ?_
    refine aw_icmp_ne (tgt := 89) dX6_readDescription_76 (by decide) (fun k6 => ?_) (fun k6 => ?_)
    · replace h := h.1 k6
      refine aw_aload_n dX6_readDescription_89 rfl rfl ?_
      refine aw_invVi (M := MX6_readDescription) (ci := 6) [] rfl mo_X6_readStructure rfl lm_X6_36 li_X6_readStructure ls_X6_readStructure (by decide +kernel) dX6_readDescription_90 rfl (Nat.le_of_ble_eq_true rfl) (ACi.mono (fun v8 σ7 h => ?_) h)
      refine aw_if_ne (tgt := 98) dX6_readDescription_93 (by decide) (fun k9 => ?_) (fun k9 => ?_)
      · replace h := h.1 k9
        obtain ⟨⟨c10, c10x⟩, h⟩ := h
        refine aw_iincc (L' := [some (vR 6 (some x0)), none, some (vR 1 x2), some (vI (x3 + 1))]) dX6_readDescription_98 rfl (by decide) rfl c10 c10x rfl ?_
        refine aw_goto (tgt := 16) dX6_readDescription_101 (by decide) ?_
        exact aw_fgt (L' := [some (vR 6 (some x0)), none, some (vR 1 x2), some (vI (x3 + 1))]) ⟨rfl, ⟨rfl, ⟨rfl, trivial⟩⟩⟩ h
      · replace h := h.2 k9
        refine aw_iconst (x := 0) dX6_readDescription_96 rfl ?_
        exact aw_zreturn dX6_readDescription_97 rfl (Or.inl rfl) h
    · replace h := h.2 k6
      refine aw_aload_n dX6_readDescription_79 rfl rfl ?_
      refine aw_invVi (M := MX6_readDescription) (ci := 6) [] rfl mo_X6_readEnum rfl lm_X6_32 li_X6_readEnum ls_X6_readEnum (by decide +kernel) dX6_readDescription_80 rfl (Nat.le_of_ble_eq_true rfl) (ACi.mono (fun v12 σ11 h => ?_) h)
      refine aw_if_ne (tgt := 98) dX6_readDescription_83 (by decide) (fun k13 => ?_) (fun k13 => ?_)
      · replace h := h.1 k13
        obtain ⟨⟨c14, c14x⟩, h⟩ := h
        refine aw_iincc (L' := [some (vR 6 (some x0)), none, some (vR 1 x2), some (vI (x3 + 1))]) dX6_readDescription_98 rfl (by decide) rfl c14 c14x rfl ?_
        refine aw_goto (tgt := 16) dX6_readDescription_101 (by decide) ?_
        exact aw_fgt (L' := [some (vR 6 (some x0)), none, some (vR 1 x2), some (vI (x3 + 1))]) ⟨rfl, ⟨rfl, ⟨rfl, trivial⟩⟩⟩ h
      · replace h := h.2 k13
        refine aw_goto (tgt := 96) dX6_readDescription_86 (by decide) ?_
        refine aw_iconst (x := 0) dX6_readDescription_96 rfl ?_
        exact aw_zreturn dX6_readDescription_97 rfl (Or.inl rfl) h
  · replace h := h.2 k5
    refine aw_iconst (x := 0) dX6_readDescription_67 rfl ?_
    exact aw_zreturn dX6_readDescription_68 rfl (Or.inl rfl) h
set_option maxRecDepth 4000 in
theorem bk_X6_readDescription_104 {g : GP} {l : Launch} {d : Nat} {σ : St} {Q : Option AV → St → Prop} {x0 : Nat} {x2 : Option Nat}
    (h : ACi g l d MX6_findAims [vR 6 (some x0)] σ (fun v2 σ1 => ((¬ v2 = 0 → ∃ r4, x2 = some r4 ∧ ACv g l d MX1_gatherUses [vR 1 (some r4)] σ1 (fun σ6 => Q (some (vI 1)) σ6)) ∧ (v2 = 0 → Q (some (vI 0)) σ1)))) :
    AW g l (d + 1) MX6_readDescription 104 [some (vR 6 (some x0)), none, some (vR 1 x2), none] [] σ Q := by
  refine aw_aload_n dX6_readDescription_104 rfl rfl ?_
  refine aw_invVi (M := MX6_readDescription) (ci := 6) [] rfl mo_X6_findAims rfl lm_X6_39 li_X6_findAims ls_X6_findAims (by decide +kernel) dX6_readDescription_105 rfl (Nat.le_of_ble_eq_true rfl) (ACi.mono (fun v2 σ1 h => ?_) h)
  refine aw_if_ne (tgt := 113) dX6_readDescription_108 (by decide) (fun k3 => ?_) (fun k3 => ?_)
  · replace h := h.1 k3
    refine aw_aload_n dX6_readDescription_113 rfl rfl ?_
    obtain ⟨r4, e5, h⟩ := h
    refine aw_invVv (M := MX6_readDescription) (ci := 1) [] e5 mo_X1_gatherUses rfl lm_X6_42 li_X1_gatherUses ls_X1_gatherUses (by decide +kernel) dX6_readDescription_114 rfl (Nat.le_of_ble_eq_true rfl) (ACv.mono (fun σ6 h => ?_) h)
    refine aw_iconst (x := 1) dX6_readDescription_117 rfl ?_
    exact aw_zreturn dX6_readDescription_118 rfl (Or.inr rfl) h
  · replace h := h.2 k3
    refine aw_iconst (x := 0) dX6_readDescription_111 rfl ?_
    exact aw_zreturn dX6_readDescription_112 rfl (Or.inl rfl) h
set_option maxRecDepth 4000 in
theorem bk_X6_readEnum_0 {g : GP} {l : Launch} {d : Nat} {σ : St} {Q : Option AV → St → Prop} {x0 : Nat}
    (h : ∃ r1, gR σ 606 x0 0 = some r1 ∧ ((8 ≤ (gI σ 105 r1 0) → AW g l (d + 1) MX6_readEnum 20 [some (vR 6 (some x0)), some (vI (gI σ 105 r1 0)), none, none] [vI 0, vR 6 (some x0)] σ Q) ∧ (¬ 8 ≤ (gI σ 105 r1 0) → AW g l (d + 1) MX6_readEnum 20 [some (vR 6 (some x0)), some (vI (gI σ 105 r1 0)), none, none] [vI 1, vR 6 (some x0)] σ Q))) :
    AW g l (d + 1) MX6_readEnum 0 [some (vR 6 (some x0)), none, none, none] [] σ Q := by
  refine aw_aload_n dX6_readEnum_0 rfl rfl ?_
  refine aw_getR' (ci := 1) rfl fk_606 (by decide +kernel) lf_X6_66 dX6_readEnum_1 ?_
  obtain ⟨r1, e2, h⟩ := h
  refine aw_getI' e2 fk_105 lf_X6_127 dX6_readEnum_4 ?_
  refine aw_istore_n (L' := [some (vR 6 (some x0)), some (vI (gI σ 105 r1 0)), none, none]) dX6_readEnum_7 rfl (by decide) rfl ?_
  refine aw_aload_n dX6_readEnum_8 rfl rfl ?_
  refine aw_iload_n dX6_readEnum_9 rfl rfl ?_
  refine aw_bipush (x := 8) dX6_readEnum_10 rfl ?_
  refine aw_icmp_ge (tgt := 19) dX6_readEnum_12 (by decide) (fun k3 => ?_) (fun k3 => ?_)
  · replace h := h.1 k3
    refine aw_iconst (x := 0) dX6_readEnum_19 rfl ?_
    exact aw_fgt (L' := [some (vR 6 (some x0)), some (vI (gI σ 105 r1 0)), none, none]) ⟨rfl, ⟨rfl, trivial⟩⟩ h
  · replace h := h.2 k3
    refine aw_iconst (x := 1) dX6_readEnum_15 rfl ?_
    refine aw_goto (tgt := 20) dX6_readEnum_16 (by decide) ?_
    exact aw_fgt (L' := [some (vR 6 (some x0)), some (vI (gI σ 105 r1 0)), none, none]) ⟨rfl, ⟨rfl, trivial⟩⟩ h
set_option maxRecDepth 4000 in
theorem bk_X6_readEnum_20 {g : GP} {l : Launch} {d : Nat} {σ : St} {Q : Option AV → St → Prop} {x0 : Nat} {x1 : Int} {y0 : Int} {y1 : Option Nat}
    (h : ∃ r1, y1 = some r1 ∧ ACi g l d MX6_check [vR 6 (some r1), vI y0, vI 5] σ (fun v4 σ3 => ((¬ v4 = 0 → ACv g l d MX6_pass [vR 6 (some x0)] σ3 (fun σ6 => ACi g l d MX6_isNewItem [vR 6 (some x0)] σ6 (fun v8 σ7 => ((¬ v8 = 0 → ∃ r10, gR σ7 606 x0 0 = some r10 ∧ LC 1 σ7 r10 ∧ Bd x1 8 ∧ ACv g l d MX6_pass [vR 6 (some x0)] (sI (sI (sJ σ7 102 r10 x1.toNat (gJ σ7 605 x0 0)) 103 r10 x1.toNat (gI σ7 109 r10 0)) 104 r10 x1.toNat 0) (fun σ14 => ACi g l d MX6_take [vR 6 (some x0), vI 123] σ14 (fun v16 σ15 => ((¬ v16 = 0 → AW g l (d + 1) MX6_readEnum 100 [some (vR 6 (some x0)), some (vI x1), some (vI 1), some (vI 0)] [] σ15 Q) ∧ (v16 = 0 → Q (some (vI 0)) σ15))))) ∧ (v8 = 0 → Q (some (vI 0)) σ7))))) ∧ (v4 = 0 → Q (some (vI 0)) σ3)))) :
    AW g l (d + 1) MX6_readEnum 20 [some (vR 6 (some x0)), some (vI x1), none, none] [vI y0, vR 6 y1] σ Q := by
  refine aw_iconst (x := 5) dX6_readEnum_20 rfl ?_
  obtain ⟨r1, e2, h⟩ := h
  refine aw_invVi (M := MX6_readEnum) (ci := 6) [vI y0, vI 5] e2 mo_X6_check rfl lm_X6_28 li_X6_check ls_X6_check (by decide +kernel) dX6_readEnum_21 rfl (Nat.le_of_ble_eq_true rfl) (ACi.mono (fun v4 σ3 h => ?_) h)
  refine aw_if_ne (tgt := 29) dX6_readEnum_24 (by decide) (fun k5 => ?_) (fun k5 => ?_)
  · replace h := h.1 k5
    refine aw_aload_n dX6_readEnum_29 rfl rfl ?_
    refine aw_invVv (M := MX6_readEnum) (ci := 6) [] rfl mo_X6_pass rfl lm_X6_100 li_X6_pass ls_X6_pass (by decide +kernel) dX6_readEnum_30 rfl (Nat.le_of_ble_eq_true rfl) (ACv.mono (fun σ6 h => ?_) h)
    refine aw_aload_n dX6_readEnum_33 rfl rfl ?_
    refine aw_invVi (M := MX6_readEnum) (ci := 6) [] rfl mo_X6_isNewItem rfl lm_X6_130 li_X6_isNewItem ls_X6_isNewItem (by decide +kernel) dX6_readEnum_34 rfl (Nat.le_of_ble_eq_true rfl) (ACi.mono (fun v8 σ7 h => ?_) h)
    refine aw_if_ne (tgt := 42) dX6_readEnum_37 (by decide) (fun k9 => ?_) (fun k9 => ?_)
    · replace h := h.1 k9
      refine aw_aload_n dX6_readEnum_42 rfl rfl ?_
      refine aw_getR' (ci := 1) rfl fk_606 (by decide +kernel) lf_X6_66 dX6_readEnum_43 ?_
      obtain ⟨r10, e11, h⟩ := h
      obtain ⟨lc12, h⟩ := h
      refine aw_getA' e11 fk_102 (by decide) lf_X6_133 dX6_readEnum_46 (LC.ne lc12 rfl rfl) ?_
      refine aw_iload_n dX6_readEnum_49 rfl rfl ?_
      refine aw_aload_n dX6_readEnum_50 rfl rfl ?_
      refine aw_getJ' rfl fk_605 lf_X6_90 dX6_readEnum_51 ?_
      obtain ⟨⟨c13, c13x⟩, h⟩ := h
      refine aw_lastore (by decide) rfl dX6_readEnum_54 c13 (LC.lt lc12 rfl rfl c13x) ?_
      refine aw_aload_n dX6_readEnum_55 rfl rfl ?_
      refine aw_getRe (ci := 1) (v := gR σ7 606 x0 0) rfl fk_606 (by decide +kernel) lf_X6_66 dX6_readEnum_56 rfl ?_
      refine aw_getA' e11 fk_103 (by decide) lf_X6_136 dX6_readEnum_59 (LC.ne lc12 rfl rfl) ?_
      refine aw_iload_n dX6_readEnum_62 rfl rfl ?_
      refine aw_aload_n dX6_readEnum_63 rfl rfl ?_
      refine aw_getRe (ci := 1) (v := gR σ7 606 x0 0) rfl fk_606 (by decide +kernel) lf_X6_66 dX6_readEnum_64 rfl ?_
      refine aw_getIe (v := gI σ7 109 r10 0) e11 fk_109 lf_X6_139 dX6_readEnum_67 rfl ?_
      refine aw_iastore (by decide) rfl dX6_readEnum_70 c13 (LC.lt lc12 rfl rfl c13x) ?_
      refine aw_aload_n dX6_readEnum_71 rfl rfl ?_
      refine aw_getRe (ci := 1) (v := gR σ7 606 x0 0) rfl fk_606 (by decide +kernel) lf_X6_66 dX6_readEnum_72 rfl ?_
      refine aw_getA' e11 fk_104 (by decide) lf_X6_142 dX6_readEnum_75 (LC.ne lc12 rfl rfl) ?_
      refine aw_iload_n dX6_readEnum_78 rfl rfl ?_
      refine aw_iconst (x := 0) dX6_readEnum_79 rfl ?_
      refine aw_iastore (by decide) rfl dX6_readEnum_80 c13 (LC.lt lc12 rfl rfl c13x) ?_
      refine aw_aload_n dX6_readEnum_81 rfl rfl ?_
      refine aw_invVv (M := MX6_readEnum) (ci := 6) [] rfl mo_X6_pass rfl lm_X6_100 li_X6_pass ls_X6_pass (by decide +kernel) dX6_readEnum_82 rfl (Nat.le_of_ble_eq_true rfl) (ACv.mono (fun σ14 h => ?_) h)
      refine aw_aload_n dX6_readEnum_85 rfl rfl ?_
      refine aw_bipush (x := 123) dX6_readEnum_86 rfl ?_
      refine aw_invVi (M := MX6_readEnum) (ci := 6) [vI 123] rfl mo_X6_take rfl lm_X6_116 li_X6_take ls_X6_take (by decide +kernel) dX6_readEnum_88 rfl (Nat.le_of_ble_eq_true rfl) (ACi.mono (fun v16 σ15 h => ?_) h)
      refine aw_if_ne (tgt := 96) dX6_readEnum_91 (by decide) (fun k17 => ?_) (fun k17 => ?_)
      · replace h := h.1 k17
        refine aw_iconst (x := 1) dX6_readEnum_96 rfl ?_
        refine aw_istore_n (L' := [some (vR 6 (some x0)), some (vI x1), some (vI 1), none]) dX6_readEnum_97 rfl (by decide) rfl ?_
        refine aw_iconst (x := 0) dX6_readEnum_98 rfl ?_
        refine aw_istore_n (L' := [some (vR 6 (some x0)), some (vI x1), some (vI 1), some (vI 0)]) dX6_readEnum_99 rfl (by decide) rfl ?_
        exact aw_fgt (L' := [some (vR 6 (some x0)), some (vI x1), some (vI 1), some (vI 0)]) ⟨rfl, ⟨rfl, ⟨rfl, ⟨rfl, trivial⟩⟩⟩⟩ h
      · replace h := h.2 k17
        refine aw_iconst (x := 0) dX6_readEnum_94 rfl ?_
        exact aw_zreturn dX6_readEnum_95 rfl (Or.inl rfl) h
    · replace h := h.2 k9
      refine aw_iconst (x := 0) dX6_readEnum_40 rfl ?_
      exact aw_zreturn dX6_readEnum_41 rfl (Or.inl rfl) h
  · replace h := h.2 k5
    refine aw_iconst (x := 0) dX6_readEnum_27 rfl ?_
    exact aw_zreturn dX6_readEnum_28 rfl (Or.inl rfl) h
set_option maxRecDepth 4000 in
theorem bk_X6_readEnum_100 {g : GP} {l : Launch} {d : Nat} {σ : St} {Q : Option AV → St → Prop} {x0 : Nat} {x1 : Int} {x2 : Int} {x3 : Int}
    (h : ((10 < x3 → AW g l (d + 1) MX6_readEnum 133 [some (vR 6 (some x0)), none, none, none] [] σ Q) ∧ (¬ 10 < x3 → ((x2 = 0 → AW g l (d + 1) MX6_readEnum 133 [some (vR 6 (some x0)), none, none, none] [] σ Q) ∧ (¬ x2 = 0 → ACi g l d MX6_readPair [vR 6 (some x0), vI x1] σ (fun v4 σ3 => ((¬ v4 = 0 → ACi g l d MX6_takeIf [vR 6 (some x0), vI 44] σ3 (fun v7 σ6 => R32 (x3 + 1) ∧ AW g l (d + 1) MX6_readEnum 100 [some (vR 6 (some x0)), some (vI x1), some (vI v7), some (vI (x3 + 1))] [] σ6 Q)) ∧ (v4 = 0 → Q (some (vI 0)) σ3)))))))) :
    AW g l (d + 1) MX6_readEnum 100 [some (vR 6 (some x0)), some (vI x1), some (vI x2), some (vI x3)] [] σ Q := by
  refine aw_iload_n dX6_readEnum_100 rfl rfl ?_
  refine aw_bipush (x := 10) dX6_readEnum_101 rfl ?_
  refine aw_icmp_gt (tgt := 133) dX6_readEnum_103 (by decide) (fun k1 => ?_) (fun k1 => ?_)
  · replace h := h.1 k1
    exact aw_fgt (L' := [some (vR 6 (some x0)), none, none, none]) ⟨rfl, trivial⟩ h
  · replace h := h.2 k1
    refine aw_iload_n dX6_readEnum_106 rfl rfl ?_
    refine aw_if_eq (tgt := 133) dX6_readEnum_107 (by decide) (fun k2 => ?_) (fun k2 => ?_)
    · replace h := h.1 k2
      exact aw_fgt (L' := [some (vR 6 (some x0)), none, none, none]) ⟨rfl, trivial⟩ h
    · replace h := h.2 k2
      refine aw_aload_n dX6_readEnum_110 rfl rfl ?_
      refine aw_iload_n dX6_readEnum_111 rfl rfl ?_
      refine aw_invVi (M := MX6_readEnum) (ci := 6) [vI x1] rfl mo_X6_readPair rfl lm_X6_145 li_X6_readPair ls_X6_readPair (by decide +kernel) dX6_readEnum_112 rfl (Nat.le_of_ble_eq_true rfl) (ACi.mono (fun v4 σ3 h => ?_) h)
      refine aw_if_ne (tgt := 120) dX6_readEnum_115 (by decide) (fun k5 => ?_) (fun k5 => ?_)
      · replace h := h.1 k5
        refine aw_aload_n dX6_readEnum_120 rfl rfl ?_
        refine aw_bipush (x := 44) dX6_readEnum_121 rfl ?_
        refine aw_invVi (M := MX6_readEnum) (ci := 6) [vI 44] rfl mo_X6_takeIf rfl lm_X6_148 li_X6_takeIf ls_X6_takeIf (by decide +kernel) dX6_readEnum_123 rfl (Nat.le_of_ble_eq_true rfl) (ACi.mono (fun v7 σ6 h => ?_) h)
        refine aw_istore_n (L' := [some (vR 6 (some x0)), some (vI x1), some (vI v7), some (vI x3)]) dX6_readEnum_126 rfl (by decide) rfl ?_
        obtain ⟨⟨c8, c8x⟩, h⟩ := h
        refine aw_iincc (L' := [some (vR 6 (some x0)), some (vI x1), some (vI v7), some (vI (x3 + 1))]) dX6_readEnum_127 rfl (by decide) rfl c8 c8x rfl ?_
        refine aw_goto (tgt := 100) dX6_readEnum_130 (by decide) ?_
        exact aw_fgt (L' := [some (vR 6 (some x0)), some (vI x1), some (vI v7), some (vI (x3 + 1))]) ⟨rfl, ⟨rfl, ⟨rfl, ⟨rfl, trivial⟩⟩⟩⟩ h
      · replace h := h.2 k5
        refine aw_iconst (x := 0) dX6_readEnum_118 rfl ?_
        exact aw_zreturn dX6_readEnum_119 rfl (Or.inl rfl) h
set_option maxRecDepth 4000 in
theorem bk_X6_readEnum_133 {g : GP} {l : Launch} {d : Nat} {σ : St} {Q : Option AV → St → Prop} {x0 : Nat}
    (h : ∃ r1, gR σ 606 x0 0 = some r1 ∧ R32 ((gI σ 105 r1 0) + 1) ∧ ACi g l d MX6_take [vR 6 (some x0), vI 125] (sI σ 105 r1 0 ((gI σ 105 r1 0) + 1)) (fun v5 σ4 => ((v5 = 0 ∨ v5 = 1) ∧ Q (some (vI v5)) σ4))) :
    AW g l (d + 1) MX6_readEnum 133 [some (vR 6 (some x0)), none, none, none] [] σ Q := by
  refine aw_aload_n dX6_readEnum_133 rfl rfl ?_
  refine aw_getR' (ci := 1) rfl fk_606 (by decide +kernel) lf_X6_66 dX6_readEnum_134 ?_
  refine aw_dup dX6_readEnum_137 rfl ?_
  obtain ⟨r1, e2, h⟩ := h
  refine aw_getI' e2 fk_105 lf_X6_127 dX6_readEnum_138 ?_
  refine aw_iconst (x := 1) dX6_readEnum_141 rfl ?_
  obtain ⟨⟨c3, c3x⟩, h⟩ := h
  refine aw_iaddc dX6_readEnum_142 c3 c3x ?_
  refine aw_putI' e2 fk_105 (Or.inl rfl) lf_X6_127 dX6_readEnum_143 ?_
  refine aw_aload_n dX6_readEnum_146 rfl rfl ?_
  refine aw_bipush (x := 125) dX6_readEnum_147 rfl ?_
  refine aw_invVi (M := MX6_readEnum) (ci := 6) [vI 125] rfl mo_X6_take rfl lm_X6_116 li_X6_take ls_X6_take (by decide +kernel) dX6_readEnum_149 rfl (Nat.le_of_ble_eq_true rfl) (ACi.mono (fun v5 σ4 h => ?_) h)
  exact aw_zreturn dX6_readEnum_152 rfl h.1 h.2
set_option maxRecDepth 4000 in
theorem bk_X6_readExpression_0 {g : GP} {l : Launch} {d : Nat} {σ : St} {Q : Option AV → St → Prop} {x0 : Nat}
    (h : ∃ r1, gR σ 607 x0 0 = some r1 ∧ ACi g l d MX6_readLevel [vR 6 (some x0), vI 0, vI 0] σ (fun v4 σ3 => ((¬ v4 = 0 → ∃ r6, gR σ3 607 x0 0 = some r6 ∧ ACv g l d MX0_add [vR 0 (some r6), vI 0, vJ 0] σ3 (fun σ8 => Q (some (vI (gI σ 2 r1 0))) σ8)) ∧ (v4 = 0 → Q (some (vI (-1))) σ3)))) :
    AW g l (d + 1) MX6_readExpression 0 [some (vR 6 (some x0)), none] [] σ Q := by
  refine aw_aload_n dX6_readExpression_0 rfl rfl ?_
  refine aw_getR' (ci := 0) rfl fk_607 (by decide +kernel) lf_X6_70 dX6_readExpression_1 ?_
  obtain ⟨r1, e2, h⟩ := h
  refine aw_getI' e2 fk_2 lf_X6_45 dX6_readExpression_4 ?_
  refine aw_istore_n (L' := [some (vR 6 (some x0)), some (vI (gI σ 2 r1 0))]) dX6_readExpression_7 rfl (by decide) rfl ?_
  refine aw_aload_n dX6_readExpression_8 rfl rfl ?_
  refine aw_iconst (x := 0) dX6_readExpression_9 rfl ?_
  refine aw_iconst (x := 0) dX6_readExpression_10 rfl ?_
  refine aw_invVi (M := MX6_readExpression) (ci := 6) [vI 0, vI 0] rfl mo_X6_readLevel rfl lm_X6_305 li_X6_readLevel ls_X6_readLevel (by decide +kernel) dX6_readExpression_11 rfl (Nat.le_of_ble_eq_true rfl) (ACi.mono (fun v4 σ3 h => ?_) h)
  refine aw_if_ne (tgt := 19) dX6_readExpression_14 (by decide) (fun k5 => ?_) (fun k5 => ?_)
  · replace h := h.1 k5
    refine aw_aload_n dX6_readExpression_19 rfl rfl ?_
    refine aw_getR' (ci := 0) rfl fk_607 (by decide +kernel) lf_X6_70 dX6_readExpression_20 ?_
    refine aw_iconst (x := 0) dX6_readExpression_23 rfl ?_
    refine aw_lconst (x := 0) dX6_readExpression_24 rfl ?_
    obtain ⟨r6, e7, h⟩ := h
    refine aw_invVv (M := MX6_readExpression) (ci := 0) [vI 0, vJ 0] e7 mo_X0_add rfl lm_X6_309 li_X0_add ls_X0_add (by decide +kernel) dX6_readExpression_25 rfl (Nat.le_of_ble_eq_true rfl) (ACv.mono (fun σ8 h => ?_) h)
    refine aw_iload_n dX6_readExpression_28 rfl rfl ?_
    exact aw_ireturn dX6_readExpression_29 rfl h
  · replace h := h.2 k5
    refine aw_iconst (x := (-1)) dX6_readExpression_17 rfl ?_
    exact aw_ireturn dX6_readExpression_18 rfl h
set_option maxRecDepth 4000 in
theorem bk_X6_readFactor_0 {g : GP} {l : Launch} {d : Nat} {σ : St} {Q : Option AV → St → Prop} {x0 : Nat} {x1 : Int}
    (h : (((gI σ 604 x0 0) = 40 → ((¬ (gI σ 604 x0 0) = 2 → AW g l (d + 1) MX6_readFactor 40 [some (vR 6 (some x0)), some (vI x1), some (vI (gI σ 604 x0 0)), some (vI 1), none, none, none, none, none] [vI 0] σ Q) ∧ ((gI σ 604 x0 0) = 2 → AW g l (d + 1) MX6_readFactor 40 [some (vR 6 (some x0)), some (vI x1), some (vI (gI σ 604 x0 0)), some (vI 1), none, none, none, none, none] [vI 1] σ Q))) ∧ (¬ (gI σ 604 x0 0) = 40 → (((gI σ 604 x0 0) = 45 → ((¬ (gI σ 604 x0 0) = 2 → AW g l (d + 1) MX6_readFactor 40 [some (vR 6 (some x0)), some (vI x1), some (vI (gI σ 604 x0 0)), some (vI 1), none, none, none, none, none] [vI 0] σ Q) ∧ ((gI σ 604 x0 0) = 2 → AW g l (d + 1) MX6_readFactor 40 [some (vR 6 (some x0)), some (vI x1), some (vI (gI σ 604 x0 0)), some (vI 1), none, none, none, none, none] [vI 1] σ Q))) ∧ (¬ (gI σ 604 x0 0) = 45 → ((¬ (gI σ 604 x0 0) = 226 → ((¬ (gI σ 604 x0 0) = 2 → AW g l (d + 1) MX6_readFactor 40 [some (vR 6 (some x0)), some (vI x1), some (vI (gI σ 604 x0 0)), some (vI 0), none, none, none, none, none] [vI 0] σ Q) ∧ ((gI σ 604 x0 0) = 2 → AW g l (d + 1) MX6_readFactor 40 [some (vR 6 (some x0)), some (vI x1), some (vI (gI σ 604 x0 0)), some (vI 0), none, none, none, none, none] [vI 1] σ Q))) ∧ ((gI σ 604 x0 0) = 226 → ((¬ (gI σ 604 x0 0) = 2 → AW g l (d + 1) MX6_readFactor 40 [some (vR 6 (some x0)), some (vI x1), some (vI (gI σ 604 x0 0)), some (vI 1), none, none, none, none, none] [vI 0] σ Q) ∧ ((gI σ 604 x0 0) = 2 → AW g l (d + 1) MX6_readFactor 40 [some (vR 6 (some x0)), some (vI x1), some (vI (gI σ 604 x0 0)), some (vI 1), none, none, none, none, none] [vI 1] σ Q))))))))) :
    AW g l (d + 1) MX6_readFactor 0 [some (vR 6 (some x0)), some (vI x1), none, none, none, none, none, none, none] [] σ Q := by
  refine aw_aload_n dX6_readFactor_0 rfl rfl ?_
  refine aw_getI' rfl fk_604 lf_X6_24 dX6_readFactor_1 ?_
  refine aw_istore_n (L' := [some (vR 6 (some x0)), some (vI x1), some (vI (gI σ 604 x0 0)), none, none, none, none, none, none]) dX6_readFactor_4 rfl (by decide) rfl ?_
  refine aw_iload_n dX6_readFactor_5 rfl rfl ?_
  refine aw_bipush (x := 40) dX6_readFactor_6 rfl ?_
  refine aw_icmp_eq (tgt := 24) dX6_readFactor_8 (by decide) (fun k1 => ?_) (fun k1 => ?_)
  · replace h := h.1 k1
    refine aw_iconst (x := 1) dX6_readFactor_24 rfl ?_
    refine aw_goto (tgt := 29) dX6_readFactor_25 (by decide) ?_
    refine aw_istore_n (L' := [some (vR 6 (some x0)), some (vI x1), some (vI (gI σ 604 x0 0)), some (vI 1), none, none, none, none, none]) dX6_readFactor_29 rfl (by decide) rfl ?_
    refine aw_iload_n dX6_readFactor_30 rfl rfl ?_
    refine aw_iconst (x := 2) dX6_readFactor_31 rfl ?_
    refine aw_icmp_ne (tgt := 39) dX6_readFactor_32 (by decide) (fun k2 => ?_) (fun k2 => ?_)
    · replace h := h.1 k2
      refine aw_iconst (x := 0) dX6_readFactor_39 rfl ?_
      exact aw_fgt (L' := [some (vR 6 (some x0)), some (vI x1), some (vI (gI σ 604 x0 0)), some (vI 1), none, none, none, none, none]) ⟨rfl, ⟨rfl, ⟨rfl, ⟨rfl, trivial⟩⟩⟩⟩ h
    · replace h := h.2 k2
      refine aw_iconst (x := 1) dX6_readFactor_35 rfl ?_
      refine aw_goto (tgt := 40) dX6_readFactor_36 (by decide) ?_
      exact aw_fgt (L' := [some (vR 6 (some x0)), some (vI x1), some (vI (gI σ 604 x0 0)), some (vI 1), none, none, none, none, none]) ⟨rfl, ⟨rfl, ⟨rfl, ⟨rfl, trivial⟩⟩⟩⟩ h
  · replace h := h.2 k1
    refine aw_iload_n dX6_readFactor_11 rfl rfl ?_
    refine aw_bipush (x := 45) dX6_readFactor_12 rfl ?_
    refine aw_icmp_eq (tgt := 24) dX6_readFactor_14 (by decide) (fun k3 => ?_) (fun k3 => ?_)
    · replace h := h.1 k3
      refine aw_iconst (x := 1) dX6_readFactor_24 rfl ?_
      refine aw_goto (tgt := 29) dX6_readFactor_25 (by decide) ?_
      refine aw_istore_n (L' := [some (vR 6 (some x0)), some (vI x1), some (vI (gI σ 604 x0 0)), some (vI 1), none, none, none, none, none]) dX6_readFactor_29 rfl (by decide) rfl ?_
      refine aw_iload_n dX6_readFactor_30 rfl rfl ?_
      refine aw_iconst (x := 2) dX6_readFactor_31 rfl ?_
      refine aw_icmp_ne (tgt := 39) dX6_readFactor_32 (by decide) (fun k4 => ?_) (fun k4 => ?_)
      · replace h := h.1 k4
        refine aw_iconst (x := 0) dX6_readFactor_39 rfl ?_
        exact aw_fgt (L' := [some (vR 6 (some x0)), some (vI x1), some (vI (gI σ 604 x0 0)), some (vI 1), none, none, none, none, none]) ⟨rfl, ⟨rfl, ⟨rfl, ⟨rfl, trivial⟩⟩⟩⟩ h
      · replace h := h.2 k4
        refine aw_iconst (x := 1) dX6_readFactor_35 rfl ?_
        refine aw_goto (tgt := 40) dX6_readFactor_36 (by decide) ?_
        exact aw_fgt (L' := [some (vR 6 (some x0)), some (vI x1), some (vI (gI σ 604 x0 0)), some (vI 1), none, none, none, none, none]) ⟨rfl, ⟨rfl, ⟨rfl, ⟨rfl, trivial⟩⟩⟩⟩ h
    · replace h := h.2 k3
      refine aw_iload_n dX6_readFactor_17 rfl rfl ?_
      refine aw_sipush (x := 226) dX6_readFactor_18 rfl ?_
      refine aw_icmp_ne (tgt := 28) dX6_readFactor_21 (by decide) (fun k5 => ?_) (fun k5 => ?_)
      · replace h := h.1 k5
        refine aw_iconst (x := 0) dX6_readFactor_28 rfl ?_
        refine aw_istore_n (L' := [some (vR 6 (some x0)), some (vI x1), some (vI (gI σ 604 x0 0)), some (vI 0), none, none, none, none, none]) dX6_readFactor_29 rfl (by decide) rfl ?_
        refine aw_iload_n dX6_readFactor_30 rfl rfl ?_
        refine aw_iconst (x := 2) dX6_readFactor_31 rfl ?_
        refine aw_icmp_ne (tgt := 39) dX6_readFactor_32 (by decide) (fun k6 => ?_) (fun k6 => ?_)
        · replace h := h.1 k6
          refine aw_iconst (x := 0) dX6_readFactor_39 rfl ?_
          exact aw_fgt (L' := [some (vR 6 (some x0)), some (vI x1), some (vI (gI σ 604 x0 0)), some (vI 0), none, none, none, none, none]) ⟨rfl, ⟨rfl, ⟨rfl, ⟨rfl, trivial⟩⟩⟩⟩ h
        · replace h := h.2 k6
          refine aw_iconst (x := 1) dX6_readFactor_35 rfl ?_
          refine aw_goto (tgt := 40) dX6_readFactor_36 (by decide) ?_
          exact aw_fgt (L' := [some (vR 6 (some x0)), some (vI x1), some (vI (gI σ 604 x0 0)), some (vI 0), none, none, none, none, none]) ⟨rfl, ⟨rfl, ⟨rfl, ⟨rfl, trivial⟩⟩⟩⟩ h
      · replace h := h.2 k5
        refine aw_iconst (x := 1) dX6_readFactor_24 rfl ?_
        refine aw_goto (tgt := 29) dX6_readFactor_25 (by decide) ?_
        refine aw_istore_n (L' := [some (vR 6 (some x0)), some (vI x1), some (vI (gI σ 604 x0 0)), some (vI 1), none, none, none, none, none]) dX6_readFactor_29 rfl (by decide) rfl ?_
        refine aw_iload_n dX6_readFactor_30 rfl rfl ?_
        refine aw_iconst (x := 2) dX6_readFactor_31 rfl ?_
        refine aw_icmp_ne (tgt := 39) dX6_readFactor_32 (by decide) (fun k7 => ?_) (fun k7 => ?_)
        · replace h := h.1 k7
          refine aw_iconst (x := 0) dX6_readFactor_39 rfl ?_
          exact aw_fgt (L' := [some (vR 6 (some x0)), some (vI x1), some (vI (gI σ 604 x0 0)), some (vI 1), none, none, none, none, none]) ⟨rfl, ⟨rfl, ⟨rfl, ⟨rfl, trivial⟩⟩⟩⟩ h
        · replace h := h.2 k7
          refine aw_iconst (x := 1) dX6_readFactor_35 rfl ?_
          refine aw_goto (tgt := 40) dX6_readFactor_36 (by decide) ?_
          exact aw_fgt (L' := [some (vR 6 (some x0)), some (vI x1), some (vI (gI σ 604 x0 0)), some (vI 1), none, none, none, none, none]) ⟨rfl, ⟨rfl, ⟨rfl, ⟨rfl, trivial⟩⟩⟩⟩ h
set_option maxRecDepth 4000 in
theorem bk_X6_readFactor_40 {g : GP} {l : Launch} {d : Nat} {σ : St} {Q : Option AV → St → Prop} {x0 : Nat} {x1 : Int} {x2 : Int} {x3 : Int} {y0 : Int}
    (h : ((x2 = 3 → AW g l (d + 1) MX6_readFactor 73 [some (vR 6 (some x0)), some (vI x1), some (vI x2), some (vI x3), some (vI y0), none, none, none, none] [vI 1] σ Q) ∧ (¬ x2 = 3 → ((x2 = 212 → AW g l (d + 1) MX6_readFactor 73 [some (vR 6 (some x0)), some (vI x1), some (vI x2), some (vI x3), some (vI y0), none, none, none, none] [vI 1] σ Q) ∧ (¬ x2 = 212 → ((x2 = 222 → AW g l (d + 1) MX6_readFactor 73 [some (vR 6 (some x0)), some (vI x1), some (vI x2), some (vI x3), some (vI y0), none, none, none, none] [vI 1] σ Q) ∧ (¬ x2 = 222 → ((¬ x2 = 223 → AW g l (d + 1) MX6_readFactor 73 [some (vR 6 (some x0)), some (vI x1), some (vI x2), some (vI x3), some (vI y0), none, none, none, none] [vI 0] σ Q) ∧ (x2 = 223 → AW g l (d + 1) MX6_readFactor 73 [some (vR 6 (some x0)), some (vI x1), some (vI x2), some (vI x3), some (vI y0), none, none, none, none] [vI 1] σ Q))))))))) :
    AW g l (d + 1) MX6_readFactor 40 [some (vR 6 (some x0)), some (vI x1), some (vI x2), some (vI x3), none, none, none, none, none] [vI y0] σ Q := by
  refine aw_istore (L' := [some (vR 6 (some x0)), some (vI x1), some (vI x2), some (vI x3), some (vI y0), none, none, none, none]) dX6_readFactor_40 (by decide) rfl ?_
  refine aw_iload_n dX6_readFactor_42 rfl rfl ?_
  refine aw_iconst (x := 3) dX6_readFactor_43 rfl ?_
  refine aw_icmp_eq (tgt := 68) dX6_readFactor_44 (by decide) (fun k1 => ?_) (fun k1 => ?_)
  · replace h := h.1 k1
    refine aw_iconst (x := 1) dX6_readFactor_68 rfl ?_
    refine aw_goto (tgt := 73) dX6_readFactor_69 (by decide) ?_
    exact aw_fgt (L' := [some (vR 6 (some x0)), some (vI x1), some (vI x2), some (vI x3), some (vI y0), none, none, none, none]) ⟨rfl, ⟨rfl, ⟨rfl, ⟨rfl, ⟨rfl, trivial⟩⟩⟩⟩⟩ h
  · replace h := h.2 k1
    refine aw_iload_n dX6_readFactor_47 rfl rfl ?_
    refine aw_sipush (x := 212) dX6_readFactor_48 rfl ?_
    refine aw_icmp_eq (tgt := 68) dX6_readFactor_51 (by decide) (fun k2 => ?_) (fun k2 => ?_)
    · replace h := h.1 k2
      refine aw_iconst (x := 1) dX6_readFactor_68 rfl ?_
      refine aw_goto (tgt := 73) dX6_readFactor_69 (by decide) ?_
      exact aw_fgt (L' := [some (vR 6 (some x0)), some (vI x1), some (vI x2), some (vI x3), some (vI y0), none, none, none, none]) ⟨rfl, ⟨rfl, ⟨rfl, ⟨rfl, ⟨rfl, trivial⟩⟩⟩⟩⟩ h
    · replace h := h.2 k2
      refine aw_iload_n dX6_readFactor_54 rfl rfl ?_
      refine aw_sipush (x := 222) dX6_readFactor_55 rfl ?_
      refine aw_icmp_eq (tgt := 68) dX6_readFactor_58 (by decide) (fun k3 => ?_) (fun k3 => ?_)
      · replace h := h.1 k3
        refine aw_iconst (x := 1) dX6_readFactor_68 rfl ?_
        refine aw_goto (tgt := 73) dX6_readFactor_69 (by decide) ?_
        exact aw_fgt (L' := [some (vR 6 (some x0)), some (vI x1), some (vI x2), some (vI x3), some (vI y0), none, none, none, none]) ⟨rfl, ⟨rfl, ⟨rfl, ⟨rfl, ⟨rfl, trivial⟩⟩⟩⟩⟩ h
      · replace h := h.2 k3
        refine aw_iload_n dX6_readFactor_61 rfl rfl ?_
        refine aw_sipush (x := 223) dX6_readFactor_62 rfl ?_
        refine aw_icmp_ne (tgt := 72) dX6_readFactor_65 (by decide) (fun k4 => ?_) (fun k4 => ?_)
        · replace h := h.1 k4
          refine aw_iconst (x := 0) dX6_readFactor_72 rfl ?_
          exact aw_fgt (L' := [some (vR 6 (some x0)), some (vI x1), some (vI x2), some (vI x3), some (vI y0), none, none, none, none]) ⟨rfl, ⟨rfl, ⟨rfl, ⟨rfl, ⟨rfl, trivial⟩⟩⟩⟩⟩ h
        · replace h := h.2 k4
          refine aw_iconst (x := 1) dX6_readFactor_68 rfl ?_
          refine aw_goto (tgt := 73) dX6_readFactor_69 (by decide) ?_
          exact aw_fgt (L' := [some (vR 6 (some x0)), some (vI x1), some (vI x2), some (vI x3), some (vI y0), none, none, none, none]) ⟨rfl, ⟨rfl, ⟨rfl, ⟨rfl, ⟨rfl, trivial⟩⟩⟩⟩⟩ h
set_option maxRecDepth 4000 in
theorem bk_X6_readFactor_73 {g : GP} {l : Launch} {d : Nat} {σ : St} {Q : Option AV → St → Prop} {x0 : Nat} {x1 : Int} {x2 : Int} {x3 : Int} {x4 : Int} {y0 : Int}
    (h : ((x4 = 0 → AW g l (d + 1) MX6_readFactor 96 [some (vR 6 (some x0)), some (vI x1), some (vI x2), some (vI x3), some (vI x4), some (vI y0), none, none, none] [vJ (gJ σ 605 x0 0)] σ Q) ∧ (¬ x4 = 0 → ACi g l d MX6_operandNamed [vR 6 (some x0), vJ (gJ σ 605 x0 0)] σ (fun v3 σ2 => AW g l (d + 1) MX6_readFactor 96 [some (vR 6 (some x0)), some (vI x1), some (vI x2), some (vI x3), some (vI x4), some (vI y0), none, none, none] [vJ (i2j v3)] σ2 Q)))) :
    AW g l (d + 1) MX6_readFactor 73 [some (vR 6 (some x0)), some (vI x1), some (vI x2), some (vI x3), some (vI x4), none, none, none, none] [vI y0] σ Q := by
  refine aw_istore (L' := [some (vR 6 (some x0)), some (vI x1), some (vI x2), some (vI x3), some (vI x4), some (vI y0), none, none, none]) dX6_readFactor_73 (by decide) rfl ?_
  refine aw_iload dX6_readFactor_75 rfl ?_
  refine aw_if_eq (tgt := 92) dX6_readFactor_77 (by decide) (fun k1 => ?_) (fun k1 => ?_)
  · replace h := h.1 k1
    refine aw_aload_n dX6_readFactor_92 rfl rfl ?_
    refine aw_getJ' rfl fk_605 lf_X6_90 dX6_readFactor_93 ?_
    exact aw_fgt (L' := [some (vR 6 (some x0)), some (vI x1), some (vI x2), some (vI x3), some (vI x4), some (vI y0), none, none, none]) ⟨rfl, ⟨rfl, ⟨rfl, ⟨rfl, ⟨rfl, ⟨rfl, trivial⟩⟩⟩⟩⟩⟩ h
  · replace h := h.2 k1
    refine aw_aload_n dX6_readFactor_80 rfl rfl ?_
    refine aw_aload_n dX6_readFactor_81 rfl rfl ?_
    refine aw_getJ' rfl fk_605 lf_X6_90 dX6_readFactor_82 ?_
    refine aw_invVi (M := MX6_readFactor) (ci := 6) [vJ (gJ σ 605 x0 0)] rfl mo_X6_operandNamed rfl lm_X6_319 li_X6_operandNamed ls_X6_operandNamed (by decide +kernel) dX6_readFactor_85 rfl (Nat.le_of_ble_eq_true rfl) (ACi.mono (fun v3 σ2 h => ?_) h)
    refine aw_i2l dX6_readFactor_88 ?_
    refine aw_goto (tgt := 96) dX6_readFactor_89 (by decide) ?_
    exact aw_fgt (L' := [some (vR 6 (some x0)), some (vI x1), some (vI x2), some (vI x3), some (vI x4), some (vI y0), none, none, none]) ⟨rfl, ⟨rfl, ⟨rfl, ⟨rfl, ⟨rfl, ⟨rfl, trivial⟩⟩⟩⟩⟩⟩ h
set_option maxRecDepth 4000 in
theorem bk_X6_readFactor_96 {g : GP} {l : Launch} {d : Nat} {σ : St} {Q : Option AV → St → Prop} {x0 : Nat} {x1 : Int} {x2 : Int} {x3 : Int} {x4 : Int} {x5 : Int} {y0 : Int64}
    (h : ((¬ x3 = 0 → AW g l (d + 1) MX6_readFactor 118 [some (vR 6 (some x0)), some (vI x1), some (vI x2), some (vI x3), some (vI x4), none, some (vJ y0), none, none] [vI 1, vR 6 (some x0)] σ Q) ∧ (x3 = 0 → ((¬ x4 = 0 → AW g l (d + 1) MX6_readFactor 118 [some (vR 6 (some x0)), some (vI x1), some (vI x2), some (vI x3), some (vI x4), none, some (vJ y0), none, none] [vI 1, vR 6 (some x0)] σ Q) ∧ (x4 = 0 → ((x5 = 0 → AW g l (d + 1) MX6_readFactor 118 [some (vR 6 (some x0)), some (vI x1), some (vI x2), some (vI x3), some (vI x4), none, some (vJ y0), none, none] [vI 0, vR 6 (some x0)] σ Q) ∧ (¬ x5 = 0 → AW g l (d + 1) MX6_readFactor 118 [some (vR 6 (some x0)), some (vI x1), some (vI x2), some (vI x3), some (vI x4), none, some (vJ y0), none, none] [vI 1, vR 6 (some x0)] σ Q))))))) :
    AW g l (d + 1) MX6_readFactor 96 [some (vR 6 (some x0)), some (vI x1), some (vI x2), some (vI x3), some (vI x4), some (vI x5), none, none, none] [vJ y0] σ Q := by
  refine aw_lstore (L' := [some (vR 6 (some x0)), some (vI x1), some (vI x2), some (vI x3), some (vI x4), some (vI x5), some (vJ y0), none, none]) dX6_readFactor_96 (by decide) rfl ?_
  refine aw_aload_n dX6_readFactor_98 rfl rfl ?_
  refine aw_iload_n dX6_readFactor_99 rfl rfl ?_
  refine aw_if_ne (tgt := 113) dX6_readFactor_100 (by decide) (fun k1 => ?_) (fun k1 => ?_)
  · replace h := h.1 k1
    refine aw_iconst (x := 1) dX6_readFactor_113 rfl ?_
    refine aw_goto (tgt := 118) dX6_readFactor_114 (by decide) ?_
    exact aw_fgt (L' := [some (vR 6 (some x0)), some (vI x1), some (vI x2), some (vI x3), some (vI x4), none, some (vJ y0), none, none]) ⟨rfl, ⟨rfl, ⟨rfl, ⟨rfl, ⟨rfl, ⟨rfl, trivial⟩⟩⟩⟩⟩⟩ h
  · replace h := h.2 k1
    refine aw_iload dX6_readFactor_103 rfl ?_
    refine aw_if_ne (tgt := 113) dX6_readFactor_105 (by decide) (fun k2 => ?_) (fun k2 => ?_)
    · replace h := h.1 k2
      refine aw_iconst (x := 1) dX6_readFactor_113 rfl ?_
      refine aw_goto (tgt := 118) dX6_readFactor_114 (by decide) ?_
      exact aw_fgt (L' := [some (vR 6 (some x0)), some (vI x1), some (vI x2), some (vI x3), some (vI x4), none, some (vJ y0), none, none]) ⟨rfl, ⟨rfl, ⟨rfl, ⟨rfl, ⟨rfl, ⟨rfl, trivial⟩⟩⟩⟩⟩⟩ h
    · replace h := h.2 k2
      refine aw_iload dX6_readFactor_108 rfl ?_
      refine aw_if_eq (tgt := 117) dX6_readFactor_110 (by decide) (fun k3 => ?_) (fun k3 => ?_)
      · replace h := h.1 k3
        refine aw_iconst (x := 0) dX6_readFactor_117 rfl ?_
        exact aw_fgt (L' := [some (vR 6 (some x0)), some (vI x1), some (vI x2), some (vI x3), some (vI x4), none, some (vJ y0), none, none]) ⟨rfl, ⟨rfl, ⟨rfl, ⟨rfl, ⟨rfl, ⟨rfl, trivial⟩⟩⟩⟩⟩⟩ h
      · replace h := h.2 k3
        refine aw_iconst (x := 1) dX6_readFactor_113 rfl ?_
        refine aw_goto (tgt := 118) dX6_readFactor_114 (by decide) ?_
        exact aw_fgt (L' := [some (vR 6 (some x0)), some (vI x1), some (vI x2), some (vI x3), some (vI x4), none, some (vJ y0), none, none]) ⟨rfl, ⟨rfl, ⟨rfl, ⟨rfl, ⟨rfl, ⟨rfl, trivial⟩⟩⟩⟩⟩⟩ h
set_option maxRecDepth 4000 in
theorem bk_X6_readFactor_118 {g : GP} {l : Launch} {d : Nat} {σ : St} {Q : Option AV → St → Prop} {x0 : Nat} {x1 : Int} {x2 : Int} {x3 : Int} {x4 : Int} {x6 : Int64} {y0 : Int} {y1 : Option Nat}
    (h : ∃ r1, y1 = some r1 ∧ ACi g l d MX6_check [vR 6 (some r1), vI y0, vI 2] σ (fun v4 σ3 => ((v4 = 0 → Q (some (vI 0)) σ3) ∧ (¬ v4 = 0 → ((x4 = 0 → AW g l (d + 1) MX6_readFactor 145 [some (vR 6 (some x0)), some (vI x1), some (vI x2), some (vI x3), none, none, some (vJ x6), none, none] [vI 1, vR 6 (some x0)] σ3 Q) ∧ (¬ x4 = 0 → ((x6 = ((-1) : Int64) → AW g l (d + 1) MX6_readFactor 145 [some (vR 6 (some x0)), some (vI x1), some (vI x2), some (vI x3), none, none, some (vJ x6), none, none] [vI 0, vR 6 (some x0)] σ3 Q) ∧ (¬ x6 = ((-1) : Int64) → AW g l (d + 1) MX6_readFactor 145 [some (vR 6 (some x0)), some (vI x1), some (vI x2), some (vI x3), none, none, some (vJ x6), none, none] [vI 1, vR 6 (some x0)] σ3 Q)))))))) :
    AW g l (d + 1) MX6_readFactor 118 [some (vR 6 (some x0)), some (vI x1), some (vI x2), some (vI x3), some (vI x4), none, some (vJ x6), none, none] [vI y0, vR 6 y1] σ Q := by
  refine aw_iconst (x := 2) dX6_readFactor_118 rfl ?_
  obtain ⟨r1, e2, h⟩ := h
  refine aw_invVi (M := MX6_readFactor) (ci := 6) [vI y0, vI 2] e2 mo_X6_check rfl lm_X6_28 li_X6_check ls_X6_check (by decide +kernel) dX6_readFactor_119 rfl (Nat.le_of_ble_eq_true rfl) (ACi.mono (fun v4 σ3 h => ?_) h)
  refine aw_if_eq (tgt := 175) dX6_readFactor_122 (by decide) (fun k5 => ?_) (fun k5 => ?_)
  · replace h := h.1 k5
    refine aw_iconst (x := 0) dX6_readFactor_175 rfl ?_
    exact aw_zreturn dX6_readFactor_176 rfl (Or.inl rfl) h
  · replace h := h.2 k5
    refine aw_aload_n dX6_readFactor_125 rfl rfl ?_
    refine aw_iload dX6_readFactor_126 rfl ?_
    refine aw_if_eq (tgt := 140) dX6_readFactor_128 (by decide) (fun k6 => ?_) (fun k6 => ?_)
    · replace h := h.1 k6
      refine aw_iconst (x := 1) dX6_readFactor_140 rfl ?_
      refine aw_goto (tgt := 145) dX6_readFactor_141 (by decide) ?_
      exact aw_fgt (L' := [some (vR 6 (some x0)), some (vI x1), some (vI x2), some (vI x3), none, none, some (vJ x6), none, none]) ⟨rfl, ⟨rfl, ⟨rfl, ⟨rfl, ⟨rfl, trivial⟩⟩⟩⟩⟩ h
    · replace h := h.2 k6
      refine aw_lload dX6_readFactor_131 rfl ?_
      refine aw_ldc2 lk_X6_296 dX6_readFactor_133 ?_
      refine aw_lcmp_eq (M := MX6_readFactor) (tgt := 144) dX6_readFactor_136 dX6_readFactor_137 (by decide) (fun k7 => ?_) (fun k7 => ?_)
      · replace h := h.1 k7
        refine aw_iconst (x := 0) dX6_readFactor_144 rfl ?_
        exact aw_fgt (L' := [some (vR 6 (some x0)), some (vI x1), some (vI x2), some (vI x3), none, none, some (vJ x6), none, none]) ⟨rfl, ⟨rfl, ⟨rfl, ⟨rfl, ⟨rfl, trivial⟩⟩⟩⟩⟩ h
      · replace h := h.2 k7
        refine aw_iconst (x := 1) dX6_readFactor_140 rfl ?_
        refine aw_goto (tgt := 145) dX6_readFactor_141 (by decide) ?_
        exact aw_fgt (L' := [some (vR 6 (some x0)), some (vI x1), some (vI x2), some (vI x3), none, none, some (vJ x6), none, none]) ⟨rfl, ⟨rfl, ⟨rfl, ⟨rfl, ⟨rfl, trivial⟩⟩⟩⟩⟩ h
set_option maxRecDepth 4000 in
theorem bk_X6_readFactor_145 {g : GP} {l : Launch} {d : Nat} {σ : St} {Q : Option AV → St → Prop} {x0 : Nat} {x1 : Int} {x2 : Int} {x3 : Int} {x6 : Int64} {y0 : Int} {y1 : Option Nat}
    (h : ∃ r1, y1 = some r1 ∧ ACi g l d MX6_check [vR 6 (some r1), vI y0, vI 4] σ (fun v4 σ3 => ((v4 = 0 → Q (some (vI 0)) σ3) ∧ (¬ v4 = 0 → ((x3 = 0 → AW g l (d + 1) MX6_readFactor 168 [some (vR 6 (some x0)), some (vI x1), some (vI x2), some (vI x3), none, none, some (vJ x6), none, none] [vI 1, vR 6 (some x0)] σ3 Q) ∧ (¬ x3 = 0 → ((15 ≤ x1 → AW g l (d + 1) MX6_readFactor 168 [some (vR 6 (some x0)), some (vI x1), some (vI x2), some (vI x3), none, none, some (vJ x6), none, none] [vI 0, vR 6 (some x0)] σ3 Q) ∧ (¬ 15 ≤ x1 → AW g l (d + 1) MX6_readFactor 168 [some (vR 6 (some x0)), some (vI x1), some (vI x2), some (vI x3), none, none, some (vJ x6), none, none] [vI 1, vR 6 (some x0)] σ3 Q)))))))) :
    AW g l (d + 1) MX6_readFactor 145 [some (vR 6 (some x0)), some (vI x1), some (vI x2), some (vI x3), none, none, some (vJ x6), none, none] [vI y0, vR 6 y1] σ Q := by
  refine aw_iconst (x := 4) dX6_readFactor_145 rfl ?_
  obtain ⟨r1, e2, h⟩ := h
  refine aw_invVi (M := MX6_readFactor) (ci := 6) [vI y0, vI 4] e2 mo_X6_check rfl lm_X6_28 li_X6_check ls_X6_check (by decide +kernel) dX6_readFactor_146 rfl (Nat.le_of_ble_eq_true rfl) (ACi.mono (fun v4 σ3 h => ?_) h)
  refine aw_if_eq (tgt := 175) dX6_readFactor_149 (by decide) (fun k5 => ?_) (fun k5 => ?_)
  · replace h := h.1 k5
    refine aw_iconst (x := 0) dX6_readFactor_175 rfl ?_
    exact aw_zreturn dX6_readFactor_176 rfl (Or.inl rfl) h
  · replace h := h.2 k5
    refine aw_aload_n dX6_readFactor_152 rfl rfl ?_
    refine aw_iload_n dX6_readFactor_153 rfl rfl ?_
    refine aw_if_eq (tgt := 163) dX6_readFactor_154 (by decide) (fun k6 => ?_) (fun k6 => ?_)
    · replace h := h.1 k6
      refine aw_iconst (x := 1) dX6_readFactor_163 rfl ?_
      refine aw_goto (tgt := 168) dX6_readFactor_164 (by decide) ?_
      exact aw_fgt (L' := [some (vR 6 (some x0)), some (vI x1), some (vI x2), some (vI x3), none, none, some (vJ x6), none, none]) ⟨rfl, ⟨rfl, ⟨rfl, ⟨rfl, ⟨rfl, trivial⟩⟩⟩⟩⟩ h
    · replace h := h.2 k6
      refine aw_iload_n dX6_readFactor_157 rfl rfl ?_
      refine aw_bipush (x := 15) dX6_readFactor_158 rfl ?_
      refine aw_icmp_ge (tgt := 167) dX6_readFactor_160 (by decide) (fun k7 => ?_) (fun k7 => ?_)
      · replace h := h.1 k7
        refine aw_iconst (x := 0) dX6_readFactor_167 rfl ?_
        exact aw_fgt (L' := [some (vR 6 (some x0)), some (vI x1), some (vI x2), some (vI x3), none, none, some (vJ x6), none, none]) ⟨rfl, ⟨rfl, ⟨rfl, ⟨rfl, ⟨rfl, trivial⟩⟩⟩⟩⟩ h
      · replace h := h.2 k7
        refine aw_iconst (x := 1) dX6_readFactor_163 rfl ?_
        refine aw_goto (tgt := 168) dX6_readFactor_164 (by decide) ?_
        exact aw_fgt (L' := [some (vR 6 (some x0)), some (vI x1), some (vI x2), some (vI x3), none, none, some (vJ x6), none, none]) ⟨rfl, ⟨rfl, ⟨rfl, ⟨rfl, ⟨rfl, trivial⟩⟩⟩⟩⟩ h
set_option maxRecDepth 4000 in
theorem bk_X6_readFactor_168 {g : GP} {l : Launch} {d : Nat} {σ : St} {Q : Option AV → St → Prop} {x0 : Nat} {x1 : Int} {x2 : Int} {x3 : Int} {x6 : Int64} {y0 : Int} {y1 : Option Nat}
    (h : ∃ r1, y1 = some r1 ∧ ACi g l d MX6_check [vR 6 (some r1), vI y0, vI 5] σ (fun v4 σ3 => ((¬ v4 = 0 → ACv g l d MX6_pass [vR 6 (some x0)] σ3 (fun σ6 => ((¬ x3 = 0 → ((x2 = 40 → R32 (x1 + 1) ∧ ACi g l d MX6_readLevel [vR 6 (some x0), vI 0, vI (x1 + 1)] σ6 (fun v11 σ10 => ((v11 = 0 → Q (some (vI 0)) σ10) ∧ (¬ v11 = 0 → ((¬ (gI σ10 604 x0 0) = 41 → AW g l (d + 1) MX6_readFactor 260 [some (vR 6 (some x0)), none, none, none, none, none, none, none, none] [vI 0, vR 6 (some x0)] σ10 Q) ∧ ((gI σ10 604 x0 0) = 41 → AW g l (d + 1) MX6_readFactor 260 [some (vR 6 (some x0)), none, none, none, none, none, none, none, none] [vI 1, vR 6 (some x0)] σ10 Q)))))) ∧ (¬ x2 = 40 → R32 (x1 + 1) ∧ ACi g l d MX6_readFactor [vR 6 (some x0), vI (x1 + 1)] σ6 (fun v16 σ15 => ((¬ x2 = 45 → ∃ r18, gR σ15 607 x0 0 = some r18 ∧ ACv g l d MX0_add [vR 0 (some r18), vI x2, vJ 0] σ15 (fun σ20 => ((v16 = 0 ∨ v16 = 1) ∧ Q (some (vI v16)) σ20))) ∧ (x2 = 45 → ∃ r21, gR σ15 607 x0 0 = some r21 ∧ ACv g l d MX0_add [vR 0 (some r21), vI 5, vJ 0] σ15 (fun σ23 => ((v16 = 0 ∨ v16 = 1) ∧ Q (some (vI v16)) σ23)))))))) ∧ (x3 = 0 → ∃ r24, gR σ6 607 x0 0 = some r24 ∧ ACv g l d MX0_add [vR 0 (some r24), vI x2, vJ x6] σ6 (fun σ26 => Q (some (vI 1)) σ26))))) ∧ (v4 = 0 → Q (some (vI 0)) σ3)))) :
    AW g l (d + 1) MX6_readFactor 168 [some (vR 6 (some x0)), some (vI x1), some (vI x2), some (vI x3), none, none, some (vJ x6), none, none] [vI y0, vR 6 y1] σ Q := by
  refine aw_iconst (x := 5) dX6_readFactor_168 rfl ?_
  obtain ⟨r1, e2, h⟩ := h
  refine aw_invVi (M := MX6_readFactor) (ci := 6) [vI y0, vI 5] e2 mo_X6_check rfl lm_X6_28 li_X6_check ls_X6_check (by decide +kernel) dX6_readFactor_169 rfl (Nat.le_of_ble_eq_true rfl) (ACi.mono (fun v4 σ3 h => ?_) h)
  refine aw_if_ne (tgt := 177) dX6_readFactor_172 (by decide) (fun k5 => ?_) (fun k5 => ?_)
  · replace h := h.1 k5
    refine aw_aload_n dX6_readFactor_177 rfl rfl ?_
    refine aw_invVv (M := MX6_readFactor) (ci := 6) [] rfl mo_X6_pass rfl lm_X6_100 li_X6_pass ls_X6_pass (by decide +kernel) dX6_readFactor_178 rfl (Nat.le_of_ble_eq_true rfl) (ACv.mono (fun σ6 h => ?_) h)
    refine aw_iload_n dX6_readFactor_181 rfl rfl ?_
    refine aw_if_ne (tgt := 197) dX6_readFactor_182 (by decide) (fun k7 => ?_) (fun k7 => ?_)
    · replace h := h.1 k7
      refine aw_iload_n dX6_readFactor_197 rfl rfl ?_
      refine aw_bipush (x := 40) dX6_readFactor_198 rfl ?_
      refine aw_icmp_eq (tgt := 234) dX6_readFactor_200 (by decide) (fun k8 => ?_) (fun k8 => ?_)
      · replace h := h.1 k8
        refine aw_aload_n dX6_readFactor_234 rfl rfl ?_
        refine aw_iconst (x := 0) dX6_readFactor_235 rfl ?_
        refine aw_iload_n dX6_readFactor_236 rfl rfl ?_
        refine aw_iconst (x := 1) dX6_readFactor_237 rfl ?_
        obtain ⟨⟨c9, c9x⟩, h⟩ := h
        refine aw_iaddc dX6_readFactor_238 c9 c9x ?_
        refine aw_invVi (M := MX6_readFactor) (ci := 6) [vI 0, vI (x1 + 1)] rfl mo_X6_readLevel rfl lm_X6_305 li_X6_readLevel ls_X6_readLevel (by decide +kernel) dX6_readFactor_239 rfl (Nat.le_of_ble_eq_true rfl) (ACi.mono (fun v11 σ10 h => ?_) h)
        refine aw_if_eq (tgt := 267) dX6_readFactor_242 (by decide) (fun k12 => ?_) (fun k12 => ?_)
        · replace h := h.1 k12
          refine aw_iconst (x := 0) dX6_readFactor_267 rfl ?_
          exact aw_zreturn dX6_readFactor_268 rfl (Or.inl rfl) h
        · replace h := h.2 k12
          refine aw_aload_n dX6_readFactor_245 rfl rfl ?_
          refine aw_aload_n dX6_readFactor_246 rfl rfl ?_
          refine aw_getI' rfl fk_604 lf_X6_24 dX6_readFactor_247 ?_
          refine aw_bipush (x := 41) dX6_readFactor_250 rfl ?_
          refine aw_icmp_ne (tgt := 259) dX6_readFactor_252 (by decide) (fun k13 => ?_) (fun k13 => ?_)
          · replace h := h.1 k13
            refine aw_iconst (x := 0) dX6_readFactor_259 rfl ?_
            exact aw_fgt (L' := [some (vR 6 (some x0)), none, none, none, none, none, none, none, none]) ⟨rfl, trivial⟩ h
          · replace h := h.2 k13
            refine aw_iconst (x := 1) dX6_readFactor_255 rfl ?_
            refine aw_goto (tgt := 260) dX6_readFactor_256 (by decide) ?_
            exact aw_fgt (L' := [some (vR 6 (some x0)), none, none, none, none, none, none, none, none]) ⟨rfl, trivial⟩ h
      · replace h := h.2 k8
        refine aw_aload_n dX6_readFactor_203 rfl rfl ?_
        refine aw_iload_n dX6_readFactor_204 rfl rfl ?_
        refine aw_iconst (x := 1) dX6_readFactor_205 rfl ?_
        obtain ⟨⟨c14, c14x⟩, h⟩ := h
        refine aw_iaddc dX6_readFactor_206 c14 c14x ?_
        refine aw_invVi (M := MX6_readFactor) (ci := 6) [vI (x1 + 1)] rfl mo_X6_readFactor rfl lm_X6_313 li_X6_readFactor ls_X6_readFactor (by decide +kernel) dX6_readFactor_207 rfl (Nat.le_of_ble_eq_true rfl) (ACi.mono (fun v16 σ15 h => ?_) h)
        refine aw_istore (L' := [some (vR 6 (some x0)), some (vI x1), some (vI x2), some (vI x3), none, none, some (vJ x6), none, some (vI v16)]) dX6_readFactor_210 (by decide) rfl ?_
        refine aw_aload_n dX6_readFactor_212 rfl rfl ?_
        refine aw_getR' (ci := 0) rfl fk_607 (by decide +kernel) lf_X6_70 dX6_readFactor_213 ?_
        refine aw_iload_n dX6_readFactor_216 rfl rfl ?_
        refine aw_bipush (x := 45) dX6_readFactor_217 rfl ?_
        refine aw_icmp_ne (tgt := 226) dX6_readFactor_219 (by decide) (fun k17 => ?_) (fun k17 => ?_)
        · replace h := h.1 k17
          refine aw_iload_n dX6_readFactor_226 rfl rfl ?_
          refine aw_lconst (x := 0) dX6_readFactor_227 rfl ?_
          obtain ⟨r18, e19, h⟩ := h
          refine aw_invVv (M := MX6_readFactor) (ci := 0) [vI x2, vJ 0] e19 mo_X0_add rfl lm_X6_309 li_X0_add ls_X0_add (by decide +kernel) dX6_readFactor_228 rfl (Nat.le_of_ble_eq_true rfl) (ACv.mono (fun σ20 h => ?_) h)
          refine aw_iload dX6_readFactor_231 rfl ?_
          exact aw_zreturn dX6_readFactor_233 rfl h.1 h.2
        · replace h := h.2 k17
          refine aw_iconst (x := 5) dX6_readFactor_222 rfl ?_
          refine aw_goto (tgt := 227) dX6_readFactor_223 (by decide) ?_
          refine aw_lconst (x := 0) dX6_readFactor_227 rfl ?_
          obtain ⟨r21, e22, h⟩ := h
          refine aw_invVv (M := MX6_readFactor) (ci := 0) [vI 5, vJ 0] e22 mo_X0_add rfl lm_X6_309 li_X0_add ls_X0_add (by decide +kernel) dX6_readFactor_228 rfl (Nat.le_of_ble_eq_true rfl) (ACv.mono (fun σ23 h => ?_) h)
          refine aw_iload dX6_readFactor_231 rfl ?_
          exact aw_zreturn dX6_readFactor_233 rfl h.1 h.2
    · replace h := h.2 k7
      refine aw_aload_n dX6_readFactor_185 rfl rfl ?_
      refine aw_getR' (ci := 0) rfl fk_607 (by decide +kernel) lf_X6_70 dX6_readFactor_186 ?_
      refine aw_iload_n dX6_readFactor_189 rfl rfl ?_
      refine aw_lload dX6_readFactor_190 rfl ?_
      obtain ⟨r24, e25, h⟩ := h
      refine aw_invVv (M := MX6_readFactor) (ci := 0) [vI x2, vJ x6] e25 mo_X0_add rfl lm_X6_309 li_X0_add ls_X0_add (by decide +kernel) dX6_readFactor_192 rfl (Nat.le_of_ble_eq_true rfl) (ACv.mono (fun σ26 h => ?_) h)
      refine aw_iconst (x := 1) dX6_readFactor_195 rfl ?_
      exact aw_zreturn dX6_readFactor_196 rfl (Or.inr rfl) h
  · replace h := h.2 k5
    refine aw_iconst (x := 0) dX6_readFactor_175 rfl ?_
    exact aw_zreturn dX6_readFactor_176 rfl (Or.inl rfl) h
set_option maxRecDepth 4000 in
theorem bk_X6_readFactor_260 {g : GP} {l : Launch} {d : Nat} {σ : St} {Q : Option AV → St → Prop} {x0 : Nat} {y0 : Int} {y1 : Option Nat}
    (h : ∃ r1, y1 = some r1 ∧ ACi g l d MX6_check [vR 6 (some r1), vI y0, vI 2] σ (fun v4 σ3 => ((¬ v4 = 0 → ACv g l d MX6_pass [vR 6 (some x0)] σ3 (fun σ6 => Q (some (vI 1)) σ6)) ∧ (v4 = 0 → Q (some (vI 0)) σ3)))) :
    AW g l (d + 1) MX6_readFactor 260 [some (vR 6 (some x0)), none, none, none, none, none, none, none, none] [vI y0, vR 6 y1] σ Q := by
  refine aw_iconst (x := 2) dX6_readFactor_260 rfl ?_
  obtain ⟨r1, e2, h⟩ := h
  refine aw_invVi (M := MX6_readFactor) (ci := 6) [vI y0, vI 2] e2 mo_X6_check rfl lm_X6_28 li_X6_check ls_X6_check (by decide +kernel) dX6_readFactor_261 rfl (Nat.le_of_ble_eq_true rfl) (ACi.mono (fun v4 σ3 h => ?_) h)
  refine aw_if_ne (tgt := 269) dX6_readFactor_264 (by decide) (fun k5 => ?_) (fun k5 => ?_)
  · replace h := h.1 k5
    refine aw_aload_n dX6_readFactor_269 rfl rfl ?_
    refine aw_invVv (M := MX6_readFactor) (ci := 6) [] rfl mo_X6_pass rfl lm_X6_100 li_X6_pass ls_X6_pass (by decide +kernel) dX6_readFactor_270 rfl (Nat.le_of_ble_eq_true rfl) (ACv.mono (fun σ6 h => ?_) h)
    refine aw_iconst (x := 1) dX6_readFactor_273 rfl ?_
    exact aw_zreturn dX6_readFactor_274 rfl (Or.inr rfl) h
  · replace h := h.2 k5
    refine aw_iconst (x := 0) dX6_readFactor_267 rfl ?_
    exact aw_zreturn dX6_readFactor_268 rfl (Or.inl rfl) h
set_option maxRecDepth 4000 in
theorem bk_X6_readField_0 {g : GP} {l : Launch} {d : Nat} {σ : St} {Q : Option AV → St → Prop} {x0 : Nat}
    (h : (((gI σ 604 x0 0) = 202 → ∃ r2, gR σ 608 x0 0 = some r2 ∧ ((14 ≤ (gI σ 802 r2 0) → AW g l (d + 1) MX6_readField 35 [some (vR 6 (some x0)), none] [vI 0, vR 6 (some x0)] σ Q) ∧ (¬ 14 ≤ (gI σ 802 r2 0) → AW g l (d + 1) MX6_readField 35 [some (vR 6 (some x0)), none] [vI 1, vR 6 (some x0)] σ Q))) ∧ (¬ (gI σ 604 x0 0) = 202 → ACi g l d MX6_startsCore [vR 6 (some x0)] σ (fun v6 σ5 => ((v6 = 0 → Q (some (vI 0)) σ5) ∧ (¬ v6 = 0 → ∃ r8, gR σ5 608 x0 0 = some r8 ∧ ((14 ≤ (gI σ5 802 r8 0) → AW g l (d + 1) MX6_readField 35 [some (vR 6 (some x0)), none] [vI 0, vR 6 (some x0)] σ5 Q) ∧ (¬ 14 ≤ (gI σ5 802 r8 0) → AW g l (d + 1) MX6_readField 35 [some (vR 6 (some x0)), none] [vI 1, vR 6 (some x0)] σ5 Q)))))))) :
    AW g l (d + 1) MX6_readField 0 [some (vR 6 (some x0)), none] [] σ Q := by
  refine aw_aload_n dX6_readField_0 rfl rfl ?_
  refine aw_getI' rfl fk_604 lf_X6_24 dX6_readField_1 ?_
  refine aw_sipush (x := 202) dX6_readField_4 rfl ?_
  refine aw_icmp_eq (tgt := 17) dX6_readField_7 (by decide) (fun k1 => ?_) (fun k1 => ?_)
  · replace h := h.1 k1
    refine aw_aload_n dX6_readField_17 rfl rfl ?_
    refine aw_aload_n dX6_readField_18 rfl rfl ?_
    refine aw_getR' (ci := 8) rfl fk_608 (by decide +kernel) lf_X6_54 dX6_readField_19 ?_
    obtain ⟨r2, e3, h⟩ := h
    refine aw_getI' e3 fk_802 lf_X6_170 dX6_readField_22 ?_
    refine aw_bipush (x := 14) dX6_readField_25 rfl ?_
    refine aw_icmp_ge (tgt := 34) dX6_readField_27 (by decide) (fun k4 => ?_) (fun k4 => ?_)
    · replace h := h.1 k4
      refine aw_iconst (x := 0) dX6_readField_34 rfl ?_
      exact aw_fgt (L' := [some (vR 6 (some x0)), none]) ⟨rfl, trivial⟩ h
    · replace h := h.2 k4
      refine aw_iconst (x := 1) dX6_readField_30 rfl ?_
      refine aw_goto (tgt := 35) dX6_readField_31 (by decide) ?_
      exact aw_fgt (L' := [some (vR 6 (some x0)), none]) ⟨rfl, trivial⟩ h
  · replace h := h.2 k1
    refine aw_aload_n dX6_readField_10 rfl rfl ?_
    refine aw_invVi (M := MX6_readField) (ci := 6) [] rfl mo_X6_startsCore rfl lm_X6_183 li_X6_startsCore ls_X6_startsCore (by decide +kernel) dX6_readField_11 rfl (Nat.le_of_ble_eq_true rfl) (ACi.mono (fun v6 σ5 h => ?_) h)
    refine aw_if_eq (tgt := 42) dX6_readField_14 (by decide) (fun k7 => ?_) (fun k7 => ?_)
    · replace h := h.1 k7
      refine aw_iconst (x := 0) dX6_readField_42 rfl ?_
      exact aw_zreturn dX6_readField_43 rfl (Or.inl rfl) h
    · replace h := h.2 k7
      refine aw_aload_n dX6_readField_17 rfl rfl ?_
      refine aw_aload_n dX6_readField_18 rfl rfl ?_
      refine aw_getR' (ci := 8) rfl fk_608 (by decide +kernel) lf_X6_54 dX6_readField_19 ?_
      obtain ⟨r8, e9, h⟩ := h
      refine aw_getI' e9 fk_802 lf_X6_170 dX6_readField_22 ?_
      refine aw_bipush (x := 14) dX6_readField_25 rfl ?_
      refine aw_icmp_ge (tgt := 34) dX6_readField_27 (by decide) (fun k10 => ?_) (fun k10 => ?_)
      · replace h := h.1 k10
        refine aw_iconst (x := 0) dX6_readField_34 rfl ?_
        exact aw_fgt (L' := [some (vR 6 (some x0)), none]) ⟨rfl, trivial⟩ h
      · replace h := h.2 k10
        refine aw_iconst (x := 1) dX6_readField_30 rfl ?_
        refine aw_goto (tgt := 35) dX6_readField_31 (by decide) ?_
        exact aw_fgt (L' := [some (vR 6 (some x0)), none]) ⟨rfl, trivial⟩ h
set_option maxRecDepth 4000 in
theorem bk_X6_readField_35 {g : GP} {l : Launch} {d : Nat} {σ : St} {Q : Option AV → St → Prop} {x0 : Nat} {y0 : Int} {y1 : Option Nat}
    (h : ∃ r1, y1 = some r1 ∧ ACi g l d MX6_check [vR 6 (some r1), vI y0, vI 5] σ (fun v4 σ3 => ((¬ v4 = 0 → ∃ r6, gR σ3 608 x0 0 = some r6 ∧ LC 8 σ3 r6 ∧ Bd (gI σ3 802 r6 0) 14 ∧ ∃ r10, (gR σ3 801 r6 (gI σ3 802 r6 0).toNat) = some r10 ∧ ACv g l d MX2_forget [vR 2 (some r10)] (sR σ3 609 x0 0 (gR σ3 801 r6 (gI σ3 802 r6 0).toNat)) (fun σ12 => ACi g l d MX6_takeIf [vR 6 (some x0), vI 202] σ12 (fun v14 σ13 => ((v14 = 0 → AW g l (d + 1) MX6_readField 120 [some (vR 6 (some x0)), none] [] σ13 Q) ∧ (¬ v14 = 0 → ACi g l d MX6_readExpression [vR 6 (some x0)] σ13 (fun v17 σ16 => ∃ r18, gR σ13 609 x0 0 = some r18 ∧ ∃ r20, gR σ16 609 x0 0 = some r20 ∧ (((gI (sI σ16 208 r18 0 v17) 208 r20 0) = (-1) → Q (some (vI 0)) (sI σ16 208 r18 0 v17)) ∧ (¬ (gI (sI σ16 208 r18 0 v17) 208 r20 0) = (-1) → ACi g l d MX6_take [vR 6 (some x0), vI 58] (sI σ16 208 r18 0 v17) (fun v24 σ23 => ((v24 = 0 → Q (some (vI 0)) σ23) ∧ (¬ v24 = 0 → ACi g l d MX6_startsCore [vR 6 (some x0)] σ23 (fun v27 σ26 => ((¬ v27 = 0 → AW g l (d + 1) MX6_readField 120 [some (vR 6 (some x0)), none] [] σ26 Q) ∧ (v27 = 0 → Q (some (vI 0)) σ26)))))))))))))) ∧ (v4 = 0 → Q (some (vI 0)) σ3)))) :
    AW g l (d + 1) MX6_readField 35 [some (vR 6 (some x0)), none] [vI y0, vR 6 y1] σ Q := by
  refine aw_iconst (x := 5) dX6_readField_35 rfl ?_
  obtain ⟨r1, e2, h⟩ := h
  refine aw_invVi (M := MX6_readField) (ci := 6) [vI y0, vI 5] e2 mo_X6_check rfl lm_X6_28 li_X6_check ls_X6_check (by decide +kernel) dX6_readField_36 rfl (Nat.le_of_ble_eq_true rfl) (ACi.mono (fun v4 σ3 h => ?_) h)
  refine aw_if_ne (tgt := 44) dX6_readField_39 (by decide) (fun k5 => ?_) (fun k5 => ?_)
  · replace h := h.1 k5
    refine aw_aload_n dX6_readField_44 rfl rfl ?_
    refine aw_aload_n dX6_readField_45 rfl rfl ?_
    refine aw_getR' (ci := 8) rfl fk_608 (by decide +kernel) lf_X6_54 dX6_readField_46 ?_
    obtain ⟨r6, e7, h⟩ := h
    obtain ⟨lc8, h⟩ := h
    refine aw_getA' e7 fk_801 (by decide) lf_X6_186 dX6_readField_49 (LC.ne lc8 rfl rfl) ?_
    refine aw_aload_n dX6_readField_52 rfl rfl ?_
    refine aw_getR' (ci := 8) rfl fk_608 (by decide +kernel) lf_X6_54 dX6_readField_53 ?_
    refine aw_getI' e7 fk_802 lf_X6_170 dX6_readField_56 ?_
    obtain ⟨⟨c9, c9x⟩, h⟩ := h
    refine aw_aaload (ci := 2) (by decide) rfl (by decide +kernel) dX6_readField_59 c9 (LC.lt lc8 rfl rfl c9x) ?_
    refine aw_putR' rfl fk_609 (by decide +kernel) (Or.inl rfl) lf_X6_106 dX6_readField_60 ?_
    refine aw_aload_n dX6_readField_63 rfl rfl ?_
    refine aw_getRe (ci := 2) (v := (gR σ3 801 r6 (gI σ3 802 r6 0).toNat)) rfl fk_609 (by decide +kernel) lf_X6_106 dX6_readField_64 (gR_slf σ3 609 x0 0 (gR σ3 801 r6 (gI σ3 802 r6 0).toNat)) ?_
    obtain ⟨r10, e11, h⟩ := h
    refine aw_invVv (M := MX6_readField) (ci := 2) [] e11 mo_X2_forget rfl lm_X6_190 li_X2_forget ls_X2_forget (by decide +kernel) dX6_readField_67 rfl (Nat.le_of_ble_eq_true rfl) (ACv.mono (fun σ12 h => ?_) h)
    refine aw_aload_n dX6_readField_70 rfl rfl ?_
    refine aw_sipush (x := 202) dX6_readField_71 rfl ?_
    refine aw_invVi (M := MX6_readField) (ci := 6) [vI 202] rfl mo_X6_takeIf rfl lm_X6_148 li_X6_takeIf ls_X6_takeIf (by decide +kernel) dX6_readField_74 rfl (Nat.le_of_ble_eq_true rfl) (ACi.mono (fun v14 σ13 h => ?_) h)
    refine aw_if_eq (tgt := 120) dX6_readField_77 (by decide) (fun k15 => ?_) (fun k15 => ?_)
    · replace h := h.1 k15
      exact aw_fgt (L' := [some (vR 6 (some x0)), none]) ⟨rfl, trivial⟩ h
    · replace h := h.2 k15
      refine aw_aload_n dX6_readField_80 rfl rfl ?_
      refine aw_getR' (ci := 2) rfl fk_609 (by decide +kernel) lf_X6_106 dX6_readField_81 ?_
      refine aw_aload_n dX6_readField_84 rfl rfl ?_
      refine aw_invVi (M := MX6_readField) (ci := 6) [] rfl mo_X6_readExpression rfl lm_X6_58 li_X6_readExpression ls_X6_readExpression (by decide +kernel) dX6_readField_85 rfl (Nat.le_of_ble_eq_true rfl) (ACi.mono (fun v17 σ16 h => ?_) h)
      obtain ⟨r18, e19, h⟩ := h
      refine aw_putI' e19 fk_208 (Or.inl rfl) lf_X6_191 dX6_readField_88 ?_
      refine aw_aload_n dX6_readField_91 rfl rfl ?_
      refine aw_getRe (ci := 2) (v := gR σ16 609 x0 0) rfl fk_609 (by decide +kernel) lf_X6_106 dX6_readField_92 rfl ?_
      obtain ⟨r20, e21, h⟩ := h
      refine aw_getI' e21 fk_208 lf_X6_191 dX6_readField_95 ?_
      refine aw_iconst (x := (-1)) dX6_readField_98 rfl ?_
      refine aw_icmp_eq (tgt := 118) dX6_readField_99 (by decide) (fun k22 => ?_) (fun k22 => ?_)
      · replace h := h.1 k22
        refine aw_iconst (x := 0) dX6_readField_118 rfl ?_
        exact aw_zreturn dX6_readField_119 rfl (Or.inl rfl) h
      · replace h := h.2 k22
        refine aw_aload_n dX6_readField_102 rfl rfl ?_
        refine aw_bipush (x := 58) dX6_readField_103 rfl ?_
        refine aw_invVi (M := MX6_readField) (ci := 6) [vI 58] rfl mo_X6_take rfl lm_X6_116 li_X6_take ls_X6_take (by decide +kernel) dX6_readField_105 rfl (Nat.le_of_ble_eq_true rfl) (ACi.mono (fun v24 σ23 h => ?_) h)
        refine aw_if_eq (tgt := 118) dX6_readField_108 (by decide) (fun k25 => ?_) (fun k25 => ?_)
        · replace h := h.1 k25
          refine aw_iconst (x := 0) dX6_readField_118 rfl ?_
          exact aw_zreturn dX6_readField_119 rfl (Or.inl rfl) h
        · replace h := h.2 k25
          refine aw_aload_n dX6_readField_111 rfl rfl ?_
          refine aw_invVi (M := MX6_readField) (ci := 6) [] rfl mo_X6_startsCore rfl lm_X6_183 li_X6_startsCore ls_X6_startsCore (by decide +kernel) dX6_readField_112 rfl (Nat.le_of_ble_eq_true rfl) (ACi.mono (fun v27 σ26 h => ?_) h)
          refine aw_if_ne (tgt := 120) dX6_readField_115 (by decide) (fun k28 => ?_) (fun k28 => ?_)
          · replace h := h.1 k28
            exact aw_fgt (L' := [some (vR 6 (some x0)), none]) ⟨rfl, trivial⟩ h
          · replace h := h.2 k28
            refine aw_iconst (x := 0) dX6_readField_118 rfl ?_
            exact aw_zreturn dX6_readField_119 rfl (Or.inl rfl) h
  · replace h := h.2 k5
    refine aw_iconst (x := 0) dX6_readField_42 rfl ?_
    exact aw_zreturn dX6_readField_43 rfl (Or.inl rfl) h
set_option maxRecDepth 4000 in
theorem bk_X6_readField_120 {g : GP} {l : Launch} {d : Nat} {σ : St} {Q : Option AV → St → Prop} {x0 : Nat}
    (h : (((gI σ 604 x0 0) = 2 → ACi g l d MX6_readStruct [vR 6 (some x0)] σ (fun v2 σ1 => ((v2 = 0 → AW g l (d + 1) MX6_readField 299 [some (vR 6 (some x0)), some (vI 0)] [] σ1 Q) ∧ (¬ v2 = 0 → ACi g l d MX6_readTail [vR 6 (some x0)] σ1 (fun v5 σ4 => ((v5 = 0 → AW g l (d + 1) MX6_readField 299 [some (vR 6 (some x0)), some (vI 0)] [] σ4 Q) ∧ (¬ v5 = 0 → AW g l (d + 1) MX6_readField 299 [some (vR 6 (some x0)), some (vI 1)] [] σ4 Q))))))) ∧ ((gI σ 604 x0 0) = 4 → ACi g l d MX6_readWhole [vR 6 (some x0)] σ (fun v8 σ7 => ((v8 = 0 → AW g l (d + 1) MX6_readField 299 [some (vR 6 (some x0)), some (vI 0)] [] σ7 Q) ∧ (¬ v8 = 0 → ACi g l d MX6_readTail [vR 6 (some x0)] σ7 (fun v11 σ10 => ((v11 = 0 → AW g l (d + 1) MX6_readField 299 [some (vR 6 (some x0)), some (vI 0)] [] σ10 Q) ∧ (¬ v11 = 0 → AW g l (d + 1) MX6_readField 299 [some (vR 6 (some x0)), some (vI 1)] [] σ10 Q))))))) ∧ ((gI σ 604 x0 0) = 204 → ACi g l d MX6_readBits [vR 6 (some x0)] σ (fun v14 σ13 => AW g l (d + 1) MX6_readField 299 [some (vR 6 (some x0)), some (vI v14)] [] σ13 Q)) ∧ ((gI σ 604 x0 0) = 205 → ACi g l d MX6_readText [vR 6 (some x0)] σ (fun v16 σ15 => AW g l (d + 1) MX6_readField 299 [some (vR 6 (some x0)), some (vI v16)] [] σ15 Q)) ∧ ((gI σ 604 x0 0) = 207 → ACi g l d MX6_readUnion [vR 6 (some x0)] σ (fun v18 σ17 => AW g l (d + 1) MX6_readField 299 [some (vR 6 (some x0)), some (vI v18)] [] σ17 Q)) ∧ ((gI σ 604 x0 0) = 210 → ACi g l d MX6_readPointer [vR 6 (some x0)] σ (fun v20 σ19 => AW g l (d + 1) MX6_readField 299 [some (vR 6 (some x0)), some (vI v20)] [] σ19 Q)) ∧ ((gI σ 604 x0 0) = 214 → ACi g l d MX6_readPad [vR 6 (some x0)] σ (fun v22 σ21 => AW g l (d + 1) MX6_readField 299 [some (vR 6 (some x0)), some (vI v22)] [] σ21 Q)) ∧ ((gI σ 604 x0 0) = 215 → ACi g l d MX6_readMagic [vR 6 (some x0)] σ (fun v24 σ23 => AW g l (d + 1) MX6_readField 299 [some (vR 6 (some x0)), some (vI v24)] [] σ23 Q)) ∧ (¬ (gI σ 604 x0 0) = 2 → ¬ (gI σ 604 x0 0) = 4 → ¬ (gI σ 604 x0 0) = 204 → ¬ (gI σ 604 x0 0) = 205 → ¬ (gI σ 604 x0 0) = 207 → ¬ (gI σ 604 x0 0) = 210 → ¬ (gI σ 604 x0 0) = 214 → ¬ (gI σ 604 x0 0) = 215 → ACi g l d MX6_readSum [vR 6 (some x0)] σ (fun v26 σ25 => AW g l (d + 1) MX6_readField 299 [some (vR 6 (some x0)), some (vI v26)] [] σ25 Q)))) :
    AW g l (d + 1) MX6_readField 120 [some (vR 6 (some x0)), none] [] σ Q := by
  refine aw_aload_n dX6_readField_120 rfl rfl ?_
  refine aw_getI' rfl fk_604 lf_X6_24 dX6_readField_121 ?_
  obtain ⟨h0, h1, h2, h3, h4, h5, h6, h7, hd⟩ := h
  refine aw_lookup (M := MX6_readField) (dt := 294) [(2, 223), (4, 200), (204, 246), (205, 254), (207, 262), (210, 270), (214, 278), (215, 286)] dX6_readField_124 (by decide) (by decide) (by decide) ⟨fun hc => ?_, fun n0 => ⟨fun hc => ?_, fun n1 => ⟨fun hc => ?_, fun n2 => ⟨fun hc => ?_, fun n3 => ⟨fun hc => ?_, fun n4 => ⟨fun hc => ?_, fun n5 => ⟨fun hc => ?_, fun n6 => ⟨fun hc => ?_, fun n7 => ?_⟩⟩⟩⟩⟩⟩⟩⟩
  · have h := h0 hc; clear h0 h1 h2 h3 h4 h5 h6 h7 hd
    refine aw_aload_n dX6_readField_223 rfl rfl ?_
    refine aw_invVi (M := MX6_readField) (ci := 6) [] rfl mo_X6_readStruct rfl lm_X6_200 li_X6_readStruct ls_X6_readStruct (by decide +kernel) dX6_readField_224 rfl (Nat.le_of_ble_eq_true rfl) (ACi.mono (fun v2 σ1 h => ?_) h)
    refine aw_if_eq (tgt := 241) dX6_readField_227 (by decide) (fun k3 => ?_) (fun k3 => ?_)
    · replace h := h.1 k3
      refine aw_iconst (x := 0) dX6_readField_241 rfl ?_
      refine aw_istore_n (L' := [some (vR 6 (some x0)), some (vI 0)]) dX6_readField_242 rfl (by decide) rfl ?_
      refine aw_goto (tgt := 299) dX6_readField_243 (by decide) ?_
      exact aw_fgt (L' := [some (vR 6 (some x0)), some (vI 0)]) ⟨rfl, ⟨rfl, trivial⟩⟩ h
    · replace h := h.2 k3
      refine aw_aload_n dX6_readField_230 rfl rfl ?_
      refine aw_invVi (M := MX6_readField) (ci := 6) [] rfl mo_X6_readTail rfl lm_X6_197 li_X6_readTail ls_X6_readTail (by decide +kernel) dX6_readField_231 rfl (Nat.le_of_ble_eq_true rfl) (ACi.mono (fun v5 σ4 h => ?_) h)
      refine aw_if_eq (tgt := 241) dX6_readField_234 (by decide) (fun k6 => ?_) (fun k6 => ?_)
      · replace h := h.1 k6
        refine aw_iconst (x := 0) dX6_readField_241 rfl ?_
        refine aw_istore_n (L' := [some (vR 6 (some x0)), some (vI 0)]) dX6_readField_242 rfl (by decide) rfl ?_
        refine aw_goto (tgt := 299) dX6_readField_243 (by decide) ?_
        exact aw_fgt (L' := [some (vR 6 (some x0)), some (vI 0)]) ⟨rfl, ⟨rfl, trivial⟩⟩ h
      · replace h := h.2 k6
        refine aw_iconst (x := 1) dX6_readField_237 rfl ?_
        refine aw_goto (tgt := 242) dX6_readField_238 (by decide) ?_
        refine aw_istore_n (L' := [some (vR 6 (some x0)), some (vI 1)]) dX6_readField_242 rfl (by decide) rfl ?_
        refine aw_goto (tgt := 299) dX6_readField_243 (by decide) ?_
        exact aw_fgt (L' := [some (vR 6 (some x0)), some (vI 1)]) ⟨rfl, ⟨rfl, trivial⟩⟩ h
  · have h := h1 hc; clear h0 h1 h2 h3 h4 h5 h6 h7 hd
    refine aw_aload_n dX6_readField_200 rfl rfl ?_
    refine aw_invVi (M := MX6_readField) (ci := 6) [] rfl mo_X6_readWhole rfl lm_X6_194 li_X6_readWhole ls_X6_readWhole (by decide +kernel) dX6_readField_201 rfl (Nat.le_of_ble_eq_true rfl) (ACi.mono (fun v8 σ7 h => ?_) h)
    refine aw_if_eq (tgt := 218) dX6_readField_204 (by decide) (fun k9 => ?_) (fun k9 => ?_)
    · replace h := h.1 k9
      refine aw_iconst (x := 0) dX6_readField_218 rfl ?_
      refine aw_istore_n (L' := [some (vR 6 (some x0)), some (vI 0)]) dX6_readField_219 rfl (by decide) rfl ?_
      refine aw_goto (tgt := 299) dX6_readField_220 (by decide) ?_
      exact aw_fgt (L' := [some (vR 6 (some x0)), some (vI 0)]) ⟨rfl, ⟨rfl, trivial⟩⟩ h
    · replace h := h.2 k9
      refine aw_aload_n dX6_readField_207 rfl rfl ?_
      refine aw_invVi (M := MX6_readField) (ci := 6) [] rfl mo_X6_readTail rfl lm_X6_197 li_X6_readTail ls_X6_readTail (by decide +kernel) dX6_readField_208 rfl (Nat.le_of_ble_eq_true rfl) (ACi.mono (fun v11 σ10 h => ?_) h)
      refine aw_if_eq (tgt := 218) dX6_readField_211 (by decide) (fun k12 => ?_) (fun k12 => ?_)
      · replace h := h.1 k12
        refine aw_iconst (x := 0) dX6_readField_218 rfl ?_
        refine aw_istore_n (L' := [some (vR 6 (some x0)), some (vI 0)]) dX6_readField_219 rfl (by decide) rfl ?_
        refine aw_goto (tgt := 299) dX6_readField_220 (by decide) ?_
        exact aw_fgt (L' := [some (vR 6 (some x0)), some (vI 0)]) ⟨rfl, ⟨rfl, trivial⟩⟩ h
      · replace h := h.2 k12
        refine aw_iconst (x := 1) dX6_readField_214 rfl ?_
        refine aw_goto (tgt := 219) dX6_readField_215 (by decide) ?_
        refine aw_istore_n (L' := [some (vR 6 (some x0)), some (vI 1)]) dX6_readField_219 rfl (by decide) rfl ?_
        refine aw_goto (tgt := 299) dX6_readField_220 (by decide) ?_
        exact aw_fgt (L' := [some (vR 6 (some x0)), some (vI 1)]) ⟨rfl, ⟨rfl, trivial⟩⟩ h
  · have h := h2 hc; clear h0 h1 h2 h3 h4 h5 h6 h7 hd
    refine aw_aload_n dX6_readField_246 rfl rfl ?_
    refine aw_invVi (M := MX6_readField) (ci := 6) [] rfl mo_X6_readBits rfl lm_X6_203 li_X6_readBits ls_X6_readBits (by decide +kernel) dX6_readField_247 rfl (Nat.le_of_ble_eq_true rfl) (ACi.mono (fun v14 σ13 h => ?_) h)
    refine aw_istore_n (L' := [some (vR 6 (some x0)), some (vI v14)]) dX6_readField_250 rfl (by decide) rfl ?_
    refine aw_goto (tgt := 299) dX6_readField_251 (by decide) ?_
    exact aw_fgt (L' := [some (vR 6 (some x0)), some (vI v14)]) ⟨rfl, ⟨rfl, trivial⟩⟩ h
  · have h := h3 hc; clear h0 h1 h2 h3 h4 h5 h6 h7 hd
    refine aw_aload_n dX6_readField_254 rfl rfl ?_
    refine aw_invVi (M := MX6_readField) (ci := 6) [] rfl mo_X6_readText rfl lm_X6_206 li_X6_readText ls_X6_readText (by decide +kernel) dX6_readField_255 rfl (Nat.le_of_ble_eq_true rfl) (ACi.mono (fun v16 σ15 h => ?_) h)
    refine aw_istore_n (L' := [some (vR 6 (some x0)), some (vI v16)]) dX6_readField_258 rfl (by decide) rfl ?_
    refine aw_goto (tgt := 299) dX6_readField_259 (by decide) ?_
    exact aw_fgt (L' := [some (vR 6 (some x0)), some (vI v16)]) ⟨rfl, ⟨rfl, trivial⟩⟩ h
  · have h := h4 hc; clear h0 h1 h2 h3 h4 h5 h6 h7 hd
    refine aw_aload_n dX6_readField_262 rfl rfl ?_
    refine aw_invVi (M := MX6_readField) (ci := 6) [] rfl mo_X6_readUnion rfl lm_X6_209 li_X6_readUnion ls_X6_readUnion (by decide +kernel) dX6_readField_263 rfl (Nat.le_of_ble_eq_true rfl) (ACi.mono (fun v18 σ17 h => ?_) h)
    refine aw_istore_n (L' := [some (vR 6 (some x0)), some (vI v18)]) dX6_readField_266 rfl (by decide) rfl ?_
    refine aw_goto (tgt := 299) dX6_readField_267 (by decide) ?_
    exact aw_fgt (L' := [some (vR 6 (some x0)), some (vI v18)]) ⟨rfl, ⟨rfl, trivial⟩⟩ h
  · have h := h5 hc; clear h0 h1 h2 h3 h4 h5 h6 h7 hd
    refine aw_aload_n dX6_readField_270 rfl rfl ?_
    refine aw_invVi (M := MX6_readField) (ci := 6) [] rfl mo_X6_readPointer rfl lm_X6_212 li_X6_readPointer ls_X6_readPointer (by decide +kernel) dX6_readField_271 rfl (Nat.le_of_ble_eq_true rfl) (ACi.mono (fun v20 σ19 h => ?_) h)
    refine aw_istore_n (L' := [some (vR 6 (some x0)), some (vI v20)]) dX6_readField_274 rfl (by decide) rfl ?_
    refine aw_goto (tgt := 299) dX6_readField_275 (by decide) ?_
    exact aw_fgt (L' := [some (vR 6 (some x0)), some (vI v20)]) ⟨rfl, ⟨rfl, trivial⟩⟩ h
  · have h := h6 hc; clear h0 h1 h2 h3 h4 h5 h6 h7 hd
    refine aw_aload_n dX6_readField_278 rfl rfl ?_
    refine aw_invVi (M := MX6_readField) (ci := 6) [] rfl mo_X6_readPad rfl lm_X6_215 li_X6_readPad ls_X6_readPad (by decide +kernel) dX6_readField_279 rfl (Nat.le_of_ble_eq_true rfl) (ACi.mono (fun v22 σ21 h => ?_) h)
    refine aw_istore_n (L' := [some (vR 6 (some x0)), some (vI v22)]) dX6_readField_282 rfl (by decide) rfl ?_
    refine aw_goto (tgt := 299) dX6_readField_283 (by decide) ?_
    exact aw_fgt (L' := [some (vR 6 (some x0)), some (vI v22)]) ⟨rfl, ⟨rfl, trivial⟩⟩ h
  · have h := h7 hc; clear h0 h1 h2 h3 h4 h5 h6 h7 hd
    refine aw_aload_n dX6_readField_286 rfl rfl ?_
    refine aw_invVi (M := MX6_readField) (ci := 6) [] rfl mo_X6_readMagic rfl lm_X6_218 li_X6_readMagic ls_X6_readMagic (by decide +kernel) dX6_readField_287 rfl (Nat.le_of_ble_eq_true rfl) (ACi.mono (fun v24 σ23 h => ?_) h)
    refine aw_istore_n (L' := [some (vR 6 (some x0)), some (vI v24)]) dX6_readField_290 rfl (by decide) rfl ?_
    refine aw_goto (tgt := 299) dX6_readField_291 (by decide) ?_
    exact aw_fgt (L' := [some (vR 6 (some x0)), some (vI v24)]) ⟨rfl, ⟨rfl, trivial⟩⟩ h
  · have h := hd n0 n1 n2 n3 n4 n5 n6 n7; clear h0 h1 h2 h3 h4 h5 h6 h7 hd
    refine aw_aload_n dX6_readField_294 rfl rfl ?_
    refine aw_invVi (M := MX6_readField) (ci := 6) [] rfl mo_X6_readSum rfl lm_X6_221 li_X6_readSum ls_X6_readSum (by decide +kernel) dX6_readField_295 rfl (Nat.le_of_ble_eq_true rfl) (ACi.mono (fun v26 σ25 h => ?_) h)
    refine aw_istore_n (L' := [some (vR 6 (some x0)), some (vI v26)]) dX6_readField_298 rfl (by decide) rfl ?_
    exact aw_fgt (L' := [some (vR 6 (some x0)), some (vI v26)]) ⟨rfl, ⟨rfl, trivial⟩⟩ h
set_option maxRecDepth 4000 in
theorem bk_X6_readField_299 {g : GP} {l : Launch} {d : Nat} {σ : St} {Q : Option AV → St → Prop} {x0 : Nat} {x1 : Int}
    (h : ((x1 = 0 → Q (some (vI 0)) σ) ∧ (¬ x1 = 0 → ACi g l d MX6_take [vR 6 (some x0), vI 59] σ (fun v3 σ2 => ((¬ v3 = 0 → ∃ r5, gR σ2 608 x0 0 = some r5 ∧ R32 ((gI σ2 802 r5 0) + 1) ∧ Q (some (vI 1)) (sI σ2 802 r5 0 ((gI σ2 802 r5 0) + 1))) ∧ (v3 = 0 → Q (some (vI 0)) σ2)))))) :
    AW g l (d + 1) MX6_readField 299 [some (vR 6 (some x0)), some (vI x1)] [] σ Q := by
  refine aw_iload_n dX6_readField_299 rfl rfl ?_
  refine aw_if_eq (tgt := 312) dX6_readField_300 (by decide) (fun k1 => ?_) (fun k1 => ?_)
  · replace h := h.1 k1
    refine aw_iconst (x := 0) dX6_readField_312 rfl ?_
    exact aw_zreturn dX6_readField_313 rfl (Or.inl rfl) h
  · replace h := h.2 k1
    refine aw_aload_n dX6_readField_303 rfl rfl ?_
    refine aw_bipush (x := 59) dX6_readField_304 rfl ?_
    refine aw_invVi (M := MX6_readField) (ci := 6) [vI 59] rfl mo_X6_take rfl lm_X6_116 li_X6_take ls_X6_take (by decide +kernel) dX6_readField_306 rfl (Nat.le_of_ble_eq_true rfl) (ACi.mono (fun v3 σ2 h => ?_) h)
    refine aw_if_ne (tgt := 314) dX6_readField_309 (by decide) (fun k4 => ?_) (fun k4 => ?_)
    · replace h := h.1 k4
      refine aw_aload_n dX6_readField_314 rfl rfl ?_
      refine aw_getR' (ci := 8) rfl fk_608 (by decide +kernel) lf_X6_54 dX6_readField_315 ?_
      refine aw_dup dX6_readField_318 rfl ?_
      obtain ⟨r5, e6, h⟩ := h
      refine aw_getI' e6 fk_802 lf_X6_170 dX6_readField_319 ?_
      refine aw_iconst (x := 1) dX6_readField_322 rfl ?_
      obtain ⟨⟨c7, c7x⟩, h⟩ := h
      refine aw_iaddc dX6_readField_323 c7 c7x ?_
      refine aw_putI' e6 fk_802 (Or.inl rfl) lf_X6_170 dX6_readField_324 ?_
      refine aw_iconst (x := 1) dX6_readField_327 rfl ?_
      exact aw_zreturn dX6_readField_328 rfl (Or.inr rfl) h
    · replace h := h.2 k4
      refine aw_iconst (x := 0) dX6_readField_312 rfl ?_
      exact aw_zreturn dX6_readField_313 rfl (Or.inl rfl) h
set_option maxRecDepth 4000 in
theorem bk_X6_readLevel_0 {g : GP} {l : Launch} {d : Nat} {σ : St} {Q : Option AV → St → Prop} {x0 : Nat} {x1 : Int} {x2 : Int}
    (h : ((x1 < 5 → R32 (x1 + 1) ∧ ACi g l d MX6_readLevel [vR 6 (some x0), vI (x1 + 1), vI x2] σ (fun v4 σ3 => ((¬ v4 = 0 → ((¬ x1 = 2 → AW g l (d + 1) MX6_readLevel 40 [some (vR 6 (some x0)), some (vI x1), some (vI x2), some (vI 3000), some (vI 0), none] [] σ3 Q) ∧ (x1 = 2 → AW g l (d + 1) MX6_readLevel 40 [some (vR 6 (some x0)), some (vI x1), some (vI x2), some (vI 1), some (vI 0), none] [] σ3 Q))) ∧ (v4 = 0 → Q (some (vI 0)) σ3)))) ∧ (¬ x1 < 5 → ACi g l d MX6_readFactor [vR 6 (some x0), vI x2] σ (fun v8 σ7 => ((v8 = 0 ∨ v8 = 1) ∧ Q (some (vI v8)) σ7))))) :
    AW g l (d + 1) MX6_readLevel 0 [some (vR 6 (some x0)), some (vI x1), some (vI x2), none, none, none] [] σ Q := by
  refine aw_iload_n dX6_readLevel_0 rfl rfl ?_
  refine aw_iconst (x := 5) dX6_readLevel_1 rfl ?_
  refine aw_icmp_lt (tgt := 11) dX6_readLevel_2 (by decide) (fun k1 => ?_) (fun k1 => ?_)
  · replace h := h.1 k1
    refine aw_aload_n dX6_readLevel_11 rfl rfl ?_
    refine aw_iload_n dX6_readLevel_12 rfl rfl ?_
    refine aw_iconst (x := 1) dX6_readLevel_13 rfl ?_
    obtain ⟨⟨c2, c2x⟩, h⟩ := h
    refine aw_iaddc dX6_readLevel_14 c2 c2x ?_
    refine aw_iload_n dX6_readLevel_15 rfl rfl ?_
    refine aw_invVi (M := MX6_readLevel) (ci := 6) [vI (x1 + 1), vI x2] rfl mo_X6_readLevel rfl lm_X6_305 li_X6_readLevel ls_X6_readLevel (by decide +kernel) dX6_readLevel_16 rfl (Nat.le_of_ble_eq_true rfl) (ACi.mono (fun v4 σ3 h => ?_) h)
    refine aw_if_ne (tgt := 24) dX6_readLevel_19 (by decide) (fun k5 => ?_) (fun k5 => ?_)
    · replace h := h.1 k5
      refine aw_iload_n dX6_readLevel_24 rfl rfl ?_
      refine aw_iconst (x := 2) dX6_readLevel_25 rfl ?_
      refine aw_icmp_ne (tgt := 33) dX6_readLevel_26 (by decide) (fun k6 => ?_) (fun k6 => ?_)
      · replace h := h.1 k6
        refine aw_sipush (x := 3000) dX6_readLevel_33 rfl ?_
        refine aw_istore_n (L' := [some (vR 6 (some x0)), some (vI x1), some (vI x2), some (vI 3000), none, none]) dX6_readLevel_36 rfl (by decide) rfl ?_
        refine aw_iconst (x := 0) dX6_readLevel_37 rfl ?_
        refine aw_istore (L' := [some (vR 6 (some x0)), some (vI x1), some (vI x2), some (vI 3000), some (vI 0), none]) dX6_readLevel_38 (by decide) rfl ?_
        exact aw_fgt (L' := [some (vR 6 (some x0)), some (vI x1), some (vI x2), some (vI 3000), some (vI 0), none]) ⟨rfl, ⟨rfl, ⟨rfl, ⟨rfl, ⟨rfl, trivial⟩⟩⟩⟩⟩ h
      · replace h := h.2 k6
        refine aw_iconst (x := 1) dX6_readLevel_29 rfl ?_
        refine aw_goto (tgt := 36) dX6_readLevel_30 (by decide) ?_
        refine aw_istore_n (L' := [some (vR 6 (some x0)), some (vI x1), some (vI x2), some (vI 1), none, none]) dX6_readLevel_36 rfl (by decide) rfl ?_
        refine aw_iconst (x := 0) dX6_readLevel_37 rfl ?_
        refine aw_istore (L' := [some (vR 6 (some x0)), some (vI x1), some (vI x2), some (vI 1), some (vI 0), none]) dX6_readLevel_38 (by decide) rfl ?_
        exact aw_fgt (L' := [some (vR 6 (some x0)), some (vI x1), some (vI x2), some (vI 1), some (vI 0), none]) ⟨rfl, ⟨rfl, ⟨rfl, ⟨rfl, ⟨rfl, trivial⟩⟩⟩⟩⟩ h
    · replace h := h.2 k5
      refine aw_iconst (x := 0) dX6_readLevel_22 rfl ?_
      exact aw_zreturn dX6_readLevel_23 rfl (Or.inl rfl) h
  · replace h := h.2 k1
    refine aw_aload_n dX6_readLevel_5 rfl rfl ?_
    refine aw_iload_n dX6_readLevel_6 rfl rfl ?_
    refine aw_invVi (M := MX6_readLevel) (ci := 6) [vI x2] rfl mo_X6_readFactor rfl lm_X6_313 li_X6_readFactor ls_X6_readFactor (by decide +kernel) dX6_readLevel_7 rfl (Nat.le_of_ble_eq_true rfl) (ACi.mono (fun v8 σ7 h => ?_) h)
    exact aw_zreturn dX6_readLevel_10 rfl h.1 h.2
set_option maxRecDepth 4000 in
theorem bk_X6_readLevel_40 {g : GP} {l : Launch} {d : Nat} {σ : St} {Q : Option AV → St → Prop} {x0 : Nat} {x1 : Int} {x2 : Int} {x3 : Int} {x4 : Int}
    (h : ((x3 ≤ x4 → Q (some (vI 1)) σ) ∧ (¬ x3 ≤ x4 → ACi g l d MX6_levelOf [vI (gI σ 604 x0 0)] σ (fun v3 σ2 => ((¬ v3 = x1 → Q (some (vI 1)) σ2) ∧ (v3 = x1 → ACv g l d MX6_pass [vR 6 (some x0)] σ2 (fun σ5 => R32 (x1 + 1) ∧ ACi g l d MX6_readLevel [vR 6 (some x0), vI (x1 + 1), vI x2] σ5 (fun v8 σ7 => ((¬ v8 = 0 → ∃ r10, gR σ7 607 x0 0 = some r10 ∧ ACv g l d MX0_add [vR 0 (some r10), vI (gI σ2 604 x0 0), vJ 0] σ7 (fun σ12 => R32 (x4 + 1) ∧ AW g l (d + 1) MX6_readLevel 40 [some (vR 6 (some x0)), some (vI x1), some (vI x2), some (vI x3), some (vI (x4 + 1)), none] [] σ12 Q)) ∧ (v8 = 0 → Q (some (vI 0)) σ7)))))))))) :
    AW g l (d + 1) MX6_readLevel 40 [some (vR 6 (some x0)), some (vI x1), some (vI x2), some (vI x3), some (vI x4), none] [] σ Q := by
  refine aw_iload dX6_readLevel_40 rfl ?_
  refine aw_iload_n dX6_readLevel_42 rfl rfl ?_
  refine aw_icmp_ge (tgt := 96) dX6_readLevel_43 (by decide) (fun k1 => ?_) (fun k1 => ?_)
  · replace h := h.1 k1
    refine aw_iconst (x := 1) dX6_readLevel_96 rfl ?_
    exact aw_zreturn dX6_readLevel_97 rfl (Or.inr rfl) h
  · replace h := h.2 k1
    refine aw_aload_n dX6_readLevel_46 rfl rfl ?_
    refine aw_getI' rfl fk_604 lf_X6_24 dX6_readLevel_47 ?_
    refine aw_invSi (M := MX6_readLevel) [vI (gI σ 604 x0 0)] mo_X6_levelOf rfl lm_X6_316 lt_X6_levelOf dX6_readLevel_50 rfl (Nat.le_of_ble_eq_true rfl) (ACi.mono (fun v3 σ2 h => ?_) h)
    refine aw_iload_n dX6_readLevel_53 rfl rfl ?_
    refine aw_icmp_ne (tgt := 96) dX6_readLevel_54 (by decide) (fun k4 => ?_) (fun k4 => ?_)
    · replace h := h.1 k4
      refine aw_iconst (x := 1) dX6_readLevel_96 rfl ?_
      exact aw_zreturn dX6_readLevel_97 rfl (Or.inr rfl) h
    · replace h := h.2 k4
      refine aw_aload_n dX6_readLevel_57 rfl rfl ?_
      refine aw_getI' rfl fk_604 lf_X6_24 dX6_readLevel_58 ?_
      refine aw_istore (L' := [some (vR 6 (some x0)), some (vI x1), some (vI x2), some (vI x3), some (vI x4), some (vI (gI σ2 604 x0 0))]) dX6_readLevel_61 (by decide) rfl ?_
      refine aw_aload_n dX6_readLevel_63 rfl rfl ?_
      refine aw_invVv (M := MX6_readLevel) (ci := 6) [] rfl mo_X6_pass rfl lm_X6_100 li_X6_pass ls_X6_pass (by decide +kernel) dX6_readLevel_64 rfl (Nat.le_of_ble_eq_true rfl) (ACv.mono (fun σ5 h => ?_) h)
      refine aw_aload_n dX6_readLevel_67 rfl rfl ?_
      refine aw_iload_n dX6_readLevel_68 rfl rfl ?_
      refine aw_iconst (x := 1) dX6_readLevel_69 rfl ?_
      obtain ⟨⟨c6, c6x⟩, h⟩ := h
      refine aw_iaddc dX6_readLevel_70 c6 c6x ?_
      refine aw_iload_n dX6_readLevel_71 rfl rfl ?_
      refine aw_invVi (M := MX6_readLevel) (ci := 6) [vI (x1 + 1), vI x2] rfl mo_X6_readLevel rfl lm_X6_305 li_X6_readLevel ls_X6_readLevel (by decide +kernel) dX6_readLevel_72 rfl (Nat.le_of_ble_eq_true rfl) (ACi.mono (fun v8 σ7 h => ?_) h)
      refine aw_if_ne (tgt := 80) dX6_readLevel_75 (by decide) (fun k9 => ?_) (fun k9 => ?_)
      · replace h := h.1 k9
        refine aw_aload_n dX6_readLevel_80 rfl rfl ?_
        refine aw_getR' (ci := 0) rfl fk_607 (by decide +kernel) lf_X6_70 dX6_readLevel_81 ?_
        refine aw_iload dX6_readLevel_84 rfl ?_
        refine aw_lconst (x := 0) dX6_readLevel_86 rfl ?_
        obtain ⟨r10, e11, h⟩ := h
        refine aw_invVv (M := MX6_readLevel) (ci := 0) [vI (gI σ2 604 x0 0), vJ 0] e11 mo_X0_add rfl lm_X6_309 li_X0_add ls_X0_add (by decide +kernel) dX6_readLevel_87 rfl (Nat.le_of_ble_eq_true rfl) (ACv.mono (fun σ12 h => ?_) h)
        obtain ⟨⟨c13, c13x⟩, h⟩ := h
        refine aw_iincc (L' := [some (vR 6 (some x0)), some (vI x1), some (vI x2), some (vI x3), some (vI (x4 + 1)), some (vI (gI σ2 604 x0 0))]) dX6_readLevel_90 rfl (by decide) rfl c13 c13x rfl ?_
        refine aw_goto (tgt := 40) dX6_readLevel_93 (by decide) ?_
        exact aw_fgt (L' := [some (vR 6 (some x0)), some (vI x1), some (vI x2), some (vI x3), some (vI (x4 + 1)), none]) ⟨rfl, ⟨rfl, ⟨rfl, ⟨rfl, ⟨rfl, trivial⟩⟩⟩⟩⟩ h
      · replace h := h.2 k9
        refine aw_iconst (x := 0) dX6_readLevel_78 rfl ?_
        exact aw_zreturn dX6_readLevel_79 rfl (Or.inl rfl) h
set_option maxRecDepth 4000 in
theorem bk_X6_readMagic_0 {g : GP} {l : Launch} {d : Nat} {σ : St} {Q : Option AV → St → Prop} {x0 : Nat}
    (h : ∃ r1, gR σ 609 x0 0 = some r1 ∧ ∃ r3, gR σ 606 x0 0 = some r3 ∧ ACv g l d MX6_pass [vR 6 (some x0)] (sI (sI σ 201 r1 0 9) 213 r1 0 (gI σ 109 r3 0)) (fun σ5 => ACi g l d MX6_takeOwnName [vR 6 (some x0)] σ5 (fun v7 σ6 => ((v7 = 0 → Q (some (vI 0)) σ6) ∧ (¬ v7 = 0 → ACi g l d MX6_take [vR 6 (some x0), vI 61] σ6 (fun v10 σ9 => ((¬ v10 = 0 → AW g l (d + 1) MX6_readMagic 49 [some (vR 6 (some x0)), some (vI 1), some (vI 0)] [] σ9 Q) ∧ (v10 = 0 → Q (some (vI 0)) σ9)))))))) :
    AW g l (d + 1) MX6_readMagic 0 [some (vR 6 (some x0)), none, none] [] σ Q := by
  refine aw_aload_n dX6_readMagic_0 rfl rfl ?_
  refine aw_getR' (ci := 2) rfl fk_609 (by decide +kernel) lf_X6_106 dX6_readMagic_1 ?_
  refine aw_bipush (x := 9) dX6_readMagic_4 rfl ?_
  obtain ⟨r1, e2, h⟩ := h
  refine aw_putI' e2 fk_201 (Or.inl rfl) lf_X6_229 dX6_readMagic_6 ?_
  refine aw_aload_n dX6_readMagic_9 rfl rfl ?_
  refine aw_getRe (ci := 2) (v := gR σ 609 x0 0) rfl fk_609 (by decide +kernel) lf_X6_106 dX6_readMagic_10 rfl ?_
  refine aw_aload_n dX6_readMagic_13 rfl rfl ?_
  refine aw_getRe (ci := 1) (v := gR σ 606 x0 0) rfl fk_606 (by decide +kernel) lf_X6_66 dX6_readMagic_14 rfl ?_
  obtain ⟨r3, e4, h⟩ := h
  refine aw_getIe (v := gI σ 109 r3 0) e4 fk_109 lf_X6_139 dX6_readMagic_17 rfl ?_
  refine aw_putI' e2 fk_213 (Or.inl rfl) lf_X6_230 dX6_readMagic_20 ?_
  refine aw_aload_n dX6_readMagic_23 rfl rfl ?_
  refine aw_invVv (M := MX6_readMagic) (ci := 6) [] rfl mo_X6_pass rfl lm_X6_100 li_X6_pass ls_X6_pass (by decide +kernel) dX6_readMagic_24 rfl (Nat.le_of_ble_eq_true rfl) (ACv.mono (fun σ5 h => ?_) h)
  refine aw_aload_n dX6_readMagic_27 rfl rfl ?_
  refine aw_invVi (M := MX6_readMagic) (ci := 6) [] rfl mo_X6_takeOwnName rfl lm_X6_237 li_X6_takeOwnName ls_X6_takeOwnName (by decide +kernel) dX6_readMagic_28 rfl (Nat.le_of_ble_eq_true rfl) (ACi.mono (fun v7 σ6 h => ?_) h)
  refine aw_if_eq (tgt := 43) dX6_readMagic_31 (by decide) (fun k8 => ?_) (fun k8 => ?_)
  · replace h := h.1 k8
    refine aw_iconst (x := 0) dX6_readMagic_43 rfl ?_
    exact aw_zreturn dX6_readMagic_44 rfl (Or.inl rfl) h
  · replace h := h.2 k8
    refine aw_aload_n dX6_readMagic_34 rfl rfl ?_
    refine aw_bipush (x := 61) dX6_readMagic_35 rfl ?_
    refine aw_invVi (M := MX6_readMagic) (ci := 6) [vI 61] rfl mo_X6_take rfl lm_X6_116 li_X6_take ls_X6_take (by decide +kernel) dX6_readMagic_37 rfl (Nat.le_of_ble_eq_true rfl) (ACi.mono (fun v10 σ9 h => ?_) h)
    refine aw_if_ne (tgt := 45) dX6_readMagic_40 (by decide) (fun k11 => ?_) (fun k11 => ?_)
    · replace h := h.1 k11
      refine aw_iconst (x := 1) dX6_readMagic_45 rfl ?_
      refine aw_istore_n (L' := [some (vR 6 (some x0)), some (vI 1), none]) dX6_readMagic_46 rfl (by decide) rfl ?_
      refine aw_iconst (x := 0) dX6_readMagic_47 rfl ?_
      refine aw_istore_n (L' := [some (vR 6 (some x0)), some (vI 1), some (vI 0)]) dX6_readMagic_48 rfl (by decide) rfl ?_
      exact aw_fgt (L' := [some (vR 6 (some x0)), some (vI 1), some (vI 0)]) ⟨rfl, ⟨rfl, ⟨rfl, trivial⟩⟩⟩ h
    · replace h := h.2 k11
      refine aw_iconst (x := 0) dX6_readMagic_43 rfl ?_
      exact aw_zreturn dX6_readMagic_44 rfl (Or.inl rfl) h
set_option maxRecDepth 4000 in
theorem bk_X6_readMagic_49 {g : GP} {l : Launch} {d : Nat} {σ : St} {Q : Option AV → St → Prop} {x0 : Nat} {x1 : Int} {x2 : Int}
    (h : ((16 < x2 → Q (some (vI 1)) σ) ∧ (¬ 16 < x2 → ((x1 = 0 → Q (some (vI 1)) σ) ∧ (¬ x1 = 0 → ACi g l d MX6_readByte [vR 6 (some x0)] σ (fun v4 σ3 => ((¬ v4 = 0 → (((gI σ3 604 x0 0) = 3 → R32 (x2 + 1) ∧ AW g l (d + 1) MX6_readMagic 49 [some (vR 6 (some x0)), some (vI 1), some (vI (x2 + 1))] [] σ3 Q) ∧ (¬ (gI σ3 604 x0 0) = 3 → ((¬ (gI σ3 604 x0 0) = 42 → R32 (x2 + 1) ∧ AW g l (d + 1) MX6_readMagic 49 [some (vR 6 (some x0)), some (vI 0), some (vI (x2 + 1))] [] σ3 Q) ∧ ((gI σ3 604 x0 0) = 42 → R32 (x2 + 1) ∧ AW g l (d + 1) MX6_readMagic 49 [some (vR 6 (some x0)), some (vI 1), some (vI (x2 + 1))] [] σ3 Q))))) ∧ (v4 = 0 → Q (some (vI 0)) σ3)))))))) :
    AW g l (d + 1) MX6_readMagic 49 [some (vR 6 (some x0)), some (vI x1), some (vI x2)] [] σ Q := by
  refine aw_iload_n dX6_readMagic_49 rfl rfl ?_
  refine aw_bipush (x := 16) dX6_readMagic_50 rfl ?_
  refine aw_icmp_gt (tgt := 97) dX6_readMagic_52 (by decide) (fun k1 => ?_) (fun k1 => ?_)
  · replace h := h.1 k1
    refine aw_iconst (x := 1) dX6_readMagic_97 rfl ?_
    exact aw_zreturn dX6_readMagic_98 rfl (Or.inr rfl) h
  · replace h := h.2 k1
    refine aw_iload_n dX6_readMagic_55 rfl rfl ?_
    refine aw_if_eq (tgt := 97) dX6_readMagic_56 (by decide) (fun k2 => ?_) (fun k2 => ?_)
    · replace h := h.1 k2
      refine aw_iconst (x := 1) dX6_readMagic_97 rfl ?_
      exact aw_zreturn dX6_readMagic_98 rfl (Or.inr rfl) h
    · replace h := h.2 k2
      refine aw_aload_n dX6_readMagic_59 rfl rfl ?_
      refine aw_invVi (M := MX6_readMagic) (ci := 6) [] rfl mo_X6_readByte rfl lm_X6_293 li_X6_readByte ls_X6_readByte (by decide +kernel) dX6_readMagic_60 rfl (Nat.le_of_ble_eq_true rfl) (ACi.mono (fun v4 σ3 h => ?_) h)
      refine aw_if_ne (tgt := 68) dX6_readMagic_63 (by decide) (fun k5 => ?_) (fun k5 => ?_)
      · replace h := h.1 k5
        refine aw_aload_n dX6_readMagic_68 rfl rfl ?_
        refine aw_getI' rfl fk_604 lf_X6_24 dX6_readMagic_69 ?_
        refine aw_iconst (x := 3) dX6_readMagic_72 rfl ?_
        refine aw_icmp_eq (tgt := 85) dX6_readMagic_73 (by decide) (fun k6 => ?_) (fun k6 => ?_)
        · replace h := h.1 k6
          refine aw_iconst (x := 1) dX6_readMagic_85 rfl ?_
          refine aw_goto (tgt := 90) dX6_readMagic_86 (by decide) ?_
          refine aw_istore_n (L' := [some (vR 6 (some x0)), some (vI 1), some (vI x2)]) dX6_readMagic_90 rfl (by decide) rfl ?_
          obtain ⟨⟨c7, c7x⟩, h⟩ := h
          refine aw_iincc (L' := [some (vR 6 (some x0)), some (vI 1), some (vI (x2 + 1))]) dX6_readMagic_91 rfl (by decide) rfl c7 c7x rfl ?_
          refine aw_goto (tgt := 49) dX6_readMagic_94 (by decide) ?_
          exact aw_fgt (L' := [some (vR 6 (some x0)), some (vI 1), some (vI (x2 + 1))]) ⟨rfl, ⟨rfl, ⟨rfl, trivial⟩⟩⟩ h
        · replace h := h.2 k6
          refine aw_aload_n dX6_readMagic_76 rfl rfl ?_
          refine aw_getI' rfl fk_604 lf_X6_24 dX6_readMagic_77 ?_
          refine aw_bipush (x := 42) dX6_readMagic_80 rfl ?_
          refine aw_icmp_ne (tgt := 89) dX6_readMagic_82 (by decide) (fun k8 => ?_) (fun k8 => ?_)
          · replace h := h.1 k8
            refine aw_iconst (x := 0) dX6_readMagic_89 rfl ?_
            refine aw_istore_n (L' := [some (vR 6 (some x0)), some (vI 0), some (vI x2)]) dX6_readMagic_90 rfl (by decide) rfl ?_
            obtain ⟨⟨c9, c9x⟩, h⟩ := h
            refine aw_iincc (L' := [some (vR 6 (some x0)), some (vI 0), some (vI (x2 + 1))]) dX6_readMagic_91 rfl (by decide) rfl c9 c9x rfl ?_
            refine aw_goto (tgt := 49) dX6_readMagic_94 (by decide) ?_
            exact aw_fgt (L' := [some (vR 6 (some x0)), some (vI 0), some (vI (x2 + 1))]) ⟨rfl, ⟨rfl, ⟨rfl, trivial⟩⟩⟩ h
          · replace h := h.2 k8
            refine aw_iconst (x := 1) dX6_readMagic_85 rfl ?_
            refine aw_goto (tgt := 90) dX6_readMagic_86 (by decide) ?_
            refine aw_istore_n (L' := [some (vR 6 (some x0)), some (vI 1), some (vI x2)]) dX6_readMagic_90 rfl (by decide) rfl ?_
            obtain ⟨⟨c10, c10x⟩, h⟩ := h
            refine aw_iincc (L' := [some (vR 6 (some x0)), some (vI 1), some (vI (x2 + 1))]) dX6_readMagic_91 rfl (by decide) rfl c10 c10x rfl ?_
            refine aw_goto (tgt := 49) dX6_readMagic_94 (by decide) ?_
            exact aw_fgt (L' := [some (vR 6 (some x0)), some (vI 1), some (vI (x2 + 1))]) ⟨rfl, ⟨rfl, ⟨rfl, trivial⟩⟩⟩ h
      · replace h := h.2 k5
        refine aw_iconst (x := 0) dX6_readMagic_66 rfl ?_
        exact aw_zreturn dX6_readMagic_67 rfl (Or.inl rfl) h
set_option maxRecDepth 4000 in
theorem bk_X6_readPad_0 {g : GP} {l : Launch} {d : Nat} {σ : St} {Q : Option AV → St → Prop} {x0 : Nat}
    (h : ∃ r1, gR σ 609 x0 0 = some r1 ∧ ACv g l d MX6_pass [vR 6 (some x0)] (sI σ 201 r1 0 8) (fun σ3 => ∃ r4, gR σ3 609 x0 0 = some r4 ∧ ACi g l d MX6_takeNumber [vR 6 (some x0), vJ 1, vJ 64] (sJ σ3 211 r4 0 (gJ σ3 605 x0 0)) (fun v7 σ6 => ((v7 = 0 ∨ v7 = 1) ∧ Q (some (vI v7)) σ6)))) :
    AW g l (d + 1) MX6_readPad 0 [some (vR 6 (some x0))] [] σ Q := by
  refine aw_aload_n dX6_readPad_0 rfl rfl ?_
  refine aw_getR' (ci := 2) rfl fk_609 (by decide +kernel) lf_X6_106 dX6_readPad_1 ?_
  refine aw_bipush (x := 8) dX6_readPad_4 rfl ?_
  obtain ⟨r1, e2, h⟩ := h
  refine aw_putI' e2 fk_201 (Or.inl rfl) lf_X6_229 dX6_readPad_6 ?_
  refine aw_aload_n dX6_readPad_9 rfl rfl ?_
  refine aw_invVv (M := MX6_readPad) (ci := 6) [] rfl mo_X6_pass rfl lm_X6_100 li_X6_pass ls_X6_pass (by decide +kernel) dX6_readPad_10 rfl (Nat.le_of_ble_eq_true rfl) (ACv.mono (fun σ3 h => ?_) h)
  refine aw_aload_n dX6_readPad_13 rfl rfl ?_
  refine aw_getR' (ci := 2) rfl fk_609 (by decide +kernel) lf_X6_106 dX6_readPad_14 ?_
  refine aw_aload_n dX6_readPad_17 rfl rfl ?_
  refine aw_getJ' rfl fk_605 lf_X6_90 dX6_readPad_18 ?_
  obtain ⟨r4, e5, h⟩ := h
  refine aw_putJ' e5 fk_211 (Or.inl rfl) lf_X6_276 dX6_readPad_21 ?_
  refine aw_aload_n dX6_readPad_24 rfl rfl ?_
  refine aw_lconst (x := 1) dX6_readPad_25 rfl ?_
  refine aw_ldc2 lk_X6_291 dX6_readPad_26 ?_
  refine aw_invVi (M := MX6_readPad) (ci := 6) [vJ 1, vJ 64] rfl mo_X6_takeNumber rfl lm_X6_270 li_X6_takeNumber ls_X6_takeNumber (by decide +kernel) dX6_readPad_29 rfl (Nat.le_of_ble_eq_true rfl) (ACi.mono (fun v7 σ6 h => ?_) h)
  exact aw_zreturn dX6_readPad_32 rfl h.1 h.2
set_option maxRecDepth 4000 in
theorem bk_X6_readPair_0 {g : GP} {l : Launch} {d : Nat} {σ : St} {Q : Option AV → St → Prop} {x0 : Nat} {x1 : Int}
    (h : ∃ r1, gR σ 606 x0 0 = some r1 ∧ LC 1 σ r1 ∧ Bd x1 8 ∧ ACi g l d MX1_entryNamed [vR 1 (some r1), vI (gI σ 103 r1 x1.toNat), vI (gI σ 104 r1 x1.toNat), vJ (gJ σ 605 x0 0)] σ (fun v6 σ5 => ((¬ (gI σ5 604 x0 0) = 2 → AW g l (d + 1) MX6_readPair 47 [some (vR 6 (some x0)), some (vI x1), some (vJ (gJ σ 605 x0 0)), none, some (vI v6)] [vI 0, vR 6 (some x0)] σ5 Q) ∧ ((gI σ5 604 x0 0) = 2 → AW g l (d + 1) MX6_readPair 47 [some (vR 6 (some x0)), some (vI x1), some (vJ (gJ σ 605 x0 0)), none, some (vI v6)] [vI 1, vR 6 (some x0)] σ5 Q)))) :
    AW g l (d + 1) MX6_readPair 0 [some (vR 6 (some x0)), some (vI x1), none, none, none] [] σ Q := by
  refine aw_aload_n dX6_readPair_0 rfl rfl ?_
  refine aw_getJ' rfl fk_605 lf_X6_90 dX6_readPair_1 ?_
  refine aw_lstore_n (L' := [some (vR 6 (some x0)), some (vI x1), some (vJ (gJ σ 605 x0 0)), none, none]) dX6_readPair_4 rfl (by decide) rfl ?_
  refine aw_aload_n dX6_readPair_5 rfl rfl ?_
  refine aw_getR' (ci := 1) rfl fk_606 (by decide +kernel) lf_X6_66 dX6_readPair_6 ?_
  refine aw_aload_n dX6_readPair_9 rfl rfl ?_
  refine aw_getR' (ci := 1) rfl fk_606 (by decide +kernel) lf_X6_66 dX6_readPair_10 ?_
  obtain ⟨r1, e2, h⟩ := h
  obtain ⟨lc3, h⟩ := h
  refine aw_getA' e2 fk_103 (by decide) lf_X6_136 dX6_readPair_13 (LC.ne lc3 rfl rfl) ?_
  refine aw_iload_n dX6_readPair_16 rfl rfl ?_
  obtain ⟨⟨c4, c4x⟩, h⟩ := h
  refine aw_iaload (by decide) rfl dX6_readPair_17 c4 (LC.lt lc3 rfl rfl c4x) ?_
  refine aw_aload_n dX6_readPair_18 rfl rfl ?_
  refine aw_getR' (ci := 1) rfl fk_606 (by decide +kernel) lf_X6_66 dX6_readPair_19 ?_
  refine aw_getA' e2 fk_104 (by decide) lf_X6_142 dX6_readPair_22 (LC.ne lc3 rfl rfl) ?_
  refine aw_iload_n dX6_readPair_25 rfl rfl ?_
  refine aw_iaload (by decide) rfl dX6_readPair_26 c4 (LC.lt lc3 rfl rfl c4x) ?_
  refine aw_lload_n dX6_readPair_27 rfl rfl ?_
  refine aw_invVi (M := MX6_readPair) (ci := 1) [vI (gI σ 103 r1 x1.toNat), vI (gI σ 104 r1 x1.toNat), vJ (gJ σ 605 x0 0)] e2 mo_X1_entryNamed rfl lm_X6_151 li_X1_entryNamed ls_X1_entryNamed (by decide +kernel) dX6_readPair_28 rfl (Nat.le_of_ble_eq_true rfl) (ACi.mono (fun v6 σ5 h => ?_) h)
  refine aw_istore (L' := [some (vR 6 (some x0)), some (vI x1), some (vJ (gJ σ 605 x0 0)), none, some (vI v6)]) dX6_readPair_31 (by decide) rfl ?_
  refine aw_aload_n dX6_readPair_33 rfl rfl ?_
  refine aw_aload_n dX6_readPair_34 rfl rfl ?_
  refine aw_getI' rfl fk_604 lf_X6_24 dX6_readPair_35 ?_
  refine aw_iconst (x := 2) dX6_readPair_38 rfl ?_
  refine aw_icmp_ne (tgt := 46) dX6_readPair_39 (by decide) (fun k7 => ?_) (fun k7 => ?_)
  · replace h := h.1 k7
    refine aw_iconst (x := 0) dX6_readPair_46 rfl ?_
    exact aw_fgt (L' := [some (vR 6 (some x0)), some (vI x1), some (vJ (gJ σ 605 x0 0)), none, some (vI v6)]) ⟨rfl, ⟨rfl, ⟨rfl, ⟨rfl, trivial⟩⟩⟩⟩ h
  · replace h := h.2 k7
    refine aw_iconst (x := 1) dX6_readPair_42 rfl ?_
    refine aw_goto (tgt := 47) dX6_readPair_43 (by decide) ?_
    exact aw_fgt (L' := [some (vR 6 (some x0)), some (vI x1), some (vJ (gJ σ 605 x0 0)), none, some (vI v6)]) ⟨rfl, ⟨rfl, ⟨rfl, ⟨rfl, trivial⟩⟩⟩⟩ h
set_option maxRecDepth 4000 in
theorem bk_X6_readPair_47 {g : GP} {l : Launch} {d : Nat} {σ : St} {Q : Option AV → St → Prop} {x0 : Nat} {x1 : Int} {x2 : Int64} {x4 : Int} {y0 : Int} {y1 : Option Nat}
    (h : ∃ r1, y1 = some r1 ∧ ACi g l d MX6_check [vR 6 (some r1), vI y0, vI 2] σ (fun v4 σ3 => ((v4 = 0 → Q (some (vI 0)) σ3) ∧ (¬ v4 = 0 → ((¬ x4 = (-1) → AW g l (d + 1) MX6_readPair 66 [some (vR 6 (some x0)), some (vI x1), some (vJ x2), none, none] [vI 0, vR 6 (some x0)] σ3 Q) ∧ (x4 = (-1) → AW g l (d + 1) MX6_readPair 66 [some (vR 6 (some x0)), some (vI x1), some (vJ x2), none, none] [vI 1, vR 6 (some x0)] σ3 Q)))))) :
    AW g l (d + 1) MX6_readPair 47 [some (vR 6 (some x0)), some (vI x1), some (vJ x2), none, some (vI x4)] [vI y0, vR 6 y1] σ Q := by
  refine aw_iconst (x := 2) dX6_readPair_47 rfl ?_
  obtain ⟨r1, e2, h⟩ := h
  refine aw_invVi (M := MX6_readPair) (ci := 6) [vI y0, vI 2] e2 mo_X6_check rfl lm_X6_28 li_X6_check ls_X6_check (by decide +kernel) dX6_readPair_48 rfl (Nat.le_of_ble_eq_true rfl) (ACi.mono (fun v4 σ3 h => ?_) h)
  refine aw_if_eq (tgt := 100) dX6_readPair_51 (by decide) (fun k5 => ?_) (fun k5 => ?_)
  · replace h := h.1 k5
    refine aw_iconst (x := 0) dX6_readPair_100 rfl ?_
    exact aw_zreturn dX6_readPair_101 rfl (Or.inl rfl) h
  · replace h := h.2 k5
    refine aw_aload_n dX6_readPair_54 rfl rfl ?_
    refine aw_iload dX6_readPair_55 rfl ?_
    refine aw_iconst (x := (-1)) dX6_readPair_57 rfl ?_
    refine aw_icmp_ne (tgt := 65) dX6_readPair_58 (by decide) (fun k6 => ?_) (fun k6 => ?_)
    · replace h := h.1 k6
      refine aw_iconst (x := 0) dX6_readPair_65 rfl ?_
      exact aw_fgt (L' := [some (vR 6 (some x0)), some (vI x1), some (vJ x2), none, none]) ⟨rfl, ⟨rfl, ⟨rfl, trivial⟩⟩⟩ h
    · replace h := h.2 k6
      refine aw_iconst (x := 1) dX6_readPair_61 rfl ?_
      refine aw_goto (tgt := 66) dX6_readPair_62 (by decide) ?_
      exact aw_fgt (L' := [some (vR 6 (some x0)), some (vI x1), some (vJ x2), none, none]) ⟨rfl, ⟨rfl, ⟨rfl, trivial⟩⟩⟩ h
set_option maxRecDepth 4000 in
theorem bk_X6_readPair_66 {g : GP} {l : Launch} {d : Nat} {σ : St} {Q : Option AV → St → Prop} {x0 : Nat} {x1 : Int} {x2 : Int64} {y0 : Int} {y1 : Option Nat}
    (h : ∃ r1, y1 = some r1 ∧ ACi g l d MX6_check [vR 6 (some r1), vI y0, vI 3] σ (fun v4 σ3 => ((v4 = 0 → Q (some (vI 0)) σ3) ∧ (¬ v4 = 0 → ∃ r6, gR σ3 606 x0 0 = some r6 ∧ LC 1 σ3 r6 ∧ Bd x1 8 ∧ ((10 ≤ (gI σ3 104 r6 x1.toNat) → AW g l (d + 1) MX6_readPair 93 [some (vR 6 (some x0)), some (vI x1), some (vJ x2), none, none] [vI 0, vR 6 (some x0)] σ3 Q) ∧ (¬ 10 ≤ (gI σ3 104 r6 x1.toNat) → AW g l (d + 1) MX6_readPair 93 [some (vR 6 (some x0)), some (vI x1), some (vJ x2), none, none] [vI 1, vR 6 (some x0)] σ3 Q)))))) :
    AW g l (d + 1) MX6_readPair 66 [some (vR 6 (some x0)), some (vI x1), some (vJ x2), none, none] [vI y0, vR 6 y1] σ Q := by
  refine aw_iconst (x := 3) dX6_readPair_66 rfl ?_
  obtain ⟨r1, e2, h⟩ := h
  refine aw_invVi (M := MX6_readPair) (ci := 6) [vI y0, vI 3] e2 mo_X6_check rfl lm_X6_28 li_X6_check ls_X6_check (by decide +kernel) dX6_readPair_67 rfl (Nat.le_of_ble_eq_true rfl) (ACi.mono (fun v4 σ3 h => ?_) h)
  refine aw_if_eq (tgt := 100) dX6_readPair_70 (by decide) (fun k5 => ?_) (fun k5 => ?_)
  · replace h := h.1 k5
    refine aw_iconst (x := 0) dX6_readPair_100 rfl ?_
    exact aw_zreturn dX6_readPair_101 rfl (Or.inl rfl) h
  · replace h := h.2 k5
    refine aw_aload_n dX6_readPair_73 rfl rfl ?_
    refine aw_aload_n dX6_readPair_74 rfl rfl ?_
    refine aw_getR' (ci := 1) rfl fk_606 (by decide +kernel) lf_X6_66 dX6_readPair_75 ?_
    obtain ⟨r6, e7, h⟩ := h
    obtain ⟨lc8, h⟩ := h
    refine aw_getA' e7 fk_104 (by decide) lf_X6_142 dX6_readPair_78 (LC.ne lc8 rfl rfl) ?_
    refine aw_iload_n dX6_readPair_81 rfl rfl ?_
    obtain ⟨⟨c9, c9x⟩, h⟩ := h
    refine aw_iaload (by decide) rfl dX6_readPair_82 c9 (LC.lt lc8 rfl rfl c9x) ?_
    refine aw_bipush (x := 10) dX6_readPair_83 rfl ?_
    refine aw_icmp_ge (tgt := 92) dX6_readPair_85 (by decide) (fun k10 => ?_) (fun k10 => ?_)
    · replace h := h.1 k10
      refine aw_iconst (x := 0) dX6_readPair_92 rfl ?_
      exact aw_fgt (L' := [some (vR 6 (some x0)), some (vI x1), some (vJ x2), none, none]) ⟨rfl, ⟨rfl, ⟨rfl, trivial⟩⟩⟩ h
    · replace h := h.2 k10
      refine aw_iconst (x := 1) dX6_readPair_88 rfl ?_
      refine aw_goto (tgt := 93) dX6_readPair_89 (by decide) ?_
      exact aw_fgt (L' := [some (vR 6 (some x0)), some (vI x1), some (vJ x2), none, none]) ⟨rfl, ⟨rfl, ⟨rfl, trivial⟩⟩⟩ h
set_option maxRecDepth 4000 in
theorem bk_X6_readPair_93 {g : GP} {l : Launch} {d : Nat} {σ : St} {Q : Option AV → St → Prop} {x0 : Nat} {x1 : Int} {x2 : Int64} {y0 : Int} {y1 : Option Nat}
    (h : ∃ r1, y1 = some r1 ∧ ACi g l d MX6_check [vR 6 (some r1), vI y0, vI 5] σ (fun v4 σ3 => ((¬ v4 = 0 → ACv g l d MX6_pass [vR 6 (some x0)] σ3 (fun σ6 => ACi g l d MX6_take [vR 6 (some x0), vI 61] σ6 (fun v8 σ7 => ((v8 = 0 → Q (some (vI 0)) σ7) ∧ (¬ v8 = 0 → ACi g l d MX6_takeSigned [vR 6 (some x0)] σ7 (fun v11 σ10 => ((¬ v11 = 0 → ∃ r13, gR σ10 606 x0 0 = some r13 ∧ ACv g l d MX1_addEntry [vR 1 (some r13), vJ x2, vJ (gJ σ10 610 x0 0), vI 0] σ10 (fun σ15 => ∃ r16, gR σ15 606 x0 0 = some r16 ∧ LC 1 σ15 r16 ∧ Bd x1 8 ∧ R32 ((gI σ15 104 r16 x1.toNat) + 1) ∧ Q (some (vI 1)) (sI σ15 104 r16 x1.toNat ((gI σ15 104 r16 x1.toNat) + 1)))) ∧ (v11 = 0 → Q (some (vI 0)) σ10)))))))) ∧ (v4 = 0 → Q (some (vI 0)) σ3)))) :
    AW g l (d + 1) MX6_readPair 93 [some (vR 6 (some x0)), some (vI x1), some (vJ x2), none, none] [vI y0, vR 6 y1] σ Q := by
  refine aw_iconst (x := 5) dX6_readPair_93 rfl ?_
  obtain ⟨r1, e2, h⟩ := h
  refine aw_invVi (M := MX6_readPair) (ci := 6) [vI y0, vI 5] e2 mo_X6_check rfl lm_X6_28 li_X6_check ls_X6_check (by decide +kernel) dX6_readPair_94 rfl (Nat.le_of_ble_eq_true rfl) (ACi.mono (fun v4 σ3 h => ?_) h)
  refine aw_if_ne (tgt := 102) dX6_readPair_97 (by decide) (fun k5 => ?_) (fun k5 => ?_)
  · replace h := h.1 k5
    refine aw_aload_n dX6_readPair_102 rfl rfl ?_
    refine aw_invVv (M := MX6_readPair) (ci := 6) [] rfl mo_X6_pass rfl lm_X6_100 li_X6_pass ls_X6_pass (by decide +kernel) dX6_readPair_103 rfl (Nat.le_of_ble_eq_true rfl) (ACv.mono (fun σ6 h => ?_) h)
    refine aw_aload_n dX6_readPair_106 rfl rfl ?_
    refine aw_bipush (x := 61) dX6_readPair_107 rfl ?_
    refine aw_invVi (M := MX6_readPair) (ci := 6) [vI 61] rfl mo_X6_take rfl lm_X6_116 li_X6_take ls_X6_take (by decide +kernel) dX6_readPair_109 rfl (Nat.le_of_ble_eq_true rfl) (ACi.mono (fun v8 σ7 h => ?_) h)
    refine aw_if_eq (tgt := 122) dX6_readPair_112 (by decide) (fun k9 => ?_) (fun k9 => ?_)
    · replace h := h.1 k9
      refine aw_iconst (x := 0) dX6_readPair_122 rfl ?_
      exact aw_zreturn dX6_readPair_123 rfl (Or.inl rfl) h
    · replace h := h.2 k9
      refine aw_aload_n dX6_readPair_115 rfl rfl ?_
      refine aw_invVi (M := MX6_readPair) (ci := 6) [] rfl mo_X6_takeSigned rfl lm_X6_155 li_X6_takeSigned ls_X6_takeSigned (by decide +kernel) dX6_readPair_116 rfl (Nat.le_of_ble_eq_true rfl) (ACi.mono (fun v11 σ10 h => ?_) h)
      refine aw_if_ne (tgt := 124) dX6_readPair_119 (by decide) (fun k12 => ?_) (fun k12 => ?_)
      · replace h := h.1 k12
        refine aw_aload_n dX6_readPair_124 rfl rfl ?_
        refine aw_getR' (ci := 1) rfl fk_606 (by decide +kernel) lf_X6_66 dX6_readPair_125 ?_
        refine aw_lload_n dX6_readPair_128 rfl rfl ?_
        refine aw_aload_n dX6_readPair_129 rfl rfl ?_
        refine aw_getJ' rfl fk_610 lf_X6_103 dX6_readPair_130 ?_
        refine aw_iconst (x := 0) dX6_readPair_133 rfl ?_
        obtain ⟨r13, e14, h⟩ := h
        refine aw_invVv (M := MX6_readPair) (ci := 1) [vJ x2, vJ (gJ σ10 610 x0 0), vI 0] e14 mo_X1_addEntry rfl lm_X6_158 li_X1_addEntry ls_X1_addEntry (by decide +kernel) dX6_readPair_134 rfl (Nat.le_of_ble_eq_true rfl) (ACv.mono (fun σ15 h => ?_) h)
        refine aw_aload_n dX6_readPair_137 rfl rfl ?_
        refine aw_getR' (ci := 1) rfl fk_606 (by decide +kernel) lf_X6_66 dX6_readPair_138 ?_
        obtain ⟨r16, e17, h⟩ := h
        obtain ⟨lc18, h⟩ := h
        refine aw_getA' e17 fk_104 (by decide) lf_X6_142 dX6_readPair_141 (LC.ne lc18 rfl rfl) ?_
        refine aw_iload_n dX6_readPair_144 rfl rfl ?_
        refine aw_dup2 dX6_readPair_145 rfl rfl ?_
        obtain ⟨⟨c19, c19x⟩, h⟩ := h
        refine aw_iaload (by decide) rfl dX6_readPair_146 c19 (LC.lt lc18 rfl rfl c19x) ?_
        refine aw_iconst (x := 1) dX6_readPair_147 rfl ?_
        obtain ⟨⟨c20, c20x⟩, h⟩ := h
        refine aw_iaddc dX6_readPair_148 c20 c20x ?_
        refine aw_iastore (by decide) rfl dX6_readPair_149 c19 (LC.lt lc18 rfl rfl c19x) ?_
        refine aw_iconst (x := 1) dX6_readPair_150 rfl ?_
        exact aw_zreturn dX6_readPair_151 rfl (Or.inr rfl) h
      · replace h := h.2 k12
        refine aw_iconst (x := 0) dX6_readPair_122 rfl ?_
        exact aw_zreturn dX6_readPair_123 rfl (Or.inl rfl) h
  · replace h := h.2 k5
    refine aw_iconst (x := 0) dX6_readPair_100 rfl ?_
    exact aw_zreturn dX6_readPair_101 rfl (Or.inl rfl) h
set_option maxRecDepth 4000 in
theorem bk_X6_readPart_0 {g : GP} {l : Launch} {d : Nat} {σ : St} {Q : Option AV → St → Prop} {x0 : Nat} {x1 : Int}
    (h : ((¬ (gI σ 604 x0 0) = 2 → AW g l (d + 1) MX6_readPart 19 [some (vR 6 (some x0)), some (vI x1), some (vJ (gJ σ 605 x0 0)), none] [vI 0, vR 6 (some x0)] σ Q) ∧ ((gI σ 604 x0 0) = 2 → AW g l (d + 1) MX6_readPart 19 [some (vR 6 (some x0)), some (vI x1), some (vJ (gJ σ 605 x0 0)), none] [vI 1, vR 6 (some x0)] σ Q))) :
    AW g l (d + 1) MX6_readPart 0 [some (vR 6 (some x0)), some (vI x1), none, none] [] σ Q := by
  refine aw_aload_n dX6_readPart_0 rfl rfl ?_
  refine aw_getJ' rfl fk_605 lf_X6_90 dX6_readPart_1 ?_
  refine aw_lstore_n (L' := [some (vR 6 (some x0)), some (vI x1), some (vJ (gJ σ 605 x0 0)), none]) dX6_readPart_4 rfl (by decide) rfl ?_
  refine aw_aload_n dX6_readPart_5 rfl rfl ?_
  refine aw_aload_n dX6_readPart_6 rfl rfl ?_
  refine aw_getI' rfl fk_604 lf_X6_24 dX6_readPart_7 ?_
  refine aw_iconst (x := 2) dX6_readPart_10 rfl ?_
  refine aw_icmp_ne (tgt := 18) dX6_readPart_11 (by decide) (fun k1 => ?_) (fun k1 => ?_)
  · replace h := h.1 k1
    refine aw_iconst (x := 0) dX6_readPart_18 rfl ?_
    exact aw_fgt (L' := [some (vR 6 (some x0)), some (vI x1), some (vJ (gJ σ 605 x0 0)), none]) ⟨rfl, ⟨rfl, ⟨rfl, trivial⟩⟩⟩ h
  · replace h := h.2 k1
    refine aw_iconst (x := 1) dX6_readPart_14 rfl ?_
    refine aw_goto (tgt := 19) dX6_readPart_15 (by decide) ?_
    exact aw_fgt (L' := [some (vR 6 (some x0)), some (vI x1), some (vJ (gJ σ 605 x0 0)), none]) ⟨rfl, ⟨rfl, ⟨rfl, trivial⟩⟩⟩ h
set_option maxRecDepth 4000 in
theorem bk_X6_readPart_19 {g : GP} {l : Launch} {d : Nat} {σ : St} {Q : Option AV → St → Prop} {x0 : Nat} {x1 : Int} {x2 : Int64} {y0 : Int} {y1 : Option Nat}
    (h : ∃ r1, y1 = some r1 ∧ ACi g l d MX6_check [vR 6 (some r1), vI y0, vI 2] σ (fun v4 σ3 => ((v4 = 0 → Q (some (vI 0)) σ3) ∧ (¬ v4 = 0 → ACi g l d MX6_isTold [vR 6 (some x0), vJ x2] σ3 (fun v7 σ6 => ((¬ v7 = 0 → AW g l (d + 1) MX6_readPart 40 [some (vR 6 (some x0)), some (vI x1), some (vJ x2), none] [vI 0, vR 6 (some x0)] σ6 Q) ∧ (v7 = 0 → AW g l (d + 1) MX6_readPart 40 [some (vR 6 (some x0)), some (vI x1), some (vJ x2), none] [vI 1, vR 6 (some x0)] σ6 Q))))))) :
    AW g l (d + 1) MX6_readPart 19 [some (vR 6 (some x0)), some (vI x1), some (vJ x2), none] [vI y0, vR 6 y1] σ Q := by
  refine aw_iconst (x := 2) dX6_readPart_19 rfl ?_
  obtain ⟨r1, e2, h⟩ := h
  refine aw_invVi (M := MX6_readPart) (ci := 6) [vI y0, vI 2] e2 mo_X6_check rfl lm_X6_28 li_X6_check ls_X6_check (by decide +kernel) dX6_readPart_20 rfl (Nat.le_of_ble_eq_true rfl) (ACi.mono (fun v4 σ3 h => ?_) h)
  refine aw_if_eq (tgt := 72) dX6_readPart_23 (by decide) (fun k5 => ?_) (fun k5 => ?_)
  · replace h := h.1 k5
    refine aw_iconst (x := 0) dX6_readPart_72 rfl ?_
    exact aw_zreturn dX6_readPart_73 rfl (Or.inl rfl) h
  · replace h := h.2 k5
    refine aw_aload_n dX6_readPart_26 rfl rfl ?_
    refine aw_aload_n dX6_readPart_27 rfl rfl ?_
    refine aw_lload_n dX6_readPart_28 rfl rfl ?_
    refine aw_invVi (M := MX6_readPart) (ci := 6) [vJ x2] rfl mo_X6_isTold rfl lm_X6_224 li_X6_isTold ls_X6_isTold (by decide +kernel) dX6_readPart_29 rfl (Nat.le_of_ble_eq_true rfl) (ACi.mono (fun v7 σ6 h => ?_) h)
    refine aw_if_ne (tgt := 39) dX6_readPart_32 (by decide) (fun k8 => ?_) (fun k8 => ?_)
    · replace h := h.1 k8
      refine aw_iconst (x := 0) dX6_readPart_39 rfl ?_
      exact aw_fgt (L' := [some (vR 6 (some x0)), some (vI x1), some (vJ x2), none]) ⟨rfl, ⟨rfl, ⟨rfl, trivial⟩⟩⟩ h
    · replace h := h.2 k8
      refine aw_iconst (x := 1) dX6_readPart_35 rfl ?_
      refine aw_goto (tgt := 40) dX6_readPart_36 (by decide) ?_
      exact aw_fgt (L' := [some (vR 6 (some x0)), some (vI x1), some (vJ x2), none]) ⟨rfl, ⟨rfl, ⟨rfl, trivial⟩⟩⟩ h
set_option maxRecDepth 4000 in
theorem bk_X6_readPart_40 {g : GP} {l : Launch} {d : Nat} {σ : St} {Q : Option AV → St → Prop} {x0 : Nat} {x1 : Int} {x2 : Int64} {y0 : Int} {y1 : Option Nat}
    (h : ∃ r1, y1 = some r1 ∧ ACi g l d MX6_check [vR 6 (some r1), vI y0, vI 3] σ (fun v4 σ3 => ((v4 = 0 → Q (some (vI 0)) σ3) ∧ (¬ v4 = 0 → ∃ r6, gR σ3 609 x0 0 = some r6 ∧ ((12 ≤ (gI σ3 214 r6 0) → AW g l (d + 1) MX6_readPart 65 [some (vR 6 (some x0)), some (vI x1), some (vJ x2), none] [vI 0, vR 6 (some x0)] σ3 Q) ∧ (¬ 12 ≤ (gI σ3 214 r6 0) → AW g l (d + 1) MX6_readPart 65 [some (vR 6 (some x0)), some (vI x1), some (vJ x2), none] [vI 1, vR 6 (some x0)] σ3 Q)))))) :
    AW g l (d + 1) MX6_readPart 40 [some (vR 6 (some x0)), some (vI x1), some (vJ x2), none] [vI y0, vR 6 y1] σ Q := by
  refine aw_iconst (x := 3) dX6_readPart_40 rfl ?_
  obtain ⟨r1, e2, h⟩ := h
  refine aw_invVi (M := MX6_readPart) (ci := 6) [vI y0, vI 3] e2 mo_X6_check rfl lm_X6_28 li_X6_check ls_X6_check (by decide +kernel) dX6_readPart_41 rfl (Nat.le_of_ble_eq_true rfl) (ACi.mono (fun v4 σ3 h => ?_) h)
  refine aw_if_eq (tgt := 72) dX6_readPart_44 (by decide) (fun k5 => ?_) (fun k5 => ?_)
  · replace h := h.1 k5
    refine aw_iconst (x := 0) dX6_readPart_72 rfl ?_
    exact aw_zreturn dX6_readPart_73 rfl (Or.inl rfl) h
  · replace h := h.2 k5
    refine aw_aload_n dX6_readPart_47 rfl rfl ?_
    refine aw_aload_n dX6_readPart_48 rfl rfl ?_
    refine aw_getR' (ci := 2) rfl fk_609 (by decide +kernel) lf_X6_106 dX6_readPart_49 ?_
    obtain ⟨r6, e7, h⟩ := h
    refine aw_getI' e7 fk_214 lf_X6_233 dX6_readPart_52 ?_
    refine aw_bipush (x := 12) dX6_readPart_55 rfl ?_
    refine aw_icmp_ge (tgt := 64) dX6_readPart_57 (by decide) (fun k8 => ?_) (fun k8 => ?_)
    · replace h := h.1 k8
      refine aw_iconst (x := 0) dX6_readPart_64 rfl ?_
      exact aw_fgt (L' := [some (vR 6 (some x0)), some (vI x1), some (vJ x2), none]) ⟨rfl, ⟨rfl, ⟨rfl, trivial⟩⟩⟩ h
    · replace h := h.2 k8
      refine aw_iconst (x := 1) dX6_readPart_60 rfl ?_
      refine aw_goto (tgt := 65) dX6_readPart_61 (by decide) ?_
      exact aw_fgt (L' := [some (vR 6 (some x0)), some (vI x1), some (vJ x2), none]) ⟨rfl, ⟨rfl, ⟨rfl, trivial⟩⟩⟩ h
set_option maxRecDepth 4000 in
theorem bk_X6_readPart_65 {g : GP} {l : Launch} {d : Nat} {σ : St} {Q : Option AV → St → Prop} {x0 : Nat} {x1 : Int} {x2 : Int64} {y0 : Int} {y1 : Option Nat}
    (h : ∃ r1, y1 = some r1 ∧ ACi g l d MX6_check [vR 6 (some r1), vI y0, vI 5] σ (fun v4 σ3 => ((¬ v4 = 0 → ACv g l d MX6_pass [vR 6 (some x0)] σ3 (fun σ6 => ACi g l d MX6_take [vR 6 (some x0), vI 58] σ6 (fun v8 σ7 => ((v8 = 0 → Q (some (vI 0)) σ7) ∧ (¬ v8 = 0 → ∃ r10, gR σ7 609 x0 0 = some r10 ∧ R32 (8 * (gI σ7 203 r10 0)) ∧ R32 ((8 * (gI σ7 203 r10 0)) - x1) ∧ ACi g l d MJ9_min_7cf53 [vI 64, vI ((8 * (gI σ7 203 r10 0)) - x1)] σ7 (fun v15 σ14 => ACi g l d MX6_takeNumber [vR 6 (some x0), vJ 1, vJ (i2j v15)] σ14 (fun v17 σ16 => ((¬ v17 = 0 → ∃ r19, gR σ16 606 x0 0 = some r19 ∧ ACv g l d MX1_addEntry [vR 1 (some r19), vJ x2, vJ (gJ σ16 610 x0 0), vI x1] σ16 (fun σ21 => ∃ r22, gR σ21 609 x0 0 = some r22 ∧ R32 ((gI σ21 214 r22 0) + 1) ∧ Q (some (vI 1)) (sI σ21 214 r22 0 ((gI σ21 214 r22 0) + 1)))) ∧ (v17 = 0 → Q (some (vI 0)) σ16))))))))) ∧ (v4 = 0 → Q (some (vI 0)) σ3)))) :
    AW g l (d + 1) MX6_readPart 65 [some (vR 6 (some x0)), some (vI x1), some (vJ x2), none] [vI y0, vR 6 y1] σ Q := by
  refine aw_iconst (x := 5) dX6_readPart_65 rfl ?_
  obtain ⟨r1, e2, h⟩ := h
  refine aw_invVi (M := MX6_readPart) (ci := 6) [vI y0, vI 5] e2 mo_X6_check rfl lm_X6_28 li_X6_check ls_X6_check (by decide +kernel) dX6_readPart_66 rfl (Nat.le_of_ble_eq_true rfl) (ACi.mono (fun v4 σ3 h => ?_) h)
  refine aw_if_ne (tgt := 74) dX6_readPart_69 (by decide) (fun k5 => ?_) (fun k5 => ?_)
  · replace h := h.1 k5
    refine aw_aload_n dX6_readPart_74 rfl rfl ?_
    refine aw_invVv (M := MX6_readPart) (ci := 6) [] rfl mo_X6_pass rfl lm_X6_100 li_X6_pass ls_X6_pass (by decide +kernel) dX6_readPart_75 rfl (Nat.le_of_ble_eq_true rfl) (ACv.mono (fun σ6 h => ?_) h)
    refine aw_aload_n dX6_readPart_78 rfl rfl ?_
    refine aw_bipush (x := 58) dX6_readPart_79 rfl ?_
    refine aw_invVi (M := MX6_readPart) (ci := 6) [vI 58] rfl mo_X6_take rfl lm_X6_116 li_X6_take ls_X6_take (by decide +kernel) dX6_readPart_81 rfl (Nat.le_of_ble_eq_true rfl) (ACi.mono (fun v8 σ7 h => ?_) h)
    refine aw_if_eq (tgt := 113) dX6_readPart_84 (by decide) (fun k9 => ?_) (fun k9 => ?_)
    · replace h := h.1 k9
      refine aw_iconst (x := 0) dX6_readPart_113 rfl ?_
      exact aw_zreturn dX6_readPart_114 rfl (Or.inl rfl) h
    · replace h := h.2 k9
      refine aw_aload_n dX6_readPart_87 rfl rfl ?_
      refine aw_lconst (x := 1) dX6_readPart_88 rfl ?_
      refine aw_bipush (x := 64) dX6_readPart_89 rfl ?_
      refine aw_bipush (x := 8) dX6_readPart_91 rfl ?_
      refine aw_aload_n dX6_readPart_93 rfl rfl ?_
      refine aw_getR' (ci := 2) rfl fk_609 (by decide +kernel) lf_X6_106 dX6_readPart_94 ?_
      obtain ⟨r10, e11, h⟩ := h
      refine aw_getI' e11 fk_203 lf_X6_261 dX6_readPart_97 ?_
      obtain ⟨⟨c12, c12x⟩, h⟩ := h
      refine aw_imulc dX6_readPart_100 c12 c12x ?_
      refine aw_iload_n dX6_readPart_101 rfl rfl ?_
      obtain ⟨⟨c13, c13x⟩, h⟩ := h
      refine aw_isubc dX6_readPart_102 c13 c13x ?_
      refine aw_invSi (M := MX6_readPart) [vI 64, vI ((8 * (gI σ7 203 r10 0)) - x1)] mo_J9_min_7cf53 rfl lm_X6_264 lt_J9_min_7cf53 dX6_readPart_103 rfl (Nat.le_of_ble_eq_true rfl) (ACi.mono (fun v15 σ14 h => ?_) h)
      refine aw_i2l dX6_readPart_106 ?_
      refine aw_invVi (M := MX6_readPart) (ci := 6) [vJ 1, vJ (i2j v15)] rfl mo_X6_takeNumber rfl lm_X6_270 li_X6_takeNumber ls_X6_takeNumber (by decide +kernel) dX6_readPart_107 rfl (Nat.le_of_ble_eq_true rfl) (ACi.mono (fun v17 σ16 h => ?_) h)
      refine aw_if_ne (tgt := 115) dX6_readPart_110 (by decide) (fun k18 => ?_) (fun k18 => ?_)
      · replace h := h.1 k18
        refine aw_aload_n dX6_readPart_115 rfl rfl ?_
        refine aw_getR' (ci := 1) rfl fk_606 (by decide +kernel) lf_X6_66 dX6_readPart_116 ?_
        refine aw_lload_n dX6_readPart_119 rfl rfl ?_
        refine aw_aload_n dX6_readPart_120 rfl rfl ?_
        refine aw_getJ' rfl fk_610 lf_X6_103 dX6_readPart_121 ?_
        refine aw_iload_n dX6_readPart_124 rfl rfl ?_
        obtain ⟨r19, e20, h⟩ := h
        refine aw_invVv (M := MX6_readPart) (ci := 1) [vJ x2, vJ (gJ σ16 610 x0 0), vI x1] e20 mo_X1_addEntry rfl lm_X6_158 li_X1_addEntry ls_X1_addEntry (by decide +kernel) dX6_readPart_125 rfl (Nat.le_of_ble_eq_true rfl) (ACv.mono (fun σ21 h => ?_) h)
        refine aw_aload_n dX6_readPart_128 rfl rfl ?_
        refine aw_getR' (ci := 2) rfl fk_609 (by decide +kernel) lf_X6_106 dX6_readPart_129 ?_
        refine aw_dup dX6_readPart_132 rfl ?_
        obtain ⟨r22, e23, h⟩ := h
        refine aw_getI' e23 fk_214 lf_X6_233 dX6_readPart_133 ?_
        refine aw_iconst (x := 1) dX6_readPart_136 rfl ?_
        obtain ⟨⟨c24, c24x⟩, h⟩ := h
        refine aw_iaddc dX6_readPart_137 c24 c24x ?_
        refine aw_putI' e23 fk_214 (Or.inl rfl) lf_X6_233 dX6_readPart_138 ?_
        refine aw_iconst (x := 1) dX6_readPart_141 rfl ?_
        exact aw_zreturn dX6_readPart_142 rfl (Or.inr rfl) h
      · replace h := h.2 k18
        refine aw_iconst (x := 0) dX6_readPart_113 rfl ?_
        exact aw_zreturn dX6_readPart_114 rfl (Or.inl rfl) h
  · replace h := h.2 k5
    refine aw_iconst (x := 0) dX6_readPart_72 rfl ?_
    exact aw_zreturn dX6_readPart_73 rfl (Or.inl rfl) h
set_option maxRecDepth 4000 in
theorem bk_X6_readPointer_0 {g : GP} {l : Launch} {d : Nat} {σ : St} {Q : Option AV → St → Prop} {x0 : Nat}
    (h : ∃ r1, gR σ 609 x0 0 = some r1 ∧ ACv g l d MX6_pass [vR 6 (some x0)] (sJ (sI σ 201 r1 0 7) 211 r1 0 1) (fun σ3 => ∃ r4, gR σ3 609 x0 0 = some r4 ∧ ∃ r6, gR σ3 602 x0 0 = some r6 ∧ LC 9 σ3 r6 ∧ Bd (gI σ3 603 x0 0) 3001 ∧ ACi g l d MX6_take [vR 6 (some x0), vI 2] (sI (sJ σ3 215 r4 0 (gJ σ3 605 x0 0)) 216 r4 0 (gI σ3 903 r6 (gI σ3 603 x0 0).toNat)) (fun v11 σ10 => ((v11 = 0 → Q (some (vI 0)) σ10) ∧ (¬ v11 = 0 → ACi g l d MX6_takeOwnName [vR 6 (some x0)] σ10 (fun v14 σ13 => ((v14 = 0 → Q (some (vI 0)) σ13) ∧ (¬ v14 = 0 → ACi g l d MX6_take [vR 6 (some x0), vI 208] σ13 (fun v17 σ16 => ((v17 = 0 → Q (some (vI 0)) σ16) ∧ (¬ v17 = 0 → ACi g l d MX6_takeType [vR 6 (some x0)] σ16 (fun v20 σ19 => ((¬ v20 = 0 → ACi g l d MX6_takeIf [vR 6 (some x0), vI 211] σ19 (fun v23 σ22 => ((v23 = 0 → AW g l (d + 1) MX6_readPointer 119 [some (vR 6 (some x0))] [] σ22 Q) ∧ (¬ v23 = 0 → ACi g l d MX6_readExpression [vR 6 (some x0)] σ22 (fun v26 σ25 => ∃ r27, gR σ22 609 x0 0 = some r27 ∧ ∃ r29, gR σ25 609 x0 0 = some r29 ∧ ((¬ (gI (sI σ25 209 r27 0 v26) 209 r29 0) = (-1) → AW g l (d + 1) MX6_readPointer 119 [some (vR 6 (some x0))] [] (sI σ25 209 r27 0 v26) Q) ∧ ((gI (sI σ25 209 r27 0 v26) 209 r29 0) = (-1) → Q (some (vI 0)) (sI σ25 209 r27 0 v26)))))))) ∧ (v20 = 0 → Q (some (vI 0)) σ19)))))))))))))) :
    AW g l (d + 1) MX6_readPointer 0 [some (vR 6 (some x0))] [] σ Q := by
  refine aw_aload_n dX6_readPointer_0 rfl rfl ?_
  refine aw_getR' (ci := 2) rfl fk_609 (by decide +kernel) lf_X6_106 dX6_readPointer_1 ?_
  refine aw_bipush (x := 7) dX6_readPointer_4 rfl ?_
  obtain ⟨r1, e2, h⟩ := h
  refine aw_putI' e2 fk_201 (Or.inl rfl) lf_X6_229 dX6_readPointer_6 ?_
  refine aw_aload_n dX6_readPointer_9 rfl rfl ?_
  refine aw_getRe (ci := 2) (v := gR σ 609 x0 0) rfl fk_609 (by decide +kernel) lf_X6_106 dX6_readPointer_10 rfl ?_
  refine aw_lconst (x := 1) dX6_readPointer_13 rfl ?_
  refine aw_putJ' e2 fk_211 (Or.inl rfl) lf_X6_276 dX6_readPointer_14 ?_
  refine aw_aload_n dX6_readPointer_17 rfl rfl ?_
  refine aw_invVv (M := MX6_readPointer) (ci := 6) [] rfl mo_X6_pass rfl lm_X6_100 li_X6_pass ls_X6_pass (by decide +kernel) dX6_readPointer_18 rfl (Nat.le_of_ble_eq_true rfl) (ACv.mono (fun σ3 h => ?_) h)
  refine aw_aload_n dX6_readPointer_21 rfl rfl ?_
  refine aw_getR' (ci := 2) rfl fk_609 (by decide +kernel) lf_X6_106 dX6_readPointer_22 ?_
  refine aw_aload_n dX6_readPointer_25 rfl rfl ?_
  refine aw_getJ' rfl fk_605 lf_X6_90 dX6_readPointer_26 ?_
  obtain ⟨r4, e5, h⟩ := h
  refine aw_putJ' e5 fk_215 (Or.inl rfl) lf_X6_283 dX6_readPointer_29 ?_
  refine aw_aload_n dX6_readPointer_32 rfl rfl ?_
  refine aw_getRe (ci := 2) (v := gR σ3 609 x0 0) rfl fk_609 (by decide +kernel) lf_X6_106 dX6_readPointer_33 rfl ?_
  refine aw_aload_n dX6_readPointer_36 rfl rfl ?_
  refine aw_getRe (ci := 9) (v := gR σ3 602 x0 0) rfl fk_602 (by decide +kernel) lf_X6_62 dX6_readPointer_37 rfl ?_
  obtain ⟨r6, e7, h⟩ := h
  obtain ⟨lc8, h⟩ := h
  refine aw_getA' e7 fk_903 (by decide) lf_X6_94 dX6_readPointer_40 (LC.ne lc8 rfl rfl) ?_
  refine aw_aload_n dX6_readPointer_43 rfl rfl ?_
  refine aw_getIe (v := gI σ3 603 x0 0) rfl fk_603 lf_X6_77 dX6_readPointer_44 rfl ?_
  obtain ⟨⟨c9, c9x⟩, h⟩ := h
  refine aw_ialoade (v := gI σ3 903 r6 (gI σ3 603 x0 0).toNat) (by decide) rfl dX6_readPointer_47 c9 (LC.lt lc8 rfl rfl c9x) rfl ?_
  refine aw_putI' e5 fk_216 (Or.inl rfl) lf_X6_286 dX6_readPointer_48 ?_
  refine aw_aload_n dX6_readPointer_51 rfl rfl ?_
  refine aw_iconst (x := 2) dX6_readPointer_52 rfl ?_
  refine aw_invVi (M := MX6_readPointer) (ci := 6) [vI 2] rfl mo_X6_take rfl lm_X6_116 li_X6_take ls_X6_take (by decide +kernel) dX6_readPointer_53 rfl (Nat.le_of_ble_eq_true rfl) (ACi.mono (fun v11 σ10 h => ?_) h)
  refine aw_if_eq (tgt := 83) dX6_readPointer_56 (by decide) (fun k12 => ?_) (fun k12 => ?_)
  · replace h := h.1 k12
    refine aw_iconst (x := 0) dX6_readPointer_83 rfl ?_
    exact aw_zreturn dX6_readPointer_84 rfl (Or.inl rfl) h
  · replace h := h.2 k12
    refine aw_aload_n dX6_readPointer_59 rfl rfl ?_
    refine aw_invVi (M := MX6_readPointer) (ci := 6) [] rfl mo_X6_takeOwnName rfl lm_X6_237 li_X6_takeOwnName ls_X6_takeOwnName (by decide +kernel) dX6_readPointer_60 rfl (Nat.le_of_ble_eq_true rfl) (ACi.mono (fun v14 σ13 h => ?_) h)
    refine aw_if_eq (tgt := 83) dX6_readPointer_63 (by decide) (fun k15 => ?_) (fun k15 => ?_)
    · replace h := h.1 k15
      refine aw_iconst (x := 0) dX6_readPointer_83 rfl ?_
      exact aw_zreturn dX6_readPointer_84 rfl (Or.inl rfl) h
    · replace h := h.2 k15
      refine aw_aload_n dX6_readPointer_66 rfl rfl ?_
      refine aw_sipush (x := 208) dX6_readPointer_67 rfl ?_
      refine aw_invVi (M := MX6_readPointer) (ci := 6) [vI 208] rfl mo_X6_take rfl lm_X6_116 li_X6_take ls_X6_take (by decide +kernel) dX6_readPointer_70 rfl (Nat.le_of_ble_eq_true rfl) (ACi.mono (fun v17 σ16 h => ?_) h)
      refine aw_if_eq (tgt := 83) dX6_readPointer_73 (by decide) (fun k18 => ?_) (fun k18 => ?_)
      · replace h := h.1 k18
        refine aw_iconst (x := 0) dX6_readPointer_83 rfl ?_
        exact aw_zreturn dX6_readPointer_84 rfl (Or.inl rfl) h
      · replace h := h.2 k18
        refine aw_aload_n dX6_readPointer_76 rfl rfl ?_
        refine aw_invVi (M := MX6_readPointer) (ci := 6) [] rfl mo_X6_takeType rfl lm_X6_234 li_X6_takeType ls_X6_takeType (by decide +kernel) dX6_readPointer_77 rfl (Nat.le_of_ble_eq_true rfl) (ACi.mono (fun v20 σ19 h => ?_) h)
        refine aw_if_ne (tgt := 85) dX6_readPointer_80 (by decide) (fun k21 => ?_) (fun k21 => ?_)
        · replace h := h.1 k21
          refine aw_aload_n dX6_readPointer_85 rfl rfl ?_
          refine aw_sipush (x := 211) dX6_readPointer_86 rfl ?_
          refine aw_invVi (M := MX6_readPointer) (ci := 6) [vI 211] rfl mo_X6_takeIf rfl lm_X6_148 li_X6_takeIf ls_X6_takeIf (by decide +kernel) dX6_readPointer_89 rfl (Nat.le_of_ble_eq_true rfl) (ACi.mono (fun v23 σ22 h => ?_) h)
          refine aw_if_eq (tgt := 119) dX6_readPointer_92 (by decide) (fun k24 => ?_) (fun k24 => ?_)
          · replace h := h.1 k24
            exact aw_fgt (L' := [some (vR 6 (some x0))]) ⟨rfl, trivial⟩ h
          · replace h := h.2 k24
            refine aw_aload_n dX6_readPointer_95 rfl rfl ?_
            refine aw_getR' (ci := 2) rfl fk_609 (by decide +kernel) lf_X6_106 dX6_readPointer_96 ?_
            refine aw_aload_n dX6_readPointer_99 rfl rfl ?_
            refine aw_invVi (M := MX6_readPointer) (ci := 6) [] rfl mo_X6_readExpression rfl lm_X6_58 li_X6_readExpression ls_X6_readExpression (by decide +kernel) dX6_readPointer_100 rfl (Nat.le_of_ble_eq_true rfl) (ACi.mono (fun v26 σ25 h => ?_) h)
            obtain ⟨r27, e28, h⟩ := h
            refine aw_putI' e28 fk_209 (Or.inl rfl) lf_X6_251 dX6_readPointer_103 ?_
            refine aw_aload_n dX6_readPointer_106 rfl rfl ?_
            refine aw_getRe (ci := 2) (v := gR σ25 609 x0 0) rfl fk_609 (by decide +kernel) lf_X6_106 dX6_readPointer_107 rfl ?_
            obtain ⟨r29, e30, h⟩ := h
            refine aw_getI' e30 fk_209 lf_X6_251 dX6_readPointer_110 ?_
            refine aw_iconst (x := (-1)) dX6_readPointer_113 rfl ?_
            refine aw_icmp_ne (tgt := 119) dX6_readPointer_114 (by decide) (fun k31 => ?_) (fun k31 => ?_)
            · replace h := h.1 k31
              exact aw_fgt (L' := [some (vR 6 (some x0))]) ⟨rfl, trivial⟩ h
            · replace h := h.2 k31
              refine aw_iconst (x := 0) dX6_readPointer_117 rfl ?_
              exact aw_zreturn dX6_readPointer_118 rfl (Or.inl rfl) h
        · replace h := h.2 k21
          refine aw_iconst (x := 0) dX6_readPointer_83 rfl ?_
          exact aw_zreturn dX6_readPointer_84 rfl (Or.inl rfl) h
set_option maxRecDepth 4000 in
theorem bk_X6_readPointer_119 {g : GP} {l : Launch} {d : Nat} {σ : St} {Q : Option AV → St → Prop} {x0 : Nat}
    (h : ACi g l d MX6_takeIf [vR 6 (some x0), vI 213] σ (fun v2 σ1 => ((v2 = 0 → Q (some (vI 1)) σ1) ∧ (¬ v2 = 0 → ∃ r4, gR σ1 609 x0 0 = some r4 ∧ ACi g l d MX6_takeNumber [vR 6 (some x0), vJ 1, vJ 4096] (sJ σ1 211 r4 0 (gJ σ1 605 x0 0)) (fun v7 σ6 => ((v7 = 0 ∨ v7 = 1) ∧ Q (some (vI v7)) σ6)))))) :
    AW g l (d + 1) MX6_readPointer 119 [some (vR 6 (some x0))] [] σ Q := by
  refine aw_aload_n dX6_readPointer_119 rfl rfl ?_
  refine aw_sipush (x := 213) dX6_readPointer_120 rfl ?_
  refine aw_invVi (M := MX6_readPointer) (ci := 6) [vI 213] rfl mo_X6_takeIf rfl lm_X6_148 li_X6_takeIf ls_X6_takeIf (by decide +kernel) dX6_readPointer_123 rfl (Nat.le_of_ble_eq_true rfl) (ACi.mono (fun v2 σ1 h => ?_) h)
  refine aw_if_eq (tgt := 149) dX6_readPointer_126 (by decide) (fun k3 => ?_) (fun k3 => ?_)
  · replace h := h.1 k3
    refine aw_iconst (x := 1) dX6_readPointer_149 rfl ?_
    exact aw_zreturn dX6_readPointer_150 rfl (Or.inr rfl) h
  · replace h := h.2 k3
    refine aw_aload_n dX6_readPointer_129 rfl rfl ?_
    refine aw_getR' (ci := 2) rfl fk_609 (by decide +kernel) lf_X6_106 dX6_readPointer_130 ?_
    refine aw_aload_n dX6_readPointer_133 rfl rfl ?_
    refine aw_getJ' rfl fk_605 lf_X6_90 dX6_readPointer_134 ?_
    obtain ⟨r4, e5, h⟩ := h
    refine aw_putJ' e5 fk_211 (Or.inl rfl) lf_X6_276 dX6_readPointer_137 ?_
    refine aw_aload_n dX6_readPointer_140 rfl rfl ?_
    refine aw_lconst (x := 1) dX6_readPointer_141 rfl ?_
    refine aw_ldc2 lk_X6_289 dX6_readPointer_142 ?_
    refine aw_invVi (M := MX6_readPointer) (ci := 6) [vJ 1, vJ 4096] rfl mo_X6_takeNumber rfl lm_X6_270 li_X6_takeNumber ls_X6_takeNumber (by decide +kernel) dX6_readPointer_145 rfl (Nat.le_of_ble_eq_true rfl) (ACi.mono (fun v7 σ6 h => ?_) h)
    exact aw_zreturn dX6_readPointer_148 rfl h.1 h.2
set_option maxRecDepth 4000 in
theorem bk_X6_readQuestion_0 {g : GP} {l : Launch} {d : Nat} {σ : St} {Q : Option AV → St → Prop} {x0 : Nat} {x1 : Option Nat} {x2 : Option Nat} {x3 : Int} {x4 : Option Nat}
    (h : ACv g l d MX6_start [vR 6 (some x0), vR 9 x1, vR 1 x2, vR 0 x4] σ (fun σ1 => ∃ r2, x4 = some r2 ∧ ∃ r4, x2 = some r4 ∧ LC 1 σ1 r4 ∧ Bd x3 20 ∧ ACi g l d MX6_readExpression [vR 6 (some x0)] (sR (sI σ1 2 r2 0 0) 608 x0 0 (gR σ1 100 r4 x3.toNat)) (fun v9 σ8 => ((v9 = (-1) → Q (some (vI 0)) σ8) ∧ (¬ v9 = (-1) → ((¬ (gI σ8 604 x0 0) = 0 → ACi g l d MX6_check [vR 6 (some x0), vI 0, vI 2] σ8 (fun v13 σ12 => ((v13 = 0 → Q (some (vI 0)) σ12) ∧ (¬ v13 = 0 → Q (some (vI 1)) σ12)))) ∧ ((gI σ8 604 x0 0) = 0 → ACi g l d MX6_check [vR 6 (some x0), vI 1, vI 2] σ8 (fun v16 σ15 => ((v16 = 0 → Q (some (vI 0)) σ15) ∧ (¬ v16 = 0 → Q (some (vI 1)) σ15)))))))))) :
    AW g l (d + 1) MX6_readQuestion 0 [some (vR 6 (some x0)), some (vR 9 x1), some (vR 1 x2), some (vI x3), some (vR 0 x4)] [] σ Q := by
  refine aw_aload_n dX6_readQuestion_0 rfl rfl ?_
  refine aw_aload_n dX6_readQuestion_1 rfl rfl ?_
  refine aw_aload_n dX6_readQuestion_2 rfl rfl ?_
  refine aw_aload dX6_readQuestion_3 rfl ?_
  refine aw_invVv (M := MX6_readQuestion) (ci := 6) [vR 9 x1, vR 1 x2, vR 0 x4] rfl mo_X6_start rfl lm_X6_15 li_X6_start ls_X6_start (by decide +kernel) dX6_readQuestion_5 rfl (Nat.le_of_ble_eq_true rfl) (ACv.mono (fun σ1 h => ?_) h)
  refine aw_aload dX6_readQuestion_8 rfl ?_
  refine aw_iconst (x := 0) dX6_readQuestion_10 rfl ?_
  obtain ⟨r2, e3, h⟩ := h
  refine aw_putI' e3 fk_2 (Or.inl rfl) lf_X6_45 dX6_readQuestion_11 ?_
  refine aw_aload_n dX6_readQuestion_14 rfl rfl ?_
  refine aw_aload_n dX6_readQuestion_15 rfl rfl ?_
  obtain ⟨r4, e5, h⟩ := h
  obtain ⟨lc6, h⟩ := h
  refine aw_getA' e5 fk_100 (by decide) lf_X6_50 dX6_readQuestion_16 (LC.ne lc6 rfl rfl) ?_
  refine aw_iload_n dX6_readQuestion_19 rfl rfl ?_
  obtain ⟨⟨c7, c7x⟩, h⟩ := h
  refine aw_aaloade (ci := 8) (v := gR σ1 100 r4 x3.toNat) (by decide) rfl (by decide +kernel) dX6_readQuestion_20 c7 (LC.lt lc6 rfl rfl c7x) rfl ?_
  refine aw_putR' rfl fk_608 (by decide +kernel) (Or.inl rfl) lf_X6_54 dX6_readQuestion_21 ?_
  refine aw_aload_n dX6_readQuestion_24 rfl rfl ?_
  refine aw_invVi (M := MX6_readQuestion) (ci := 6) [] rfl mo_X6_readExpression rfl lm_X6_58 li_X6_readExpression ls_X6_readExpression (by decide +kernel) dX6_readQuestion_25 rfl (Nat.le_of_ble_eq_true rfl) (ACi.mono (fun v9 σ8 h => ?_) h)
  refine aw_iconst (x := (-1)) dX6_readQuestion_28 rfl ?_
  refine aw_icmp_eq (tgt := 56) dX6_readQuestion_29 (by decide) (fun k10 => ?_) (fun k10 => ?_)
  · replace h := h.1 k10
    refine aw_iconst (x := 0) dX6_readQuestion_56 rfl ?_
    exact aw_zreturn dX6_readQuestion_57 rfl (Or.inl rfl) h
  · replace h := h.2 k10
    refine aw_aload_n dX6_readQuestion_32 rfl rfl ?_
    refine aw_aload_n dX6_readQuestion_33 rfl rfl ?_
    refine aw_getI' rfl fk_604 lf_X6_24 dX6_readQuestion_34 ?_
    refine aw_if_ne (tgt := 44) dX6_readQuestion_37 (by decide) (fun k11 => ?_) (fun k11 => ?_)
    · replace h := h.1 k11
      refine aw_iconst (x := 0) dX6_readQuestion_44 rfl ?_
      refine aw_iconst (x := 2) dX6_readQuestion_45 rfl ?_
      refine aw_invVi (M := MX6_readQuestion) (ci := 6) [vI 0, vI 2] rfl mo_X6_check rfl lm_X6_28 li_X6_check ls_X6_check (by decide +kernel) dX6_readQuestion_46 rfl (Nat.le_of_ble_eq_true rfl) (ACi.mono (fun v13 σ12 h => ?_) h)
      refine aw_if_eq (tgt := 56) dX6_readQuestion_49 (by decide) (fun k14 => ?_) (fun k14 => ?_)
      · replace h := h.1 k14
        refine aw_iconst (x := 0) dX6_readQuestion_56 rfl ?_
        exact aw_zreturn dX6_readQuestion_57 rfl (Or.inl rfl) h
      · replace h := h.2 k14
        refine aw_iconst (x := 1) dX6_readQuestion_52 rfl ?_
        refine aw_goto (tgt := 57) dX6_readQuestion_53 (by decide) ?_
        exact aw_zreturn dX6_readQuestion_57 rfl (Or.inr rfl) h
    · replace h := h.2 k11
      refine aw_iconst (x := 1) dX6_readQuestion_40 rfl ?_
      refine aw_goto (tgt := 45) dX6_readQuestion_41 (by decide) ?_
      refine aw_iconst (x := 2) dX6_readQuestion_45 rfl ?_
      refine aw_invVi (M := MX6_readQuestion) (ci := 6) [vI 1, vI 2] rfl mo_X6_check rfl lm_X6_28 li_X6_check ls_X6_check (by decide +kernel) dX6_readQuestion_46 rfl (Nat.le_of_ble_eq_true rfl) (ACi.mono (fun v16 σ15 h => ?_) h)
      refine aw_if_eq (tgt := 56) dX6_readQuestion_49 (by decide) (fun k17 => ?_) (fun k17 => ?_)
      · replace h := h.1 k17
        refine aw_iconst (x := 0) dX6_readQuestion_56 rfl ?_
        exact aw_zreturn dX6_readQuestion_57 rfl (Or.inl rfl) h
      · replace h := h.2 k17
        refine aw_iconst (x := 1) dX6_readQuestion_52 rfl ?_
        refine aw_goto (tgt := 57) dX6_readQuestion_53 (by decide) ?_
        exact aw_zreturn dX6_readQuestion_57 rfl (Or.inr rfl) h
set_option maxRecDepth 4000 in
theorem bk_X6_readStruct_0 {g : GP} {l : Launch} {d : Nat} {σ : St} {Q : Option AV → St → Prop} {x0 : Nat}
    (h : ∃ r1, gR σ 609 x0 0 = some r1 ∧ ACi g l d MX6_takeStructure [vR 6 (some x0)] (sI σ 201 r1 0 0) (fun v4 σ3 => ∃ r5, gR σ3 609 x0 0 = some r5 ∧ (((gI (sI σ3 206 r1 0 v4) 206 r5 0) = (-1) → Q (some (vI 0)) (sI σ3 206 r1 0 v4)) ∧ (¬ (gI (sI σ3 206 r1 0 v4) 206 r5 0) = (-1) → ACi g l d MX6_takeOwnName [vR 6 (some x0)] (sI σ3 206 r1 0 v4) (fun v9 σ8 => ((v9 = 0 → Q (some (vI 0)) σ8) ∧ (¬ v9 = 0 → Q (some (vI 1)) σ8))))))) :
    AW g l (d + 1) MX6_readStruct 0 [some (vR 6 (some x0))] [] σ Q := by
  refine aw_aload_n dX6_readStruct_0 rfl rfl ?_
  refine aw_getR' (ci := 2) rfl fk_609 (by decide +kernel) lf_X6_106 dX6_readStruct_1 ?_
  refine aw_iconst (x := 0) dX6_readStruct_4 rfl ?_
  obtain ⟨r1, e2, h⟩ := h
  refine aw_putI' e2 fk_201 (Or.inl rfl) lf_X6_229 dX6_readStruct_5 ?_
  refine aw_aload_n dX6_readStruct_8 rfl rfl ?_
  refine aw_getRe (ci := 2) (v := gR σ 609 x0 0) rfl fk_609 (by decide +kernel) lf_X6_106 dX6_readStruct_9 rfl ?_
  refine aw_aload_n dX6_readStruct_12 rfl rfl ?_
  refine aw_invVi (M := MX6_readStruct) (ci := 6) [] rfl mo_X6_takeStructure rfl lm_X6_240 li_X6_takeStructure ls_X6_takeStructure (by decide +kernel) dX6_readStruct_13 rfl (Nat.le_of_ble_eq_true rfl) (ACi.mono (fun v4 σ3 h => ?_) h)
  refine aw_putI' e2 fk_206 (Or.inl rfl) lf_X6_243 dX6_readStruct_16 ?_
  refine aw_aload_n dX6_readStruct_19 rfl rfl ?_
  refine aw_getRe (ci := 2) (v := gR σ3 609 x0 0) rfl fk_609 (by decide +kernel) lf_X6_106 dX6_readStruct_20 rfl ?_
  obtain ⟨r5, e6, h⟩ := h
  refine aw_getI' e6 fk_206 lf_X6_243 dX6_readStruct_23 ?_
  refine aw_iconst (x := (-1)) dX6_readStruct_26 rfl ?_
  refine aw_icmp_eq (tgt := 41) dX6_readStruct_27 (by decide) (fun k7 => ?_) (fun k7 => ?_)
  · replace h := h.1 k7
    refine aw_iconst (x := 0) dX6_readStruct_41 rfl ?_
    exact aw_zreturn dX6_readStruct_42 rfl (Or.inl rfl) h
  · replace h := h.2 k7
    refine aw_aload_n dX6_readStruct_30 rfl rfl ?_
    refine aw_invVi (M := MX6_readStruct) (ci := 6) [] rfl mo_X6_takeOwnName rfl lm_X6_237 li_X6_takeOwnName ls_X6_takeOwnName (by decide +kernel) dX6_readStruct_31 rfl (Nat.le_of_ble_eq_true rfl) (ACi.mono (fun v9 σ8 h => ?_) h)
    refine aw_if_eq (tgt := 41) dX6_readStruct_34 (by decide) (fun k10 => ?_) (fun k10 => ?_)
    · replace h := h.1 k10
      refine aw_iconst (x := 0) dX6_readStruct_41 rfl ?_
      exact aw_zreturn dX6_readStruct_42 rfl (Or.inl rfl) h
    · replace h := h.2 k10
      refine aw_iconst (x := 1) dX6_readStruct_37 rfl ?_
      refine aw_goto (tgt := 42) dX6_readStruct_38 (by decide) ?_
      exact aw_zreturn dX6_readStruct_42 rfl (Or.inr rfl) h
set_option maxRecDepth 4000 in
theorem bk_X6_readStructure_0 {g : GP} {l : Launch} {d : Nat} {σ : St} {Q : Option AV → St → Prop} {x0 : Nat}
    (h : ∃ r1, gR σ 606 x0 0 = some r1 ∧ ((20 ≤ (gI σ 101 r1 0) → AW g l (d + 1) MX6_readStructure 20 [some (vR 6 (some x0)), some (vI (gI σ 101 r1 0)), none] [vI 0, vR 6 (some x0)] σ Q) ∧ (¬ 20 ≤ (gI σ 101 r1 0) → AW g l (d + 1) MX6_readStructure 20 [some (vR 6 (some x0)), some (vI (gI σ 101 r1 0)), none] [vI 1, vR 6 (some x0)] σ Q))) :
    AW g l (d + 1) MX6_readStructure 0 [some (vR 6 (some x0)), none, none] [] σ Q := by
  refine aw_aload_n dX6_readStructure_0 rfl rfl ?_
  refine aw_getR' (ci := 1) rfl fk_606 (by decide +kernel) lf_X6_66 dX6_readStructure_1 ?_
  obtain ⟨r1, e2, h⟩ := h
  refine aw_getI' e2 fk_101 lf_X6_162 dX6_readStructure_4 ?_
  refine aw_istore_n (L' := [some (vR 6 (some x0)), some (vI (gI σ 101 r1 0)), none]) dX6_readStructure_7 rfl (by decide) rfl ?_
  refine aw_aload_n dX6_readStructure_8 rfl rfl ?_
  refine aw_iload_n dX6_readStructure_9 rfl rfl ?_
  refine aw_bipush (x := 20) dX6_readStructure_10 rfl ?_
  refine aw_icmp_ge (tgt := 19) dX6_readStructure_12 (by decide) (fun k3 => ?_) (fun k3 => ?_)
  · replace h := h.1 k3
    refine aw_iconst (x := 0) dX6_readStructure_19 rfl ?_
    exact aw_fgt (L' := [some (vR 6 (some x0)), some (vI (gI σ 101 r1 0)), none]) ⟨rfl, ⟨rfl, trivial⟩⟩ h
  · replace h := h.2 k3
    refine aw_iconst (x := 1) dX6_readStructure_15 rfl ?_
    refine aw_goto (tgt := 20) dX6_readStructure_16 (by decide) ?_
    exact aw_fgt (L' := [some (vR 6 (some x0)), some (vI (gI σ 101 r1 0)), none]) ⟨rfl, ⟨rfl, trivial⟩⟩ h
set_option maxRecDepth 4000 in
theorem bk_X6_readStructure_20 {g : GP} {l : Launch} {d : Nat} {σ : St} {Q : Option AV → St → Prop} {x0 : Nat} {x1 : Int} {y0 : Int} {y1 : Option Nat}
    (h : ∃ r1, y1 = some r1 ∧ ACi g l d MX6_check [vR 6 (some r1), vI y0, vI 5] σ (fun v4 σ3 => ((¬ v4 = 0 → ACv g l d MX6_pass [vR 6 (some x0)] σ3 (fun σ6 => ACi g l d MX6_isNewItem [vR 6 (some x0)] σ6 (fun v8 σ7 => ((¬ v8 = 0 → ∃ r10, gR σ7 606 x0 0 = some r10 ∧ LC 1 σ7 r10 ∧ Bd x1 20 ∧ ∃ r14, (gR σ7 100 r10 x1.toNat) = some r14 ∧ ACv g l d MX6_pass [vR 6 (some x0)] (sI (sJ (sR σ7 608 x0 0 (gR σ7 100 r10 x1.toNat)) 800 r14 0 (gJ σ7 605 x0 0)) 802 r14 0 0) (fun σ16 => ACi g l d MX6_take [vR 6 (some x0), vI 123] σ16 (fun v18 σ17 => ((¬ v18 = 0 → AW g l (d + 1) MX6_readStructure 91 [some (vR 6 (some x0)), none, some (vI 0)] [] σ17 Q) ∧ (v18 = 0 → Q (some (vI 0)) σ17))))) ∧ (v8 = 0 → Q (some (vI 0)) σ7))))) ∧ (v4 = 0 → Q (some (vI 0)) σ3)))) :
    AW g l (d + 1) MX6_readStructure 20 [some (vR 6 (some x0)), some (vI x1), none] [vI y0, vR 6 y1] σ Q := by
  refine aw_iconst (x := 5) dX6_readStructure_20 rfl ?_
  obtain ⟨r1, e2, h⟩ := h
  refine aw_invVi (M := MX6_readStructure) (ci := 6) [vI y0, vI 5] e2 mo_X6_check rfl lm_X6_28 li_X6_check ls_X6_check (by decide +kernel) dX6_readStructure_21 rfl (Nat.le_of_ble_eq_true rfl) (ACi.mono (fun v4 σ3 h => ?_) h)
  refine aw_if_ne (tgt := 29) dX6_readStructure_24 (by decide) (fun k5 => ?_) (fun k5 => ?_)
  · replace h := h.1 k5
    refine aw_aload_n dX6_readStructure_29 rfl rfl ?_
    refine aw_invVv (M := MX6_readStructure) (ci := 6) [] rfl mo_X6_pass rfl lm_X6_100 li_X6_pass ls_X6_pass (by decide +kernel) dX6_readStructure_30 rfl (Nat.le_of_ble_eq_true rfl) (ACv.mono (fun σ6 h => ?_) h)
    refine aw_aload_n dX6_readStructure_33 rfl rfl ?_
    refine aw_invVi (M := MX6_readStructure) (ci := 6) [] rfl mo_X6_isNewItem rfl lm_X6_130 li_X6_isNewItem ls_X6_isNewItem (by decide +kernel) dX6_readStructure_34 rfl (Nat.le_of_ble_eq_true rfl) (ACi.mono (fun v8 σ7 h => ?_) h)
    refine aw_if_ne (tgt := 42) dX6_readStructure_37 (by decide) (fun k9 => ?_) (fun k9 => ?_)
    · replace h := h.1 k9
      refine aw_aload_n dX6_readStructure_42 rfl rfl ?_
      refine aw_aload_n dX6_readStructure_43 rfl rfl ?_
      refine aw_getR' (ci := 1) rfl fk_606 (by decide +kernel) lf_X6_66 dX6_readStructure_44 ?_
      obtain ⟨r10, e11, h⟩ := h
      obtain ⟨lc12, h⟩ := h
      refine aw_getA' e11 fk_100 (by decide) lf_X6_50 dX6_readStructure_47 (LC.ne lc12 rfl rfl) ?_
      refine aw_iload_n dX6_readStructure_50 rfl rfl ?_
      obtain ⟨⟨c13, c13x⟩, h⟩ := h
      refine aw_aaload (ci := 8) (by decide) rfl (by decide +kernel) dX6_readStructure_51 c13 (LC.lt lc12 rfl rfl c13x) ?_
      refine aw_putR' rfl fk_608 (by decide +kernel) (Or.inl rfl) lf_X6_54 dX6_readStructure_52 ?_
      refine aw_aload_n dX6_readStructure_55 rfl rfl ?_
      refine aw_getRe (ci := 8) (v := (gR σ7 100 r10 x1.toNat)) rfl fk_608 (by decide +kernel) lf_X6_54 dX6_readStructure_56 (gR_slf σ7 608 x0 0 (gR σ7 100 r10 x1.toNat)) ?_
      refine aw_aload_n dX6_readStructure_59 rfl rfl ?_
      refine aw_getJe (v := gJ σ7 605 x0 0) rfl fk_605 lf_X6_90 dX6_readStructure_60 rfl ?_
      obtain ⟨r14, e15, h⟩ := h
      refine aw_putJ' e15 fk_800 (Or.inl rfl) lf_X6_165 dX6_readStructure_63 ?_
      refine aw_aload_n dX6_readStructure_66 rfl rfl ?_
      refine aw_getRe (ci := 8) (v := (gR σ7 100 r10 x1.toNat)) rfl fk_608 (by decide +kernel) lf_X6_54 dX6_readStructure_67 (gR_slf σ7 608 x0 0 (gR σ7 100 r10 x1.toNat)) ?_
      refine aw_iconst (x := 0) dX6_readStructure_70 rfl ?_
      refine aw_putI' e15 fk_802 (Or.inl rfl) lf_X6_170 dX6_readStructure_71 ?_
      refine aw_aload_n dX6_readStructure_74 rfl rfl ?_
      refine aw_invVv (M := MX6_readStructure) (ci := 6) [] rfl mo_X6_pass rfl lm_X6_100 li_X6_pass ls_X6_pass (by decide +kernel) dX6_readStructure_75 rfl (Nat.le_of_ble_eq_true rfl) (ACv.mono (fun σ16 h => ?_) h)
      refine aw_aload_n dX6_readStructure_78 rfl rfl ?_
      refine aw_bipush (x := 123) dX6_readStructure_79 rfl ?_
      refine aw_invVi (M := MX6_readStructure) (ci := 6) [vI 123] rfl mo_X6_take rfl lm_X6_116 li_X6_take ls_X6_take (by decide +kernel) dX6_readStructure_81 rfl (Nat.le_of_ble_eq_true rfl) (ACi.mono (fun v18 σ17 h => ?_) h)
      refine aw_if_ne (tgt := 89) dX6_readStructure_84 (by decide) (fun k19 => ?_) (fun k19 => ?_)
      · replace h := h.1 k19
        refine aw_iconst (x := 0) dX6_readStructure_89 rfl ?_
        refine aw_istore_n (L' := [some (vR 6 (some x0)), some (vI x1), some (vI 0)]) dX6_readStructure_90 rfl (by decide) rfl ?_
        exact aw_fgt (L' := [some (vR 6 (some x0)), none, some (vI 0)]) ⟨rfl, ⟨rfl, trivial⟩⟩ h
      · replace h := h.2 k19
        refine aw_iconst (x := 0) dX6_readStructure_87 rfl ?_
        exact aw_zreturn dX6_readStructure_88 rfl (Or.inl rfl) h
    · replace h := h.2 k9
      refine aw_iconst (x := 0) dX6_readStructure_40 rfl ?_
      exact aw_zreturn dX6_readStructure_41 rfl (Or.inl rfl) h
  · replace h := h.2 k5
    refine aw_iconst (x := 0) dX6_readStructure_27 rfl ?_
    exact aw_zreturn dX6_readStructure_28 rfl (Or.inl rfl) h
set_option maxRecDepth 4000 in
theorem bk_X6_readStructure_91 {g : GP} {l : Launch} {d : Nat} {σ : St} {Q : Option AV → St → Prop} {x0 : Nat} {x2 : Int}
    (h : ((14 < x2 → AW g l (d + 1) MX6_readStructure 121 [some (vR 6 (some x0)), none, none] [] σ Q) ∧ (¬ 14 < x2 → (((gI σ 604 x0 0) = 125 → AW g l (d + 1) MX6_readStructure 121 [some (vR 6 (some x0)), none, none] [] σ Q) ∧ (¬ (gI σ 604 x0 0) = 125 → ACi g l d MX6_readField [vR 6 (some x0)] σ (fun v4 σ3 => ((¬ v4 = 0 → R32 (x2 + 1) ∧ AW g l (d + 1) MX6_readStructure 91 [some (vR 6 (some x0)), none, some (vI (x2 + 1))] [] σ3 Q) ∧ (v4 = 0 → Q (some (vI 0)) σ3)))))))) :
    AW g l (d + 1) MX6_readStructure 91 [some (vR 6 (some x0)), none, some (vI x2)] [] σ Q := by
  refine aw_iload_n dX6_readStructure_91 rfl rfl ?_
  refine aw_bipush (x := 14) dX6_readStructure_92 rfl ?_
  refine aw_icmp_gt (tgt := 121) dX6_readStructure_94 (by decide) (fun k1 => ?_) (fun k1 => ?_)
  · replace h := h.1 k1
    exact aw_fgt (L' := [some (vR 6 (some x0)), none, none]) ⟨rfl, trivial⟩ h
  · replace h := h.2 k1
    refine aw_aload_n dX6_readStructure_97 rfl rfl ?_
    refine aw_getI' rfl fk_604 lf_X6_24 dX6_readStructure_98 ?_
    refine aw_bipush (x := 125) dX6_readStructure_101 rfl ?_
    refine aw_icmp_eq (tgt := 121) dX6_readStructure_103 (by decide) (fun k2 => ?_) (fun k2 => ?_)
    · replace h := h.1 k2
      exact aw_fgt (L' := [some (vR 6 (some x0)), none, none]) ⟨rfl, trivial⟩ h
    · replace h := h.2 k2
      refine aw_aload_n dX6_readStructure_106 rfl rfl ?_
      refine aw_invVi (M := MX6_readStructure) (ci := 6) [] rfl mo_X6_readField rfl lm_X6_173 li_X6_readField ls_X6_readField (by decide +kernel) dX6_readStructure_107 rfl (Nat.le_of_ble_eq_true rfl) (ACi.mono (fun v4 σ3 h => ?_) h)
      refine aw_if_ne (tgt := 115) dX6_readStructure_110 (by decide) (fun k5 => ?_) (fun k5 => ?_)
      · replace h := h.1 k5
        obtain ⟨⟨c6, c6x⟩, h⟩ := h
        refine aw_iincc (L' := [some (vR 6 (some x0)), none, some (vI (x2 + 1))]) dX6_readStructure_115 rfl (by decide) rfl c6 c6x rfl ?_
        refine aw_goto (tgt := 91) dX6_readStructure_118 (by decide) ?_
        exact aw_fgt (L' := [some (vR 6 (some x0)), none, some (vI (x2 + 1))]) ⟨rfl, ⟨rfl, trivial⟩⟩ h
      · replace h := h.2 k5
        refine aw_iconst (x := 0) dX6_readStructure_113 rfl ?_
        exact aw_zreturn dX6_readStructure_114 rfl (Or.inl rfl) h
set_option maxRecDepth 4000 in
theorem bk_X6_readStructure_121 {g : GP} {l : Launch} {d : Nat} {σ : St} {Q : Option AV → St → Prop} {x0 : Nat}
    (h : ∃ r1, gR σ 606 x0 0 = some r1 ∧ ACi g l d MX1_measure [vR 1 (some r1), vR 8 (gR σ 608 x0 0)] σ (fun v4 σ3 => ∃ r5, gR σ 608 x0 0 = some r5 ∧ ∃ r7, gR σ3 606 x0 0 = some r7 ∧ R32 ((gI σ3 101 r7 0) + 1) ∧ ACi g l d MX6_take [vR 6 (some x0), vI 125] (sI (sI σ3 803 r5 0 v4) 101 r7 0 ((gI σ3 101 r7 0) + 1)) (fun v11 σ10 => ((v11 = 0 ∨ v11 = 1) ∧ Q (some (vI v11)) σ10)))) :
    AW g l (d + 1) MX6_readStructure 121 [some (vR 6 (some x0)), none, none] [] σ Q := by
  refine aw_aload_n dX6_readStructure_121 rfl rfl ?_
  refine aw_getR' (ci := 8) rfl fk_608 (by decide +kernel) lf_X6_54 dX6_readStructure_122 ?_
  refine aw_aload_n dX6_readStructure_125 rfl rfl ?_
  refine aw_getR' (ci := 1) rfl fk_606 (by decide +kernel) lf_X6_66 dX6_readStructure_126 ?_
  refine aw_aload_n dX6_readStructure_129 rfl rfl ?_
  refine aw_getR' (ci := 8) rfl fk_608 (by decide +kernel) lf_X6_54 dX6_readStructure_130 ?_
  obtain ⟨r1, e2, h⟩ := h
  refine aw_invVi (M := MX6_readStructure) (ci := 1) [vR 8 (gR σ 608 x0 0)] e2 mo_X1_measure rfl lm_X6_176 li_X1_measure ls_X1_measure (by decide +kernel) dX6_readStructure_133 rfl (Nat.le_of_ble_eq_true rfl) (ACi.mono (fun v4 σ3 h => ?_) h)
  obtain ⟨r5, e6, h⟩ := h
  refine aw_putI' e6 fk_803 (Or.inl rfl) lf_X6_180 dX6_readStructure_136 ?_
  refine aw_aload_n dX6_readStructure_139 rfl rfl ?_
  refine aw_getRe (ci := 1) (v := gR σ3 606 x0 0) rfl fk_606 (by decide +kernel) lf_X6_66 dX6_readStructure_140 rfl ?_
  refine aw_dup dX6_readStructure_143 rfl ?_
  obtain ⟨r7, e8, h⟩ := h
  refine aw_getIe (v := gI σ3 101 r7 0) e8 fk_101 lf_X6_162 dX6_readStructure_144 rfl ?_
  refine aw_iconst (x := 1) dX6_readStructure_147 rfl ?_
  obtain ⟨⟨c9, c9x⟩, h⟩ := h
  refine aw_iaddc dX6_readStructure_148 c9 c9x ?_
  refine aw_putI' e8 fk_101 (Or.inl rfl) lf_X6_162 dX6_readStructure_149 ?_
  refine aw_aload_n dX6_readStructure_152 rfl rfl ?_
  refine aw_bipush (x := 125) dX6_readStructure_153 rfl ?_
  refine aw_invVi (M := MX6_readStructure) (ci := 6) [vI 125] rfl mo_X6_take rfl lm_X6_116 li_X6_take ls_X6_take (by decide +kernel) dX6_readStructure_155 rfl (Nat.le_of_ble_eq_true rfl) (ACi.mono (fun v11 σ10 h => ?_) h)
  exact aw_zreturn dX6_readStructure_158 rfl h.1 h.2
set_option maxRecDepth 4000 in
theorem bk_X6_readSum_0 {g : GP} {l : Launch} {d : Nat} {σ : St} {Q : Option AV → St → Prop} {x0 : Nat}
    (h : ∃ r1, gR σ 609 x0 0 = some r1 ∧ ACv g l d MX6_pass [vR 6 (some x0)] (sI σ 201 r1 0 10) (fun σ3 => ∃ r4, gR σ3 609 x0 0 = some r4 ∧ (((gI σ3 604 x0 0) < 217 → AW g l (d + 1) MX6_readSum 51 [some (vR 6 (some x0))] [vI 0, vR 6 (some x0)] (sJ σ3 211 r4 0 (i2j (gI σ3 604 x0 0))) Q) ∧ (¬ (gI σ3 604 x0 0) < 217 → ((220 < (gI σ3 604 x0 0) → AW g l (d + 1) MX6_readSum 51 [some (vR 6 (some x0))] [vI 0, vR 6 (some x0)] (sJ σ3 211 r4 0 (i2j (gI σ3 604 x0 0))) Q) ∧ (¬ 220 < (gI σ3 604 x0 0) → AW g l (d + 1) MX6_readSum 51 [some (vR 6 (some x0))] [vI 1, vR 6 (some x0)] (sJ σ3 211 r4 0 (i2j (gI σ3 604 x0 0))) Q)))))) :
    AW g l (d + 1) MX6_readSum 0 [some (vR 6 (some x0))] [] σ Q := by
  refine aw_aload_n dX6_readSum_0 rfl rfl ?_
  refine aw_getR' (ci := 2) rfl fk_609 (by decide +kernel) lf_X6_106 dX6_readSum_1 ?_
  refine aw_bipush (x := 10) dX6_readSum_4 rfl ?_
  obtain ⟨r1, e2, h⟩ := h
  refine aw_putI' e2 fk_201 (Or.inl rfl) lf_X6_229 dX6_readSum_6 ?_
  refine aw_aload_n dX6_readSum_9 rfl rfl ?_
  refine aw_invVv (M := MX6_readSum) (ci := 6) [] rfl mo_X6_pass rfl lm_X6_100 li_X6_pass ls_X6_pass (by decide +kernel) dX6_readSum_10 rfl (Nat.le_of_ble_eq_true rfl) (ACv.mono (fun σ3 h => ?_) h)
  refine aw_aload_n dX6_readSum_13 rfl rfl ?_
  refine aw_getR' (ci := 2) rfl fk_609 (by decide +kernel) lf_X6_106 dX6_readSum_14 ?_
  refine aw_aload_n dX6_readSum_17 rfl rfl ?_
  refine aw_getI' rfl fk_604 lf_X6_24 dX6_readSum_18 ?_
  refine aw_i2l dX6_readSum_21 ?_
  obtain ⟨r4, e5, h⟩ := h
  refine aw_putJ' e5 fk_211 (Or.inl rfl) lf_X6_276 dX6_readSum_22 ?_
  refine aw_aload_n dX6_readSum_25 rfl rfl ?_
  refine aw_aload_n dX6_readSum_26 rfl rfl ?_
  refine aw_getIe (v := gI σ3 604 x0 0) rfl fk_604 lf_X6_24 dX6_readSum_27 rfl ?_
  refine aw_sipush (x := 217) dX6_readSum_30 rfl ?_
  refine aw_icmp_lt (tgt := 50) dX6_readSum_33 (by decide) (fun k6 => ?_) (fun k6 => ?_)
  · replace h := h.1 k6
    refine aw_iconst (x := 0) dX6_readSum_50 rfl ?_
    exact aw_fgt (L' := [some (vR 6 (some x0))]) ⟨rfl, trivial⟩ h
  · replace h := h.2 k6
    refine aw_aload_n dX6_readSum_36 rfl rfl ?_
    refine aw_getIe (v := gI σ3 604 x0 0) rfl fk_604 lf_X6_24 dX6_readSum_37 rfl ?_
    refine aw_sipush (x := 220) dX6_readSum_40 rfl ?_
    refine aw_icmp_gt (tgt := 50) dX6_readSum_43 (by decide) (fun k7 => ?_) (fun k7 => ?_)
    · replace h := h.1 k7
      refine aw_iconst (x := 0) dX6_readSum_50 rfl ?_
      exact aw_fgt (L' := [some (vR 6 (some x0))]) ⟨rfl, trivial⟩ h
    · replace h := h.2 k7
      refine aw_iconst (x := 1) dX6_readSum_46 rfl ?_
      refine aw_goto (tgt := 51) dX6_readSum_47 (by decide) ?_
      exact aw_fgt (L' := [some (vR 6 (some x0))]) ⟨rfl, trivial⟩ h
set_option maxRecDepth 4000 in
theorem bk_X6_readSum_51 {g : GP} {l : Launch} {d : Nat} {σ : St} {Q : Option AV → St → Prop} {x0 : Nat} {y0 : Int} {y1 : Option Nat}
    (h : ∃ r1, y1 = some r1 ∧ ACi g l d MX6_check [vR 6 (some r1), vI y0, vI 2] σ (fun v4 σ3 => ((¬ v4 = 0 → ACv g l d MX6_pass [vR 6 (some x0)] σ3 (fun σ6 => ACi g l d MX6_takeType [vR 6 (some x0)] σ6 (fun v8 σ7 => ((v8 = 0 → Q (some (vI 0)) σ7) ∧ (¬ v8 = 0 → ACi g l d MX6_takeOwnName [vR 6 (some x0)] σ7 (fun v11 σ10 => ((v11 = 0 → Q (some (vI 0)) σ10) ∧ (¬ v11 = 0 → ACi g l d MX6_take [vR 6 (some x0), vI 221] σ10 (fun v14 σ13 => ((¬ v14 = 0 → ACi g l d MX6_readExpression [vR 6 (some x0)] σ13 (fun v17 σ16 => ∃ r18, gR σ13 609 x0 0 = some r18 ∧ ∃ r20, gR σ16 609 x0 0 = some r20 ∧ (((gI (sI σ16 209 r18 0 v17) 209 r20 0) = (-1) → Q (some (vI 0)) (sI σ16 209 r18 0 v17)) ∧ (¬ (gI (sI σ16 209 r18 0 v17) 209 r20 0) = (-1) → ACi g l d MX6_take [vR 6 (some x0), vI 44] (sI σ16 209 r18 0 v17) (fun v24 σ23 => ((¬ v24 = 0 → ACi g l d MX6_readExpression [vR 6 (some x0)] σ23 (fun v27 σ26 => ∃ r28, gR σ23 609 x0 0 = some r28 ∧ ∃ r30, gR σ26 609 x0 0 = some r30 ∧ (((gI (sI σ26 210 r28 0 v27) 210 r30 0) = (-1) → Q (some (vI 0)) (sI σ26 210 r28 0 v27)) ∧ (¬ (gI (sI σ26 210 r28 0 v27) 210 r30 0) = (-1) → Q (some (vI 1)) (sI σ26 210 r28 0 v27))))) ∧ (v24 = 0 → Q (some (vI 0)) σ23))))))) ∧ (v14 = 0 → Q (some (vI 0)) σ13))))))))))) ∧ (v4 = 0 → Q (some (vI 0)) σ3)))) :
    AW g l (d + 1) MX6_readSum 51 [some (vR 6 (some x0))] [vI y0, vR 6 y1] σ Q := by
  refine aw_iconst (x := 2) dX6_readSum_51 rfl ?_
  obtain ⟨r1, e2, h⟩ := h
  refine aw_invVi (M := MX6_readSum) (ci := 6) [vI y0, vI 2] e2 mo_X6_check rfl lm_X6_28 li_X6_check ls_X6_check (by decide +kernel) dX6_readSum_52 rfl (Nat.le_of_ble_eq_true rfl) (ACi.mono (fun v4 σ3 h => ?_) h)
  refine aw_if_ne (tgt := 60) dX6_readSum_55 (by decide) (fun k5 => ?_) (fun k5 => ?_)
  · replace h := h.1 k5
    refine aw_aload_n dX6_readSum_60 rfl rfl ?_
    refine aw_invVv (M := MX6_readSum) (ci := 6) [] rfl mo_X6_pass rfl lm_X6_100 li_X6_pass ls_X6_pass (by decide +kernel) dX6_readSum_61 rfl (Nat.le_of_ble_eq_true rfl) (ACv.mono (fun σ6 h => ?_) h)
    refine aw_aload_n dX6_readSum_64 rfl rfl ?_
    refine aw_invVi (M := MX6_readSum) (ci := 6) [] rfl mo_X6_takeType rfl lm_X6_234 li_X6_takeType ls_X6_takeType (by decide +kernel) dX6_readSum_65 rfl (Nat.le_of_ble_eq_true rfl) (ACi.mono (fun v8 σ7 h => ?_) h)
    refine aw_if_eq (tgt := 88) dX6_readSum_68 (by decide) (fun k9 => ?_) (fun k9 => ?_)
    · replace h := h.1 k9
      refine aw_iconst (x := 0) dX6_readSum_88 rfl ?_
      exact aw_zreturn dX6_readSum_89 rfl (Or.inl rfl) h
    · replace h := h.2 k9
      refine aw_aload_n dX6_readSum_71 rfl rfl ?_
      refine aw_invVi (M := MX6_readSum) (ci := 6) [] rfl mo_X6_takeOwnName rfl lm_X6_237 li_X6_takeOwnName ls_X6_takeOwnName (by decide +kernel) dX6_readSum_72 rfl (Nat.le_of_ble_eq_true rfl) (ACi.mono (fun v11 σ10 h => ?_) h)
      refine aw_if_eq (tgt := 88) dX6_readSum_75 (by decide) (fun k12 => ?_) (fun k12 => ?_)
      · replace h := h.1 k12
        refine aw_iconst (x := 0) dX6_readSum_88 rfl ?_
        exact aw_zreturn dX6_readSum_89 rfl (Or.inl rfl) h
      · replace h := h.2 k12
        refine aw_aload_n dX6_readSum_78 rfl rfl ?_
        refine aw_sipush (x := 221) dX6_readSum_79 rfl ?_
        refine aw_invVi (M := MX6_readSum) (ci := 6) [vI 221] rfl mo_X6_take rfl lm_X6_116 li_X6_take ls_X6_take (by decide +kernel) dX6_readSum_82 rfl (Nat.le_of_ble_eq_true rfl) (ACi.mono (fun v14 σ13 h => ?_) h)
        refine aw_if_ne (tgt := 90) dX6_readSum_85 (by decide) (fun k15 => ?_) (fun k15 => ?_)
        · replace h := h.1 k15
          refine aw_aload_n dX6_readSum_90 rfl rfl ?_
          refine aw_getR' (ci := 2) rfl fk_609 (by decide +kernel) lf_X6_106 dX6_readSum_91 ?_
          refine aw_aload_n dX6_readSum_94 rfl rfl ?_
          refine aw_invVi (M := MX6_readSum) (ci := 6) [] rfl mo_X6_readExpression rfl lm_X6_58 li_X6_readExpression ls_X6_readExpression (by decide +kernel) dX6_readSum_95 rfl (Nat.le_of_ble_eq_true rfl) (ACi.mono (fun v17 σ16 h => ?_) h)
          obtain ⟨r18, e19, h⟩ := h
          refine aw_putI' e19 fk_209 (Or.inl rfl) lf_X6_251 dX6_readSum_98 ?_
          refine aw_aload_n dX6_readSum_101 rfl rfl ?_
          refine aw_getRe (ci := 2) (v := gR σ16 609 x0 0) rfl fk_609 (by decide +kernel) lf_X6_106 dX6_readSum_102 rfl ?_
          obtain ⟨r20, e21, h⟩ := h
          refine aw_getI' e21 fk_209 lf_X6_251 dX6_readSum_105 ?_
          refine aw_iconst (x := (-1)) dX6_readSum_108 rfl ?_
          refine aw_icmp_eq (tgt := 121) dX6_readSum_109 (by decide) (fun k22 => ?_) (fun k22 => ?_)
          · replace h := h.1 k22
            refine aw_iconst (x := 0) dX6_readSum_121 rfl ?_
            exact aw_zreturn dX6_readSum_122 rfl (Or.inl rfl) h
          · replace h := h.2 k22
            refine aw_aload_n dX6_readSum_112 rfl rfl ?_
            refine aw_bipush (x := 44) dX6_readSum_113 rfl ?_
            refine aw_invVi (M := MX6_readSum) (ci := 6) [vI 44] rfl mo_X6_take rfl lm_X6_116 li_X6_take ls_X6_take (by decide +kernel) dX6_readSum_115 rfl (Nat.le_of_ble_eq_true rfl) (ACi.mono (fun v24 σ23 h => ?_) h)
            refine aw_if_ne (tgt := 123) dX6_readSum_118 (by decide) (fun k25 => ?_) (fun k25 => ?_)
            · replace h := h.1 k25
              refine aw_aload_n dX6_readSum_123 rfl rfl ?_
              refine aw_getR' (ci := 2) rfl fk_609 (by decide +kernel) lf_X6_106 dX6_readSum_124 ?_
              refine aw_aload_n dX6_readSum_127 rfl rfl ?_
              refine aw_invVi (M := MX6_readSum) (ci := 6) [] rfl mo_X6_readExpression rfl lm_X6_58 li_X6_readExpression ls_X6_readExpression (by decide +kernel) dX6_readSum_128 rfl (Nat.le_of_ble_eq_true rfl) (ACi.mono (fun v27 σ26 h => ?_) h)
              obtain ⟨r28, e29, h⟩ := h
              refine aw_putI' e29 fk_210 (Or.inl rfl) lf_X6_298 dX6_readSum_131 ?_
              refine aw_aload_n dX6_readSum_134 rfl rfl ?_
              refine aw_getRe (ci := 2) (v := gR σ26 609 x0 0) rfl fk_609 (by decide +kernel) lf_X6_106 dX6_readSum_135 rfl ?_
              obtain ⟨r30, e31, h⟩ := h
              refine aw_getI' e31 fk_210 lf_X6_298 dX6_readSum_138 ?_
              refine aw_iconst (x := (-1)) dX6_readSum_141 rfl ?_
              refine aw_icmp_eq (tgt := 149) dX6_readSum_142 (by decide) (fun k32 => ?_) (fun k32 => ?_)
              · replace h := h.1 k32
                refine aw_iconst (x := 0) dX6_readSum_149 rfl ?_
                exact aw_zreturn dX6_readSum_150 rfl (Or.inl rfl) h
              · replace h := h.2 k32
                refine aw_iconst (x := 1) dX6_readSum_145 rfl ?_
                refine aw_goto (tgt := 150) dX6_readSum_146 (by decide) ?_
                exact aw_zreturn dX6_readSum_150 rfl (Or.inr rfl) h
            · replace h := h.2 k25
              refine aw_iconst (x := 0) dX6_readSum_121 rfl ?_
              exact aw_zreturn dX6_readSum_122 rfl (Or.inl rfl) h
        · replace h := h.2 k15
          refine aw_iconst (x := 0) dX6_readSum_88 rfl ?_
          exact aw_zreturn dX6_readSum_89 rfl (Or.inl rfl) h
  · replace h := h.2 k5
    refine aw_iconst (x := 0) dX6_readSum_58 rfl ?_
    exact aw_zreturn dX6_readSum_59 rfl (Or.inl rfl) h
set_option maxRecDepth 4000 in
theorem bk_X6_readTail_0 {g : GP} {l : Launch} {d : Nat} {σ : St} {Q : Option AV → St → Prop} {x0 : Nat}
    (h : ∃ r1, gR σ 609 x0 0 = some r1 ∧ ((¬ (gI σ 201 r1 0) = 1 → AW g l (d + 1) MX6_readTail 49 [some (vR 6 (some x0)), none] [] σ Q) ∧ ((gI σ 201 r1 0) = 1 → ACi g l d MX6_takeIf [vR 6 (some x0), vI 203] σ (fun v5 σ4 => ((v5 = 0 → AW g l (d + 1) MX6_readTail 49 [some (vR 6 (some x0)), none] [] σ4 Q) ∧ (¬ v5 = 0 → ACi g l d MX6_takeEnum [vR 6 (some x0)] σ4 (fun v8 σ7 => ∃ r9, gR σ4 609 x0 0 = some r9 ∧ ∃ r11, gR σ7 609 x0 0 = some r11 ∧ (((gI (sI σ7 207 r9 0 v8) 207 r11 0) = (-1) → Q (some (vI 0)) (sI σ7 207 r9 0 v8)) ∧ (¬ (gI (sI σ7 207 r9 0 v8) 207 r11 0) = (-1) → Q (some (vI 1)) (sI σ7 207 r9 0 v8)))))))))) :
    AW g l (d + 1) MX6_readTail 0 [some (vR 6 (some x0)), none] [] σ Q := by
  refine aw_aload_n dX6_readTail_0 rfl rfl ?_
  refine aw_getR' (ci := 2) rfl fk_609 (by decide +kernel) lf_X6_106 dX6_readTail_1 ?_
  obtain ⟨r1, e2, h⟩ := h
  refine aw_getI' e2 fk_201 lf_X6_229 dX6_readTail_4 ?_
  refine aw_iconst (x := 1) dX6_readTail_7 rfl ?_
  refine aw_icmp_ne (tgt := 49) dX6_readTail_8 (by decide) (fun k3 => ?_) (fun k3 => ?_)
  · replace h := h.1 k3
    exact aw_fgt (L' := [some (vR 6 (some x0)), none]) ⟨rfl, trivial⟩ h
  · replace h := h.2 k3
    refine aw_aload_n dX6_readTail_11 rfl rfl ?_
    refine aw_sipush (x := 203) dX6_readTail_12 rfl ?_
    refine aw_invVi (M := MX6_readTail) (ci := 6) [vI 203] rfl mo_X6_takeIf rfl lm_X6_148 li_X6_takeIf ls_X6_takeIf (by decide +kernel) dX6_readTail_15 rfl (Nat.le_of_ble_eq_true rfl) (ACi.mono (fun v5 σ4 h => ?_) h)
    refine aw_if_eq (tgt := 49) dX6_readTail_18 (by decide) (fun k6 => ?_) (fun k6 => ?_)
    · replace h := h.1 k6
      exact aw_fgt (L' := [some (vR 6 (some x0)), none]) ⟨rfl, trivial⟩ h
    · replace h := h.2 k6
      refine aw_aload_n dX6_readTail_21 rfl rfl ?_
      refine aw_getR' (ci := 2) rfl fk_609 (by decide +kernel) lf_X6_106 dX6_readTail_22 ?_
      refine aw_aload_n dX6_readTail_25 rfl rfl ?_
      refine aw_invVi (M := MX6_readTail) (ci := 6) [] rfl mo_X6_takeEnum rfl lm_X6_245 li_X6_takeEnum ls_X6_takeEnum (by decide +kernel) dX6_readTail_26 rfl (Nat.le_of_ble_eq_true rfl) (ACi.mono (fun v8 σ7 h => ?_) h)
      obtain ⟨r9, e10, h⟩ := h
      refine aw_putI' e10 fk_207 (Or.inl rfl) lf_X6_248 dX6_readTail_29 ?_
      refine aw_aload_n dX6_readTail_32 rfl rfl ?_
      refine aw_getRe (ci := 2) (v := gR σ7 609 x0 0) rfl fk_609 (by decide +kernel) lf_X6_106 dX6_readTail_33 rfl ?_
      obtain ⟨r11, e12, h⟩ := h
      refine aw_getI' e12 fk_207 lf_X6_248 dX6_readTail_36 ?_
      refine aw_iconst (x := (-1)) dX6_readTail_39 rfl ?_
      refine aw_icmp_eq (tgt := 47) dX6_readTail_40 (by decide) (fun k13 => ?_) (fun k13 => ?_)
      · replace h := h.1 k13
        refine aw_iconst (x := 0) dX6_readTail_47 rfl ?_
        exact aw_zreturn dX6_readTail_48 rfl (Or.inl rfl) h
      · replace h := h.2 k13
        refine aw_iconst (x := 1) dX6_readTail_43 rfl ?_
        refine aw_goto (tgt := 48) dX6_readTail_44 (by decide) ?_
        exact aw_zreturn dX6_readTail_48 rfl (Or.inr rfl) h
set_option maxRecDepth 4000 in
theorem bk_X6_readTail_49 {g : GP} {l : Launch} {d : Nat} {σ : St} {Q : Option AV → St → Prop} {x0 : Nat}
    (h : ACi g l d MX6_takeIf [vR 6 (some x0), vI 91] σ (fun v2 σ1 => ((¬ v2 = 0 → ∃ r4, gR σ1 609 x0 0 = some r4 ∧ (((gI σ1 604 x0 0) = 93 → (((gI σ1 206 r4 0) = (-1) → AW g l (d + 1) MX6_readTail 147 [some (vR 6 (some x0)), none] [vI 1] (sI σ1 201 r4 0 2) Q) ∧ (¬ (gI σ1 206 r4 0) = (-1) → ∃ r8, gR σ1 606 x0 0 = some r8 ∧ ACi g l d MX1_sizeOf [vR 1 (some r8), vI (gI σ1 206 r4 0)] (sI σ1 201 r4 0 2) (fun v11 σ10 => ((v11 ≤ 0 → AW g l (d + 1) MX6_readTail 147 [some (vR 6 (some x0)), none] [vI 0] σ10 Q) ∧ (¬ v11 ≤ 0 → AW g l (d + 1) MX6_readTail 147 [some (vR 6 (some x0)), none] [vI 1] σ10 Q)))))) ∧ (¬ (gI σ1 604 x0 0) = 93 → ACi g l d MX6_readExpression [vR 6 (some x0)] (sI σ1 201 r4 0 2) (fun v14 σ13 => ∃ r15, gR σ13 609 x0 0 = some r15 ∧ (((gI (sI σ13 209 r4 0 v14) 209 r15 0) = (-1) → Q (some (vI 0)) (sI σ13 209 r4 0 v14)) ∧ (¬ (gI (sI σ13 209 r4 0 v14) 209 r15 0) = (-1) → ACi g l d MX6_take [vR 6 (some x0), vI 93] (sI σ13 209 r4 0 v14) (fun v19 σ18 => ((v19 = 0 → Q (some (vI 0)) σ18) ∧ (¬ v19 = 0 → Q (some (vI 1)) σ18))))))))) ∧ (v2 = 0 → Q (some (vI 1)) σ1)))) :
    AW g l (d + 1) MX6_readTail 49 [some (vR 6 (some x0)), none] [] σ Q := by
  refine aw_aload_n dX6_readTail_49 rfl rfl ?_
  refine aw_bipush (x := 91) dX6_readTail_50 rfl ?_
  refine aw_invVi (M := MX6_readTail) (ci := 6) [vI 91] rfl mo_X6_takeIf rfl lm_X6_148 li_X6_takeIf ls_X6_takeIf (by decide +kernel) dX6_readTail_52 rfl (Nat.le_of_ble_eq_true rfl) (ACi.mono (fun v2 σ1 h => ?_) h)
  refine aw_if_ne (tgt := 60) dX6_readTail_55 (by decide) (fun k3 => ?_) (fun k3 => ?_)
  · replace h := h.1 k3
    refine aw_aload_n dX6_readTail_60 rfl rfl ?_
    refine aw_getR' (ci := 2) rfl fk_609 (by decide +kernel) lf_X6_106 dX6_readTail_61 ?_
    refine aw_iconst (x := 2) dX6_readTail_64 rfl ?_
    obtain ⟨r4, e5, h⟩ := h
    refine aw_putI' e5 fk_201 (Or.inl rfl) lf_X6_229 dX6_readTail_65 ?_
    refine aw_aload_n dX6_readTail_68 rfl rfl ?_
    refine aw_getIe (v := gI σ1 604 x0 0) rfl fk_604 lf_X6_24 dX6_readTail_69 rfl ?_
    refine aw_bipush (x := 93) dX6_readTail_72 rfl ?_
    refine aw_icmp_eq (tgt := 114) dX6_readTail_74 (by decide) (fun k6 => ?_) (fun k6 => ?_)
    · replace h := h.1 k6
      refine aw_aload_n dX6_readTail_114 rfl rfl ?_
      refine aw_getRe (ci := 2) (v := gR σ1 609 x0 0) rfl fk_609 (by decide +kernel) lf_X6_106 dX6_readTail_115 rfl ?_
      refine aw_getIe (v := gI σ1 206 r4 0) e5 fk_206 lf_X6_243 dX6_readTail_118 rfl ?_
      refine aw_iconst (x := (-1)) dX6_readTail_121 rfl ?_
      refine aw_icmp_eq (tgt := 142) dX6_readTail_122 (by decide) (fun k7 => ?_) (fun k7 => ?_)
      · replace h := h.1 k7
        refine aw_iconst (x := 1) dX6_readTail_142 rfl ?_
        refine aw_goto (tgt := 147) dX6_readTail_143 (by decide) ?_
        exact aw_fgt (L' := [some (vR 6 (some x0)), none]) ⟨rfl, trivial⟩ h
      · replace h := h.2 k7
        refine aw_aload_n dX6_readTail_125 rfl rfl ?_
        refine aw_getRe (ci := 1) (v := gR σ1 606 x0 0) rfl fk_606 (by decide +kernel) lf_X6_66 dX6_readTail_126 rfl ?_
        refine aw_aload_n dX6_readTail_129 rfl rfl ?_
        refine aw_getRe (ci := 2) (v := gR σ1 609 x0 0) rfl fk_609 (by decide +kernel) lf_X6_106 dX6_readTail_130 rfl ?_
        refine aw_getIe (v := gI σ1 206 r4 0) e5 fk_206 lf_X6_243 dX6_readTail_133 rfl ?_
        obtain ⟨r8, e9, h⟩ := h
        refine aw_invVi (M := MX6_readTail) (ci := 1) [vI (gI σ1 206 r4 0)] e9 mo_X1_sizeOf rfl lm_X6_254 li_X1_sizeOf ls_X1_sizeOf (by decide +kernel) dX6_readTail_136 rfl (Nat.le_of_ble_eq_true rfl) (ACi.mono (fun v11 σ10 h => ?_) h)
        refine aw_if_le (tgt := 146) dX6_readTail_139 (by decide) (fun k12 => ?_) (fun k12 => ?_)
        · replace h := h.1 k12
          refine aw_iconst (x := 0) dX6_readTail_146 rfl ?_
          exact aw_fgt (L' := [some (vR 6 (some x0)), none]) ⟨rfl, trivial⟩ h
        · replace h := h.2 k12
          refine aw_iconst (x := 1) dX6_readTail_142 rfl ?_
          refine aw_goto (tgt := 147) dX6_readTail_143 (by decide) ?_
          exact aw_fgt (L' := [some (vR 6 (some x0)), none]) ⟨rfl, trivial⟩ h
    · replace h := h.2 k6
      refine aw_aload_n dX6_readTail_77 rfl rfl ?_
      refine aw_getRe (ci := 2) (v := gR σ1 609 x0 0) rfl fk_609 (by decide +kernel) lf_X6_106 dX6_readTail_78 rfl ?_
      refine aw_aload_n dX6_readTail_81 rfl rfl ?_
      refine aw_invVi (M := MX6_readTail) (ci := 6) [] rfl mo_X6_readExpression rfl lm_X6_58 li_X6_readExpression ls_X6_readExpression (by decide +kernel) dX6_readTail_82 rfl (Nat.le_of_ble_eq_true rfl) (ACi.mono (fun v14 σ13 h => ?_) h)
      refine aw_putI' e5 fk_209 (Or.inl rfl) lf_X6_251 dX6_readTail_85 ?_
      refine aw_aload_n dX6_readTail_88 rfl rfl ?_
      refine aw_getRe (ci := 2) (v := gR σ13 609 x0 0) rfl fk_609 (by decide +kernel) lf_X6_106 dX6_readTail_89 rfl ?_
      obtain ⟨r15, e16, h⟩ := h
      refine aw_getI' e16 fk_209 lf_X6_251 dX6_readTail_92 ?_
      refine aw_iconst (x := (-1)) dX6_readTail_95 rfl ?_
      refine aw_icmp_eq (tgt := 112) dX6_readTail_96 (by decide) (fun k17 => ?_) (fun k17 => ?_)
      · replace h := h.1 k17
        refine aw_iconst (x := 0) dX6_readTail_112 rfl ?_
        exact aw_zreturn dX6_readTail_113 rfl (Or.inl rfl) h
      · replace h := h.2 k17
        refine aw_aload_n dX6_readTail_99 rfl rfl ?_
        refine aw_bipush (x := 93) dX6_readTail_100 rfl ?_
        refine aw_invVi (M := MX6_readTail) (ci := 6) [vI 93] rfl mo_X6_take rfl lm_X6_116 li_X6_take ls_X6_take (by decide +kernel) dX6_readTail_102 rfl (Nat.le_of_ble_eq_true rfl) (ACi.mono (fun v19 σ18 h => ?_) h)
        refine aw_if_eq (tgt := 112) dX6_readTail_105 (by decide) (fun k20 => ?_) (fun k20 => ?_)
        · replace h := h.1 k20
          refine aw_iconst (x := 0) dX6_readTail_112 rfl ?_
          exact aw_zreturn dX6_readTail_113 rfl (Or.inl rfl) h
        · replace h := h.2 k20
          refine aw_iconst (x := 1) dX6_readTail_108 rfl ?_
          refine aw_goto (tgt := 113) dX6_readTail_109 (by decide) ?_
          exact aw_zreturn dX6_readTail_113 rfl (Or.inr rfl) h
  · replace h := h.2 k3
    refine aw_iconst (x := 1) dX6_readTail_58 rfl ?_
    exact aw_zreturn dX6_readTail_59 rfl (Or.inr rfl) h
set_option maxRecDepth 4000 in
theorem bk_X6_readTail_147 {g : GP} {l : Launch} {d : Nat} {σ : St} {Q : Option AV → St → Prop} {x0 : Nat} {y0 : Int}
    (h : ACi g l d MX6_check [vR 6 (some x0), vI y0, vI 6] σ (fun v2 σ1 => ((v2 = 0 → Q (some (vI 0)) σ1) ∧ (¬ v2 = 0 → ACi g l d MX6_take [vR 6 (some x0), vI 93] σ1 (fun v5 σ4 => ((v5 = 0 → Q (some (vI 0)) σ4) ∧ (¬ v5 = 0 → Q (some (vI 1)) σ4))))))) :
    AW g l (d + 1) MX6_readTail 147 [some (vR 6 (some x0)), none] [vI y0] σ Q := by
  refine aw_istore_n (L' := [some (vR 6 (some x0)), some (vI y0)]) dX6_readTail_147 rfl (by decide) rfl ?_
  refine aw_aload_n dX6_readTail_148 rfl rfl ?_
  refine aw_iload_n dX6_readTail_149 rfl rfl ?_
  refine aw_bipush (x := 6) dX6_readTail_150 rfl ?_
  refine aw_invVi (M := MX6_readTail) (ci := 6) [vI y0, vI 6] rfl mo_X6_check rfl lm_X6_28 li_X6_check ls_X6_check (by decide +kernel) dX6_readTail_152 rfl (Nat.le_of_ble_eq_true rfl) (ACi.mono (fun v2 σ1 h => ?_) h)
  refine aw_if_eq (tgt := 171) dX6_readTail_155 (by decide) (fun k3 => ?_) (fun k3 => ?_)
  · replace h := h.1 k3
    refine aw_iconst (x := 0) dX6_readTail_171 rfl ?_
    exact aw_zreturn dX6_readTail_172 rfl (Or.inl rfl) h
  · replace h := h.2 k3
    refine aw_aload_n dX6_readTail_158 rfl rfl ?_
    refine aw_bipush (x := 93) dX6_readTail_159 rfl ?_
    refine aw_invVi (M := MX6_readTail) (ci := 6) [vI 93] rfl mo_X6_take rfl lm_X6_116 li_X6_take ls_X6_take (by decide +kernel) dX6_readTail_161 rfl (Nat.le_of_ble_eq_true rfl) (ACi.mono (fun v5 σ4 h => ?_) h)
    refine aw_if_eq (tgt := 171) dX6_readTail_164 (by decide) (fun k6 => ?_) (fun k6 => ?_)
    · replace h := h.1 k6
      refine aw_iconst (x := 0) dX6_readTail_171 rfl ?_
      exact aw_zreturn dX6_readTail_172 rfl (Or.inl rfl) h
    · replace h := h.2 k6
      refine aw_iconst (x := 1) dX6_readTail_167 rfl ?_
      refine aw_goto (tgt := 172) dX6_readTail_168 (by decide) ?_
      exact aw_zreturn dX6_readTail_172 rfl (Or.inr rfl) h
set_option maxRecDepth 4000 in
theorem bk_X6_readText_0 {g : GP} {l : Launch} {d : Nat} {σ : St} {Q : Option AV → St → Prop} {x0 : Nat}
    (h : ∃ r1, gR σ 609 x0 0 = some r1 ∧ ACv g l d MX6_pass [vR 6 (some x0)] (sI σ 201 r1 0 5) (fun σ3 => ACi g l d MX6_takeOwnName [vR 6 (some x0)] σ3 (fun v5 σ4 => ((¬ v5 = 0 → ACi g l d MX6_takeIf [vR 6 (some x0), vI 91] σ4 (fun v8 σ7 => ((v8 = 0 → ACi g l d MX6_take [vR 6 (some x0), vI 206] σ7 (fun v11 σ10 => ((v11 = 0 → Q (some (vI 0)) σ10) ∧ (¬ v11 = 0 → ACi g l d MX6_takeNumber [vR 6 (some x0), vJ 0, vJ 255] σ10 (fun v14 σ13 => ((¬ v14 = 0 → ∃ r16, gR σ13 609 x0 0 = some r16 ∧ Q (some (vI 1)) (sJ σ13 211 r16 0 (gJ σ13 610 x0 0))) ∧ (v14 = 0 → Q (some (vI 0)) σ13))))))) ∧ (¬ v8 = 0 → ACi g l d MX6_readExpression [vR 6 (some x0)] σ7 (fun v19 σ18 => ∃ r20, gR σ7 609 x0 0 = some r20 ∧ ∃ r22, gR σ18 609 x0 0 = some r22 ∧ (((gI (sI σ18 209 r20 0 v19) 209 r22 0) = (-1) → Q (some (vI 0)) (sI σ18 209 r20 0 v19)) ∧ (¬ (gI (sI σ18 209 r20 0 v19) 209 r22 0) = (-1) → ACi g l d MX6_take [vR 6 (some x0), vI 93] (sI σ18 209 r20 0 v19) (fun v26 σ25 => ((v26 = 0 → Q (some (vI 0)) σ25) ∧ (¬ v26 = 0 → Q (some (vI 1)) σ25)))))))))) ∧ (v5 = 0 → Q (some (vI 0)) σ4))))) :
    AW g l (d + 1) MX6_readText 0 [some (vR 6 (some x0))] [] σ Q := by
  refine aw_aload_n dX6_readText_0 rfl rfl ?_
  refine aw_getR' (ci := 2) rfl fk_609 (by decide +kernel) lf_X6_106 dX6_readText_1 ?_
  refine aw_iconst (x := 5) dX6_readText_4 rfl ?_
  obtain ⟨r1, e2, h⟩ := h
  refine aw_putI' e2 fk_201 (Or.inl rfl) lf_X6_229 dX6_readText_5 ?_
  refine aw_aload_n dX6_readText_8 rfl rfl ?_
  refine aw_invVv (M := MX6_readText) (ci := 6) [] rfl mo_X6_pass rfl lm_X6_100 li_X6_pass ls_X6_pass (by decide +kernel) dX6_readText_9 rfl (Nat.le_of_ble_eq_true rfl) (ACv.mono (fun σ3 h => ?_) h)
  refine aw_aload_n dX6_readText_12 rfl rfl ?_
  refine aw_invVi (M := MX6_readText) (ci := 6) [] rfl mo_X6_takeOwnName rfl lm_X6_237 li_X6_takeOwnName ls_X6_takeOwnName (by decide +kernel) dX6_readText_13 rfl (Nat.le_of_ble_eq_true rfl) (ACi.mono (fun v5 σ4 h => ?_) h)
  refine aw_if_ne (tgt := 21) dX6_readText_16 (by decide) (fun k6 => ?_) (fun k6 => ?_)
  · replace h := h.1 k6
    refine aw_aload_n dX6_readText_21 rfl rfl ?_
    refine aw_bipush (x := 91) dX6_readText_22 rfl ?_
    refine aw_invVi (M := MX6_readText) (ci := 6) [vI 91] rfl mo_X6_takeIf rfl lm_X6_148 li_X6_takeIf ls_X6_takeIf (by decide +kernel) dX6_readText_24 rfl (Nat.le_of_ble_eq_true rfl) (ACi.mono (fun v8 σ7 h => ?_) h)
    refine aw_if_eq (tgt := 67) dX6_readText_27 (by decide) (fun k9 => ?_) (fun k9 => ?_)
    · replace h := h.1 k9
      refine aw_aload_n dX6_readText_67 rfl rfl ?_
      refine aw_sipush (x := 206) dX6_readText_68 rfl ?_
      refine aw_invVi (M := MX6_readText) (ci := 6) [vI 206] rfl mo_X6_take rfl lm_X6_116 li_X6_take ls_X6_take (by decide +kernel) dX6_readText_71 rfl (Nat.le_of_ble_eq_true rfl) (ACi.mono (fun v11 σ10 h => ?_) h)
      refine aw_if_eq (tgt := 88) dX6_readText_74 (by decide) (fun k12 => ?_) (fun k12 => ?_)
      · replace h := h.1 k12
        refine aw_iconst (x := 0) dX6_readText_88 rfl ?_
        exact aw_zreturn dX6_readText_89 rfl (Or.inl rfl) h
      · replace h := h.2 k12
        refine aw_aload_n dX6_readText_77 rfl rfl ?_
        refine aw_lconst (x := 0) dX6_readText_78 rfl ?_
        refine aw_ldc2 lk_X6_274 dX6_readText_79 ?_
        refine aw_invVi (M := MX6_readText) (ci := 6) [vJ 0, vJ 255] rfl mo_X6_takeNumber rfl lm_X6_270 li_X6_takeNumber ls_X6_takeNumber (by decide +kernel) dX6_readText_82 rfl (Nat.le_of_ble_eq_true rfl) (ACi.mono (fun v14 σ13 h => ?_) h)
        refine aw_if_ne (tgt := 90) dX6_readText_85 (by decide) (fun k15 => ?_) (fun k15 => ?_)
        · replace h := h.1 k15
          refine aw_aload_n dX6_readText_90 rfl rfl ?_
          refine aw_getR' (ci := 2) rfl fk_609 (by decide +kernel) lf_X6_106 dX6_readText_91 ?_
          refine aw_aload_n dX6_readText_94 rfl rfl ?_
          refine aw_getJ' rfl fk_610 lf_X6_103 dX6_readText_95 ?_
          obtain ⟨r16, e17, h⟩ := h
          refine aw_putJ' e17 fk_211 (Or.inl rfl) lf_X6_276 dX6_readText_98 ?_
          refine aw_iconst (x := 1) dX6_readText_101 rfl ?_
          exact aw_zreturn dX6_readText_102 rfl (Or.inr rfl) h
        · replace h := h.2 k15
          refine aw_iconst (x := 0) dX6_readText_88 rfl ?_
          exact aw_zreturn dX6_readText_89 rfl (Or.inl rfl) h
    · replace h := h.2 k9
      refine aw_aload_n dX6_readText_30 rfl rfl ?_
      refine aw_getR' (ci := 2) rfl fk_609 (by decide +kernel) lf_X6_106 dX6_readText_31 ?_
      refine aw_aload_n dX6_readText_34 rfl rfl ?_
      refine aw_invVi (M := MX6_readText) (ci := 6) [] rfl mo_X6_readExpression rfl lm_X6_58 li_X6_readExpression ls_X6_readExpression (by decide +kernel) dX6_readText_35 rfl (Nat.le_of_ble_eq_true rfl) (ACi.mono (fun v19 σ18 h => ?_) h)
      obtain ⟨r20, e21, h⟩ := h
      refine aw_putI' e21 fk_209 (Or.inl rfl) lf_X6_251 dX6_readText_38 ?_
      refine aw_aload_n dX6_readText_41 rfl rfl ?_
      refine aw_getRe (ci := 2) (v := gR σ18 609 x0 0) rfl fk_609 (by decide +kernel) lf_X6_106 dX6_readText_42 rfl ?_
      obtain ⟨r22, e23, h⟩ := h
      refine aw_getI' e23 fk_209 lf_X6_251 dX6_readText_45 ?_
      refine aw_iconst (x := (-1)) dX6_readText_48 rfl ?_
      refine aw_icmp_eq (tgt := 65) dX6_readText_49 (by decide) (fun k24 => ?_) (fun k24 => ?_)
      · replace h := h.1 k24
        refine aw_iconst (x := 0) dX6_readText_65 rfl ?_
        exact aw_zreturn dX6_readText_66 rfl (Or.inl rfl) h
      · replace h := h.2 k24
        refine aw_aload_n dX6_readText_52 rfl rfl ?_
        refine aw_bipush (x := 93) dX6_readText_53 rfl ?_
        refine aw_invVi (M := MX6_readText) (ci := 6) [vI 93] rfl mo_X6_take rfl lm_X6_116 li_X6_take ls_X6_take (by decide +kernel) dX6_readText_55 rfl (Nat.le_of_ble_eq_true rfl) (ACi.mono (fun v26 σ25 h => ?_) h)
        refine aw_if_eq (tgt := 65) dX6_readText_58 (by decide) (fun k27 => ?_) (fun k27 => ?_)
        · replace h := h.1 k27
          refine aw_iconst (x := 0) dX6_readText_65 rfl ?_
          exact aw_zreturn dX6_readText_66 rfl (Or.inl rfl) h
        · replace h := h.2 k27
          refine aw_iconst (x := 1) dX6_readText_61 rfl ?_
          refine aw_goto (tgt := 66) dX6_readText_62 (by decide) ?_
          exact aw_zreturn dX6_readText_66 rfl (Or.inr rfl) h
  · replace h := h.2 k6
    refine aw_iconst (x := 0) dX6_readText_19 rfl ?_
    exact aw_zreturn dX6_readText_20 rfl (Or.inl rfl) h
