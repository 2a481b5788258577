/-! the class that is new -/
def Cls (σ : St) (x : Nat) : Prop := (LC 11 σ x ∧ x < hs σ ∧ (∀ f i, gI σ f x i = 0) ∧ (∀ f i, gJ σ f x i = 0) ∧ ∀ j, gR σ 1108 x j = none) ∧
  (∃ tp, gR σ 1102 x 0 = some tp ∧ LC 9 σ tp ∧ tp < hs σ ∧ gI σ 901 tp 0 = 0 ∧ ∀ i : Int, gJ σ 906 tp i.toNat = kwd i) ∧
  (∃ p, gR σ 1103 x 0 = some p ∧ p < hs σ) ∧ (∃ rk, gR σ 1104 x 0 = some rk ∧ LC 7 σ rk ∧ rk < hs σ) ∧
  (∃ a b q, gR σ 1105 x 0 = some a ∧ gR σ 1106 x 0 = some b ∧ gR σ 1107 x 0 = some q ∧ Dn σ a ∧ Dn σ b ∧ (x < a ∧ a + 331 ≤ b ∧ b + 331 ≤ q ∧ q < hs σ) ∧ LC 0 σ q) ∧
  ∃ sp, gR σ 1109 x 0 = some sp ∧ LC 10 σ sp ∧ sp < hs σ ∧ ∀ j, gR σ 1003 sp j = none
theorem LM11 (f : Nat) (h : f / 100 = 11) : LM f = if f = 1115 then 2001 else if f = 1114 then 3000 else if f = 1113 then 3000 else if f = 1108 then 6 else if f = 1100 then 6 else 0 := by
  have k : ∀ j : Fin 100, LM (1100 + j) = if 1100 + j.val = 1115 then 2001 else if 1100 + j.val = 1114 then 3000 else if 1100 + j.val = 1113 then 3000 else if 1100 + j.val = 1108 then 6 else if 1100 + j.val = 1100 then 6 else 0 := by decide
  have := k ⟨f - 1100, by omega⟩
  simp only at this
  rw [show 1100 + (f - 1100) = f by omega] at this
  exact this
section Y4
variable {g : GP} {l : Launch} {d : Nat} {σ σ' τ : St} {x : Nat} {P : St → Prop}
theorem x_new0 (hS : SOK g) (V : XS τ x (fun _ => none) (fun _ => 0)) (h1 : hs τ + 700 ≤ gB g + 600000) (h2 : sl τ + 70000 ≤ 7302250) (h : ∀ σ', Cls σ' x → hs σ' ≤ hs τ + 700 → sl σ' ≤ sl τ + 70000 → P σ') : ACv g l (d + 5) MX11_init [vR 11 (some x)] τ P := by
  have hx := V.1
  refine AC.of mo_X11_init (Nat.le_of_ble_eq_true rfl) (bk_X11_init_0 ⟨⟨V.2.2.2.2 _, by omega, by omega⟩, ?_⟩)
  have W1 := V.arr 1100 6 rfl
  have e1 : hs (sArr τ 1100 x 6) = hs τ + 1 := hs_sArr _ _ _ _
  have s1 : sl (sArr τ 1100 x 6) = sl τ + 6 := sl_sArr _ _ _ _
  generalize sArr τ 1100 x 6 = τ1 at W1 e1 s1 ⊢
  refine ⟨⟨by omega, by omega⟩, x_newTape hS (by omega) (by omega) (fun τ2 f2 tp1 e2 s2 tp2 tp3 => ?_)⟩
  have W3 := (W1.fr f2).put 1102 (some (hs τ1))
  have k3 : KeO x τ2 (sR τ2 1102 x 0 (some (hs τ1))) := KeO.sR
  have e3 : hs (sR τ2 1102 x 0 (some (hs τ1))) = hs τ2 := rfl
  have s3 : sl (sR τ2 1102 x 0 (some (hs τ1))) = sl τ2 := rfl
  generalize sR τ2 1102 x 0 (some (hs τ1)) = τ3 at W3 k3 e3 s3 ⊢
  refine ⟨⟨by omega, by omega⟩, nx6 (fun τ4 f4 e4 s4 => ?_)⟩
  have W5 := (W3.fr f4).put 1103 (some (hs τ3))
  have k5 : KeO x τ4 (sR τ4 1103 x 0 (some (hs τ3))) := KeO.sR
  have e5 : hs (sR τ4 1103 x 0 (some (hs τ3))) = hs τ4 := rfl
  have s5 : sl (sR τ4 1103 x 0 (some (hs τ3))) = sl τ4 := rfl
  generalize sR τ4 1103 x 0 (some (hs τ3)) = τ5 at W5 k5 e5 s5 ⊢
  refine ⟨⟨by omega, by omega⟩, nx7 (by omega) (by omega) (fun τ6 f6 rk1 e6 s6 => ?_)⟩
  have W7 := (W5.fr f6).put 1104 (some (hs τ5))
  have k7 : KeO x τ6 (sR τ6 1104 x 0 (some (hs τ5))) := KeO.sR
  have e7 : hs (sR τ6 1104 x 0 (some (hs τ5))) = hs τ6 := rfl
  have s7 : sl (sR τ6 1104 x 0 (some (hs τ5))) = sl τ6 := rfl
  generalize sR τ6 1104 x 0 (some (hs τ5)) = τ7 at W7 k7 e7 s7 ⊢
  refine ⟨⟨by omega, by omega⟩, nx1 (by omega) (by omega) (fun τ8 f8 dA e8 s8 => ?_)⟩
  have W9 := (W7.fr f8).put 1105 (some (hs τ7))
  have k9 : KeO x τ8 (sR τ8 1105 x 0 (some (hs τ7))) := KeO.sR
  have e9 : hs (sR τ8 1105 x 0 (some (hs τ7))) = hs τ8 := rfl
  have s9 : sl (sR τ8 1105 x 0 (some (hs τ7))) = sl τ8 := rfl
  generalize sR τ8 1105 x 0 (some (hs τ7)) = τ9 at W9 k9 e9 s9 ⊢
  refine ⟨⟨by omega, by omega⟩, nx1 (by omega) (by omega) (fun τ10 f10 dB e10 s10 => ?_)⟩
  have W11 := (W9.fr f10).put 1106 (some (hs τ9))
  have k11 : KeO x τ10 (sR τ10 1106 x 0 (some (hs τ9))) := KeO.sR
  have e11 : hs (sR τ10 1106 x 0 (some (hs τ9))) = hs τ10 := rfl
  have s11 : sl (sR τ10 1106 x 0 (some (hs τ9))) = sl τ10 := rfl
  generalize sR τ10 1106 x 0 (some (hs τ9)) = τ11 at W11 k11 e11 s11 ⊢
  refine ⟨⟨by omega, by omega⟩, nx0 (by omega) (by omega) (fun τ12 f12 qc1 e12 s12 qc2 => ?_)⟩
  have W13 := (W11.fr f12).put 1107 (some (hs τ11))
  have k13 : KeO x τ12 (sR τ12 1107 x 0 (some (hs τ11))) := KeO.sR
  have e13 : hs (sR τ12 1107 x 0 (some (hs τ11))) = hs τ12 := rfl
  have s13 : sl (sR τ12 1107 x 0 (some (hs τ11))) = sl τ12 := rfl
  generalize sR τ12 1107 x 0 (some (hs τ11)) = τ13 at W13 k13 e13 s13 ⊢
  refine ⟨⟨W13.2.2.2.2 _, by omega, by omega⟩, ?_⟩
  have W14 := W13.arr 1108 6 rfl
  have k14 : KeO x τ13 (sArr τ13 1108 x 6) := KeO.sArr
  have e14 : hs (sArr τ13 1108 x 6) = hs τ13 + 1 := hs_sArr _ _ _ _
  have s14 : sl (sArr τ13 1108 x 6) = sl τ13 + 6 := sl_sArr _ _ _ _
  generalize sArr τ13 1108 x 6 = τ14 at W14 k14 e14 s14 ⊢
  refine ⟨⟨by omega, by omega⟩, AC.of mo_X10_init (Nat.le_of_ble_eq_true rfl) (bk_X10_init_0 ⟨⟨by rw [gL_sNew, if_pos rfl], by rw [hs_sNew]; omega, by rw [sl_sNew]; omega⟩, rfl, ?_⟩)⟩
  obtain ⟨⟨o1, _, _⟩, o2, f15⟩ := new_tob (σ := τ14)
  have e15 : hs (sArr (sNew τ14 10) 1003 (hs τ14) 400) = hs τ14 + 2 := by rw [hs_sArr, hs_sNew]
  have s15 : sl (sArr (sNew τ14 10) 1003 (hs τ14) 400) ≤ sl τ14 + 410 := by rw [sl_sArr, sl_sNew]; omega
  generalize sArr (sNew τ14 10) 1003 (hs τ14) 400 = τ15 at o1 o2 f15 e15 s15 ⊢
  have W16 := (W14.fr f15).put 1109 (some (hs τ14))
  have k16 : KeO x τ15 (sR τ15 1109 x 0 (some (hs τ14))) := KeO.sR
  have e16 : hs (sR τ15 1109 x 0 (some (hs τ14))) = hs τ15 := rfl
  have s16 : sl (sR τ15 1109 x 0 (some (hs τ14))) = sl τ15 := rfl
  generalize sR τ15 1109 x 0 (some (hs τ14)) = τ16 at W16 k16 e16 s16 ⊢
  refine ⟨⟨W16.2.2.2.2 _, by omega, by omega⟩, ?_⟩
  have W17 := W16.arr 1113 3000 rfl
  have k17 : KeO x τ16 (sArr τ16 1113 x 3000) := KeO.sArr
  have e17 : hs (sArr τ16 1113 x 3000) = hs τ16 + 1 := hs_sArr _ _ _ _
  have s17 : sl (sArr τ16 1113 x 3000) = sl τ16 + 3000 := sl_sArr _ _ _ _
  generalize sArr τ16 1113 x 3000 = τ17 at W17 k17 e17 s17 ⊢
  refine ⟨⟨W17.2.2.2.2 _, by omega, by omega⟩, ?_⟩
  have W18 := W17.arr 1114 3000 rfl
  have k18 : KeO x τ17 (sArr τ17 1114 x 3000) := KeO.sArr
  have e18 : hs (sArr τ17 1114 x 3000) = hs τ17 + 1 := hs_sArr _ _ _ _
  have s18 : sl (sArr τ17 1114 x 3000) = sl τ17 + 3000 := sl_sArr _ _ _ _
  generalize sArr τ17 1114 x 3000 = τ18 at W18 k18 e18 s18 ⊢
  refine ⟨⟨W18.2.2.2.2 _, by omega, by omega⟩, ?_⟩
  have W19 := W18.arr 1115 2001 rfl
  have k19 : KeO x τ18 (sArr τ18 1115 x 2001) := KeO.sArr
  have e19 : hs (sArr τ18 1115 x 2001) = hs τ18 + 1 := hs_sArr _ _ _ _
  have s19 : sl (sArr τ18 1115 x 2001) = sl τ18 + 2001 := sl_sArr _ _ _ _
  generalize sArr τ18 1115 x 2001 = τ19 at W19 k19 e19 s19 ⊢
  have K18 : KeO x τ16 τ19 := k17.trans (k18.trans k19)
  have K15 : KeO x τ15 τ19 := k16.trans K18
  have K12 : KeO x τ12 τ19 := k13.trans (k14.trans ((KeO.fr f15).trans K15))
  have K10 : KeO x τ10 τ19 := k11.trans ((KeO.fr f12).trans K12)
  have K8 : KeO x τ8 τ19 := k9.trans ((KeO.fr f10).trans K10)
  have K6 : KeO x τ6 τ19 := k7.trans ((KeO.fr f8).trans K8)
  have K2 : KeO x τ2 τ19 := k3.trans ((KeO.fr f4).trans (k5.trans ((KeO.fr f6).trans K6)))
  refine ⟨rfl, h τ19 ⟨⟨fun f hf => ?_, W19.1, W19.2.1, W19.2.2.1, fun j => ?_⟩, ⟨hs τ1, W19.2.2.2.1 1102 0, K2.lc (by omega) (by omega) tp1, by omega, ?_, fun i => ?_⟩, ⟨hs τ3, W19.2.2.2.1 1103 0, by omega⟩, ⟨hs τ5, W19.2.2.2.1 1104 0, K6.lc (by omega) (by omega) rk1, by omega⟩, ⟨hs τ7, hs τ9, hs τ11, W19.2.2.2.1 1105 0, W19.2.2.2.1 1106 0, W19.2.2.2.1 1107 0, dA.ke K8 (by omega), dB.ke K10 (by omega), ⟨by omega, by omega, by omega, by omega⟩, K12.lc (by omega) (by omega) qc1⟩, hs τ14, W19.2.2.2.1 1109 0, K15.lc (by omega) (by omega) o1, by omega, fun j => ?_⟩ (by omega) (by omega)⟩
  · rw [W19.2.2.2.2, LM11 f hf]
  · rw [W19.2.2.2.1]; split <;> rfl
  · rw [K2.I (by omega) (by omega)]; exact tp2 901 0 (by decide)
  · rw [K2.J (by omega) (by omega)]; exact tp3 i
  · rw [K15.R (by omega) (by omega)]; exact o2 j
end Y4
