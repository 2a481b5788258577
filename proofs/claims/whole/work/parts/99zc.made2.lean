/-! a description that is new -/
def Dn (σ : St) (h : Nat) : Prop := DSi σ h (h + 8) (fun s => h + 11 + 16 * s) (fun s k => h + 11 + 16 * s + 2 + k) ∧ (∀ f i, gI σ f h i = 0) ∧ ∀ f i, gI σ f (h + 8) i = 0
section Y2
variable {g : GP} {l : Launch} {d : Nat} {σ σ' σ2 : St} {x r c h0 : Nat} {F : Nat → Option Nat} {A : Nat → Nat} {P : St → Prop}
theorem Dn.ke (hD : Dn σ h0) (K : KeO x σ σ') (hx : x < h0) : Dn σ' h0 := by
  obtain ⟨⟨a1, a2, a3, a4, a5, a6, a7, a8⟩, b1, b2⟩ := hD
  have ag : AgD σ σ' h0 (h0 + 8) (fun s => h0 + 11 + 16 * s) (fun s k => h0 + 11 + 16 * s + 2 + k) := ⟨K.ag a6 (by omega) _ _, K.ag a5 (by omega) _ _, fun s hs => K.ag (a7 s hs) (by show ¬ h0 + 11 + 16 * s = x; omega) _ _, fun s k hs hk => K.ag (a8 s k hs hk) (by show ¬ h0 + 11 + 16 * s + 2 + k = x; omega) _ _⟩
  exact ⟨⟨K.lc a5 (by omega) a1, by rw [K.R a5 (by omega)]; exact a2, K.lc a6 (by omega) a3, a4.ag ag, Nat.lt_of_lt_of_le a5 K.1, Nat.lt_of_lt_of_le a6 K.1, fun s hs => Nat.lt_of_lt_of_le (a7 s hs) K.1, fun s k hs hk => Nat.lt_of_lt_of_le (a8 s k hs hk) K.1⟩, fun f i => by rw [K.I a5 (by omega)]; exact b1 f i, fun f i => by rw [K.I a6 (by omega)]; exact b2 f i⟩
theorem nx1 (h1 : hs σ + 331 ≤ gB g + 600000) (h2 : sl σ + 20300 ≤ 7302250) (h : ∀ σ', Fr Fn σ σ' → Dn σ' (hs σ) → hs σ' = hs σ + 331 → sl σ' ≤ sl σ + 20202 → P σ') : ACv g l (d + 3) MX1_init [vR 1 (some (hs σ))] (sNew σ 11) P := by
  have V0 := XS.new (σ := σ) (n := 11)
  have V1 := V0.arr 100 20 rfl
  have V2 := V1.arr 102 8 rfl
  have V3 := V2.arr 103 8 rfl
  have V4 := V3.arr 104 8 rfl
  have V5 := V4.arr 106 3000 rfl
  have V6 := V5.arr 107 3000 rfl
  have V7 := V6.arr 108 3000 rfl
  have loop : ∀ (j i : Nat) (τ : St), i + j = 20 → Fr Fn σ τ → LC 1 τ (hs σ) → gR τ 110 (hs σ) 0 = some (hs σ + 8) → LC 0 τ (hs σ + 8) → (∀ f i, gI τ f (hs σ) i = 0) → (∀ f i, gI τ f (hs σ + 8) i = 0) → hs τ = hs σ + 11 + 16 * i → sl τ ≤ sl σ + 15062 + 257 * i →
      (∀ s : Nat, s < i → gR τ 100 (hs σ) s = some (hs σ + 11 + 16 * s) ∧ LC 8 τ (hs σ + 11 + 16 * s) ∧ ∀ k : Nat, k < 14 → gR τ 801 (hs σ + 11 + 16 * s) k = some (hs σ + 11 + 16 * s + 2 + k) ∧ gI τ 200 (hs σ + 11 + 16 * s + 2 + k) 0 = k) →
      AW g l (d + 3) MX1_init 77 [some (vR 1 (some (hs σ))), some (vI i)] [] τ (fun v σ' => v = none ∧ P σ') := by
    intro j
    induction j with
    | zero =>
      intro i τ hi hF hL hc hL0 z1 z2 hh hz hk
      refine bk_X1_init_77 ⟨fun _ => ⟨rfl, h τ hF ⟨⟨hL, hc, hL0, ⟨fun s hs => hk s (by omega), fun s s' _ _ (e : hs σ + 11 + 16 * s = hs σ + 11 + 16 * s') => by omega, fun s s' k k' _ _ _ _ (e : hs σ + 11 + 16 * s + 2 + k = hs σ + 11 + 16 * s' + 2 + k') => by omega⟩, by omega, by omega, fun s hs' => by show hs σ + 11 + 16 * s < hs τ; omega, fun s k hs' hk => by show hs σ + 11 + 16 * s + 2 + k < hs τ; omega⟩, z1, z2⟩ (by omega) (by omega)⟩, fun q => absurd (by omega) q⟩
    | succ j ih =>
      intro i τ hi hF hL hc hL0 z1 z2 hh hz hk
      refine bk_X1_init_77 ⟨fun q => absurd q (by omega), fun _ => ⟨hL, ⟨by omega, by omega⟩, nx8 (by omega) (by omega) (fun τ' f' l8 h8 s8 k8 => ⟨f'.lc (by omega) hL, ⟨by omega, by omega⟩, ⟨by omega, by omega⟩, ?_⟩)⟩⟩
      rw [Int.toNat_natCast, show (i : Int) + 1 = ((i + 1 : Nat) : Int) by omega]
      rw [hh] at l8 k8
      refine ih (i + 1) _ (by omega) ((hF.trans f').frm (Frm.sR (P := fun _ r => hs σ ≤ r) (Nat.le_refl _)) (fun f r q => q)) (fun f hf => by rw [gL_sR]; exact f'.lc (by omega) hL f hf) ?_ (fun f hf => by rw [gL_sR]; exact f'.lc (by omega) hL0 f hf) (fun f i => by rw [gI_sR, f'.I (by omega) (fun q => q)]; exact z1 f i) (fun f i => by rw [gI_sR, f'.I (by omega) (fun q => q)]; exact z2 f i) (by rw [hs_sR]; omega) (by rw [sl_sR, Nat.mul_succ, ← Nat.add_assoc]; exact Nat.le_trans s8 (Nat.add_le_add_right hz 257)) (fun s hs1 => ?_)
      · rw [gR_sR, if_neg (by simp), f'.R (by omega) (fun q => q)]; exact hc
      · by_cases q : s = i
        · subst q
          refine ⟨by rw [gR_sR, if_pos ⟨rfl, rfl, rfl⟩, hh], fun f hf => by rw [gL_sR]; exact l8 f hf, fun k hk => ?_⟩
          rw [gR_sR, if_neg (by simp), gI_sR]
          exact k8 k hk
        · obtain ⟨y1, y2, y3⟩ := hk s (by omega)
          refine ⟨by rw [gR_sR, if_neg (fun w => q w.2.2), f'.R (by omega) (fun q => q)]; exact y1, fun f hf => by rw [gL_sR]; exact f'.lc (by omega) y2 f hf, fun k hk => ?_⟩
          rw [gR_sR, if_neg (by simp), gI_sR, f'.R (by omega) (fun q => q), f'.I (by omega) (fun q => q)]
          exact y3 k hk
  have key : ∀ τ : St, XS τ (hs σ) (fun _ => none) (fun u => if u = 108 then 3000 else if u = 107 then 3000 else if u = 106 then 3000 else if u = 104 then 8 else if u = 103 then 8 else if u = 102 then 8 else if u = 100 then 20 else 0) → Fr Fn σ τ → hs τ = hs σ + 8 → sl τ ≤ sl σ + 9055 →
      (hs τ + 1 ≤ gB g + 600000 ∧ sl τ + 3 ≤ 7302250) ∧ ACv g l (d + 2) MX0_init [vR 0 (some (hs τ))] (sNew τ 3) (fun σ1 => AW g l (d + 3) MX1_init 77 [some (vR 1 (some (hs σ))), some (vI 0)] [] (sR σ1 110 (hs σ) 0 (some (hs τ))) (fun v σ' => v = none ∧ P σ')) := by
    intro τ V hF hh hz
    refine ⟨⟨by omega, by omega⟩, nx0 (by omega) (by omega) (fun τ' f' l0 h0 s0 i0 => ?_)⟩
    have V' := V.fr f'
    rw [hh] at l0 i0 ⊢
    refine loop 20 0 _ rfl ((hF.trans f').frm (Frm.sR (P := fun _ r => hs σ ≤ r) (Nat.le_refl _)) (fun f r q => q)) (fun f hf => ?_) (by rw [gR_sR, if_pos ⟨rfl, rfl, rfl⟩]) (fun f hf => by rw [gL_sR]; exact l0 f hf) (fun f i => by rw [gI_sR]; exact V'.2.1 f i) (fun f i => by rw [gI_sR]; exact i0 f i) (by rw [hs_sR]; omega) (by rw [sl_sR]; omega) (fun s hs => by omega)
    rw [gL_sR, V'.2.2.2.2, LM1 f hf]
  refine AC.of mo_X1_init (Nat.le_of_ble_eq_true rfl) (bk_X1_init_0 ⟨⟨V0.2.2.2.2 _, ?_, ?_⟩, ⟨V1.2.2.2.2 _, ?_, ?_⟩, ⟨V2.2.2.2.2 _, ?_, ?_⟩, ⟨V3.2.2.2.2 _, ?_, ?_⟩, ⟨V4.2.2.2.2 _, ?_, ?_⟩, ⟨V5.2.2.2.2 _, ?_, ?_⟩, ⟨V6.2.2.2.2 _, ?_, ?_⟩, key _ V7 ?_ ?_ ?_⟩)
  · rw [hs_sNew]; omega
  · rw [sl_sNew]; omega
  · rw [hs_sArr, hs_sNew]; omega
  · rw [sl_sArr, sl_sNew]; omega
  · rw [hs_sArr, hs_sArr, hs_sNew]; omega
  · rw [sl_sArr, sl_sArr, sl_sNew]; omega
  · rw [hs_sArr, hs_sArr, hs_sArr, hs_sNew]; omega
  · rw [sl_sArr, sl_sArr, sl_sArr, sl_sNew]; omega
  · rw [hs_sArr, hs_sArr, hs_sArr, hs_sArr, hs_sNew]; omega
  · rw [sl_sArr, sl_sArr, sl_sArr, sl_sArr, sl_sNew]; omega
  · rw [hs_sArr, hs_sArr, hs_sArr, hs_sArr, hs_sArr, hs_sNew]; omega
  · rw [sl_sArr, sl_sArr, sl_sArr, sl_sArr, sl_sArr, sl_sNew]; omega
  · rw [hs_sArr, hs_sArr, hs_sArr, hs_sArr, hs_sArr, hs_sArr, hs_sNew]; omega
  · rw [sl_sArr, sl_sArr, sl_sArr, sl_sArr, sl_sArr, sl_sArr, sl_sNew]; omega
  · exact ((((((Fr.sNew.sArr (Nat.le_refl _)).sArr (Nat.le_refl _)).sArr (Nat.le_refl _)).sArr (Nat.le_refl _)).sArr (Nat.le_refl _)).sArr (Nat.le_refl _)).sArr (Nat.le_refl _)
  · rw [hs_sArr, hs_sArr, hs_sArr, hs_sArr, hs_sArr, hs_sArr, hs_sArr, hs_sNew]
  · rw [sl_sArr, sl_sArr, sl_sArr, sl_sArr, sl_sArr, sl_sArr, sl_sArr, sl_sNew]; omega
end Y2
