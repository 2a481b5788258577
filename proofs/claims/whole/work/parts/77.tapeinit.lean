/-! the class's tape is made -/
section X12
variable {g : GP} {l : Launch} {d : Nat} {σ : St}
def kwc (i : Nat) : Int := (KWB.getD i 0).toInt % 256
/-- word, letters, row of words behind i letters of the constant -/
def kst : Nat → Int × Int × (Nat → Int64)
  | 0 => (0, 0, fun _ => 0)
  | i + 1 => if kwc i = 32 then ((kst i).1 + 1, 0, (kst i).2.2) else ((kst i).1, (kst i).2.1 + 1, fun k => if k = (kst i).1.toNat then (kst i).2.2 (kst i).1.toNat ||| j_shl (i2j (kwc i)) (8 * (kst i).2.1) else (kst i).2.2 k)
def kwd (i : Int) : Int64 := (kst 124).2.2 i.toNat
def kwl : Nat → Int × Int
  | 0 => (0, 0)
  | i + 1 => if kwc i = 32 then ((kwl i).1 + 1, 0) else ((kwl i).1, (kwl i).2 + 1)
theorem kwl_eq : ∀ i, (kst i).1 = (kwl i).1 ∧ (kst i).2.1 = (kwl i).2
  | 0 => ⟨rfl, rfl⟩
  | i + 1 => by
    obtain ⟨a, b⟩ := kwl_eq i
    unfold kst kwl
    by_cases e : kwc i = 32
    · rw [if_pos e, if_pos e, a]; exact ⟨rfl, rfl⟩
    · rw [if_neg e, if_neg e, a, b]; exact ⟨rfl, rfl⟩
set_option maxRecDepth 100000 in
theorem kwl_ok : ∀ i : Nat, i < 124 → 0 ≤ (kwl i).1 ∧ (kwl i).1 < 27 ∧ 0 ≤ (kwl i).2 ∧ (kwl i).2 ≤ 8 := by decide
theorem kwb_len : KWB.length = 124 := rfl
theorem x_keywords {t : Nat} {P : St → Prop} (hS : SOK g) (hL : LC 9 σ t) (h0 : ∀ k, gJ σ 906 t k = 0) (h : ∀ σ', Frm (fun f r => r = t ∧ f = 906) σ σ' → (∀ i : Int, gJ σ' 906 t i.toNat = kwd i) → P σ') :
    AW g l (d + 4) MX9_init 54 [some (vR 9 (some t)), some (vI 0), some (vI 0), some (vI 0)] [] σ (fun v σ' => v = none ∧ P σ') := by
  have loop : ∀ (j : Nat) (i : Nat) (τ : St), i + j = 124 → Frm (fun f r => r = t ∧ f = 906) σ τ → (∀ k, gJ τ 906 t k = (kst i).2.2 k) →
      AW g l (d + 4) MX9_init 54 [some (vR 9 (some t)), some (vI (kst i).1), some (vI (kst i).2.1), some (vI i)] [] τ (fun v σ' => v = none ∧ P σ') := by
    intro j
    induction j with
    | zero =>
      intro i τ hi hF hk
      obtain rfl : i = 124 := by omega
      refine bk_X9_init_54 hS (j_length (e := 28) (bs := KWB) (by decide) hS.1 hS.2.2 (by rw [kwb_len]; decide) ⟨fun _ => ⟨rfl, h τ hF (fun i => hk _)⟩, fun q => absurd (by rw [kwb_len]; decide) q⟩)
    | succ j ih =>
      intro i τ hi hF hk
      obtain ⟨a1, a2⟩ := kwl_eq i
      obtain ⟨b1, b2, b3, b4⟩ := kwl_ok i (by omega)
      have hLt := hF.lc hL
      have len := kwb_len
      have step := ih (i + 1)
      unfold kst at step
      refine bk_X9_init_54 hS (j_length (e := 28) (bs := KWB) (by decide) hS.1 hS.2.2 (by rw [kwb_len]; decide) ⟨fun q => absurd q (by omega), fun _ => ⟨fun q => absurd q (by omega), fun _ => j_charAt (e := 28) (bs := KWB) (by decide) hS.1 hS.2.2 (by rw [kwb_len]; decide) (by omega) (by omega) ⟨fun z => ⟨hLt, ⟨by omega, by omega⟩, j_charAt (e := 28) (bs := KWB) (by decide) hS.1 hS.2.2 (by rw [kwb_len]; decide) (by omega) (by omega) ⟨⟨by omega, by omega⟩, hLt, ⟨by omega, by omega⟩, ⟨by omega, by omega⟩, ?_⟩⟩, fun z => ⟨⟨by omega, by omega⟩, ⟨by omega, by omega⟩, ?_⟩⟩⟩⟩)
      · have z' : ¬ kwc i = 32 := by rw [Int.toNat_natCast] at z; exact z
        rw [if_neg z'] at step
        rw [Int.toNat_natCast]
        refine step _ (by omega) (hF.trans (Frm.sJ (by simp))) (fun k => ?_)
        rw [gJ_sJ, hk, hk]
        simp only [true_and]
        rfl
      · have z' : kwc i = 32 := by rw [Int.toNat_natCast] at z; exact z
        rw [if_pos z'] at step
        exact step _ (by omega) hF hk
  exact loop 124 0 σ rfl Frm.rfl h0
theorem LM9 (f : Nat) (h : f / 100 = 9) : LM f = if f = 906 then 27 else if f = 904 then 3001 else if f = 903 then 3001 else if f = 902 then 3001 else if f = 900 then 3000 else 0 := by
  have k : ∀ j : Fin 100, LM (900 + j) = if 900 + j.val = 906 then 27 else if 900 + j.val = 904 then 3001 else if 900 + j.val = 903 then 3001 else if 900 + j.val = 902 then 3001 else if 900 + j.val = 900 then 3000 else 0 := by decide
  have := k ⟨f - 900, by omega⟩
  simp only at this
  rw [show 900 + (f - 900) = f by omega] at this
  exact this
theorem Fr.frm {P Q : Nat → Nat → Prop} {ρ σ σ' : St} (h : Fr P ρ σ) (k : Frm Q σ σ') (hq : ∀ f r, Q f r → hs ρ ≤ r) : Fr P ρ σ' := ⟨by rw [k.2.1]; exact h.1, fun f r hr => ⟨(k.1 f r).trans (h.2 f r hr).1, fun n i => by
  obtain ⟨a, b, c⟩ := (h.2 f r hr).2 n i
  obtain ⟨a', b', c'⟩ := k.2.2.2 f r (fun z => absurd (hq f r z) (by omega)) i
  exact ⟨a'.trans a, b'.trans b, c'.trans c⟩⟩⟩
theorem x_newTape0 {σ0 : St} {P : St → Prop} (hS : SOK g) (k1 : Fr (fun _ _ => False) σ σ0) (k2 : LC 9 σ0 (hs σ)) (k3 : hs σ0 = hs σ + 6) (k4 : sl σ0 = sl σ + 12037) (k5 : ∀ f i, gI σ0 f (hs σ) i = 0) (k6 : ∀ i, gJ σ0 906 (hs σ) i = 0) (h : ∀ σ1, Fr (fun _ _ => False) σ σ1 → LC 9 σ1 (hs σ) → hs σ1 = hs σ + 6 → sl σ1 = sl σ + 12037 → (∀ f i, f ≠ 906 → gI σ1 f (hs σ) i = 0) → (∀ i : Int, gJ σ1 906 (hs σ) i.toNat = kwd i) → P σ1) :
    AW g l (d + 4) MX9_init 54 [some (vR 9 (some (hs σ))), some (vI 0), some (vI 0), some (vI 0)] [] σ0 (fun v σ' => v = none ∧ P σ') :=
  x_keywords hS k2 k6 (fun σ' hF hk => h σ' (k1.frm hF (fun f r z => Nat.le_of_eq z.1.symm)) (hF.lc k2) (hF.2.1.trans k3) (hF.2.2.1.trans k4) (fun f i hf => (hF.I (fun z => hf z.2) i).trans (k5 f i)) hk)
theorem x_newTape {P : St → Prop} (hS : SOK g) (h1 : hs σ + 6 ≤ gB g + 600000) (h2 : sl σ + 12100 ≤ 7302250) (h : ∀ σ1, Fr (fun _ _ => False) σ σ1 → LC 9 σ1 (hs σ) → hs σ1 = hs σ + 6 → sl σ1 = sl σ + 12037 → (∀ f i, f ≠ 906 → gI σ1 f (hs σ) i = 0) → (∀ i : Int, gJ σ1 906 (hs σ) i.toNat = kwd i) → P σ1) : ACv g l (d + 4) MX9_init [vR 9 (some (hs σ))] (sNew σ 7) P := by
  refine AC.of mo_X9_init (Nat.le_of_ble_eq_true rfl) (bk_X9_init_0 hS ⟨⟨?_, ?_, ?_⟩, ⟨?_, ?_, ?_⟩, ⟨?_, ?_, ?_⟩, ⟨?_, ?_, ?_⟩, ⟨?_, ?_, ?_⟩, x_newTape0 hS ?_ (fun f hf => ?_) ?_ ?_ (fun f i => ?_) (fun k => ?_) h⟩)
  · rw [gL_sNew, if_pos rfl]
  · rw [hs_sNew]; omega
  · rw [sl_sNew]; omega
  · rw [gL_sArr, if_neg (by simp), gL_sNew, if_pos rfl]
  · rw [hs_sArr, hs_sNew]; omega
  · rw [sl_sArr, sl_sNew]; omega
  · rw [gL_sArr, if_neg (by simp), gL_sArr, if_neg (by simp), gL_sNew, if_pos rfl]
  · rw [hs_sArr, hs_sArr, hs_sNew]; omega
  · rw [sl_sArr, sl_sArr, sl_sNew]; omega
  · rw [gL_sArr, if_neg (by simp), gL_sArr, if_neg (by simp), gL_sArr, if_neg (by simp), gL_sNew, if_pos rfl]
  · rw [hs_sArr, hs_sArr, hs_sArr, hs_sNew]; omega
  · rw [sl_sArr, sl_sArr, sl_sArr, sl_sNew]; omega
  · rw [gL_sArr, if_neg (by simp), gL_sArr, if_neg (by simp), gL_sArr, if_neg (by simp), gL_sArr, if_neg (by simp), gL_sNew, if_pos rfl]
  · rw [hs_sArr, hs_sArr, hs_sArr, hs_sArr, hs_sNew]; omega
  · rw [sl_sArr, sl_sArr, sl_sArr, sl_sArr, sl_sNew]; omega
  · exact ((((Fr.sNew.sArr (Nat.le_refl _)).sArr (Nat.le_refl _)).sArr (Nat.le_refl _)).sArr (Nat.le_refl _)).sArr (Nat.le_refl _)
  · rw [LM9 f hf]
    simp only [gL_sArr, gL_sNew, and_true, if_true]
  · rw [hs_sArr, hs_sArr, hs_sArr, hs_sArr, hs_sArr, hs_sNew]
  · rw [sl_sArr, sl_sArr, sl_sArr, sl_sArr, sl_sArr]
    have := sl_sNew σ 7
    omega
  · simp only [gI_sArr, gI_sNew, and_true, if_true]
    repeat (first | rfl | split)
  · simp only [gJ_sArr, and_true, if_true]
end X12
