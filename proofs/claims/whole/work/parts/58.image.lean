/-! the calls image, feed, cut -/
section OP5
variable {g : GP} {l : Launch} {d : Nat} {σ : St} {x m : Nat}
theorem x_newImage {P : St → Prop} (h1 : hs σ + 4 ≤ gB g + 600000) (h2 : sl σ + 4009 ≤ 7302250) (h : ∀ σ1, Fr (fun _ _ => False) σ σ1 → LC 3 σ1 (hs σ) → hs σ1 = hs σ + 4 → sl σ1 = sl σ + 4009 → (∀ f i, gI σ1 f (hs σ) i = 0) → (∀ f i, gR σ1 f (hs σ) i = none) → P σ1) : ACv g l (d + 1) MX3_init [vR 3 (some (hs σ))] (sNew σ 5) P := by
  refine AC.of mo_X3_init (Nat.le_of_ble_eq_true rfl) (bk_X3_init_0 ⟨⟨by rw [gL_sNew, if_pos rfl], by rw [hs_sNew]; omega, by rw [sl_sNew]; omega⟩, ⟨by rw [gL_sArr, if_neg (by simp), gL_sNew, if_pos rfl], by rw [hs_sArr, hs_sNew]; omega, by rw [sl_sArr, sl_sNew]; omega⟩, ⟨by rw [gL_sArr, if_neg (by simp), gL_sArr, if_neg (by simp), gL_sNew, if_pos rfl], by rw [hs_sArr, hs_sArr, hs_sNew]; omega, by rw [sl_sArr, sl_sArr, sl_sNew]; omega⟩, rfl, h _ (((Fr.sNew.sArr (Nat.le_refl _)).sArr (Nat.le_refl _)).sArr (Nat.le_refl _)) (fun f hf => ?_) rfl (by show sl σ + 5 + 2000 + 2000 + 4 = sl σ + 4009; omega) (fun f i => ?_) (fun f i => ?_)⟩)
  · rw [LM3 f hf]
    simp only [gL_sArr, gL_sNew, and_true, if_true]
  · simp only [gI_sArr, gI_sNew, and_true, if_true]
    split
    · rfl
    · split
      · rfl
      · split <;> rfl
  · simp only [gR_sArr, gR_sNew, and_true, if_true]
    split
    · rfl
    · split
      · rfl
      · split <;> rfl
theorem op_image (hI : ImgI σ x m) (g1 : hs σ + 10 ≤ gB g + 600000) (g2 : sl σ + 4100 ≤ 7302250) : ACi g l (d + 6) MX11_image [vR 11 (some x)] σ (fun a σ1 => ACi g l (d + 6) MX12_image [vR 12 (some m)] σ1 (fun b σ2 => a = b ∧ ImgI σ2 x m ∧ IFr σ σ2 x m)) := by
  have h6 := hI.2.2.2.2.1
  have he := hI.2.2.2.2.2.1
  obtain ⟨i1, i2, i3, i4, i5, i6, i7, i8, i9⟩ := id hI
  refine AC.of mo_X11_image (Nat.le_of_ble_eq_true rfl) (bk_X11_image_0 ⟨fun hz => ⟨i1, ⟨by omega, by omega⟩, x_newImage (by omega) (by omega) (fun σ1 f1 f2 f3 f4 f5 f6 => ?_)⟩, fun hz => ⟨_, rfl, ?_⟩⟩)
  · have e1 : gI σ1 1101 x 0 = gI σ 1101 x 0 := f1.I i3 (by simp) 0
    refine ⟨f1.lc i3 i1, ⟨by omega, by omega⟩, ⟨by omega, by omega⟩, ⟨by omega, by omega⟩, _, rfl, ?_⟩
    rw [e1]
    generalize hn : gI σ 1101 x 0 = n at *
    have fx : Frm (fun f r => r = x ∧ (f = 1100 ∨ f = 1101)) σ1 (sI (sR σ1 1100 x n.toNat (some (hs σ))) 1101 x 0 (n + 1)) := (Frm.sR (by simp)).trans (Frm.sI (by simp))
    have m2 : gI (sI (sR σ1 1100 x n.toNat (some (hs σ))) 1101 x 0 (n + 1)) 1200 m 0 = n := by rw [fx.I (by simp), f1.I i4 (by simp), ← i6]
    refine AC.of mo_X12_image (Nat.le_of_ble_eq_true rfl) (bk_X12_image_0 ⟨fun _ => ⟨fx.lc (f1.lc i4 i2), ⟨by omega, by omega⟩, ⟨by omega, by omega⟩, ⟨by omega, by omega⟩, _, rfl, by omega, ?_⟩, fun q => absurd q (by omega)⟩)
    rw [m2]
    generalize hτ : sI (sR σ1 1100 x n.toNat (some (hs σ))) 1101 x 0 (n + 1) = τ at *
    have fm : Frm (fun f r => r = m ∧ (f = 1200 ∨ f = 1201 ∨ f = 1202)) τ (sI (sI (sI τ 1201 m n.toNat 0) 1202 m n.toNat 0) 1200 m 0 (n + 1)) := (Frm.sI (by simp)).trans ((Frm.sI (by simp)).trans (Frm.sI (by simp)))
    have eR : ∀ i, gR τ 1100 x i = if i = n.toNat then some (hs σ) else gR σ 1100 x i := fun i => by
      rw [← hτ, gR_sI, gR_sR]
      by_cases e : i = n.toNat
      · rw [if_pos ⟨rfl, rfl, e⟩, if_pos e]
      · rw [if_neg (fun z => e z.2.2), if_neg e, f1.R i3 (by simp)]
    have eN : gI τ 1101 x 0 = n + 1 := by rw [← hτ, gI_slf]
    -- the whole step as a frame
    have hF : Fr (fun f r => (r = x ∧ (f = 1100 ∨ f = 1101)) ∨ (r = m ∧ (f = 1200 ∨ f = 1201 ∨ f = 1202))) σ (sI (sI (sI τ 1201 m n.toNat 0) 1202 m n.toNat 0) 1200 m 0 (n + 1)) := (f1.mono (fun _ _ z => z.elim)).trans ((fx.fr.mono (fun f r z => Or.inl z)).trans (fm.fr.mono (fun f r z => Or.inr z)))
    generalize hσ : sI (sI (sI τ 1201 m n.toNat 0) 1202 m n.toNat 0) 1200 m 0 (n + 1) = σ2 at *
    have s1 : gI σ2 1101 x 0 = n + 1 := by rw [fm.I (by simp), eN]
    have s2 : gI σ2 1200 m 0 = n + 1 := by rw [← hσ, gI_slf]
    have sR : ∀ i, gR σ2 1100 x i = if i = n.toNat then some (hs σ) else gR σ 1100 x i := fun i => by rw [fm.R (by simp), eR]
    have sI1 : ∀ i : Int, 0 ≤ i → i < n → img σ2 x i = img σ x i := fun i q0 q1 => by unfold img; rw [sR, if_neg (by omega)]
    have sIn : img σ2 x n = hs σ := by unfold img; rw [sR, if_pos rfl]; rfl
    have sL : ∀ k : Nat, gI σ2 1201 m k = if k = n.toNat then 0 else gI σ 1201 m k := fun k => by
      rw [← hσ, gI_sI, if_neg (by simp), gI_sI, if_neg (by simp), gI_sI]
      by_cases e : k = n.toNat
      · rw [if_pos ⟨rfl, rfl, e⟩, if_pos e]
      · rw [if_neg (fun z => e z.2.2), if_neg e, fx.I (by simp), f1.I i4 (by simp)]
    have sY : ∀ k : Nat, gI σ2 1202 m k = if k = n.toNat then 0 else gI σ 1202 m k := fun k => by
      rw [← hσ, gI_sI, if_neg (by simp), gI_sI]
      by_cases e : k = n.toNat
      · rw [if_pos ⟨rfl, rfl, e⟩, if_pos e]
      · rw [if_neg (fun z => e z.2.2), if_neg e, gI_sI, if_neg (by simp), fx.I (by simp), f1.I i4 (by simp)]
    have a3 : LC 3 σ2 (hs σ) := fm.lc (fx.lc f2)
    have a0 : ∀ f i, f / 100 = 3 → gI σ2 f (hs σ) i = 0 := fun f i hf => by rw [fm.I (by omega), fx.I (by omega), f5]
    have ar : ∀ i, gR σ2 302 (hs σ) i = none := fun i => by rw [fm.R (by simp), fx.R (by simp), f6]
    have hh : hs σ2 = hs σ + 4 := by rw [fm.2.1, fx.2.1]; exact f3
    have hsl : sl σ2 = sl σ + 4009 := by rw [fm.2.2.1, fx.2.2.1]; exact f4
    constructor
    · refine ⟨hF.lc i3 i1, hF.lc i4 i2, by omega, by omega, by omega, by omega, fun j q0 q1 => ?_, fun i j q0 q1 q2 q3 => ?_, fun i j q0 q1 q2 q3 q4 u v b q5 q6 => ?_⟩
      · rw [s1] at q1
        by_cases e : j = n
        · subst e
          rw [sIn, sR, if_pos rfl]
          refine ⟨rfl, ⟨a3, by rw [a0 _ _ (by decide)]; decide, by rw [a0 _ _ (by decide)]; decide, fun li z0 z1 => ?_, fun i k b _ _ z => absurd ((ar i).symm.trans z) (by simp), fun i b _ z => absurd ((ar i).symm.trans z) (by simp), fun p z0 z1 => ?_, by omega⟩, ?_⟩
          · rw [a0 _ _ (by decide)] at z1; omega
          · rw [a0 _ _ (by decide)] at z1; omega
          · refine ⟨by rw [a0 _ _ (by decide), sL, if_pos rfl], by rw [a0 _ _ (by decide), sY, if_pos rfl], fun p z0 z1 => ?_, fun li p z0 z1 => ?_, fun li z0 z1 => ?_, fun li p z0 z1 => ?_, fun li p k z0 z1 => ?_⟩
            · rw [a0 _ _ (by decide)] at z1; omega
            · rw [a0 _ _ (by decide)] at z1; omega
            · rw [a0 _ _ (by decide)] at z1; omega
            · rw [a0 _ _ (by decide)] at z1; omega
            · rw [a0 _ _ (by decide)] at z1; omega
        · obtain ⟨j1, j2, j3⟩ := i7 j q0 (by omega)
          rw [sI1 j q0 (by omega), sR, if_neg (by omega)]
          refine ⟨j1, j2.fr hF (fun f hf z => by omega) (fun f i b hf _ _ z => by omega), j3.other j2 q0 hF (fun f hf z => by omega) (fun f i b hf _ _ z => by omega) ⟨by rw [sL, if_neg (by omega)], by rw [sY, if_neg (by omega)], fun k _ _ => hF.I i4 (by simp) _, fun k _ _ => hF.I i4 (by simp) _, fun k _ _ => hF.I i4 (by simp) _, fun k _ _ => hF.I i4 (by simp) _, fun k _ _ => ⟨hF.I i4 (by simp) _, hF.I i4 (by simp) _⟩⟩⟩
      · rw [s1] at q1 q3
        intro z
        by_cases e : i = n
        · by_cases e' : j = n
          · omega
          · rw [e, sIn, sI1 j q2 (by omega)] at z
            have := (i7 j q2 (by omega)).2.1.2.2.2.2.2.2.2
            omega
        · by_cases e' : j = n
          · rw [e', sIn, sI1 i q0 (by omega)] at z
            have := (i7 i q0 (by omega)).2.1.2.2.2.2.2.2.2
            omega
          · rw [sI1 i q0 (by omega), sI1 j q2 (by omega)] at z
            exact i8 i j q0 (by omega) q2 (by omega) z
      · rw [s1] at q1 q3
        intro z1 z2
        by_cases e : i = n
        · rw [e, sIn, ar] at z1; cases z1
        · by_cases e' : j = n
          · rw [e', sIn, ar] at z2; cases z2
          · rw [sI1 i q0 (by omega), hF.R (i7 i q0 (by omega)).2.1.2.2.2.2.2.2.2 (by simp)] at z1
            rw [sI1 j q2 (by omega), hF.R (i7 j q2 (by omega)).2.1.2.2.2.2.2.2.2 (by simp)] at z2
            exact i9 i j q0 (by omega) q2 (by omega) q4 u v b q5 q6 z1 z2
    · refine ⟨hF.mono (fun f r z => by rcases z with z | z <;> omega), by omega, by omega, by omega, fun j q0 q1 => ⟨by rw [sR, if_neg (by omega)], by rw [sL, if_neg (by omega)]; omega⟩⟩
  · exact AC.of mo_X12_image (Nat.le_of_ble_eq_true rfl) (bk_X12_image_0 ⟨fun q => absurd (by omega) q, fun _ => ⟨_, rfl, rfl, hI, IFr.rfl⟩⟩)
end OP5
