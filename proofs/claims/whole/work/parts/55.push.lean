section OP2
variable {g : GP} {l : Launch} {d : Nat} {σ : St} {x m : Nat}
theorem op_push {im n : Int} {w : Int64} (hI : ImgI σ x m) : ACi g l (d + 6) MX11_push [vR 11 (some x), vI im, vJ w, vI n] σ (fun a σ1 => ACi g l (d + 6) MX12_push [vR 12 (some m), vI im, vJ w, vI n] σ1 (fun b σ2 => a = b ∧ ImgI σ2 x m ∧ IFr σ σ2 x m)) := by
  have h6 := hI.2.2.2.2.1
  have he := hI.2.2.2.2.2.1
  refine AC.of mo_X11_push (Nat.le_of_ble_eq_true rfl) (bk_X11_push_0 (x_imageOf hI.1 h6.2 (fun hn => ⟨fun _ => ⟨_, rfl, ?_⟩, (fun _ q => nomatch q)⟩) (fun h0 h1 => ?_)))
  · refine AC.of mo_X12_push (Nat.le_of_ble_eq_true rfl) (bk_X12_push_0 (m_isImage ?_))
    rw [if_neg (by omega)]
    exact ⟨fun q => absurd rfl q, fun _ => ⟨_, rfl, rfl, hI, IFr.rfl⟩⟩
  obtain ⟨e1, hc, hr, hi6, hi2⟩ := hI.im h0 h1
  have hlen := hc.2.1
  have hlc := hc.2.2.1
  have r1 := hr.1
  have r2 := hr.2.1
  rw [e1]
  refine ⟨(fun q => nomatch q), fun r q => ?_⟩
  obtain rfl : img σ x im = r := by simpa using q
  generalize ha : img σ x im = a at *
  have ref : ∀ (P : Int → St → Prop) (σ1 : St), LC 12 σ1 m → (∀ f i, 1200 ≤ f → gI σ1 f m i = gI σ f m i) → (¬ gI σ 303 a 0 ≤ 0 → P (-7) σ1) → (gI σ 303 a 0 ≤ 0 → (n < 1 ∨ 8 < n) → P (-3) σ1) → (gI σ 303 a 0 ≤ 0 → 1 ≤ n → n ≤ 8 → ¬ gI σ 304 a 0 + n ≤ 2000 → P (-2) σ1) → (gI σ 303 a 0 ≤ 0 → 1 ≤ n → n ≤ 8 → gI σ 304 a 0 + n ≤ 2000 → ∀ σ2, MP σ1 σ2 m im w n n → P (gI σ 304 a 0 + n) σ2) → ACi g l (d + 6) MX12_push [vR 12 (some m), vI im, vJ w, vI n] σ1 P := by
    intro P σ1 hL em hA hB hC hD
    refine AC.of mo_X12_push (Nat.le_of_ble_eq_true rfl) (bk_X12_push_0 (m_isImage ?_))
    rw [em _ _ (by decide), if_pos ⟨h0, hi2⟩]
    refine ⟨fun _ => ⟨hL, ⟨h0, hi6⟩, ?_⟩, fun q => absurd q (by decide)⟩
    have e1' : gI σ1 1201 m im.toNat = gI σ 304 a 0 := by rw [em _ _ (by decide)]; exact r1.symm
    rw [em _ _ (by decide), ← r2, e1']
    refine ⟨fun z => ⟨fun zn => ⟨_, rfl, hB z (Or.inl zn)⟩, fun zn => ⟨fun z8 => ⟨⟨by omega, by omega⟩, fun zl => ⟨⟨by omega, by omega⟩, ?_⟩, fun zl => ⟨_, rfl, hC z (by omega) z8 zl⟩⟩, fun z8 => ⟨_, rfl, hB z (by omega)⟩⟩⟩, fun z => ⟨_, rfl, hA z⟩⟩
    refine m_push_62 hL h0 hi6 (by omega) (by omega) z8 (fun σ2 hM => ⟨_, rfl, ?_⟩) n.toNat _ σ1 (by omega) (by omega) ⟨Frm.rfl, fun k => ?_, fun k => by rw [if_neg (by omega)]⟩
    · by_cases e : k = im.toNat
      · rw [if_pos e, e]; omega
      · rw [if_neg e]
    · rw [e1']
      exact hD z (by omega) z8 zl σ2 hM
  refine ⟨fun z => ⟨fun zn => ⟨_, rfl, ref _ σ hI.2.1 (fun _ _ _ => rfl) (fun q => absurd z q) (fun _ _ => ⟨rfl, hI, IFr.rfl⟩) (fun _ q => absurd q (by omega)) (fun _ q => absurd q (by omega))⟩, fun zn => ⟨fun z8 => ⟨⟨by omega, by omega⟩, fun zl => ?_, fun zl => ⟨_, rfl, ref _ σ hI.2.1 (fun _ _ _ => rfl) (fun q => absurd z q) (fun _ q => absurd q (by omega)) (fun _ _ _ _ => ⟨rfl, hI, IFr.rfl⟩) (fun _ _ _ q => absurd q zl)⟩⟩, fun z8 => ⟨_, rfl, ref _ σ hI.2.1 (fun _ _ _ => rfl) (fun q => absurd z q) (fun _ _ => ⟨rfl, hI, IFr.rfl⟩) (fun _ _ q => absurd q z8) (fun _ _ q => absurd q z8)⟩⟩⟩, fun z => ⟨_, rfl, ref _ σ hI.2.1 (fun _ _ _ => rfl) (fun _ => ⟨rfl, hI, IFr.rfl⟩) (fun q => absurd q z) (fun q => absurd q z) (fun q => absurd q z)⟩⟩
  have hl0 : gI σ 303 a 0 = 0 := by omega
  refine x_append hc hl0 (by omega) z8 zl (fun σ1 hX hc1 => ⟨_, rfl, ?_⟩)
  have hF : Frm (fun f r => (f / 100 = 3 ∧ r = a) ∨ (f / 100 = 4 ∧ ∃ u, u < 4 ∧ gR σ 302 a u = some r)) σ σ1 := hX.1.mono (fun f r q => Or.inl ⟨by have := q.2; omega, q.1⟩)
  have eR : ∀ i, gR σ1 302 a i = gR σ 302 a i := hX.1.R (by simp)
  have em : ∀ f i, 1200 ≤ f → gI σ1 f m i = gI σ f m i := fun f i hf => hF.I (by omega) i
  refine ref _ σ1 (hF.lc hI.2.1) em (fun q => absurd z q) (fun _ q => absurd q (by omega)) (fun _ _ _ q => absurd zl q) (fun _ _ _ _ σ2 hM => ⟨hX.2.1, ?_, ?_⟩)
  · have hrel := push_rel hc hr h0 hl0 hX hM
    have m1 : gI σ1 1201 m im.toNat = gI σ 304 a 0 := by rw [em _ _ (by decide)]; exact r1.symm
    subst ha
    refine hI.step h0 h1 hF.fr (fun f r z => ?_) (fun u b' hu hb => Or.inr ⟨u, hu, by rw [← eR]; exact hb⟩) hc1 (hM.1.mono (fun f r z => ⟨z.1, by have := z.2; omega⟩)) (fun j j0 j6 jn => ?_) hrel
    · rcases z with z | ⟨z1, z2⟩
      · exact Or.inl z
      · exact Or.inr ⟨z1, Or.inr z2⟩
    · refine ⟨by rw [hM.2.1, if_neg (by omega)], hM.1.I (by simp) _, fun k z0 z1 => by rw [hM.2.2, if_neg (by omega)], fun k _ _ => hM.1.I (by simp) _, fun k _ _ => hM.1.I (by simp) _, fun k _ _ => hM.1.I (by simp) _, fun k _ _ => ⟨hM.1.I (by simp) _, hM.1.I (by simp) _⟩⟩
  · refine IFr.of (im := im) (c := n) hF (fun f r z => by rcases z with z | z; exact Or.inl z.1; exact Or.inr z.1) hM.1 (fun f r z => by have := z.2; omega) (by omega) (fun k => ?_)
    rw [hM.2.1]
    by_cases e : k = im.toNat
    · rw [if_pos e, e]; exact Or.inr rfl
    · rw [if_neg e]; exact Or.inl rfl
end OP2
