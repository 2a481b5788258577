/-! the calls of images: class, then reference -/
def IFr (σ σ' : St) (x m : Nat) : Prop := Fr (fun f _ => f / 100 = 3 ∨ f / 100 = 4 ∨ f = 1100 ∨ f = 1101 ∨ (1200 ≤ f ∧ f < 1210)) σ σ' ∧ hs σ' ≤ hs σ + 10 ∧ sl σ' ≤ sl σ + 4100 ∧ gI σ 1101 x 0 ≤ gI σ' 1101 x 0 ∧
  ∀ im : Int, 0 ≤ im → im < gI σ 1101 x 0 → gR σ' 1100 x im.toNat = gR σ 1100 x im.toNat ∧ gI σ 1201 m im.toNat ≤ gI σ' 1201 m im.toNat
theorem Fr.rfl {P : Nat → Nat → Prop} {σ : St} : Fr P σ σ := ⟨Nat.le_refl _, fun _ _ _ => ⟨Eq.refl _, fun _ _ => Agr.rfl⟩⟩
theorem IFr.rfl {σ : St} {x m : Nat} : IFr σ σ x m := ⟨Fr.rfl, by omega, by omega, by omega, fun _ _ _ => ⟨Eq.refl _, by omega⟩⟩
/-- a frame without new objects, and no length shrinks -/
theorem IFr.of {P P' : Nat → Nat → Prop} {σ σ1 σ2 : St} {x m : Nat} {im c : Int} (h : Frm P σ σ1) (hp : ∀ f r, P f r → f / 100 = 3 ∨ f / 100 = 4) (h' : Frm P' σ1 σ2) (hp' : ∀ f r, P' f r → 1201 ≤ f ∧ f < 1210) (hc : 0 ≤ c) (hl : ∀ k : Nat, gI σ2 1201 m k = gI σ1 1201 m k ∨ gI σ2 1201 m k = gI σ1 1201 m k + c) : IFr σ σ2 x m := by
  have q1 : ∀ f r, 1100 ≤ f → ¬ P f r := fun f r hf z => by have := hp f r z; omega
  have q2 : ∀ f r, f < 1201 → ¬ P' f r := fun f r hf z => by have := hp' f r z; omega
  refine ⟨(h.fr.mono (fun f r z => by have := hp f r z; omega)).trans (h'.fr.mono (fun f r z => by have := hp' f r z; omega)), by rw [h'.2.1, h.2.1]; omega, by rw [h'.2.2.1, h.2.2.1]; omega, by rw [h'.I (q2 _ _ (by decide)), h.I (q1 _ _ (by decide))]; omega, fun j _ _ => ⟨by rw [h'.R (q2 _ _ (by decide)), h.R (q1 _ _ (by decide))], ?_⟩⟩
  have e := h.I (q1 1201 m (by decide)) j.toNat
  rcases hl j.toNat with z | z <;> omega
theorem byt_i2j {b : Int} (h0 : 0 ≤ b) (h1 : b ≤ 255) : bvx (i2j b) 1 0 0 = b := by
  unfold bvx byt
  rw [if_pos rfl, i2j_toInt, w32_id (by omega) (by omega)]
  show b / 1 % 256 = b
  omega
section OP1
variable {g : GP} {l : Launch} {d : Nat} {σ : St} {x m : Nat}
theorem ImgI.im {im : Int} (h : ImgI σ x m) (h0 : 0 ≤ im) (h1 : im < gI σ 1101 x 0) : gR σ 1100 x im.toNat = some (img σ x im) ∧ CIm σ (img σ x im) ∧ RelI σ m (img σ x im) im ∧ im < 6 ∧ im < gI σ 1200 m 0 := ⟨(h.2.2.2.2.2.2.1 im h0 h1).1, (h.2.2.2.2.2.2.1 im h0 h1).2.1, (h.2.2.2.2.2.2.1 im h0 h1).2.2, by have := h.2.2.2.2.1; omega, by have := h.2.2.2.2.2.1; omega⟩
theorem op_at {im p : Int} (hI : ImgI σ x m) : ACi g l (d + 6) MX11_at [vR 11 (some x), vI im, vI p] σ (fun a σ1 => ACi g l (d + 6) MX12_at [vR 12 (some m), vI im, vI p] σ1 (fun b σ2 => a = b ∧ σ2 = σ)) := by
  have h6 := hI.2.2.2.2.1
  have he := hI.2.2.2.2.2.1
  refine AC.of mo_X11_at (Nat.le_of_ble_eq_true rfl) (bk_X11_at_0 (x_imageOf hI.1 h6.2 (fun hn => ⟨fun _ => ⟨_, rfl, ?_⟩, (fun _ q => nomatch q)⟩) (fun h0 h1 => ?_)))
  · refine AC.of mo_X12_at (Nat.le_of_ble_eq_true rfl) (bk_X12_at_0 (m_isImage ?_))
    rw [if_neg (by omega)]
    exact ⟨fun _ => ⟨_, rfl, rfl, rfl⟩, fun q => absurd rfl q⟩
  · obtain ⟨e1, hc, hr, hi6, hi2⟩ := hI.im h0 h1
    have hlen := hc.2.1
    have hlc := hc.2.2.1
    have r1 := hr.1
    have r2 := hr.2.1
    rw [e1]
    refine ⟨(fun q => nomatch q), fun r q => ?_⟩
    obtain rfl : img σ x im = r := by simpa using q
    refine x_has hc.1 hlen.2 (fun hp => ⟨_, rfl, ?_⟩) (fun p0 p1 => ⟨_, rfl, ?_⟩)
    · refine AC.of mo_X12_at (Nat.le_of_ble_eq_true rfl) (bk_X12_at_0 (m_isImage ?_))
      rw [if_pos ⟨h0, hi2⟩]
      exact ⟨fun q => absurd q (by decide), fun _ => ⟨fun _ => ⟨_, rfl, rfl, rfl⟩, fun _ => ⟨hI.2.1, ⟨h0, hi6⟩, fun q => absurd q (by omega), fun _ => ⟨_, rfl, rfl, rfl⟩⟩⟩⟩
    · refine AC.of mo_X12_at (Nat.le_of_ble_eq_true rfl) (bk_X12_at_0 (m_isImage ?_))
      rw [if_pos ⟨h0, hi2⟩]
      exact ⟨fun q => absurd q (by decide), fun _ => ⟨fun q => absurd q (by omega), fun _ => ⟨hI.2.1, ⟨h0, hi6⟩, fun _ => m_has hI.2.1 h0 hi6 (by omega) (by omega) p0 (by omega) ⟨_, rfl, hr.has hc p0 p1, rfl⟩, fun q => absurd (by omega) q⟩⟩⟩
theorem op_length {im : Int} (hI : ImgI σ x m) : ACi g l (d + 6) MX11_length [vR 11 (some x), vI im] σ (fun a σ1 => ACi g l (d + 6) MX12_length [vR 12 (some m), vI im] σ1 (fun b σ2 => a = b ∧ σ2 = σ)) := by
  have h6 := hI.2.2.2.2.1
  have he := hI.2.2.2.2.2.1
  refine AC.of mo_X11_length (Nat.le_of_ble_eq_true rfl) (bk_X11_length_0 (x_imageOf hI.1 h6.2 (fun hn => ⟨fun _ => ⟨_, rfl, ?_⟩, (fun _ q => nomatch q)⟩) (fun h0 h1 => ?_)))
  · refine AC.of mo_X12_length (Nat.le_of_ble_eq_true rfl) (bk_X12_length_0 (m_isImage ?_))
    rw [if_neg (by omega)]
    exact ⟨fun _ => ⟨_, rfl, rfl, rfl⟩, fun q => absurd rfl q⟩
  · obtain ⟨e1, hc, hr, hi6, hi2⟩ := hI.im h0 h1
    rw [e1]
    refine ⟨(fun q => nomatch q), fun r q => ⟨_, rfl, ?_⟩⟩
    obtain rfl : img σ x im = r := by simpa using q
    refine AC.of mo_X12_length (Nat.le_of_ble_eq_true rfl) (bk_X12_length_0 (m_isImage ?_))
    rw [if_pos ⟨h0, hi2⟩]
    exact ⟨fun q => absurd q (by decide), fun _ => ⟨hI.2.1, ⟨h0, hi6⟩, _, rfl, hr.1, rfl⟩⟩
theorem op_changed {im k : Int} (hI : ImgI σ x m) (hk : k < 2147483648) : ACi g l (d + 6) MX11_changed [vR 11 (some x), vI im, vI k] σ (fun a σ1 => ACi g l (d + 6) MX12_changed [vR 12 (some m), vI im, vI k] σ1 (fun b σ2 => a = b ∧ σ2 = σ)) := by
  have h6 := hI.2.2.2.2.1
  have he := hI.2.2.2.2.2.1
  refine AC.of mo_X11_changed (Nat.le_of_ble_eq_true rfl) (bk_X11_changed_0 (x_imageOf hI.1 h6.2 (fun hn => ⟨fun _ => bk_X11_changed_18 ⟨fun _ => ⟨_, rfl, ?_⟩, (fun _ q => nomatch q)⟩, (fun _ q => nomatch q)⟩) (fun h0 h1 => ?_)))
  · refine AC.of mo_X12_changed (Nat.le_of_ble_eq_true rfl) (bk_X12_changed_0 (m_isImage ?_))
    rw [if_neg (by omega)]
    exact ⟨fun _ => ⟨_, rfl, rfl, rfl⟩, fun q => absurd rfl q⟩
  · obtain ⟨e1, hc, hr, hi6, hi2⟩ := hI.im h0 h1
    have hlen := hc.2.1
    have hlc := hc.2.2.1
    have r1 := hr.1
    have r2 := hr.2.1
    rw [e1]
    refine ⟨(fun q => nomatch q), fun r q => ?_⟩
    obtain rfl : img σ x im = r := by simpa using q
    refine x_top hc.1 hlc.1 hlc.2 (fun hz => bk_X11_changed_18 ⟨fun _ => ⟨_, rfl, ?_⟩, (fun _ q => nomatch q)⟩) (fun hz => ?_)
    · refine AC.of mo_X12_changed (Nat.le_of_ble_eq_true rfl) (bk_X12_changed_0 (m_isImage ?_))
      rw [if_pos ⟨h0, hi2⟩]
      exact ⟨fun q => absurd q (by decide), fun _ => ⟨fun _ => ⟨_, rfl, rfl, rfl⟩, fun _ => ⟨hI.2.1, ⟨h0, hi6⟩, fun q => absurd (by omega) q, fun _ => ⟨_, rfl, rfl, rfl⟩⟩⟩⟩
    · obtain ⟨f1, f2⟩ := hc.2.2.2.1 (gI σ 303 (img σ x im) 0 - 1) (by omega) (by omega)
      rw [f1]
      refine bk_X11_changed_18 ⟨(fun q => nomatch q), fun b q => ?_⟩
      obtain rfl : lay σ (img σ x im) (gI σ 303 (img σ x im) 0 - 1) = b := by simpa using q
      refine x_placeOf (hc.lay4 (by omega) (by omega)).1 f2.1 hk (fun p p0 p1 => (f2.2.1 p p0 p1).1) ⟨_, rfl, ?_⟩
      refine AC.of mo_X12_changed (Nat.le_of_ble_eq_true rfl) (bk_X12_changed_0 (m_isImage ?_))
      rw [if_pos ⟨h0, hi2⟩]
      refine ⟨fun q => absurd q (by decide), fun _ => ⟨fun q => ⟨_, rfl, if_pos q, rfl⟩, fun q => ⟨hI.2.1, ⟨h0, hi6⟩, fun _ => ?_, fun q2 => absurd q2 (by omega)⟩⟩⟩
      refine m_changed_28 (li := gI σ 303 (img σ x im) 0 - 1) (len := gI σ 304 (img σ x im) 0) hI.2.1 h0 hi6 (by omega) (by omega) (by omega) r1.symm hlen.2 (gI σ 304 (img σ x im) 0).toNat 0 k (by omega) (by omega) (by omega) hk ⟨_, rfl, ?_, rfl⟩
      rw [if_neg q]
      have := kth_app (f := fun p => gI σ 400 (lay σ (img σ x im) (gI σ 303 (img σ x im) 0 - 1)) p.toNat) (f' := fun p => gI σ 1204 m ((4 * im + (gI σ 303 (img σ x im) 0 - 1)) * 2000 + p).toNat) (2000 - (gI σ 304 (img σ x im) 0).toNat) (gI σ 304 (img σ x im) 0).toNat 0 k (fun i a b => hr.2.2.2.1 _ i (by omega) (by omega) (by omega) (by omega)) (fun i a b => by
        show gI σ 400 _ i.toNat < 0
        rw [f2.2.2.1 i (by omega) (by omega) (by omega)]
        decide)
      rw [show (gI σ 304 (img σ x im) 0).toNat + (2000 - (gI σ 304 (img σ x im) 0).toNat) = 2000 by omega] at this
      exact this
theorem op_poke {im p b : Int} (hI : ImgI σ x m) : ACi g l (d + 6) MX11_poke [vR 11 (some x), vI im, vI p, vI b] σ (fun a σ1 => ACi g l (d + 6) MX12_poke [vR 12 (some m), vI im, vI p, vI b] σ1 (fun b σ2 => a = b ∧ ImgI σ2 x m ∧ IFr σ σ2 x m)) := by
  have h6 := hI.2.2.2.2.1
  have he := hI.2.2.2.2.2.1
  refine AC.of mo_X11_poke (Nat.le_of_ble_eq_true rfl) (bk_X11_poke_0 (x_imageOf hI.1 h6.2 (fun hn => ⟨fun _ => ⟨_, rfl, ?_⟩, (fun _ q => nomatch q)⟩) (fun h0 h1 => ?_)))
  · refine AC.of mo_X12_poke (Nat.le_of_ble_eq_true rfl) (bk_X12_poke_0 (m_isImage ?_))
    rw [if_neg (by omega)]
    exact ⟨fun _ => ⟨_, rfl, rfl, hI, IFr.rfl⟩, fun q => absurd rfl q⟩
  · obtain ⟨e1, hc, hr, hi6, hi2⟩ := hI.im h0 h1
    have hlen := hc.2.1
    have hlc := hc.2.2.1
    have r1 := hr.1
    have r2 := hr.2.1
    rw [e1]
    refine ⟨(fun q => nomatch q), fun r q => ?_⟩
    obtain rfl : img σ x im = r := by simpa using q
    refine x_has hc.1 hlen.2 (fun hp => ⟨fun q => absurd rfl q, fun _ => ⟨_, rfl, ?_⟩⟩) (fun p0 p1 => ?_)
    · refine AC.of mo_X12_poke (Nat.le_of_ble_eq_true rfl) (bk_X12_poke_0 (m_isImage ?_))
      rw [if_pos ⟨h0, hi2⟩]
      exact ⟨fun q => absurd q (by decide), fun _ => ⟨fun _ => ⟨_, rfl, rfl, hI, IFr.rfl⟩, fun _ => ⟨hI.2.1, ⟨h0, hi6⟩, fun q => absurd q (by omega), fun _ => ⟨_, rfl, rfl, hI, IFr.rfl⟩⟩⟩⟩
    · have hnow := hc.now p0 p1
      have ref : ∀ (P : Int → St → Prop) (σ1 : St), LC 12 σ1 m → (∀ i, gI σ1 1200 m i = gI σ 1200 m i) → (∀ i, gI σ1 1201 m i = gI σ 1201 m i) → (b < 0 ∨ 255 < b → P (-3) σ1) → (0 ≤ b → b ≤ 255 → ACi g l (d + 5) MX12_has [vR 12 (some m), vI im, vI p] σ1 (fun v4 σ3 => LC 12 σ3 m ∧ ACv g l (d + 5) MX12_write [vR 12 (some m), vI im, vI p, vI 1] (sI σ3 1209 m 0 b) (fun σ5 => P v4 σ5))) → ACi g l (d + 6) MX12_poke [vR 12 (some m), vI im, vI p, vI b] σ1 P := by
        intro P σ1 hL a0 a1 hA hB
        refine AC.of mo_X12_poke (Nat.le_of_ble_eq_true rfl) (bk_X12_poke_0 (m_isImage ?_))
        rw [a0, if_pos ⟨h0, hi2⟩]
        refine ⟨fun q => absurd q (by decide), fun _ => ⟨fun q => absurd q (by omega), fun _ => ⟨hL, ⟨h0, hi6⟩, fun _ => ⟨fun q => ⟨_, rfl, hA (Or.inl q)⟩, fun q => ⟨fun q2 => ACi.mono (fun v4 σ3 hh => ⟨hh.1, ACv.mono (fun σ5 hp => ⟨_, rfl, hp⟩) hh.2⟩) (hB (by omega) q2), fun q2 => ⟨_, rfl, hA (by omega)⟩⟩⟩, fun q => ?_⟩⟩⟩
        rw [a1] at q
        exact absurd (by omega) q
      refine ⟨fun _ => ⟨fun q => ⟨_, rfl, ref _ σ hI.2.1 (fun _ => rfl) (fun _ => rfl) (fun _ => ⟨rfl, hI, IFr.rfl⟩) (fun q2 => absurd q2 (by omega))⟩, fun q => ⟨fun q2 => ?_, fun q2 => ⟨_, rfl, ref _ σ hI.2.1 (fun _ => rfl) (fun _ => rfl) (fun _ => ⟨rfl, hI, IFr.rfl⟩) (fun _ q3 => absurd q3 (by omega))⟩⟩⟩, fun q => absurd q (by omega)⟩
      refine x_has hc.1 hlen.2 (fun q3 => absurd ⟨p0, p1⟩ q3) (fun _ _ => ?_)
      -- both writes
      have fin : ∀ σ1, ((gI σ 303 (img σ x im) 0 = 0 ∧ XW0 σ σ1 (img σ x im) (i2j b) 1 0 p 1) ∨ (0 < gI σ 303 (img σ x im) 0 ∧ XWr σ σ1 (img σ x im) (lay σ (img σ x im) (gI σ 303 (img σ x im) 0 - 1)) (i2j b) 1 0 p)) → CIm σ1 (img σ x im) → ACi g l (d + 6) MX12_poke [vR 12 (some m), vI im, vI p, vI b] σ1 (fun b σ2 => gI σ 301 (img σ x im) p.toNat = b ∧ ImgI σ2 x m ∧ IFr σ σ2 x m) := by
        intro σ1 hX hc1
        have hF : Frm (fun f r => (f / 100 = 3 ∧ r = img σ x im) ∨ (f / 100 = 4 ∧ ∃ u, u < 4 ∧ gR σ 302 (img σ x im) u = some r)) σ σ1 := by
          rcases hX with ⟨-, z⟩ | ⟨z0, z⟩
          · exact z.1.mono (fun f r q => Or.inl ⟨by have := q.2; omega, q.1⟩)
          · refine z.frm.mono (fun f r q => ?_)
            rcases q with q | q
            · exact Or.inl ⟨by have := q.2; omega, q.1⟩
            · exact Or.inr ⟨q.2, (gI σ 303 (img σ x im) 0 - 1).toNat, by omega, by rw [q.1]; exact (hc.2.2.2.1 _ (by omega) (by omega)).1⟩
        have eR : ∀ i, gR σ1 302 (img σ x im) i = gR σ 302 (img σ x im) i := by
          rcases hX with ⟨-, z⟩ | ⟨z0, z⟩
          · exact z.1.R (by simp)
          · exact z.frm.R (by simp)
        have em : ∀ f i, 1200 ≤ f → gI σ1 f m i = gI σ f m i := fun f i hf => hF.I (by omega) i
        have hL1 := hF.lc hI.2.1
        refine ref _ σ1 hL1 (fun i => em _ _ (by decide)) (fun i => em _ _ (by decide)) (fun z => absurd z (by omega)) (fun _ _ => ?_)
        have ehas : hasM σ1 m im p = hasM σ m im p := by unfold hasM; rw [em _ _ (by decide), em _ _ (by decide)]; exact hv_congr (fun i _ => em _ _ (by decide)) rfl
        refine m_has hL1 h0 hi6 (by rw [em _ _ (by decide)]; omega) (by rw [em _ _ (by decide)]; omega) p0 (by omega) ⟨hL1, ?_⟩
        rw [ehas]
        have f2 : Frm (fun f r => r = m ∧ f = 1209) σ1 (sI σ1 1209 m 0 b) := Frm.sI (by simp)
        have em2 : ∀ f i, 1200 ≤ f → f < 1209 → gI (sI σ1 1209 m 0 b) f m i = gI σ f m i := fun f i hf hf2 => by rw [f2.I (by omega), em _ _ hf]
        refine m_write (f2.lc hL1) h0 hi6 (by rw [em2 _ _ (by decide) (by decide)]; omega) (by rw [em2 _ _ (by decide) (by decide)]; omega) p0 (by omega) (by omega) (by omega) (fun z => ?_) (fun σ3 a0 a1 => ⟨hr.has hc p0 p1, ?_, ?_⟩)
        · rw [em2 _ _ (by decide) (by decide)] at z ⊢
          rw [em2 _ _ (by decide) (by decide)]
          have := (hc.2.2.2.1 (gI σ 303 (img σ x im) 0 - 1) (by omega) (by omega)).2
          have e5 := hr.2.2.2.2.1 (gI σ 303 (img σ x im) 0 - 1) (by omega) (by omega)
          rw [show 4 * im + gI σ 1202 m im.toNat - 1 = 4 * im + (gI σ 303 (img σ x im) 0 - 1) by omega, ← e5]
          exact ⟨this.2.2.2.1, this.2.2.2.2.1⟩
        · have hrel := write_rel hc hr h0 hi6 hI.2.2.2.1 p0 (by omega) (by omega) (by omega) hX (f2.mono (fun f r z => ⟨z.1, by have := z.2; omega⟩)) (fun k k0 k1 => by
            obtain rfl : k = 0 := by omega
            rw [byt_i2j (by omega) (by omega)]
            exact gI_slf _ _ _ _ _) a0 a1
          have hG : Frm (fun f r => r = m ∧ 1200 < f ∧ f < 1210) σ1 σ3 := by
            refine (f2.mono (fun f r z => ⟨z.1, by have := z.2; omega⟩)).trans ?_
            by_cases z : gI (sI σ1 1209 m 0 b) 1202 m im.toNat = 0
            · exact (a0 z).1.mono (fun f r z => ⟨z.1, by have := z.2; omega⟩)
            · exact (a1 (by rw [em2 _ _ (by decide) (by decide)] at z ⊢; omega)).1.mono (fun f r z => ⟨z.1, by have := z.2; omega⟩)
          refine hI.step h0 h1 hF.fr (fun f r z => ?_) (fun u b' hu hb => Or.inr ⟨u, hu, by rw [← eR]; exact hb⟩) hc1 (hG.mono (fun f r z => ⟨z.1, z.2.1⟩)) (fun j j0 j6 jn => ?_) hrel
          · rcases z with z | ⟨z1, z2⟩
            · exact Or.inl z
            · exact Or.inr ⟨z1, Or.inr z2⟩
          · have ag1 : AgM σ1 (sI σ1 1209 m 0 b) m j := ⟨rfl, rfl, fun _ _ _ => rfl, fun _ _ _ => rfl, fun _ _ _ => rfl, fun _ _ _ => rfl, fun _ _ _ => ⟨rfl, rfl⟩⟩
            by_cases z : gI (sI σ1 1209 m 0 b) 1202 m im.toNat = 0
            · exact (a0 z).ag h0 p0 (by omega) j0 jn
            · have z' : 0 < gI (sI σ1 1209 m 0 b) 1202 m im.toNat := by rw [em2 _ _ (by decide) (by decide)] at z ⊢; omega
              exact (a1 z').ag (li := gI (sI σ1 1209 m 0 b) 1202 m im.toNat - 1) (by omega) h0 (by omega) (by rw [em2 _ _ (by decide) (by decide)]; omega) p0 (by omega) j0 jn
        · have hG : Frm (fun f r => r = m ∧ 1201 < f ∧ f < 1210) σ1 σ3 := by
            refine (f2.mono (fun f r z => ⟨z.1, by have := z.2; omega⟩)).trans ?_
            by_cases z : gI (sI σ1 1209 m 0 b) 1202 m im.toNat = 0
            · exact (a0 z).1.mono (fun f r z => ⟨z.1, by have := z.2; omega⟩)
            · exact (a1 (by rw [em2 _ _ (by decide) (by decide)] at z ⊢; omega)).1.mono (fun f r z => ⟨z.1, by have := z.2; omega⟩)
          exact IFr.of (im := im) (c := 0) hF (fun f r z => by rcases z with z | z; exact Or.inl z.1; exact Or.inr z.1) hG (fun f r z => by omega) (by omega) (fun k => Or.inl (hG.I (by simp) k))
      refine x_write hc p0 (by omega) (by omega) (by omega) (fun z σ1 hx hc1 => ⟨_, rfl, fin σ1 (Or.inl ⟨z, hx⟩) hc1⟩) (fun z σ1 hx hc1 => ⟨_, rfl, fin σ1 (Or.inr ⟨z, hx⟩) hc1⟩)
end OP1
