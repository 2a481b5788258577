section OP2
variable {g : GP} {l : Launch} {d : Nat} {σ : St} {x m : Nat}
theorem op_undo {im : Int} (hI : ImgI σ x m) : ACi g l (d + 6) MX11_undo [vR 11 (some x), vI im] σ (fun a σ1 => ACi g l (d + 6) MX12_undo [vR 12 (some m), vI im] σ1 (fun b σ2 => a = b ∧ ImgI σ2 x m ∧ IFr σ σ2 x m)) := by
  have h6 := hI.2.2.2.2.1
  have he := hI.2.2.2.2.2.1
  refine AC.of mo_X11_undo (Nat.le_of_ble_eq_true rfl) (bk_X11_undo_0 (x_imageOf hI.1 h6.2 (fun hn => ⟨fun _ => ⟨_, rfl, ?_⟩, (fun _ q => nomatch q)⟩) (fun h0 h1 => ?_)))
  · refine AC.of mo_X12_undo (Nat.le_of_ble_eq_true rfl) (bk_X12_undo_0 (m_isImage ?_))
    rw [if_neg (by omega)]
    exact ⟨fun q => absurd rfl q, fun _ => ⟨_, rfl, rfl, hI, IFr.rfl⟩⟩
  obtain ⟨e1, hc, hr, hi6, hi2⟩ := hI.im h0 h1
  have hlen := hc.2.1
  have hlc := hc.2.2.1
  have r1 := hr.1
  have r2 := hr.2.1
  rw [e1]
  refine ⟨(fun q => nomatch q), fun r q => ?_⟩
  obtain rfl : img σ x im = r := by simpa using q
  generalize ha : img σ x im = a at *
  have ref : ∀ (P : Int → St → Prop) (σ1 : St), LC 12 σ1 m → (∀ f i, 1200 ≤ f → gI σ1 f m i = gI σ f m i) → (gI σ 303 a 0 = 0 → P (-7) σ1) → (0 < gI σ 303 a 0 → gI σ 405 (lay σ a (gI σ 303 a 0 - 1)) 0 = 0 → P 0 σ1) → (0 < gI σ 303 a 0 → 0 < gI σ 405 (lay σ a (gI σ 303 a 0 - 1)) 0 → ∀ σ2, MU (sI σ1 1205 m (4 * im + (gI σ 303 a 0 - 1)).toNat (gI σ 405 (lay σ a (gI σ 303 a 0 - 1)) 0 - 1)) σ2 m ((4 * im + (gI σ 303 a 0 - 1)) * 2000 + gI σ 402 (lay σ a (gI σ 303 a 0 - 1)) (gI σ 405 (lay σ a (gI σ 303 a 0 - 1)) 0 - 1).toNat) (20 * (4 * im + (gI σ 303 a 0 - 1)) + (gI σ 405 (lay σ a (gI σ 303 a 0 - 1)) 0 - 1)) (gI σ 403 (lay σ a (gI σ 303 a 0 - 1)) (gI σ 405 (lay σ a (gI σ 303 a 0 - 1)) 0 - 1).toNat) → P (gI σ 403 (lay σ a (gI σ 303 a 0 - 1)) (gI σ 405 (lay σ a (gI σ 303 a 0 - 1)) 0 - 1).toNat) σ2) → ACi g l (d + 6) MX12_undo [vR 12 (some m), vI im] σ1 P := by
    intro P σ1 hL em hA hB hC
    refine AC.of mo_X12_undo (Nat.le_of_ble_eq_true rfl) (bk_X12_undo_0 (m_isImage ?_))
    rw [em _ _ (by decide), if_pos ⟨h0, hi2⟩]
    refine ⟨fun _ => ⟨hL, ⟨h0, hi6⟩, ?_⟩, fun q => absurd q (by decide)⟩
    rw [em _ _ (by decide), ← r2]
    refine ⟨fun z => ⟨⟨by omega, by omega⟩, ⟨by omega, by omega⟩, ⟨by omega, by omega⟩, fun q hq => ?_⟩, fun z => ⟨_, rfl, hA z⟩⟩
    have c4 := (hc.2.2.2.1 (gI σ 303 a 0 - 1) (by omega) (by omega)).2
    have q5 := hr.2.2.2.2.1 (gI σ 303 a 0 - 1) (by omega) (by omega)
    have q6 := fun w => hr.2.2.2.2.2.1 (gI σ 303 a 0 - 1) w (by omega) (by omega)
    have q7 := fun w k => hr.2.2.2.2.2.2 (gI σ 303 a 0 - 1) w k (by omega) (by omega)
    obtain rfl : q = 4 * im + (gI σ 303 a 0 - 1) := by omega
    have hB := hB (by omega)
    have hC := hC (by omega)
    generalize lay σ a (gI σ 303 a 0 - 1) = b at *
    refine ⟨⟨by omega, by omega⟩, ?_⟩
    rw [em _ _ (by decide), ← q5]
    have k20 := c4.2.2.2.2.1
    have c0 := c4.2.2.2.1
    refine ⟨fun zk => ⟨⟨by omega, by omega⟩, ⟨by omega, by omega⟩, ⟨by omega, by omega⟩, fun w hw => ?_⟩, fun zk => ⟨_, rfl, hB zk⟩⟩
    have cw := c4.2.2.2.2.2 (gI σ 405 b 0 - 1) (by omega) (by omega)
    have f1 : Frm (fun f r => r = m ∧ f = 1205) σ1 (sI σ1 1205 m (4 * im + (gI σ 303 a 0 - 1)).toNat (gI σ 405 b 0 - 1)) := Frm.sI (by simp)
    subst hw
    refine m_undo_71 (li := gI σ 303 a 0 - 1) (fr := gI σ 402 b (gI σ 405 b 0 - 1).toNat) (n := gI σ 403 b (gI σ 405 b 0 - 1).toNat) (f1.lc hL) h0 hi6 (by rw [f1.I (by simp), em _ _ (by decide)]; omega) (by omega) (by omega) cw.2.2.1 (by have := cw.2.2.2.1; omega) cw.2.1 (by omega) (by omega) (by rw [f1.I (by simp), em _ _ (by decide), ← q6 _ (by omega) (by omega)]) (fun k k0 k1 => by rw [f1.I (by simp), em _ _ (by decide)]; exact (q7 _ k (by omega) (by omega) k0 k1).1) (fun σ2 hM => ⟨_, rfl, hC (by omega) σ2 hM⟩) (gI σ 403 b (gI σ 405 b 0 - 1).toNat).toNat 0 _ (by have := cw.1; omega) (by omega) ⟨Frm.rfl, fun k => by rw [if_neg (by omega)]⟩
  refine ⟨fun hz => x_takeBack hc (by omega) (fun z => ⟨_, rfl, ?_⟩) (fun z σ1 hX hc1 => ⟨_, rfl, ?_⟩), fun hz => ⟨_, rfl, ref _ σ hI.2.1 (fun _ _ _ => rfl) (fun _ => ⟨rfl, hI, IFr.rfl⟩) (fun z => absurd z (by omega)) (fun z => absurd z (by omega))⟩⟩
  · exact ref _ σ hI.2.1 (fun _ _ _ => rfl) (fun z => absurd z hz) (fun _ _ => ⟨rfl, hI, IFr.rfl⟩) (fun _ z2 => absurd z2 (by omega))
  · have hF : Frm (fun f r => (f / 100 = 3 ∧ r = a) ∨ (f / 100 = 4 ∧ ∃ u, u < 4 ∧ gR σ 302 a u = some r)) σ σ1 := hX.1.mono (fun f r q => by
      rcases q with q | q
      · exact Or.inl ⟨by have := q.2; omega, q.1⟩
      · exact Or.inr ⟨by have := q.2; omega, (gI σ 303 a 0 - 1).toNat, by omega, by rw [q.1]; exact (hc.2.2.2.1 _ (by omega) (by omega)).1⟩)
    have eR : ∀ i, gR σ1 302 a i = gR σ 302 a i := hX.1.R (by simp)
    have em : ∀ f i, 1200 ≤ f → gI σ1 f m i = gI σ f m i := fun f i hf => hF.I (by omega) i
    refine ref _ σ1 (hF.lc hI.2.1) em (fun z => absurd z hz) (fun _ z2 => absurd z2 (by omega)) (fun _ _ σ2 hM => ⟨rfl, ?_, ?_⟩)
    · have hrel := undo_rel hc hr h0 hi6 (by omega) rfl (by omega) rfl rfl hX hM
      have hG : Frm (fun f r => r = m ∧ 1200 < f) σ1 σ2 := (Frm.sI (by simp)).trans (hM.1.mono (fun f r z => ⟨z.1, by have := z.2; omega⟩))
      have cw := (hc.2.2.2.1 (gI σ 303 a 0 - 1) (by omega) (by omega)).2.2.2.2.2.2 (gI σ 405 (lay σ a (gI σ 303 a 0 - 1)) 0 - 1) (by omega) (by omega)
      subst ha
      refine hI.step h0 h1 hF.fr (fun f r z => ?_) (fun u b' hu hb => Or.inr ⟨u, hu, by rw [← eR]; exact hb⟩) hc1 hG (fun j j0 j6 jn => ?_) hrel
      · rcases z with z | ⟨z1, z2⟩
        · exact Or.inl z
        · exact Or.inr ⟨z1, Or.inr z2⟩
      · have cwa := cw.1; have cwb := cw.2.1; have cwc := cw.2.2.1; have cwd := cw.2.2.2.1
        refine ⟨by rw [hM.1.I (by simp), gI_sI, if_neg (by simp)], by rw [hM.1.I (by simp), gI_sI, if_neg (by simp)], fun k _ _ => by rw [hM.1.I (by simp), gI_sI, if_neg (by simp)], fun k z0 z1 => ?_, fun k z0 z1 => ?_, fun k _ _ => by rw [hM.1.I (by simp), gI_sI, if_neg (by simp)], fun k _ _ => ⟨by rw [hM.1.I (by simp), gI_sI, if_neg (by simp)], by rw [hM.1.I (by simp), gI_sI, if_neg (by simp)]⟩⟩
        · rw [hM.2, if_neg (by omega), gI_sI, if_neg (by simp)]
        · rw [hM.1.I (by simp), gI_sI, if_neg (by omega)]
    · have hG : Frm (fun f r => r = m ∧ 1201 < f ∧ f < 1210) σ1 σ2 := (Frm.sI (by simp)).trans (hM.1.mono (fun f r z => ⟨z.1, by have := z.2; omega⟩))
      exact IFr.of (im := im) (c := 0) hF (fun f r z => by rcases z with z | z; exact Or.inl z.1; exact Or.inr z.1) hG (fun f r z => by omega) (by omega) (fun k => Or.inl (hG.I (by simp) k))
end OP2
