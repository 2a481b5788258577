/-! the call masked -/
section OP10
variable {g : GP} {l : Launch} {d : Nat} {σ : St} {x m : Nat}
theorem i_xor_comm (a b : Int) : i_xor a b = i_xor b a := by unfold i_xor; rw [Int32.xor_comm]
theorem m_masked {im k h : Int} {P : Int → St → Prop} (hm : LC 12 σ m) (h1 : 0 ≤ im) (h2 : im < 6) (h3 : 0 ≤ gI σ 1202 m im.toNat) (h4 : gI σ 1202 m im.toNat ≤ 4) (hl0 : 0 ≤ gI σ 1201 m im.toNat) (hl : gI σ 1201 m im.toNat ≤ 2000) (hk : 0 ≤ k) (hk2 : k < 2147483648)
    (hh : i_div (gI σ 1211 m 0) 2 = h) (hh1 : 1 ≤ h) (hh2 : 2 * h ≤ 3000)
    (hP : P (kth (fun p => al (fun i => i_and (i_xor (gI σ 1210 m i.toNat) (hasM σ m im (p + i))) (gI σ 1210 m (h + i).toNat)) h.toNat) (gI σ 1201 m im.toNat - h + 1).toNat 0 k) σ) :
    AW g l (d + 2) MX12_masked 36 [some (vR 12 (some m)), some (vI im), none, some (vI k), some (vI 0), none, none] [] σ (fun v σ' => ∃ r, v = some (vI r) ∧ P r σ') := by
  have loop : ∀ (j : Nat) (p t : Int), (j : Int) = max 0 (gI σ 1201 m im.toNat - h + 1 - p) → 0 ≤ p → p ≤ 2001 → 0 ≤ t → t ≤ k → P (kth (fun p => al (fun i => i_and (i_xor (gI σ 1210 m i.toNat) (hasM σ m im (p + i))) (gI σ 1210 m (h + i).toNat)) h.toNat) j p t) σ →
      AW g l (d + 2) MX12_masked 36 [some (vR 12 (some m)), some (vI im), none, some (vI t), some (vI p), none, none] [] σ (fun v σ' => ∃ r, v = some (vI r) ∧ P r σ') := by
    intro j
    induction j with
    | zero =>
      intro p t hj hp hp2 ht htk hP
      refine bk_X12_masked_36 ?_
      rw [hh]
      exact ⟨⟨by omega, by omega⟩, hm, ⟨by omega, by omega⟩, fun _ => ⟨_, rfl, hP⟩, fun q => absurd (by omega) q⟩
    | succ j ih =>
      intro p t hj hp hp2 ht htk hP
      have inner : ∀ (n : Nat) (i s : Int), i = h - n → 0 ≤ i → (¬ s = 0 → ∀ z : Int, 0 ≤ z → z < i → i_and (i_xor (gI σ 1210 m z.toNat) (hasM σ m im (p + z))) (gI σ 1210 m (h + z).toNat) = 0) → (s = 0 → ¬ 0 ≤ al (fun i => i_and (i_xor (gI σ 1210 m i.toNat) (hasM σ m im (p + i))) (gI σ 1210 m (h + i).toNat)) h.toNat) →
          AW g l (d + 2) MX12_masked 60 [some (vR 12 (some m)), some (vI im), none, some (vI t), some (vI p), some (vI s), some (vI i)] [] σ (fun v σ' => ∃ r, v = some (vI r) ∧ P r σ') := by
        have miss : (¬ 0 ≤ al (fun i => i_and (i_xor (gI σ 1210 m i.toNat) (hasM σ m im (p + i))) (gI σ 1210 m (h + i).toNat)) h.toNat) → AW g l (d + 2) MX12_masked 36 [some (vR 12 (some m)), some (vI im), none, some (vI t), some (vI (p + 1)), none, none] [] σ (fun v σ' => ∃ r, v = some (vI r) ∧ P r σ') := by
          intro z2
          rw [kth_miss z2] at hP
          exact ih _ _ (by omega) (by omega) (by omega) ht htk hP
        intro n
        induction n with
        | zero =>
          intro i s hi hi0 hA hN
          refine bk_X12_masked_60 ?_
          rw [hh]
          refine ⟨fun _ => ⟨fun z => ?_, fun z => ⟨⟨by omega, by omega⟩, miss (hN z)⟩⟩, fun q => absurd (by omega) q⟩
          have hit := al_iff (e := fun i => i_and (i_xor (gI σ 1210 m i.toNat) (hasM σ m im (p + i))) (gI σ 1210 m (h + i).toNat)) (n := h.toNat) |>.mpr (fun y y0 y1 => hA z y y0 (by omega))
          refine ⟨fun qt => ?_, fun qt => ?_⟩
          · rw [kth_hit hit qt] at hP
            exact ⟨⟨by omega, by omega⟩, ⟨by omega, by omega⟩, ih _ _ (by omega) (by omega) (by omega) (by omega) (by omega) hP⟩
          · rw [kth_hit0 hit qt] at hP
            exact ⟨_, rfl, hP⟩
        | succ n ih2 =>
          intro i s hi hi0 hA hN
          refine bk_X12_masked_60 ?_
          rw [hh]
          refine ⟨fun q => absurd q (by omega), fun _ => ⟨fun z => ⟨⟨by omega, by omega⟩, miss (hN z)⟩, fun z => ⟨hm, ⟨by omega, by omega⟩, ⟨by omega, by omega⟩, m_has hm h1 h2 h3 h4 (by omega) (by omega) ?_⟩⟩⟩
          rw [hh]
          refine ⟨hm, ⟨by omega, by omega⟩, ⟨by omega, by omega⟩, fun q => ⟨⟨by omega, by omega⟩, ih2 _ 0 (by omega) (by omega) (fun q => absurd rfl q) (fun _ q5 => q (al_iff.mp q5 i hi0 (by omega)))⟩, fun q => ⟨⟨by omega, by omega⟩, ih2 _ 1 (by omega) (by omega) (fun _ y y0 y1 => ?_) (fun q => absurd q (by decide))⟩⟩
          by_cases e : y = i
          · rw [e]; exact q
          · exact hA z y y0 (by omega)
      refine bk_X12_masked_36 ?_
      rw [hh]
      exact ⟨⟨by omega, by omega⟩, hm, ⟨by omega, by omega⟩, fun q => absurd q (by omega), fun _ => inner h.toNat 0 1 (by omega) (by omega) (fun _ z z0 z1 => absurd z1 (by omega)) (fun q => absurd q (by decide))⟩
  exact loop _ 0 k (by omega) (by omega) (by omega) hk (by omega) hP
theorem op_masked {im k : Int} (hI : ImgI σ x m) (hT : TapI σ x m) (hk2 : k < 2147483648) : ACi g l (d + 6) MX11_masked [vR 11 (some x), vI im, vI k] σ (fun a σ1 => ACi g l (d + 6) MX12_masked [vR 12 (some m), vI im, vI k] σ1 (fun b σ2 => a = b ∧ ScFr σ σ2)) := by
  have h6 := hI.2.2.2.2.1
  have he := hI.2.2.2.2.2.1
  obtain ⟨t1, t2, t3, t4, t5, t6, t7, t8, t9⟩ := id hT
  refine AC.of mo_X11_masked (Nat.le_of_ble_eq_true rfl) (bk_X11_masked_0 (x_imageOf hI.1 h6.2 (fun hn => ⟨tpe σ x, t1, fun z5 hz => ⟨fun _ => ⟨_, rfl, ?_⟩, (fun _ q => nomatch q)⟩⟩) (fun h0 h1 => ⟨tpe σ x, t1, fun z5 hz => ?_⟩)))
  · refine AC.of mo_X12_masked (Nat.le_of_ble_eq_true rfl) (bk_X12_masked_0 (m_isImage ?_))
    rw [if_neg (by omega)]
    exact ⟨fun _ => ⟨_, rfl, rfl, Frm.rfl⟩, fun q => absurd rfl q⟩
  obtain ⟨e1, hc, hr, hi6, hi2⟩ := hI.im h0 h1
  have hlen := hc.2.1
  have hlc := hc.2.2.1
  have r1 := hr.1
  have r2 := hr.2.1
  rw [e1]
  refine ⟨(fun q => nomatch q), fun r q => ?_⟩
  obtain rfl : img σ x im = r := by simpa using q
  generalize ha : img σ x im = a at *
  generalize ht : tpe σ x = t at *
  generalize hTT : gI σ 1211 m 0 = T at *
  rw [t7, i_div_pos t8.1 (by omega) (by omega) (by omega)] at hz
  have ref : ∀ (v : Int) (τ : St), Frm (fun f r => r = x ∧ (f = 1113 ∨ f = 1114)) σ τ → ((T % 2 = 1 ∨ T = 0 ∨ k < 0) → v = -1) → (T % 2 = 0 → 1 ≤ z5 → 0 ≤ k → v = kth (fun p => al (fun i => i_and (i_xor (gI σ 1210 m i.toNat) (hasM σ m im (p + i))) (gI σ 1210 m (z5 + i).toNat)) z5.toNat) (gI σ 304 a 0 - z5 + 1).toNat 0 k) → ACi g l (d + 6) MX12_masked [vR 12 (some m), vI im, vI k] τ (fun b σ2 => v = b ∧ ScFr σ σ2) := by
    intro v τ hF hA hB
    have hS : ScFr σ τ := hF.mono (fun f r z => by have := z.2; omega)
    have et : ∀ f i, 1200 ≤ f → gI τ f m i = gI σ f m i := fun f i z => hF.I (by omega) i
    refine AC.of mo_X12_masked (Nat.le_of_ble_eq_true rfl) (bk_X12_masked_0 (m_isImage ?_))
    rw [et _ _ (by decide), if_pos ⟨h0, hi2⟩, et _ _ (by decide), hTT, i_rem_pos t8.1 (by omega) (by omega) (by omega)]
    refine ⟨fun q => absurd q (by decide), fun _ => ⟨fun q => ⟨_, rfl, hA (by omega), hS⟩, fun q => ⟨fun q2 => ⟨_, rfl, hA (by omega), hS⟩, fun q2 => ⟨fun q3 => ?_, fun q3 => ⟨_, rfl, hA (by omega), hS⟩⟩⟩⟩⟩
    have hB := hB (by omega) (by omega) q3
    have ehas : ∀ p, hasM τ m im p = hasM σ m im p := fun p => by unfold hasM; rw [et _ _ (by decide), et _ _ (by decide)]; exact hv_congr (fun i _ => et _ _ (by decide)) rfl
    refine m_masked (h := z5) (hF.lc hI.2.1) h0 hi6 (by rw [et _ _ (by decide)]; omega) (by rw [et _ _ (by decide)]; omega) (by rw [et _ _ (by decide)]; omega) (by rw [et _ _ (by decide)]; omega) q3 hk2 (by rw [et _ _ (by decide), hTT, i_div_pos t8.1 (by omega) (by omega) (by omega)]; exact hz.symm) (by omega) (by omega) ⟨?_, hS⟩
    rw [hB, et _ _ (by decide), ← r1]
    refine kth_sign _ _ _ (fun p _ _ => ?_)
    rw [al_iff, al_iff]
    refine forall_congr' (fun i => forall_congr' (fun _ => forall_congr' (fun _ => ?_)))
    rw [et _ _ (by decide), et _ _ (by decide), ehas]
  refine ⟨fun q => ⟨_, rfl, ref _ _ Frm.rfl (fun _ => rfl) (fun _ => by omega)⟩, fun q => ⟨⟨by omega, by omega⟩, fun q2 => ?_, fun q2 => ⟨_, rfl, ref _ _ Frm.rfl (fun _ => rfl) (fun _ => by omega)⟩⟩⟩
  have loop : ∀ (j : Nat) (i : Int) (τ : St), i = z5 - j → 0 ≤ i → Frm (fun f r => r = x ∧ (f = 1113 ∨ f = 1114)) σ τ → (∀ n : Int, 0 ≤ n → n < i → gI τ 1113 x n.toNat = gI σ 900 t n.toNat ∧ gI τ 1114 x n.toNat = gI σ 900 t (z5 + n).toNat) →
      AW g l (d + 6) MX11_masked 45 [some (vR 11 (some x)), none, some (vI k), some (vR 3 (some a)), some (vI z5), some (vI i)] [] τ (fun v' σ' => ∃ r, v' = some (vI r) ∧ ACi g l (d + 6) MX12_masked [vR 12 (some m), vI im, vI k] σ' (fun b σ2 => r = b ∧ ScFr σ σ2)) := by
    intro j
    induction j with
    | zero =>
      intro i τ hi hi0 hF hpat
      have t4' : gI τ 304 a 0 = gI σ 304 a 0 := hF.I (by simp) 0
      have t1' : ∀ i, gI τ 301 a i = gI σ 301 a i := hF.I (by simp)
      refine bk_X11_masked_45 ⟨fun _ => x_matchOf (hF.lc hI.1) (hF.lc hc.1) (by omega) (by omega) (by omega) hk2 ⟨_, rfl, ref _ τ hF (fun q3 => if_pos (by omega)) (fun _ _ q3 => ?_)⟩, fun q => absurd (by omega) q⟩
      rw [if_neg (by omega), t4']
      refine kth_sign _ _ _ (fun p p0 p1 => ?_)
      rw [al_iff, al_iff]
      refine forall_congr' (fun n => forall_congr' (fun n0 => forall_congr' (fun n1 => ?_)))
      rw [(hpat n n0 (by omega)).1, (hpat n n0 (by omega)).2, t1', hr.has hc (by omega) (by omega), (t9 n n0 (by omega)).1, (t9 (z5 + n) (by omega) (by omega)).1, i_xor_comm]
    | succ j ih =>
      intro i τ hi hi0 hF hpat
      have hLx := hF.lc hI.1
      refine bk_X11_masked_45 ⟨fun q => absurd q (by omega), fun _ => ⟨hLx, t, ?_, hF.lc t2, ⟨by omega, by omega⟩, ⟨by omega, by omega⟩, ⟨by omega, by omega⟩, ⟨by omega, by omega⟩, ih _ _ (by omega) (by omega) (hF.trans ((Frm.sI (by simp)).trans (Frm.sI (by simp)))) (fun n n0 n1 => ?_)⟩⟩
      · rw [hF.R (by simp)]; exact t1
      simp only [gI_sI, false_and, true_and, if_false, Nat.reduceEqDiff]
      have u : ∀ i, gI τ 900 t i = gI σ 900 t i := hF.I (by simp)
      rw [u, u]
      by_cases z : n = i
      · rw [z, if_pos rfl, if_pos rfl]
        exact ⟨rfl, rfl⟩
      · have hne : ¬ n.toNat = i.toNat := by omega
        rw [if_neg hne, if_neg hne]
        exact hpat n n0 (by omega)
  exact loop z5.toNat 0 σ (by omega) (by omega) Frm.rfl (fun n n0 n1 => absurd n1 (by omega))
end OP10
