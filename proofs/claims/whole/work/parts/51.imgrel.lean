/-! images: each change of the class and of the reference keeps them alike -/
theorem MW0.ag {σ σ' : St} {m : Nat} {im place n : Int} (h : MW0 σ σ' m im place n) (hi : 0 ≤ im) (h0 : 0 ≤ place) (h1 : place + n ≤ 2000) {j : Int} (hj : 0 ≤ j) (hn : j ≠ im) : AgM σ σ' m j := by
  refine ⟨h.1.I (by simp) _, h.1.I (by simp) _, fun k k0 k1 => ?_, fun k _ _ => h.1.I (by simp) _, fun k _ _ => h.1.I (by simp) _, fun k _ _ => h.1.I (by simp) _, fun k _ _ => ⟨h.1.I (by simp) _, h.1.I (by simp) _⟩⟩
  rw [h.2, if_neg (by omega)]
theorem MWr.ag {σ σ' : St} {m : Nat} {im li q k0 s place n : Int} (h : MWr σ σ' m q k0 s place n) (hq : q = 4 * im + li) (hi : 0 ≤ im) (hl0 : 0 ≤ li) (hl : li < 4) (h0 : 0 ≤ place) (h1 : place + n ≤ 2000) {j : Int} (hj : 0 ≤ j) (hn : j ≠ im) : AgM σ σ' m j := by
  obtain ⟨w1, w2, w3, w4, w5, w6, w7, w8, w9⟩ := h
  refine ⟨w1.I (by simp) _, w1.I (by simp) _, fun k k0 k1 => w1.I (by simp) _, fun k z0 z1 => ?_, fun k z0 z1 => ?_, fun k z0 z1 => w4 k (by omega), fun k z0 z1 => w5 k (by omega)⟩
  · rw [w2, if_neg (by omega)]
  · rw [w3, if_neg (by omega)]
theorem write_rel {σ σ1 σ2 σ3 : St} {m a : Nat} {im fr n bg : Int} {w : Int64} (hc : CIm σ a) (hr : RelI σ m a im) (hi : 0 ≤ im) (hi6 : im < 6) (hm : m < hs σ) (h0 : 0 ≤ fr) (h1 : 1 ≤ n) (h2 : n ≤ 8) (h3 : fr + n ≤ gI σ 304 a 0)
    (hX : (gI σ 303 a 0 = 0 ∧ XW0 σ σ1 a w n bg fr n) ∨ (0 < gI σ 303 a 0 ∧ XWr σ σ1 a (lay σ a (gI σ 303 a 0 - 1)) w n bg fr))
    (h12 : Frm (fun f r => r = m ∧ 1208 < f) σ1 σ2) (hrow : ∀ k : Int, 0 ≤ k → k < n → gI σ2 1209 m k.toNat = bvx w n bg k)
    (hM0 : gI σ2 1202 m im.toNat = 0 → MW0 σ2 σ3 m im fr n) (hMr : 0 < gI σ2 1202 m im.toNat → MWr σ2 σ3 m (4 * im + gI σ2 1202 m im.toNat - 1) (if gI σ2 1205 m (4 * im + gI σ2 1202 m im.toNat - 1).toNat = 20 then 19 else gI σ2 1205 m (4 * im + gI σ2 1202 m im.toNat - 1).toNat) (if gI σ2 1205 m (4 * im + gI σ2 1202 m im.toNat - 1).toNat = 20 then 1 else 0) fr n) : RelI σ3 m a im := by
  have hlen := hc.2.1
  have hlc := hc.2.2.1
  obtain ⟨r1, r2, r3, r4, r5, r6, r7⟩ := hr
  rcases hX with ⟨hl, x1, x2, -⟩ | ⟨hl, hX⟩
  · have em : ∀ f i, 1200 ≤ f → f < 1209 → gI σ2 f m i = gI σ f m i := fun f i z0 z1 => by rw [h12.I (by omega), x1.I (by omega)]
    obtain ⟨w1, w2⟩ := hM0 (by rw [em _ _ (by decide) (by decide), ← r2]; exact hl)
    have ec : ∀ f r i, f < 1200 → gI σ3 f r i = gI σ1 f r i := fun f r i z => by rw [w1.I (by omega), h12.I (by omega)]
    have e4 : gI σ3 304 a 0 = gI σ 304 a 0 := by rw [ec _ _ _ (by decide), x1.I (by simp)]
    have e3 : gI σ3 303 a 0 = 0 := by rw [ec _ _ _ (by decide), x1.I (by simp), hl]
    refine ⟨by rw [e4, w1.I (by simp), em _ _ (by decide) (by decide)]; exact r1, by rw [e3, w1.I (by simp), em _ _ (by decide) (by decide), ← r2, hl], fun p q0 q1 => ?_, fun li p q0 q1 => absurd q1 (by omega), fun li q0 q1 => absurd q1 (by omega), fun li p q0 q1 => absurd q1 (by omega), fun li p k q0 q1 => absurd q1 (by omega)⟩
    rw [e4] at q1
    rw [ec _ _ _ (by decide), x2, w2]
    by_cases e : fr ≤ (p.toNat : Int) ∧ (p.toNat : Int) < fr + n
    · rw [if_pos e, if_pos (by omega), show (((2000 * im + p).toNat : Nat) : Int) - (2000 * im + fr) = p.toNat - fr by omega, hrow _ (by omega) (by omega)]
    · rw [if_neg e, if_neg (by omega), em _ _ (by decide) (by decide)]
      exact r3 p q0 q1
  · have hF := hX.frm
    have em : ∀ f i, 1200 ≤ f → f < 1209 → gI σ2 f m i = gI σ f m i := fun f i z0 z1 => by rw [h12.I (by omega), hF.I (by omega)]
    have eM2 : gI σ2 1202 m im.toNat = gI σ 303 a 0 := by rw [em _ _ (by decide) (by decide)]; exact r2.symm
    have hM := hMr (by omega)
    rw [eM2] at hM
    have eM5 : gI σ2 1205 m (4 * im + gI σ 303 a 0 - 1).toNat = gI σ 405 (lay σ a (gI σ 303 a 0 - 1)) 0 := by
      rw [em _ _ (by decide) (by decide), r5 _ (by omega) (by omega)]
      congr 2
      omega
    rw [eM5] at hM
    obtain ⟨τ, ⟨k1, k2, k3, k4, k5, k6, k7⟩, x1, x2, x3, x4⟩ := hX
    have c4 := (hc.2.2.2.1 (gI σ 303 a 0 - 1) (by omega) (by omega)).2
    obtain ⟨b1, b2, b3, b4, b5, b6⟩ := c4
    have hinj : ∀ li : Int, 0 ≤ li → li < gI σ 303 a 0 → lay σ a li = lay σ a (gI σ 303 a 0 - 1) → li = gI σ 303 a 0 - 1 := fun li q0 q1 e => hc.inj q0 q1 (by omega) (by omega) e
    have t4 := fun (p : Int) q2 q3 => r4 (gI σ 303 a 0 - 1) p (by omega) (by omega) q2 q3
    have t6 := fun (w : Int) q2 q3 => r6 (gI σ 303 a 0 - 1) w (by omega) (by omega) q2 q3
    have t7 := fun (w k : Int) q2 q3 q4 q5 => r7 (gI σ 303 a 0 - 1) w k (by omega) (by omega) q2 q3 q4 q5
    generalize hb : lay σ a (gI σ 303 a 0 - 1) = b at *
    have s01 : (gI σ 405 b 0 = 20 ∧ (if gI σ 405 b 0 = 20 then (19 : Int) else gI σ 405 b 0) = 19 ∧ (if gI σ 405 b 0 = 20 then (1 : Int) else 0) = 1) ∨ (gI σ 405 b 0 ≠ 20 ∧ (if gI σ 405 b 0 = 20 then (19 : Int) else gI σ 405 b 0) = gI σ 405 b 0 ∧ (if gI σ 405 b 0 = 20 then (1 : Int) else 0) = 0) := by
      by_cases e : gI σ 405 b 0 = 20
      · exact Or.inl ⟨e, if_pos e, if_pos e⟩
      · exact Or.inr ⟨e, if_neg e, if_neg e⟩
    generalize (if gI σ 405 b 0 = 20 then (19 : Int) else gI σ 405 b 0) = k0 at *
    generalize (if gI σ 405 b 0 = 20 then (1 : Int) else 0) = s at *
    obtain ⟨w1, w2, w3, w4, w5, w6, w7, w8, w9⟩ := hM
    have ec : ∀ f r i, f < 1200 → gI σ3 f r i = gI σ1 f r i := fun f r i z => by rw [w1.I (by omega), h12.I (by omega)]
    have eR : ∀ i, gR σ3 302 a i = gR σ 302 a i := fun i => by rw [w1.R (by simp), h12.R (by simp), hF.R (by simp)]
    have eL : ∀ li, lay σ3 a li = lay σ a li := fun li => by unfold lay; rw [eR]
    have e4 : gI σ3 304 a 0 = gI σ 304 a 0 := by rw [ec _ _ _ (by decide), hF.I (by simp)]
    have e3 : gI σ3 303 a 0 = gI σ 303 a 0 := by rw [ec _ _ _ (by decide), hF.I (by simp)]
    have eo : ∀ f li i, f / 100 = 4 → 0 ≤ li → li < gI σ 303 a 0 → li ≠ gI σ 303 a 0 - 1 → gI σ3 f (lay σ a li) i = gI σ f (lay σ a li) i := fun f li i hf q0 q1 qn => by
      rw [ec _ _ _ (by omega), hF.I (fun z => by rcases z with z | z; (have := z.2; omega); exact qn (hinj li q0 q1 z.1))]
    have d2 : ∀ i, gI σ3 402 b i = gI τ 402 b i := fun i => by rw [ec _ _ _ (by decide), x1.I (by simp)]
    have d3 : ∀ i, gI σ3 403 b i = gI τ 403 b i := fun i => by rw [ec _ _ _ (by decide), x1.I (by simp)]
    have d4 : ∀ i, gI σ3 404 b i = gI τ 404 b i := fun i => by rw [ec _ _ _ (by decide), x1.I (by simp)]
    have d5 : gI σ3 405 b 0 = k0 + 1 := by rw [ec _ _ _ (by decide), x1.I (by simp), k2]
    have d0 : ∀ i, gI σ3 400 b i = gI σ1 400 b i := fun i => ec _ _ _ (by decide)
    have dt : ∀ i, gI τ 400 b i = gI σ 400 b i := k1.I (by simp)
    have hkw : ∀ v : Int, 0 ≤ v → v < k0 → gI σ3 403 b v.toNat = gI σ 403 b (v + s).toNat := fun v z0 z1 => by rw [d3, (k3 v z0 z1).2]
    refine ⟨by rw [e4, w1.I (by simp), em _ _ (by decide) (by decide)]; exact r1, by rw [e3, w1.I (by simp), em _ _ (by decide) (by decide)]; exact r2, fun p q0 q1 => ?_, fun li p q0 q1 q2 q3 => ?_, fun li q0 q1 => ?_, fun li v q0 q1 q2 q3 => ?_, fun li v k q0 q1 q2 q3 q4 q5 => ?_⟩
    · rw [e4] at q1
      rw [ec _ _ _ (by decide), hF.I (by simp), w1.I (by simp), em _ _ (by decide) (by decide)]
      exact r3 p q0 q1
    · rw [e3] at q1
      rw [e4] at q3
      rw [eL, w2]
      by_cases e : li = gI σ 303 a 0 - 1
      · subst e
        rw [hb, d0, x3]
        by_cases e2 : fr ≤ (p.toNat : Int) ∧ (p.toNat : Int) < fr + n
        · rw [if_pos e2, if_pos (by omega), ← hrow _ (by omega) (by omega)]
          congr 2
          omega
        · rw [if_neg e2, if_neg (by omega), dt, em _ _ (by decide) (by decide)]
          exact t4 p q2 q3
      · rw [eo 400 li _ rfl q0 q1 e, if_neg (by omega), em _ _ (by decide) (by decide)]
        exact r4 li p q0 q1 q2 q3
    · rw [e3] at q1
      rw [eL, w3]
      by_cases e : li = gI σ 303 a 0 - 1
      · subst e
        rw [hb, d5, if_pos (by omega)]
      · rw [eo 405 li _ rfl q0 q1 e, if_neg (by omega), em _ _ (by decide) (by decide)]
        exact r5 li q0 q1
    · rw [e3] at q1
      rw [eL] at q3 ⊢
      by_cases e : li = gI σ 303 a 0 - 1
      · subst e
        rw [hb] at q3 ⊢
        rw [d5] at q3
        have ix : 20 * (4 * im + (gI σ 303 a 0 - 1)) + v = 20 * (4 * im + gI σ 303 a 0 - 1) + v := by omega
        rw [ix]
        by_cases e2 : v = k0
        · rw [e2, d3, k6, w8]
        · rw [hkw v q2 (by omega), w6 v q2 (by omega), em _ _ (by decide) (by decide), t6 (v + s) (by omega) (by omega)]
          congr 2
          omega
      · rw [eo 405 li _ rfl q0 q1 e] at q3
        have := (hc.2.2.2.1 li q0 q1).2.2.2.2.2.1
        rw [eo 403 li _ rfl q0 q1 e, w4 _ (by omega), em _ _ (by decide) (by decide)]
        exact r6 li v q0 q1 q2 q3
    · rw [e3] at q1
      rw [eL] at q3 q5 ⊢
      by_cases e : li = gI σ 303 a 0 - 1
      · subst e
        rw [hb] at q3 q5 ⊢
        rw [d5] at q3
        have ix : 8 * (20 * (4 * im + (gI σ 303 a 0 - 1)) + v) + k = 8 * (20 * (4 * im + gI σ 303 a 0 - 1) + v) + k := by omega
        rw [ix]
        by_cases e2 : v = k0
        · subst e2
          rw [d3, k6] at q5
          rw [d2, k5, d4, k7 k q4 q5, (w9 k q4 q5).1, (w9 k q4 q5).2, em _ _ (by decide) (by decide)]
          refine ⟨rfl, ?_⟩
          rw [t4 _ (by omega) (by omega)]
          congr 2
          omega
        · rw [hkw v q2 (by omega)] at q5
          have cw := (b6 (v + s) (by omega) (by omega)).2.1
          obtain ⟨y1, y2⟩ := t7 (v + s) k (by omega) (by omega) q4 q5
          obtain ⟨v1, v2⟩ := w7 (8 * (20 * (4 * im + gI σ 303 a 0 - 1) + v) + k) (by omega) (by omega)
          rw [v1, v2, em _ _ (by decide) (by decide), em _ _ (by decide) (by decide), d2, (k3 v q2 (by omega)).1, d4, k4 _ (by omega) (by omega)]
          rw [show 8 * (20 * (4 * im + gI σ 303 a 0 - 1) + v) + k + 8 * s = 8 * (20 * (4 * im + (gI σ 303 a 0 - 1)) + (v + s)) + k by omega, show v * 8 + k + 8 * s = (v + s) * 8 + k by omega]
          exact ⟨y1, y2⟩
      · rw [eo 405 li _ rfl q0 q1 e] at q3
        rw [eo 403 li _ rfl q0 q1 e] at q5
        have cl := (hc.2.2.2.1 li q0 q1).2.2.2.2.2.1
        have cw := ((hc.2.2.2.1 li q0 q1).2.2.2.2.2.2 v q2 q3).2.1
        obtain ⟨v1, v2⟩ := w5 (8 * (20 * (4 * im + li) + v) + k).toNat (by omega)
        rw [v1, v2, em _ _ (by decide) (by decide), em _ _ (by decide) (by decide), eo 402 li _ rfl q0 q1 e, eo 404 li _ rfl q0 q1 e]
        exact r7 li v k q0 q1 q2 q3 q4 q5
