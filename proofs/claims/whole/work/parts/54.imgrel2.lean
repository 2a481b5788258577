/-! the calls undo, push, commit, drop -/
theorem undo_rel {σ σ1 σ2 : St} {m a : Nat} {im fr n k1 : Int} (hc : CIm σ a) (hr : RelI σ m a im) (hi : 0 ≤ im) (hi6 : im < 6) (hl : 0 < gI σ 303 a 0)
    (hk : k1 = gI σ 405 (lay σ a (gI σ 303 a 0 - 1)) 0 - 1) (hk0 : 0 ≤ k1) (hfr : fr = gI σ 402 (lay σ a (gI σ 303 a 0 - 1)) k1.toNat) (hn : n = gI σ 403 (lay σ a (gI σ 303 a 0 - 1)) k1.toNat)
    (hX : XU σ σ1 a (lay σ a (gI σ 303 a 0 - 1)) k1 fr n) (hM : MU (sI σ1 1205 m (4 * im + (gI σ 303 a 0 - 1)).toNat k1) σ2 m ((4 * im + (gI σ 303 a 0 - 1)) * 2000 + fr) (20 * (4 * im + (gI σ 303 a 0 - 1)) + k1) n) : RelI σ2 m a im := by
  have hlen := hc.2.1
  have hlc := hc.2.2.1
  obtain ⟨r1, r2, r3, r4, r5, r6, r7⟩ := hr
  obtain ⟨x1, x2, x3, x4⟩ := hX
  obtain ⟨w1, w2⟩ := hM
  have hinj : ∀ li : Int, 0 ≤ li → li < gI σ 303 a 0 → lay σ a li = lay σ a (gI σ 303 a 0 - 1) → li = gI σ 303 a 0 - 1 := fun li q0 q1 e => hc.inj q0 q1 (by omega) (by omega) e
  have c4 := (hc.2.2.2.1 (gI σ 303 a 0 - 1) (by omega) (by omega)).2
  have b6 := c4.2.2.2.2.2 k1 hk0 (by omega)
  have b5 := c4.2.2.2.2.1
  obtain ⟨b61, b62, b63, b64, b65⟩ := b6
  have t4 := fun (p : Int) q2 q3 => r4 (gI σ 303 a 0 - 1) p (by omega) (by omega) q2 q3
  have t6 := fun (w : Int) q2 q3 => r6 (gI σ 303 a 0 - 1) w (by omega) (by omega) q2 q3
  have t7 := fun (w k : Int) q2 q3 q4 q5 => r7 (gI σ 303 a 0 - 1) w k (by omega) (by omega) q2 q3 q4 q5
  generalize hb : lay σ a (gI σ 303 a 0 - 1) = b at *
  have em : ∀ f i, 1200 ≤ f → f ≠ 1204 → f ≠ 1205 → gI σ2 f m i = gI σ f m i := fun f i z0 z1 z2 => by rw [w1.I (by omega), gI_sI, if_neg (by omega), x1.I (by omega)]
  have ec : ∀ f r i, f < 1200 → gI σ2 f r i = gI σ1 f r i := fun f r i z => by rw [w1.I (by omega), gI_sI, if_neg (by omega)]
  have eR : ∀ i, gR σ2 302 a i = gR σ 302 a i := fun i => by rw [w1.R (by simp), gR_sI, x1.R (by simp)]
  have eL : ∀ li, lay σ2 a li = lay σ a li := fun li => by unfold lay; rw [eR]
  have e4 : gI σ2 304 a 0 = gI σ 304 a 0 := by rw [ec _ _ _ (by decide), x1.I (by simp)]
  have e3 : gI σ2 303 a 0 = gI σ 303 a 0 := by rw [ec _ _ _ (by decide), x1.I (by simp)]
  have eo : ∀ f li i, f / 100 = 4 → 0 ≤ li → li < gI σ 303 a 0 → li ≠ gI σ 303 a 0 - 1 → gI σ2 f (lay σ a li) i = gI σ f (lay σ a li) i := fun f li i hf q0 q1 qn => by
    rw [ec _ _ _ (by omega), x1.I (fun z => by rcases z with z | z; (have := z.2; omega); exact qn (hinj li q0 q1 z.1))]
  have eb : ∀ f i, f = 402 ∨ f = 403 ∨ f = 404 → gI σ2 f b i = gI σ f b i := fun f i hf => by rw [ec _ _ _ (by omega), x1.I (by omega)]
  have e5 : gI σ2 405 b 0 = k1 := by rw [ec _ _ _ (by decide), x2]
  have m8 : ∀ i, gI (sI σ1 1205 m (4 * im + (gI σ 303 a 0 - 1)).toNat k1) 1208 m i = gI σ 1208 m i := fun i => by rw [gI_sI, if_neg (by simp), x1.I (by simp)]
  have m4 : ∀ i, gI (sI σ1 1205 m (4 * im + (gI σ 303 a 0 - 1)).toNat k1) 1204 m i = gI σ 1204 m i := fun i => by rw [gI_sI, if_neg (by simp), x1.I (by simp)]
  refine ⟨by rw [e4, em _ _ (by decide) (by decide) (by decide)]; exact r1, by rw [e3, em _ _ (by decide) (by decide) (by decide)]; exact r2, fun p q0 q1 => ?_, fun li p q0 q1 q2 q3 => ?_, fun li q0 q1 => ?_, fun li v q0 q1 q2 q3 => ?_, fun li v k q0 q1 q2 q3 q4 q5 => ?_⟩
  · rw [e4] at q1
    rw [ec _ _ _ (by decide), x1.I (by simp), em _ _ (by decide) (by decide) (by decide)]
    exact r3 p q0 q1
  · rw [e3] at q1
    rw [e4] at q3
    rw [eL, w2, m8, m4]
    by_cases e : li = gI σ 303 a 0 - 1
    · subst e
      rw [hb, ec _ _ _ (by decide), x4]
      by_cases e2 : fr ≤ (p.toNat : Int) ∧ (p.toNat : Int) < fr + n
      · rw [if_pos e2, if_pos (by omega)]
        rw [(t7 k1 (p.toNat - fr) hk0 (by omega) (by omega) (by omega)).2]
        congr 2
        omega
      · rw [if_neg e2, if_neg (by omega)]
        exact t4 p q2 q3
    · rw [eo 400 li _ rfl q0 q1 e, if_neg (by omega)]
      exact r4 li p q0 q1 q2 q3
  · rw [e3] at q1
    rw [eL, w1.I (f := 1205) (by simp), gI_sI σ1 1205]
    by_cases e : li = gI σ 303 a 0 - 1
    · subst e
      rw [hb, e5, if_pos ⟨rfl, rfl, rfl⟩]
    · rw [eo 405 li _ rfl q0 q1 e, if_neg (fun z => e (by omega)), x1.I (by simp)]
      exact r5 li q0 q1
  · rw [e3] at q1
    rw [eL] at q3 ⊢
    rw [em _ _ (by decide) (by decide) (by decide)]
    by_cases e : li = gI σ 303 a 0 - 1
    · subst e
      rw [hb] at q3 ⊢
      rw [e5] at q3
      rw [eb _ _ (by decide)]
      exact t6 v q2 (by omega)
    · rw [eo 405 li _ rfl q0 q1 e] at q3
      rw [eo 403 li _ rfl q0 q1 e]
      exact r6 li v q0 q1 q2 q3
  · rw [e3] at q1
    rw [eL] at q3 q5 ⊢
    rw [em _ _ (by decide) (by decide) (by decide), em _ _ (by decide) (by decide) (by decide)]
    by_cases e : li = gI σ 303 a 0 - 1
    · subst e
      rw [hb] at q3 q5 ⊢
      rw [e5] at q3
      rw [eb _ _ (by decide)] at q5
      rw [eb _ _ (by decide), eb _ _ (by decide)]
      exact t7 v k q2 (by omega) q4 q5
    · rw [eo 405 li _ rfl q0 q1 e] at q3
      rw [eo 403 li _ rfl q0 q1 e] at q5
      rw [eo 402 li _ rfl q0 q1 e, eo 404 li _ rfl q0 q1 e]
      exact r7 li v k q0 q1 q2 q3 q4 q5
theorem push_rel {σ σ1 σ2 : St} {m a : Nat} {im n : Int} {w : Int64} (hc : CIm σ a) (hr : RelI σ m a im) (hi : 0 ≤ im) (hl : gI σ 303 a 0 = 0) (hX : XP σ σ1 a w n n) (hM : MP σ1 σ2 m im w n n) : RelI σ2 m a im := by
  have hlen := hc.2.1
  obtain ⟨r1, r2, r3, -⟩ := hr
  obtain ⟨x1, x2, x3, -⟩ := hX
  obtain ⟨w1, w2, w3⟩ := hM
  have ec : ∀ f r i, f < 1200 → gI σ2 f r i = gI σ1 f r i := fun f r i z => w1.I (by omega) i
  have e4 : gI σ2 304 a 0 = gI σ 304 a 0 + n := by rw [ec _ _ _ (by decide), x2]
  have e3 : gI σ2 303 a 0 = 0 := by rw [ec _ _ _ (by decide), x1.I (by simp), hl]
  have m1 : gI σ1 1201 m im.toNat = gI σ 304 a 0 := by rw [x1.I (by simp)]; exact r1.symm
  refine ⟨by rw [e4, w2, if_pos rfl, m1], by rw [e3, w1.I (by simp), x1.I (by simp), ← r2, hl], fun p q0 q1 => ?_, fun li p q0 q1 => absurd q1 (by omega), fun li q0 q1 => absurd q1 (by omega), fun li p q0 q1 => absurd q1 (by omega), fun li p k q0 q1 => absurd q1 (by omega)⟩
  rw [e4] at q1
  rw [ec _ _ _ (by decide), x3, w3, m1]
  by_cases e : gI σ 304 a 0 ≤ (p.toNat : Int) ∧ (p.toNat : Int) < gI σ 304 a 0 + n
  · rw [if_pos e, if_pos (by omega)]
    congr 1
    omega
  · rw [if_neg e, if_neg (by omega), x1.I (by simp)]
    exact r3 p q0 (by omega)
theorem cnt_ext {f f' : Int → Int} {n N : Int} (h0 : 0 ≤ n) (hN : n ≤ N) (h : ∀ i : Int, 0 ≤ i → i < n → f i = f' i) (hz : ∀ i : Int, n ≤ i → i < N → f i < 0) : cnt f N.toNat = cnt f' n.toNat := by
  have := cnt_neg (f := f) n.toNat (N.toNat - n.toNat) (fun i a b => hz i (by omega) (by omega))
  rw [show n.toNat + (N.toNat - n.toNat) = N.toNat by omega] at this
  rw [this]
  exact cnt_congr (fun i hi => h i (by omega) (by omega))
theorem top_cnt {σ : St} {m a : Nat} {im : Int} (hc : CIm σ a) (hr : RelI σ m a im) {li : Int} (h0 : 0 ≤ li) (h1 : li < gI σ 303 a 0) : gI σ 401 (lay σ a li) 0 = cnt (fun p => gI σ 1204 m ((4 * im + li) * 2000 + p).toNat) (gI σ 304 a 0).toNat := by
  have c4 := (hc.2.2.2.1 li h0 h1).2
  have hb : gI σ 401 (lay σ a li) 0 = cnt (fun p => gI σ 400 (lay σ a li) p.toNat) 2000 := c4.1
  rw [hb]
  have := cnt_ext (f := fun p => gI σ 400 (lay σ a li) p.toNat) (f' := fun p => gI σ 1204 m ((4 * im + li) * 2000 + p).toNat) (N := 2000) hc.2.1.1 hc.2.1.2 (fun i a b => hr.2.2.2.1 li i h0 h1 a b) (fun i a b => by
    show gI σ 400 _ i.toNat < 0
    rw [c4.2.2.1 i (by omega) (by have := hc.2.1; omega) (by omega)]; decide)
  rw [show (2000 : Int).toNat = 2000 from rfl] at this
  exact this
