/-! the calls commit, drop -/
theorem TopS.ag {σ σ' : St} {m : Nat} {im li len v : Int} {stays : Bool} (h : TopS σ σ' m im li stays len) (hi : 0 ≤ im) (h0 : 0 ≤ li) (h4 : li < 4) (hl : len ≤ 2000) {j : Int} (hj : 0 ≤ j) (hn : j ≠ im) : AgM σ (sI σ' 1202 m im.toNat v) m j := by
  obtain ⟨t1, t2, t3⟩ := h
  refine ⟨by rw [gI_sI, if_neg (by simp), t1.I (by simp)], by rw [gI_sI, if_neg (by omega), t1.I (by simp)], fun k z0 z1 => ?_, fun k z0 z1 => ?_, fun k _ _ => by rw [gI_sI, if_neg (by simp), t1.I (by simp)], fun k _ _ => by rw [gI_sI, if_neg (by simp), t1.I (by simp)], fun k _ _ => ⟨by rw [gI_sI, if_neg (by simp), t1.I (by simp)], by rw [gI_sI, if_neg (by simp), t1.I (by simp)]⟩⟩
  · rw [gI_sI, if_neg (by simp), t3, if_neg (by omega)]
  · rw [gI_sI, if_neg (by simp), t2, if_neg (by omega)]
theorem drop_rel {σ σ1 σ' : St} {m a : Nat} {im : Int} (hc : CIm σ a) (hr : RelI σ m a im) (hi : 0 ≤ im) (hl : 0 < gI σ 303 a 0) (hF : Frm (fun f r => r = a ∧ (f = 303 ∨ f = 301)) σ σ1) (h3 : gI σ1 303 a 0 = gI σ 303 a 0 - 1) (hT : TopS σ1 σ' m im (gI σ 303 a 0 - 1) false (gI σ 304 a 0)) : RelI (sI σ' 1202 m im.toNat (gI σ 303 a 0 - 1)) m a im := by
  obtain ⟨r1, r2, r3, r4, r5, r6, r7⟩ := hr
  obtain ⟨t1, t2, t3⟩ := hT
  have em : ∀ f i, 1200 ≤ f → f ≠ 1202 → gI (sI σ' 1202 m im.toNat (gI σ 303 a 0 - 1)) f m i = gI σ f m i := fun f i z0 z1 => by
    rw [gI_sI, if_neg (by omega)]
    by_cases e4 : f = 1204
    · rw [e4, t2, if_neg (by simp), hF.I (by simp)]
    · by_cases e3 : f = 1203
      · rw [e3, t3, if_neg (by simp), hF.I (by simp)]
      · rw [t1.I (by omega), hF.I (by omega)]
  have ec : ∀ f r i, f < 1200 → gI (sI σ' 1202 m im.toNat (gI σ 303 a 0 - 1)) f r i = gI σ1 f r i := fun f r i z => by rw [gI_sI, if_neg (by omega), t1.I (by omega)]
  have eR : ∀ i, gR (sI σ' 1202 m im.toNat (gI σ 303 a 0 - 1)) 302 a i = gR σ 302 a i := fun i => by rw [gR_sI, t1.R (by simp), hF.R (by simp)]
  have eL : ∀ li, lay (sI σ' 1202 m im.toNat (gI σ 303 a 0 - 1)) a li = lay σ a li := fun li => by unfold lay; rw [eR]
  have e3 : gI (sI σ' 1202 m im.toNat (gI σ 303 a 0 - 1)) 303 a 0 = gI σ 303 a 0 - 1 := by rw [ec _ _ _ (by decide), h3]
  have e4 : gI (sI σ' 1202 m im.toNat (gI σ 303 a 0 - 1)) 304 a 0 = gI σ 304 a 0 := by rw [ec _ _ _ (by decide), hF.I (by simp)]
  have eb : ∀ f b i, f / 100 = 4 → gI (sI σ' 1202 m im.toNat (gI σ 303 a 0 - 1)) f b i = gI σ f b i := fun f b i hf => by rw [ec _ _ _ (by omega), hF.I (by omega)]
  refine ⟨by rw [e4, em _ _ (by decide) (by decide)]; exact r1, by rw [e3, gI_slf], fun p q0 q1 => ?_, fun li p q0 q1 q2 q3 => ?_, fun li q0 q1 => ?_, fun li v q0 q1 q2 q3 => ?_, fun li v k q0 q1 q2 q3 q4 q5 => ?_⟩
  · rw [e4] at q1
    rw [ec _ _ _ (by decide), hF.I (by simp), em _ _ (by decide) (by decide)]
    exact r3 p q0 q1
  · rw [e3] at q1
    rw [e4] at q3
    rw [eL, eb _ _ _ (by decide), em _ _ (by decide) (by decide)]
    exact r4 li p q0 (by omega) q2 q3
  · rw [e3] at q1
    rw [eL, eb _ _ _ (by decide), em _ _ (by decide) (by decide)]
    exact r5 li q0 (by omega)
  · rw [e3] at q1
    rw [eL, eb _ _ _ (by decide)] at q3
    rw [eL, eb _ _ _ (by decide), em _ _ (by decide) (by decide)]
    exact r6 li v q0 (by omega) q2 q3
  · rw [e3] at q1
    rw [eL, eb _ _ _ (by decide)] at q3 q5
    rw [eL, eb 402 _ _ (by decide), eb 404 _ _ (by decide), em _ _ (by decide) (by decide), em _ _ (by decide) (by decide)]
    exact r7 li v k q0 (by omega) q2 q3 q4 q5
theorem commit_rel {σ σ1 σ' : St} {m a : Nat} {im : Int} (hc : CIm σ a) (hr : RelI σ m a im) (hi : 0 ≤ im) (hi6 : im < 6) (hl : 0 < gI σ 303 a 0)
    (hX : (gI σ 303 a 0 = 1 ∧ XC0 (sI σ 303 a 0 0) σ1 a (lay σ a 0) (gI σ 304 a 0)) ∨ (1 < gI σ 303 a 0 ∧ XC1 (sI σ 303 a 0 (gI σ 303 a 0 - 1)) σ1 (lay σ a (gI σ 303 a 0 - 2)) (lay σ a (gI σ 303 a 0 - 1)) (gI σ 304 a 0)))
    (hT : TopS σ1 σ' m im (gI σ 303 a 0 - 1) true (gI σ 304 a 0)) : RelI (sI σ' 1202 m im.toNat (gI σ 303 a 0 - 1)) m a im := by
  have hlen := hc.2.1
  have hlc := hc.2.2.1
  obtain ⟨r1, r2, r3, r4, r5, r6, r7⟩ := hr
  obtain ⟨t1, t2, t3⟩ := hT
  have hF : Frm (fun f r => (r = a ∧ (f = 303 ∨ f = 300)) ∨ (f = 400 ∨ f = 401)) σ σ1 := by
    rcases hX with ⟨-, z⟩ | ⟨-, z⟩
    · exact (Frm.sI (by simp)).trans (z.1.mono (fun f r q => Or.inl ⟨q.1, Or.inr q.2⟩))
    · exact (Frm.sI (by simp)).trans (z.1.mono (fun f r q => Or.inr q.2))
  have s3 : gI σ1 303 a 0 = gI σ 303 a 0 - 1 := by
    rcases hX with ⟨e, z⟩ | ⟨-, z⟩
    · rw [z.1.I (by simp), gI_slf]; omega
    · rw [z.1.I (by simp), gI_slf]
  have m0 : ∀ f i, 1200 ≤ f → gI σ1 f m i = gI σ f m i := fun f i z0 => hF.I (by omega) i
  have em : ∀ f i, 1200 ≤ f → f ≠ 1202 → f ≠ 1203 → f ≠ 1204 → gI (sI σ' 1202 m im.toNat (gI σ 303 a 0 - 1)) f m i = gI σ f m i := fun f i z0 z1 z2 z3 => by rw [gI_sI, if_neg (by omega), t1.I (by omega), m0 _ _ z0]
  have ec : ∀ f r i, f < 1200 → gI (sI σ' 1202 m im.toNat (gI σ 303 a 0 - 1)) f r i = gI σ1 f r i := fun f r i z => by rw [gI_sI, if_neg (by omega), t1.I (by omega)]
  have eR : ∀ i, gR (sI σ' 1202 m im.toNat (gI σ 303 a 0 - 1)) 302 a i = gR σ 302 a i := fun i => by rw [gR_sI, t1.R (by simp), hF.R (by simp)]
  have eL : ∀ li, lay (sI σ' 1202 m im.toNat (gI σ 303 a 0 - 1)) a li = lay σ a li := fun li => by unfold lay; rw [eR]
  have e3 : gI (sI σ' 1202 m im.toNat (gI σ 303 a 0 - 1)) 303 a 0 = gI σ 303 a 0 - 1 := by rw [ec _ _ _ (by decide), s3]
  have e4 : gI (sI σ' 1202 m im.toNat (gI σ 303 a 0 - 1)) 304 a 0 = gI σ 304 a 0 := by rw [ec _ _ _ (by decide), hF.I (by simp)]
  have eb : ∀ f b i, f = 402 ∨ f = 403 ∨ f = 404 ∨ f = 405 → gI (sI σ' 1202 m im.toNat (gI σ 303 a 0 - 1)) f b i = gI σ f b i := fun f b i hf => by rw [ec _ _ _ (by omega), hF.I (by omega)]
  refine ⟨by rw [e4, em _ _ (by decide) (by decide) (by decide) (by decide)]; exact r1, by rw [e3, gI_slf], fun p q0 q1 => ?_, fun li p q0 q1 q2 q3 => ?_, fun li q0 q1 => ?_, fun li v q0 q1 q2 q3 => ?_, fun li v k q0 q1 q2 q3 q4 q5 => ?_⟩
  · rw [e4] at q1
    rw [ec _ _ _ (by decide), gI_sI, if_neg (by simp), t3, m0 _ _ (by decide), m0 _ _ (by decide)]
    rcases hX with ⟨e, z⟩ | ⟨e, z⟩
    · have y4 := r4 0 p (by omega) (by omega) q0 q1
      rw [show ((4 * im + 0) * 2000 + p).toNat = (2000 * im + p).toNat + 6000 * im.toNat by omega] at y4
      rw [z.2]
      simp only [gI_sI, false_and, if_false, Nat.reduceEqDiff]
      by_cases e5 : ((p.toNat : Nat) : Int) < gI σ 304 a 0 ∧ 0 ≤ gI σ 400 (lay σ a 0) p.toNat
      · rw [if_pos e5, if_pos ⟨trivial, by omega, by omega, by omega, by rw [← y4]; exact e5.2⟩]
        exact y4
      · rw [if_neg e5, if_neg (fun q => e5 ⟨by omega, by rw [y4]; exact q.2.2.2.2⟩)]
        exact r3 p q0 q1
    · rw [if_neg (by omega), z.1.I (by simp), gI_sI, if_neg (by simp)]
      exact r3 p q0 q1
  · rw [e3] at q1
    rw [e4] at q3
    rw [eL, ec _ _ _ (by decide), gI_sI, if_neg (by simp), t2, m0 _ _ (by decide), m0 _ _ (by decide)]
    rcases hX with ⟨e, z⟩ | ⟨e, z⟩
    · omega
    · by_cases e6 : li = gI σ 303 a 0 - 2
      · subst e6
        have y4 := r4 (gI σ 303 a 0 - 1) p (by omega) (by omega) q2 q3
        have z4 := r4 (gI σ 303 a 0 - 2) p (by omega) (by omega) q2 q3
        rw [show ((4 * im + (gI σ 303 a 0 - 1)) * 2000 + p).toNat = ((4 * im + (gI σ 303 a 0 - 2)) * 2000 + p).toNat + 2000 by omega] at y4
        rw [z.2.2]
        simp only [gI_sI, false_and, if_false, Nat.reduceEqDiff]
        by_cases e5 : ((p.toNat : Nat) : Int) < gI σ 304 a 0 ∧ 0 ≤ gI σ 400 (lay σ a (gI σ 303 a 0 - 1)) p.toNat
        · rw [if_pos e5, if_pos ⟨trivial, by omega, by omega, by omega, by rw [← y4]; exact e5.2⟩]
          exact y4
        · rw [if_neg e5, if_neg (fun q => e5 ⟨by omega, by rw [y4]; exact q.2.2.2.2⟩)]
          exact z4
      · rw [if_neg (by omega), z.1.I (fun q => e6 (hc.inj q0 (by omega) (by omega) (by omega) q.1)), gI_sI, if_neg (by simp)]
        exact r4 li p q0 (by omega) q2 q3
  · rw [e3] at q1
    rw [eL, eb _ _ _ (by decide), em _ _ (by decide) (by decide) (by decide) (by decide)]
    exact r5 li q0 (by omega)
  · rw [e3] at q1
    rw [eL, eb _ _ _ (by decide)] at q3
    rw [eL, eb _ _ _ (by decide), em _ _ (by decide) (by decide) (by decide) (by decide)]
    exact r6 li v q0 (by omega) q2 q3
  · rw [e3] at q1
    rw [eL, eb _ _ _ (by decide)] at q3 q5
    rw [eL, eb 402 _ _ (by decide), eb 404 _ _ (by decide), em _ _ (by decide) (by decide) (by decide) (by decide), em _ _ (by decide) (by decide) (by decide) (by decide)]
    exact r7 li v k q0 (by omega) q2 q3 q4 q5
section OP3
variable {g : GP} {l : Launch} {d : Nat} {σ : St} {x m : Nat}
/-- the reference's top, at an image that the class has alike -/
theorem m_top {σ1 : St} {a : Nat} {im s : Int} {stays : Bool} {P : Int → St → Prop} (hc : CIm σ a) (hr : RelI σ m a im) (h0 : 0 ≤ im) (h1 : im < gI σ 1200 m 0) (h6 : im < 6) (hs' : s = if stays then 1 else 0) (hL : LC 12 σ1 m) (em : ∀ f i, 1200 ≤ f → gI σ1 f m i = gI σ f m i)
    (hA : gI σ 303 a 0 = 0 → P (-7) σ1) (hB : 0 < gI σ 303 a 0 → ∀ σ', TopS σ1 σ' m im (gI σ 303 a 0 - 1) stays (gI σ 304 a 0) → P (gI σ 401 (lay σ a (gI σ 303 a 0 - 1)) 0) (sI σ' 1202 m im.toNat (gI σ 303 a 0 - 1))) :
    ACi g l (d + 5) MX12_top [vR 12 (some m), vI im, vI s] σ1 P := by
  have hlen := hc.2.1
  have hlc := hc.2.2.1
  have r1 := hr.1
  have r2 := hr.2.1
  refine AC.of mo_X12_top (Nat.le_of_ble_eq_true rfl) (bk_X12_top_0 (m_isImage ?_))
  rw [em _ _ (by decide), if_pos ⟨h0, h1⟩]
  refine ⟨fun _ => ⟨hL, ⟨h0, h6⟩, ?_⟩, fun q => absurd q (by decide)⟩
  rw [em _ _ (by decide), ← r2]
  refine ⟨fun z => ⟨⟨by omega, by omega⟩, fun li hli => ?_⟩, fun z => ⟨_, rfl, hA z⟩⟩
  subst hli
  have hcnt := top_cnt hc hr (li := gI σ 303 a 0 - 1) (by omega) (by omega)
  have hce : cnt (fun p => gI σ1 1204 m ((4 * im + (gI σ 303 a 0 - 1)) * 2000 + p).toNat) (gI σ 304 a 0).toNat = cnt (fun p => gI σ 1204 m ((4 * im + (gI σ 303 a 0 - 1)) * 2000 + p).toNat) (gI σ 304 a 0).toNat := cnt_congr (fun i _ => em _ _ (by decide))
  refine m_top_37 (stays := stays) (len := gI σ 304 a 0) hL h0 h6 (by omega) (by omega) (by rw [em _ _ (by decide)]; exact r1.symm) hlen.2 hs' (fun σ' hT => ⟨_, rfl, ?_⟩) (gI σ 304 a 0).toNat 0 0 σ1 (by omega) (by omega) rfl ⟨Frm.rfl, fun k => by rw [if_neg (by omega)], fun k => by rw [if_neg (by omega)]⟩
  rw [hce, ← hcnt]
  exact hB (by omega) σ' hT
theorem op_drop {im : Int} (hI : ImgI σ x m) : ACi g l (d + 6) MX11_drop [vR 11 (some x), vI im] σ (fun a σ1 => ACi g l (d + 6) MX12_drop [vR 12 (some m), vI im] σ1 (fun b σ2 => a = b ∧ ImgI σ2 x m ∧ IFr σ σ2 x m)) := by
  have h6 := hI.2.2.2.2.1
  have he := hI.2.2.2.2.2.1
  refine AC.of mo_X11_drop (Nat.le_of_ble_eq_true rfl) (bk_X11_drop_0 (x_imageOf hI.1 h6.2 (fun hn => ⟨fun _ => ⟨_, rfl, ?_⟩, (fun _ q => nomatch q)⟩) (fun h0 h1 => ?_)))
  · refine AC.of mo_X12_drop (Nat.le_of_ble_eq_true rfl) (bk_X12_drop_0 (AC.of mo_X12_top (Nat.le_of_ble_eq_true rfl) (bk_X12_top_0 (m_isImage ?_))))
    rw [if_neg (by omega)]
    exact ⟨fun q => absurd rfl q, fun _ => ⟨_, rfl, _, rfl, rfl, hI, IFr.rfl⟩⟩
  obtain ⟨e1, hc, hr, hi6, hi2⟩ := hI.im h0 h1
  have hlc := hc.2.2.1
  rw [e1]
  refine ⟨(fun q => nomatch q), fun r q => ?_⟩
  obtain rfl : img σ x im = r := by simpa using q
  refine ⟨fun hz => x_shedTop hc (by omega) (fun σ1 hF h3 hc1 => ⟨_, rfl, ?_⟩), fun hz => ⟨_, rfl, ?_⟩⟩
  · have hF' : Frm (fun f r => (f / 100 = 3 ∧ r = img σ x im) ∨ (f / 100 = 4 ∧ ∃ u, u < 4 ∧ gR σ 302 (img σ x im) u = some r)) σ σ1 := hF.mono (fun f r q => Or.inl ⟨by have := q.2; omega, q.1⟩)
    have em : ∀ f i, 1200 ≤ f → gI σ1 f m i = gI σ f m i := fun f i hf => hF'.I (by omega) i
    have eR : ∀ i, gR σ1 302 (img σ x im) i = gR σ 302 (img σ x im) i := hF.R (by simp)
    refine AC.of mo_X12_drop (Nat.le_of_ble_eq_true rfl) (bk_X12_drop_0 (m_top (stays := false) hc hr h0 hi2 hi6 rfl (hF.lc hI.2.1) em (fun z => absurd z hz) (fun _ σ' hT => ⟨_, rfl, rfl, ?_, ?_⟩)))
    · refine hI.step h0 h1 hF'.fr (fun f r z => ?_) (fun u b' hu hb => Or.inr ⟨u, hu, by rw [← eR]; exact hb⟩) hc1 ((hT.1.mono (fun f r z => ⟨z.1, by have := z.2; omega⟩)).trans (Frm.sI (by simp))) (fun j j0 j6 jn => hT.ag h0 (by omega) (by omega) hc.2.1.2 j0 jn) (drop_rel hc hr h0 (by omega) hF h3 hT)
      rcases z with z | ⟨z1, z2⟩
      · exact Or.inl z
      · exact Or.inr ⟨z1, Or.inr z2⟩
    · have hG : Frm (fun f r => r = m ∧ 1201 < f ∧ f < 1210) σ1 (sI σ' 1202 m im.toNat (gI σ 303 (img σ x im) 0 - 1)) := (hT.1.mono (fun f r z => ⟨z.1, by have := z.2; omega⟩)).trans (Frm.sI (by simp))
      exact IFr.of (im := im) (c := 0) hF' (fun f r z => by rcases z with z | z; exact Or.inl z.1; exact Or.inr z.1) hG (fun f r z => by omega) (by omega) (fun k => Or.inl (hG.I (by simp) k))
  · exact AC.of mo_X12_drop (Nat.le_of_ble_eq_true rfl) (bk_X12_drop_0 (m_top (stays := false) hc hr h0 hi2 hi6 rfl hI.2.1 (fun _ _ _ => rfl) (fun _ => ⟨_, rfl, rfl, hI, IFr.rfl⟩) (fun z => absurd z (by omega))))
theorem op_commit {im : Int} (hI : ImgI σ x m) : ACi g l (d + 6) MX11_commit [vR 11 (some x), vI im] σ (fun a σ1 => ACi g l (d + 6) MX12_commit [vR 12 (some m), vI im] σ1 (fun b σ2 => a = b ∧ ImgI σ2 x m ∧ IFr σ σ2 x m)) := by
  have h6 := hI.2.2.2.2.1
  have he := hI.2.2.2.2.2.1
  refine AC.of mo_X11_commit (Nat.le_of_ble_eq_true rfl) (bk_X11_commit_0 (x_imageOf hI.1 h6.2 (fun hn => ⟨fun _ => ⟨_, rfl, ?_⟩, (fun _ q => nomatch q)⟩) (fun h0 h1 => ?_)))
  · refine AC.of mo_X12_commit (Nat.le_of_ble_eq_true rfl) (bk_X12_commit_0 (AC.of mo_X12_top (Nat.le_of_ble_eq_true rfl) (bk_X12_top_0 (m_isImage ?_))))
    rw [if_neg (by omega)]
    exact ⟨fun q => absurd rfl q, fun _ => ⟨_, rfl, _, rfl, rfl, hI, IFr.rfl⟩⟩
  obtain ⟨e1, hc, hr, hi6, hi2⟩ := hI.im h0 h1
  have hlc := hc.2.2.1
  rw [e1]
  refine ⟨(fun q => nomatch q), fun r q => ?_⟩
  obtain rfl : img σ x im = r := by simpa using q
  have fin : ∀ σ1, 0 < gI σ 303 (img σ x im) 0 → ((gI σ 303 (img σ x im) 0 = 1 ∧ XC0 (sI σ 303 (img σ x im) 0 0) σ1 (img σ x im) (lay σ (img σ x im) 0) (gI σ 304 (img σ x im) 0)) ∨ (1 < gI σ 303 (img σ x im) 0 ∧ XC1 (sI σ 303 (img σ x im) 0 (gI σ 303 (img σ x im) 0 - 1)) σ1 (lay σ (img σ x im) (gI σ 303 (img σ x im) 0 - 2)) (lay σ (img σ x im) (gI σ 303 (img σ x im) 0 - 1)) (gI σ 304 (img σ x im) 0))) → CIm σ1 (img σ x im) → ACi g l (d + 6) MX12_commit [vR 12 (some m), vI im] σ1 (fun b σ2 => gI σ 401 (lay σ (img σ x im) (gI σ 303 (img σ x im) 0 - 1)) 0 = b ∧ ImgI σ2 x m ∧ IFr σ σ2 x m) := by
    intro σ1 hl hX hc1
    have hF' : Frm (fun f r => (f / 100 = 3 ∧ r = img σ x im) ∨ (f / 100 = 4 ∧ ∃ u, u < 4 ∧ gR σ 302 (img σ x im) u = some r)) σ σ1 := by
      rcases hX with ⟨-, z⟩ | ⟨e, z⟩
      · exact (Frm.sI (by simp)).trans (z.1.mono (fun f r q => Or.inl ⟨by have := q.2; omega, q.1⟩))
      · exact (Frm.sI (by simp)).trans (z.1.mono (fun f r q => Or.inr ⟨by have := q.2; omega, (gI σ 303 (img σ x im) 0 - 2).toNat, by omega, by rw [q.1]; exact (hc.2.2.2.1 _ (by omega) (by omega)).1⟩))
    have em : ∀ f i, 1200 ≤ f → gI σ1 f m i = gI σ f m i := fun f i hf => hF'.I (by omega) i
    have eR : ∀ i, gR σ1 302 (img σ x im) i = gR σ 302 (img σ x im) i := by
      rcases hX with ⟨-, z⟩ | ⟨e, z⟩
      · intro i; rw [z.1.R (by simp), gR_sI]
      · intro i; rw [z.1.R (by simp), gR_sI]
    refine AC.of mo_X12_commit (Nat.le_of_ble_eq_true rfl) (bk_X12_commit_0 (m_top (stays := true) hc hr h0 hi2 hi6 rfl (hF'.lc hI.2.1) em (fun z => absurd z (by omega)) (fun _ σ' hT => ⟨_, rfl, rfl, ?_, ?_⟩)))
    · refine hI.step h0 h1 hF'.fr (fun f r z => ?_) (fun u b' hu hb => Or.inr ⟨u, hu, by rw [← eR]; exact hb⟩) hc1 ((hT.1.mono (fun f r z => ⟨z.1, by have := z.2; omega⟩)).trans (Frm.sI (by simp))) (fun j j0 j6 jn => hT.ag h0 (by omega) (by omega) hc.2.1.2 j0 jn) (commit_rel hc hr h0 hi6 (by omega) hX hT)
      rcases z with z | ⟨z1, z2⟩
      · exact Or.inl z
      · exact Or.inr ⟨z1, Or.inr z2⟩
    · have hG : Frm (fun f r => r = m ∧ 1201 < f ∧ f < 1210) σ1 (sI σ' 1202 m im.toNat (gI σ 303 (img σ x im) 0 - 1)) := (hT.1.mono (fun f r z => ⟨z.1, by have := z.2; omega⟩)).trans (Frm.sI (by simp))
      exact IFr.of (im := im) (c := 0) hF' (fun f r z => by rcases z with z | z; exact Or.inl z.1; exact Or.inr z.1) hG (fun f r z => by omega) (by omega) (fun k => Or.inl (hG.I (by simp) k))
  refine ⟨fun hz => x_sinkTop hc (by omega) (fun e σ1 hX hc1 => ⟨_, rfl, ?_⟩) (fun e σ1 hX hc1 => ⟨_, rfl, fin σ1 (by omega) (Or.inr ⟨e, hX⟩) hc1⟩), fun hz => ⟨_, rfl, ?_⟩⟩
  · have := fin σ1 (by omega) (Or.inl ⟨e, hX⟩) hc1
    rw [show gI σ 303 (img σ x im) 0 - 1 = 0 by omega] at this
    exact this
  · exact AC.of mo_X12_commit (Nat.le_of_ble_eq_true rfl) (bk_X12_commit_0 (m_top (stays := true) hc hr h0 hi2 hi6 rfl hI.2.1 (fun _ _ _ => rfl) (fun _ => ⟨_, rfl, rfl, hI, IFr.rfl⟩) (fun z => absurd z (by omega))))
end OP3
