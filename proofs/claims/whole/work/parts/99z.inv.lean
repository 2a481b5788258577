/-! what holds between calls -/
def InT (σ : St) (x m : Nat) : Prop := ∃ (p : Nat) (A B : DPa) (En : List Enm) (Ss : List Stc) (b : Nat) (T : Nat → TS) (I : Nat → Int), DsI σ x m p A B En Ss b ∧ QuI σ x A B ∧ TreI σ x m A.2.2.2 Ss b T I
def Inv (σ : St) (x m H Z : Nat) : Prop := (¬ x = m ∧ hs σ ≤ H ∧ sl σ ≤ Z) ∧ ImgI σ x m ∧ TapI σ x m ∧ (∀ i : Int, gJ σ 906 (tpe σ x) i.toNat = kwd i) ∧ InT σ x m ∧ gJ σ 1112 x 0 = gJ σ 1290 m 0
section Z1
variable {σ σ2 : St} {x m p b H Z : Nat} {A B : DPa} {En : List Enm} {Ss : List Stc} {T : Nat → TS} {I : Nat → Int} {P : Nat → Nat → Prop} {fo fo' : Nat → Nat → Nat}
theorem QuI.fr (h : QuI σ x A B) (hx : x < hs σ) (hF : Fr P σ σ2) (n : ¬ P 1107 x) : QuI σ2 x A B := by
  obtain ⟨qc, h1, h2, h3, h4⟩ := h
  exact ⟨qc, by rw [hF.R hx n]; exact h1, hF.lc h3 h2, Nat.lt_of_lt_of_le h3 hF.1, h4⟩
theorem QuI.sw (h : QuI σ x A B) : QuI σ x B A := by
  obtain ⟨qc, h1, h2, h3, h4, h5⟩ := h
  exact ⟨qc, h1, h2, h3, h5, h4⟩
/-- the trees when some of the fields beside them change -/
theorem TreI.fr2 (hT : TreI σ x m fo Ss b T I) (hx : x < hs σ ∧ m < hs σ) (hF : Fr P σ σ2) (h0 : ∀ f r, (f / 100 = 5 ∨ (1000 ≤ f ∧ f ≤ 1007) ∨ f = 1104 ∨ f = 1108 ∨ f = 1109 ∨ (1265 ≤ f ∧ f ≤ 1279)) → ¬ P f r) (e5 : gR σ2 1105 x 0 = gR σ 1105 x 0) (e10 : gI σ2 1110 x 0 = gI σ 1110 x 0) (e64 : gI σ2 1264 m 0 = gI σ 1264 m 0) (hi : gI σ 1101 x 0 ≤ gI σ2 1101 x 0) (hg : ∀ im : Int, 0 ≤ im → im < gI σ 1101 x 0 → img σ2 x im = img σ x im ∧ gI σ 1201 m im.toNat ≤ gI σ2 1201 m im.toNat) : TreI σ2 x m fo Ss b T I := by
  obtain ⟨⟨a1, a2, a3⟩, ⟨sp, b1, b2, b3⟩, c, d, ⟨rk, e1, e2, e3⟩, f⟩ := hT
  have R8 : ∀ j, gR σ2 1108 x j = gR σ 1108 x j := fun j => hF.R hx.1 (h0 _ _ (by decide)) j
  have R3 : ∀ tr, tr < hs σ → ∀ j, gR σ2 1003 tr j = gR σ 1003 tr j := fun tr h j => hF.R h (h0 _ _ (by decide)) j
  have to : ∀ tr, TOb σ tr → TOb σ2 tr := fun tr ⟨q1, q2, q3⟩ => ⟨hF.lc q2 q1, Nat.lt_of_lt_of_le q2 hF.1, fun j r hj hr => by
    rw [R3 tr q2] at hr
    obtain ⟨y1, y2⟩ := q3 j r hj hr
    exact ⟨Nat.lt_of_lt_of_le y1 hF.1, by rw [hF.I y1 (h0 _ _ (by decide))]; exact y2⟩⟩
  have dj : ∀ tr tr', tr < hs σ → tr' < hs σ → Dj σ tr tr' → Dj σ2 tr tr' := fun tr tr' q1 q2 hd => ⟨hd.1, fun j j' r hj hj' a b => by rw [R3 tr q1] at a; rw [R3 tr' q2] at b; exact hd.2 j j' r hj hj' a b⟩
  refine ⟨⟨by rw [e10]; exact a1, by rw [e10]; exact a2, by rw [e10, e64]; exact a3⟩, ⟨sp, by rw [hF.R hx.1 (h0 _ _ (by decide))]; exact b1, to sp b2, fun t ht tr htr => by rw [R8] at htr; exact dj _ _ b2.2.1 (c t ht tr htr).2.1 (b3 t ht tr htr)⟩, fun t ht tr htr => by rw [R8] at htr; exact to tr (c t ht tr htr), fun t t' ht ht' hne tr tr' htr htr' => by rw [R8] at htr htr'; exact dj _ _ (c t ht tr htr).2.1 (c t' ht' tr' htr').2.1 (d t t' ht ht' hne tr tr' htr htr'), ⟨rk, by rw [hF.R hx.1 (h0 _ _ (by decide))]; exact e1, hF.lc e3 e2, Nat.lt_of_lt_of_le e3 hF.1⟩, fun t ht => ?_⟩
  rw [e10] at ht
  obtain ⟨tr, f1, f2⟩ := f t ht
  have q := c t (by omega) tr f1
  have im1 := f2.1.1
  obtain ⟨g1, g2⟩ := hg (I t) im1.1 im1.2
  refine ⟨tr, by rw [R8]; exact f1, f2.ag hi g1 g2 ⟨hF.R hx.1 (h0 _ _ (by decide)) 0, e5⟩ (fun f j z0 z1 => (hF.2 f tr q.2.1).2 (h0 f tr (by omega)) j) (fun f i z0 z1 hi => ?_) (fun f j z => hF.I hx.2 (h0 _ _ (by omega)) j)⟩
  have nh := (q.2.2 i _ (by have := f2.2.1.2.2.2.1; omega) (f2.2.2.1 i hi)).1
  exact (hF.2 f _ nh).2 (h0 f _ (by omega)) 0
/-- no tree is left -/
theorem TreI.zero {Ss' : List Stc} {b' : Nat} (hT : TreI σ x m fo Ss b T I) (hx : x < hs σ ∧ m < hs σ) (hF : Fr P σ σ2) (h0 : ∀ f r, (f / 100 = 5 ∨ (1000 ≤ f ∧ f ≤ 1007) ∨ f = 1104 ∨ f = 1108 ∨ f = 1109) → ¬ P f r) (e10 : gI σ2 1110 x 0 = 0) (e64 : gI σ2 1264 m 0 = 0) : TreI σ2 x m fo' Ss' b' T I := by
  obtain ⟨⟨a1, a2, a3⟩, ⟨sp, b1, b2, b3⟩, c, d, ⟨rk, e1, e2, e3⟩, f⟩ := hT
  have R8 : ∀ j, gR σ2 1108 x j = gR σ 1108 x j := fun j => hF.R hx.1 (h0 _ _ (by decide)) j
  have R3 : ∀ tr, tr < hs σ → ∀ j, gR σ2 1003 tr j = gR σ 1003 tr j := fun tr h j => hF.R h (h0 _ _ (by decide)) j
  have to : ∀ tr, TOb σ tr → TOb σ2 tr := fun tr ⟨q1, q2, q3⟩ => ⟨hF.lc q2 q1, Nat.lt_of_lt_of_le q2 hF.1, fun j r hj hr => by
    rw [R3 tr q2] at hr
    obtain ⟨y1, y2⟩ := q3 j r hj hr
    exact ⟨Nat.lt_of_lt_of_le y1 hF.1, by rw [hF.I y1 (h0 _ _ (by decide))]; exact y2⟩⟩
  have dj : ∀ tr tr', tr < hs σ → tr' < hs σ → Dj σ tr tr' → Dj σ2 tr tr' := fun tr tr' q1 q2 hd => ⟨hd.1, fun j j' r hj hj' a b => by rw [R3 tr q1] at a; rw [R3 tr' q2] at b; exact hd.2 j j' r hj hj' a b⟩
  exact ⟨⟨by omega, by omega, by rw [e10, e64]⟩, ⟨sp, by rw [hF.R hx.1 (h0 _ _ (by decide))]; exact b1, to sp b2, fun t ht tr htr => by rw [R8] at htr; exact dj _ _ b2.2.1 (c t ht tr htr).2.1 (b3 t ht tr htr)⟩, fun t ht tr htr => by rw [R8] at htr; exact to tr (c t ht tr htr), fun t t' ht ht' hne tr tr' htr htr' => by rw [R8] at htr htr'; exact dj _ _ (c t ht tr htr).2.1 (c t' ht' tr' htr').2.1 (d t t' ht ht' hne tr tr' htr htr'), ⟨rk, by rw [hF.R hx.1 (h0 _ _ (by decide))]; exact e1, hF.lc e3 e2, Nat.lt_of_lt_of_le e3 hF.1⟩, fun t ht => by rw [e10] at ht; omega⟩
theorem InT.fr (h : InT σ x m) (hI : ImgI σ x m) (hF : Fr P σ σ2) (n : ∀ f r, (f ≤ 2 ∨ (100 ≤ f ∧ f ≤ 110) ∨ (200 ≤ f ∧ f ≤ 216) ∨ (800 ≤ f ∧ f ≤ 804) ∨ f = 1103 ∨ f = 1105 ∨ f = 1106 ∨ f = 1111 ∨ f = 1212 ∨ (1218 ≤ f ∧ f ≤ 1245) ∨ f = 1262) ∨ f = 1107 ∨ (f / 100 = 5 ∨ (1000 ≤ f ∧ f ≤ 1007) ∨ f = 1104 ∨ f = 1108 ∨ f = 1109 ∨ f = 1110 ∨ (1264 ≤ f ∧ f ≤ 1279)) → ¬ P f r) (hi : gI σ 1101 x 0 ≤ gI σ2 1101 x 0) (hg : ∀ im : Int, 0 ≤ im → im < gI σ 1101 x 0 → img σ2 x im = img σ x im ∧ gI σ 1201 m im.toNat ≤ gI σ2 1201 m im.toNat) : InT σ2 x m := by
  obtain ⟨p, A, B, En, Ss, b, T, I, h1, h2, h3⟩ := h
  exact ⟨p, A, B, En, Ss, b, T, I, h1.fr hF (fun f r z => n f r (Or.inl z)), h2.fr hI.2.2.1 hF (n _ _ (by omega)), h3.fr ⟨hI.2.2.1, hI.2.2.2.1⟩ hF (fun f r z => n f r (by omega)) hi hg⟩
theorem Inv.mk' (h : Inv σ x m H Z) (hF : Fr P σ σ2) (h9 : ∀ f r, f = 906 ∨ f = 1102 → ¬ P f r) (hh : hs σ2 ≤ hs σ + 402) (hl : sl σ2 ≤ sl σ + 7300) (I2 : ImgI σ2 x m) (T2 : TapI σ2 x m) (D2 : InT σ2 x m) (O2 : gJ σ2 1112 x 0 = gJ σ2 1290 m 0) : Inv σ2 x m (H + 402) (Z + 7300) := by
  obtain ⟨⟨a1, a2, a3⟩, a4, a5, a6, _, _⟩ := h
  have et : tpe σ2 x = tpe σ x := by unfold tpe; rw [hF.R a4.2.2.1 (h9 _ _ (by omega))]
  refine ⟨⟨a1, Nat.le_trans hh (Nat.add_le_add_right a2 402), Nat.le_trans hl (Nat.add_le_add_right a3 7300)⟩, I2, T2, fun i => ?_, D2, O2⟩
  rw [et, hF.J a5.2.2.1 (h9 _ _ (by omega))]; exact a6 i
/-- a frame that touches nothing of it -/
theorem inv_q (h : Inv σ x m H Z) (hF : Frm P σ σ2) (hP : ∀ f r, P f r → f = 1113 ∨ f = 1114 ∨ f = 1115 ∨ f = 1253 ∨ f = 1263 ∨ f = 1280 ∨ f = 1281) : Inv σ2 x m (H + 402) (Z + 7300) := by
  have n : ∀ f r, ¬ (f = 1113 ∨ f = 1114 ∨ f = 1115 ∨ f = 1253 ∨ f = 1263 ∨ f = 1280 ∨ f = 1281) → ¬ P f r := fun f r z q => z (hP f r q)
  obtain ⟨_, a4, a5, a6, a7, a8⟩ := id h
  refine h.mk' hF.fr (fun f r z => n f r (by omega)) (by rw [hF.2.1]; omega) (by rw [hF.2.2.1]; omega) (a4.fr hF.fr (fun f r z => n f r (by omega))) (a5.fr hF.fr (fun f r z => n f r (by omega))) (a7.fr a4 hF.fr (fun f r z => n f r (by omega)) (by rw [hF.I (n _ _ (by omega))]; exact Int.le_refl _) (fun im _ _ => ⟨by unfold img; rw [hF.R (n _ _ (by omega))], by rw [hF.I (n _ _ (by omega))]; exact Int.le_refl _⟩)) ?_
  rw [hF.J (n _ _ (by omega)), hF.J (n _ _ (by omega))]; exact a8
theorem inv_z (h : Inv σ x m H Z) (e : σ2 = σ) : Inv σ2 x m (H + 402) (Z + 7300) := by
  subst e
  exact inv_q h (P := fun _ _ => False) Frm.rfl (fun _ _ q => absurd q (fun z => z))
theorem inv_i (h : Inv σ x m H Z) (I2 : ImgI σ2 x m) (hF : IFr σ σ2 x m) : Inv σ2 x m (H + 402) (Z + 7300) := by
  obtain ⟨F, h1, h2, h3, h4⟩ := hF
  obtain ⟨_, a4, a5, a6, a7, a8⟩ := id h
  refine h.mk' F (fun f r z q => by omega) (by omega) (by omega) I2 (a5.fr F (fun f r z q => by omega)) (a7.fr a4 F (fun f r z q => by omega) h3 (fun im q0 q1 => ⟨by unfold img; rw [(h4 im q0 q1).1], (h4 im q0 q1).2⟩)) ?_
  rw [F.J a4.2.2.1 (fun q => by omega), F.J a4.2.2.2.1 (fun q => by omega)]; exact a8
/-- a frame without new objects that leaves images and trees alone, the tape told -/
theorem inv_t (h : Inv σ x m H Z) (T2 : TapI σ2 x m) (hF : Frm P σ σ2) (hP : ∀ f r, P f r → (900 ≤ f ∧ f ≤ 905) ∨ (1210 ≤ f ∧ f ≤ 1211) ∨ (1213 ≤ f ∧ f ≤ 1217) ∨ f = 1253 ∨ f = 1280 ∨ f = 1281) : Inv σ2 x m (H + 402) (Z + 7300) := by
  have n : ∀ f r, ¬ ((900 ≤ f ∧ f ≤ 905) ∨ (1210 ≤ f ∧ f ≤ 1211) ∨ (1213 ≤ f ∧ f ≤ 1217) ∨ f = 1253 ∨ f = 1280 ∨ f = 1281) → ¬ P f r := fun f r z q => z (hP f r q)
  obtain ⟨_, a4, a5, a6, a7, a8⟩ := id h
  refine h.mk' hF.fr (fun f r z => n f r (by omega)) (by rw [hF.2.1]; omega) (by rw [hF.2.2.1]; omega) (a4.fr hF.fr (fun f r z => n f r (by omega))) T2 (a7.fr a4 hF.fr (fun f r z => n f r (by omega)) (by rw [hF.I (n _ _ (by omega))]; exact Int.le_refl _) (fun im _ _ => ⟨by unfold img; rw [hF.R (n _ _ (by omega))], by rw [hF.I (n _ _ (by omega))]; exact Int.le_refl _⟩)) ?_
  rw [hF.J (n _ _ (by omega)), hF.J (n _ _ (by omega))]; exact a8
theorem inv_e (h : Inv σ x m H Z) (I2 : ImgI σ2 x m) (hF : Frm EdF σ σ2) : Inv σ2 x m (H + 402) (Z + 7300) := by
  obtain ⟨_, a4, a5, a6, a7, a8⟩ := id h
  refine h.mk' hF.fr (fun f r z q => by omega) (by rw [hF.2.1]; omega) (by rw [hF.2.2.1]; omega) I2 (a5.fr hF.fr (fun f r z q => by omega)) (a7.fr a4 hF.fr (fun f r z q => by omega) (by rw [hF.I (fun q => by omega)]; exact Int.le_refl _) (fun im _ _ => ⟨by unfold img; rw [hF.R (fun q => by omega)], by rw [hF.I (fun q => by omega)]; exact Int.le_refl _⟩)) ?_
  rw [hF.J (fun q => by omega), hF.J (fun q => by omega)]; exact a8
theorem inv_x (h : Inv σ x m H Z) (hD : DsI σ x m p A B En Ss b) (hQ : QuI σ x A B) (I2 : ImgI σ2 x m) (hF : Frm FxP σ σ2) (hT : ∃ T', TreI σ2 x m A.2.2.2 Ss b T' I) : Inv σ2 x m (H + 402) (Z + 7300) := by
  obtain ⟨_, a4, a5, a6, a7, a8⟩ := id h
  obtain ⟨T', hT'⟩ := hT
  refine h.mk' hF.fr (fun f r z q => by omega) (by rw [hF.2.1]; omega) (by rw [hF.2.2.1]; omega) I2 (a5.fr hF.fr (fun f r z q => by omega)) ⟨p, A, B, En, Ss, b, T', I, hD.fr hF.fr (fun f r z q => by omega), hQ.fr a4.2.2.1 hF.fr (fun q => by omega), hT'⟩ ?_
  rw [hF.J (fun q => by omega), hF.J (fun q => by omega)]; exact a8
theorem inv_l (h : Inv σ x m H Z) (hD : DsI σ x m p A B En Ss b) (hQ : QuI σ x A B) (hF : Fr LayF σ σ2) (hh : hs σ2 ≤ hs σ + 402) (hl : sl σ2 ≤ sl σ + 7300) (hT : ∃ T' I', TreI σ2 x m A.2.2.2 Ss b T' I') : Inv σ2 x m (H + 402) (Z + 7300) := by
  obtain ⟨_, a4, a5, a6, a7, a8⟩ := id h
  obtain ⟨T', I', hT'⟩ := hT
  refine h.mk' hF (fun f r z q => by omega) hh hl (a4.fr hF (fun f r z q => by omega)) (a5.fr hF (fun f r z q => by omega)) ⟨p, A, B, En, Ss, b, T', I', hD.fr hF (fun f r z q => by omega), hQ.fr a4.2.2.1 hF (fun q => by omega), hT'⟩ ?_
  rw [hF.J a4.2.2.1 (fun q => by omega), hF.J a4.2.2.2.1 (fun q => by omega)]; exact a8
theorem inv_c (h : Inv σ x m H Z) (hD : DsI σ x m p A B En Ss b) (hQ : QuI σ x A B) (hF : Frm (fun f r => (r = x ∧ f = 1110) ∨ (r = m ∧ f = 1264)) σ σ2) (hT : TreI σ2 x m A.2.2.2 Ss b T I) : Inv σ2 x m (H + 402) (Z + 7300) := by
  obtain ⟨_, a4, a5, a6, a7, a8⟩ := id h
  refine h.mk' hF.fr (fun f r z q => by omega) (by rw [hF.2.1]; omega) (by rw [hF.2.2.1]; omega) (a4.fr hF.fr (fun f r z q => by omega)) (a5.fr hF.fr (fun f r z q => by omega)) ⟨p, A, B, En, Ss, b, T, I, hD.fr hF.fr (fun f r z q => by omega), hQ.fr a4.2.2.1 hF.fr (fun q => by omega), hT⟩ ?_
  rw [hF.J (fun q => by omega), hF.J (fun q => by omega)]; exact a8
theorem inv_v (h : Inv σ x m H Z) (hQ : QuI σ x A B) (hT : TreI σ x m A.2.2.2 Ss b T I) (T2 : TapI σ2 x m) (D2 : DsI σ2 x m p A B En Ss b) (hF : ∃ qc, Frm (EvP qc) σ σ2) (O2 : gJ σ2 1112 x 0 = gJ σ2 1290 m 0) : Inv σ2 x m (H + 402) (Z + 7300) := by
  obtain ⟨_, a4, a5, a6, a7, a8⟩ := id h
  obtain ⟨qc, hF⟩ := hF
  exact h.mk' hF.fr (fun f r z q => by omega) (by rw [hF.2.1]; omega) (by rw [hF.2.2.1]; omega) (a4.fr hF.fr (fun f r z q => by omega)) T2 ⟨p, A, B, En, Ss, b, T, I, D2, hQ.fr a4.2.2.1 hF.fr (fun q => by omega), hT.fr ⟨a4.2.2.1, a4.2.2.2.1⟩ hF.fr (fun f r z q => by omega) (by rw [hF.I (fun q => by omega)]; exact Int.le_refl _) (fun im _ _ => ⟨by unfold img; rw [hF.R (fun q => by omega)], by rw [hF.I (fun q => by omega)]; exact Int.le_refl _⟩)⟩ O2
theorem inv_d (h : Inv σ x m H Z) (hD : DsI σ x m p A B En Ss b) (hQ : QuI σ x A B) (hT : TreI σ x m A.2.2.2 Ss b T I) (T2 : TapI σ2 x m) (hF : Frm DFm σ σ2) (hO : (DsI σ2 x m p A B En Ss b ∧ gI σ2 1110 x 0 = gI σ 1110 x 0 ∧ gI σ2 1264 m 0 = gI σ 1264 m 0) ∨ ∃ En' Ss' b', DsI σ2 x m p B A En' Ss' b' ∧ gI σ2 1110 x 0 = 0 ∧ gI σ2 1264 m 0 = 0) : Inv σ2 x m (H + 402) (Z + 7300) := by
  obtain ⟨_, a4, a5, a6, a7, a8⟩ := id h
  have hx : x < hs σ ∧ m < hs σ := ⟨a4.2.2.1, a4.2.2.2.1⟩
  have Q2 : QuI σ2 x A B := hQ.fr hx.1 hF.fr (fun q => by omega)
  refine h.mk' hF.fr (fun f r z q => by omega) (by rw [hF.2.1]; omega) (by rw [hF.2.2.1]; omega) (a4.fr hF.fr (fun f r z q => by omega)) T2 ?_ ?_
  · rcases hO with ⟨d1, d2, d3⟩ | ⟨En', Ss', b', d1, d2, d3⟩
    · refine ⟨p, A, B, En, Ss, b, T, I, d1, Q2, hT.fr2 hx hF.fr (fun f r z q => by omega) ?_ d2 d3 (by rw [hF.I (fun q => by omega)]; exact Int.le_refl _) (fun im _ _ => ⟨by unfold img; rw [hF.R (fun q => by omega)], by rw [hF.I (fun q => by omega)]; exact Int.le_refl _⟩)⟩
      rw [d1.1.1, hD.1.1]
    · exact ⟨p, B, A, En', Ss', b', T, I, d1, Q2.sw, hT.zero hx hF.fr (fun f r z q => by omega) d2 d3⟩
  · rw [hF.J (fun q => by omega), hF.J (fun q => by omega)]; exact a8
end Z1
