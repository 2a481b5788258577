/-! a node's fault put right: the trees; a number put -/
abbrev FxF (f _r : Nat) : Prop := f / 100 = 3 ∨ f / 100 = 4 ∨ (700 ≤ f ∧ f ≤ 702) ∨ f = 1008 ∨ f = 1009 ∨ (1203 ≤ f ∧ f ≤ 1209) ∨ f = 1253 ∨ f = 1280 ∨ f = 1281 ∨ (1286 ≤ f ∧ f ≤ 1289)
/-- all but those, the faults of one node on either side aside -/
def FxR (σ σ' : St) (nk m q : Nat) : Prop := (∀ f r, gL σ' f r = gL σ f r) ∧ hs σ' = hs σ ∧ sl σ' = sl σ ∧ ∀ f r i, ¬ FxF f r → gJ σ' f r i = gJ σ f r i ∧ gR σ' f r i = gR σ f r i ∧ (¬ (f = 504 ∧ r = nk ∧ i = 0) → ¬ (f = 1272 ∧ r = m ∧ i = q) → gI σ' f r i = gI σ f r i)
section F3
variable {g : GP} {l : Launch} {d e : Nat} {σ σ1 σ2 σ3 : St} {x m p b a nk q n tr k : Nat} {A B : DPa} {En : List Enm} {Ss : List Stc} {T : Nat → TS} {I : Nat → Int} {im fr nn bg v : Int} {w : Int64} {fo : Nat → Nat → Nat} {s : TS}
theorem FxR.of (hF : Frm FxF σ σ1) : FxR σ σ1 nk m q := ⟨hF.1, hF.2.1, hF.2.2.1, fun f r i z => ⟨hF.J z i, hF.R z i, fun _ _ => hF.I z i⟩⟩
theorem FxR.trans (h : FxR σ σ1 nk m q) (k : FxR σ1 σ2 nk m q) : FxR σ σ2 nk m q :=
  ⟨fun f r => (k.1 f r).trans (h.1 f r), k.2.1.trans h.2.1, k.2.2.1.trans h.2.2.1, fun f r i z => ⟨(k.2.2.2 f r i z).1.trans (h.2.2.2 f r i z).1, (k.2.2.2 f r i z).2.1.trans (h.2.2.2 f r i z).2.1, fun a b => ((k.2.2.2 f r i z).2.2 a b).trans ((h.2.2.2 f r i z).2.2 a b)⟩⟩
theorem FxR.s5 : FxR σ (sI σ 504 nk 0 v) nk m q := ⟨fun _ _ => Eq.refl _, Eq.refl _, Eq.refl _, fun f r i z => ⟨Eq.refl _, Eq.refl _, fun a _ => by rw [gI_sI, if_neg a]⟩⟩
theorem FxR.s12 : FxR σ (sI σ 1272 m q v) nk m q := ⟨fun _ _ => Eq.refl _, Eq.refl _, Eq.refl _, fun f r i z => ⟨Eq.refl _, Eq.refl _, fun _ b => by rw [gI_sI, if_neg b]⟩⟩
/-- the trees, one node's fault other -/
theorem tre_w3 (hT : TreI σ x m fo Ss b T I) (hx : x < hs σ ∧ m < hs σ) (hn : (n : Int) < gI σ 1110 x 0) (h8 : gR σ 1108 x n = some tr) (hk : k < (T n).c) (k10 : (T n).d 0 k = 10) (hv : ¬ (T n).d 3 k = 1) : TreI (sI (sI σ 504 (noO σ tr k) 0 v) 1272 m (400 * n + k) v) x m fo Ss b (fun t => if t = n then (T n).w 3 k v else T t) I := by
  obtain ⟨⟨a1, a2, a3⟩, ⟨sp, b1, b2, b3⟩, c, d, ⟨rk, e1, e2, e3⟩, f⟩ := id hT
  obtain ⟨tr', f1, v1⟩ := f n hn
  rw [h8] at f1
  cases f1
  have n6 : n < 6 := by omega
  have c4 := v1.2.1.2.2.2.1
  have oT := c n n6 tr h8
  have nkr := v1.2.2.1 k hk
  have o : ∀ f r i, ¬ (f = 504 ∧ r = noO σ tr k ∧ i = 0) → ¬ (f = 1272 ∧ r = m ∧ i = 400 * n + k) → gI (sI (sI σ 504 (noO σ tr k) 0 v) 1272 m (400 * n + k) v) f r i = gI σ f r i := fun f r i z1 z2 => by rw [gI_sI, if_neg z2, gI_sI, if_neg z1]
  have og : ∀ f r i, ¬ f = 504 → ¬ f = 1272 → gI (sI (sI σ 504 (noO σ tr k) 0 v) 1272 m (400 * n + k) v) f r i = gI σ f r i := fun f r i z1 z2 => o f r i (fun q => z1 q.1) (fun q => z2 q.1)
  have to2 : ∀ tr, TOb σ tr → TOb (sI (sI σ 504 (noO σ tr k) 0 v) 1272 m (400 * n + k) v) tr := fun tr h => ⟨h.1, h.2.1, fun j r hj hr => by rw [gI_sI, if_neg (by simp), gI_sI, if_neg (by simp)]; exact h.2.2 j r hj hr⟩
  have to3 : ∀ t', TOb σ t' → TOb (sI (sI σ 504 (noO σ tr k) 0 v) 1272 m (400 * n + k) v) t' := fun t' h => ⟨h.1, h.2.1, fun j r hj hr => by rw [og _ _ _ (by decide) (by decide)]; exact h.2.2 j r hj hr⟩
  refine ⟨⟨by rw [og _ _ _ (by decide) (by decide)]; exact a1, by rw [og _ _ _ (by decide) (by decide)]; exact a2, by rw [og _ _ _ (by decide) (by decide), og _ _ _ (by decide) (by decide)]; exact a3⟩, ⟨sp, b1, to3 sp b2, b3⟩, fun t ht t' h' => to3 t' (c t ht t' h'), d, ⟨rk, e1, e2, e3⟩, fun t ht => ?_⟩
  rw [og _ _ _ (by decide) (by decide)] at ht
  by_cases e : t = n
  · subst e
    refine ⟨tr, h8, ?_⟩
    dsimp only
    rw [if_pos rfl]
    obtain ⟨⟨p1, p2, p3⟩, ⟨p4, p5, p6, p7, p8, p9⟩, p10, p11, p12, p13, ⟨p14, p15⟩, p16, p17, p18, p19, p20⟩ := id v1
    have tc : TrC σ tr (noO σ tr) fo Ss (fun _ => True) (hs σ) (sl σ) (T t) := ⟨⟨p8, p18, p7⟩, p10, fun j r hj hr => ⟨(oT.2.2 j r hj hr).1, trivial, (oT.2.2 j r hj hr).2⟩, p11, p13, by omega, by omega⟩
    have tc2 := tc.w (f := 3) (v := v) hk (Or.inr (Or.inl rfl))
    have tw : TrR (sI σ 1282 m 0 0) m t b (T t) := ⟨⟨by rw [gI_sI, if_neg (by simp)]; exact p9, gI_slf _ _ _ _ _, p7⟩, fun i hi => (p12 i hi).ag (fun f j z0 z1 => by rw [gI_sI, if_neg (by omega)])⟩
    have tw2 := tw.w (f := 3) (fr := 1272) (v := v) hk (Or.inr (Or.inl ⟨rfl, rfl⟩))
    have nok : ∀ i, i < (T t).c → ¬ i = k → ¬ noO σ tr i = noO σ tr k := fun i hi ne q => ne (tc.inj hi hk q)
    refine tv_of (st := (T t).d 7 0) (place := (T t).d 1 0) (len := gI σ 1201 m (I t).toNat) tc2 (fun f j z0 z1 => ⟨?_, Eq.refl _, Eq.refl _⟩) (fun f i z0 z1 hi => ⟨?_, Eq.refl _, Eq.refl _⟩) ⟨p1.1, by rw [og _ _ _ (by decide) (by decide)]; exact p1.2⟩ p2 p4 p5 ⟨p19, p20⟩ rfl rfl p16 p6 (p14.w3 (by omega) (fun z => by omega)) (p15.w3 (Or.inr hv)) (p17.w (by omega)) (by rw [og _ _ _ (by decide) (by decide)]) (by rw [og _ _ _ (by decide) (by decide)]; exact p3) (by rw [og _ _ _ (by decide) (by decide)]; exact p9) (fun i hi => (tw2.2 i hi).ag (fun f j z0 z1 => ?_))
    · rw [gI_sI, if_neg (by omega)]
    · rw [gI_sI, if_neg (by omega)]
    · by_cases z : f = 1272 ∧ m = m ∧ j = 400 * t + k
      · rw [gI_sI, if_pos z, gI_sI, if_pos z]
      · rw [gI_sI, if_neg z, gI_sI, if_neg (by omega), gI_sI, if_neg z, gI_sI, if_neg (by omega)]
  · obtain ⟨t', g1, g2⟩ := f t ht
    refine ⟨t', g1, ?_⟩
    dsimp only
    rw [if_neg e]
    have dj := d t n (by omega) n6 e t' tr g1 h8
    have ct := g2.2.1.2.2.2.1
    refine g2.ag (by rw [og _ _ _ (by decide) (by decide)]; exact Int.le_refl _) rfl (by rw [og _ _ _ (by decide) (by decide)]; exact Int.le_refl _) ⟨rfl, rfl⟩ (fun f j z0 z1 => ⟨og _ _ _ (by omega) (by omega), Eq.refl _, Eq.refl _⟩) (fun f i z0 z1 hi => ⟨o _ _ _ (fun q => ?_) (by omega), Eq.refl _, Eq.refl _⟩) (fun f j z => o _ _ _ (by omega) (by omega))
    exact dj.2 i k (noO σ t' i) (by omega) (by omega) (g2.2.2.1 i hi) (by rw [nkr, q.2.1])
/-- the trees after a fix -/
theorem tre_fix (hI : ImgI σ x m) (hT : TreI σ x m fo Ss b T I) (hn : (n : Int) < gI σ 1110 x 0) (h8 : gR σ 1108 x n = some tr) (hk : k < (T n).c) (k10 : (T n).d 0 k = 10) (hv : ¬ (T n).d 3 k = 1) (hF : FxR σ σ1 (noO σ tr k) m (400 * n + k)) (h5 : gI σ1 504 (noO σ tr k) 0 = v) (h12 : gI σ1 1272 m (400 * n + k) = v) : TreI σ1 x m fo Ss b (fun t => if t = n then (T n).w 3 k v else T t) I := by
  obtain ⟨f1, f2, f3, f4⟩ := hF
  obtain ⟨_, _, i3, i4, _⟩ := id hI
  -- the faults as they were
  generalize hσa : sI (sI σ1 504 (noO σ tr k) 0 (gI σ 504 (noO σ tr k) 0)) 1272 m (400 * n + k) (gI σ 1272 m (400 * n + k)) = σa
  have ra : ∀ f r i, gI σa f r i = if f = 1272 ∧ r = m ∧ i = 400 * n + k then gI σ 1272 m (400 * n + k) else if f = 504 ∧ r = noO σ tr k ∧ i = 0 then gI σ 504 (noO σ tr k) 0 else gI σ1 f r i := fun f r i => by rw [← hσa, gI_sI, gI_sI]
  have Fa : Frm FxF σ σa := by
    refine ⟨fun f r => by rw [← hσa]; exact f1 f r, by rw [← hσa]; exact f2, by rw [← hσa]; exact f3, fun f r z i => ⟨?_, by rw [← hσa]; exact (f4 f r i z).1, by rw [← hσa]; exact (f4 f r i z).2.1⟩⟩
    rw [ra]
    by_cases z1 : f = 1272 ∧ r = m ∧ i = 400 * n + k
    · rw [if_pos z1, z1.1, z1.2.1, z1.2.2]
    · rw [if_neg z1]
      by_cases z2 : f = 504 ∧ r = noO σ tr k ∧ i = 0
      · rw [if_pos z2, z2.1, z2.2.1, z2.2.2]
      · rw [if_neg z2]; exact (f4 f r i z).2.2 z2 z1
  have Ta : TreI σa x m fo Ss b T I := hT.fr ⟨i3, i4⟩ Fa.fr (fun f r z q => by omega) (by rw [Fa.I (fun q => by omega)]; exact Int.le_refl _) (fun im _ _ => ⟨by unfold img; rw [Fa.R (fun q => by omega)], by rw [Fa.I (fun q => by omega)]; exact Int.le_refl _⟩)
  have en : noO σa tr k = noO σ tr k := by unfold noO; rw [Fa.R (fun q => by omega)]
  have hxa : x < hs σa ∧ m < hs σa := by rw [Fa.2.1]; exact ⟨i3, i4⟩
  have W := tre_w3 (v := v) Ta hxa (by rw [Fa.I (fun q => by omega)]; exact hn) (by rw [Fa.R (fun q => by omega)]; exact h8) hk k10 hv
  rw [en] at W
  -- and as they are
  have Fb : Frm (fun _ _ => False) (sI (sI σa 504 (noO σ tr k) 0 v) 1272 m (400 * n + k) v) σ1 := by
    refine ⟨fun f r => by rw [← hσa]; rfl, by rw [← hσa]; rfl, by rw [← hσa]; rfl, fun f r _ i => ⟨?_, by rw [← hσa]; rfl, by rw [← hσa]; rfl⟩⟩
    rw [gI_sI, gI_sI, ra]
    by_cases z1 : f = 1272 ∧ r = m ∧ i = 400 * n + k
    · rw [if_pos z1, z1.1, z1.2.1, z1.2.2, h12]
    · rw [if_neg z1]
      by_cases z2 : f = 504 ∧ r = noO σ tr k ∧ i = 0
      · rw [if_pos z2, z2.1, z2.2.1, z2.2.2, h5]
      · rw [if_neg z2, if_neg z1, if_neg z2]
  exact W.fr hxa Fb.fr (fun _ _ _ q => q) (by rw [Fb.I (fun q => q)]; exact Int.le_refl _) (fun im _ _ => ⟨by unfold img; rw [Fb.R (fun q => q)], by rw [Fb.I (fun q => q)]; exact Int.le_refl _⟩)
theorem Frm.symm {P : Nat → Nat → Prop} (h : Frm P σ σ1) : Frm P σ1 σ := ⟨fun f r => (h.1 f r).symm, h.2.1.symm, h.2.2.1.symm, fun f r z i => ⟨(h.2.2.2 f r z i).1.symm, (h.2.2.2 f r z i).2.1.symm, (h.2.2.2 f r z i).2.2.symm⟩⟩
theorem frm_s2 {P : Nat → Nat → Prop} {f r i : Nat} (h : Frm P σ σ1) : Frm P (sI σ f r i v) (sI σ1 f r i v) := ⟨h.1, h.2.1, h.2.2.1, fun f' r' z i' => ⟨by
  rw [gI_sI, gI_sI]
  by_cases c : f' = f ∧ r' = r ∧ i' = i
  · rw [if_pos c, if_pos c]
  · rw [if_neg c, if_neg c]; exact (h.2.2.2 f' r' z i').1, (h.2.2.2 f' r' z i').2.1, (h.2.2.2 f' r' z i').2.2⟩⟩
/-- images after both have written -/
theorem wr_core (hI : ImgI σ x m) (h0 : 0 ≤ im) (h1 : im < gI σ 1101 x 0) (p0 : 0 ≤ fr) (n1 : 1 ≤ nn) (n8 : nn ≤ 8) (h3 : fr + nn ≤ gI σ 304 (img σ x im) 0) (hX : WrX σ σ1 (img σ x im) w nn bg fr) (f2 : Frm (fun f r => r = m ∧ 1208 < f) σ1 σ2) (hrow : ∀ k : Int, 0 ≤ k → k < nn → gI σ2 1209 m k.toNat = bvx w nn bg k)
    (a0 : gI σ2 1202 m im.toNat = 0 → MW0 σ2 σ3 m im fr nn) (a1 : 0 < gI σ2 1202 m im.toNat → MWr σ2 σ3 m (4 * im + gI σ2 1202 m im.toNat - 1) (if gI σ2 1205 m (4 * im + gI σ2 1202 m im.toNat - 1).toNat = 20 then 19 else gI σ2 1205 m (4 * im + gI σ2 1202 m im.toNat - 1).toNat) (if gI σ2 1205 m (4 * im + gI σ2 1202 m im.toNat - 1).toNat = 20 then 1 else 0) fr nn) : ImgI σ3 x m := by
  obtain ⟨e1, hc, hr, hi6, hi2⟩ := hI.im h0 h1
  obtain ⟨hF, eR⟩ := hX.frm hc
  have hlen := hc.2.1
  have hlc := hc.2.2.1
  have r1 := hr.1
  have r2 := hr.2.1
  have em : ∀ f i, 1200 ≤ f → f < 1209 → gI σ2 f m i = gI σ f m i := fun f i z0 z1 => by rw [f2.I (by omega), hF.I (by omega)]
  have F3 : Frm (fun f r => r = m ∧ 1203 ≤ f ∧ f ≤ 1208) σ2 σ3 := by
    by_cases z : gI σ2 1202 m im.toNat = 0
    · exact (a0 z).1.mono (fun f r z => ⟨z.1, by have := z.2; omega⟩)
    · exact (a1 (by rw [em _ _ (by decide) (by decide)] at z ⊢; omega)).1.mono (fun f r z => ⟨z.1, by have := z.2; omega⟩)
  have hrel := write_rel hc hr h0 hi6 hI.2.2.2.1 p0 n1 n8 h3 hX.1 f2 hrow a0 a1
  have hG : Frm (fun f r => r = m ∧ 1200 < f) σ1 σ3 := (f2.mono (fun f r z => ⟨z.1, by have := z.2; omega⟩)).trans (F3.mono (fun f r z => ⟨z.1, by have := z.2; omega⟩))
  refine hI.step h0 h1 hF.fr (fun f r z => ?_) (fun u b' hu hb => Or.inr ⟨u, hu, by rw [← eR]; exact hb⟩) hX.2 hG (fun j j0 j6 jn => ?_) hrel
  · rcases z with z | ⟨z1, z2⟩
    · exact Or.inl z
    · exact Or.inr ⟨z1, Or.inr z2⟩
  · have ag1 : AgM σ1 σ2 m j := AgM.of (by rw [hF.2.1]; exact hI.2.2.2.1) f2.fr (fun f z0 z1 q => by omega)
    refine ag1.trans ?_
    by_cases z : gI σ2 1202 m im.toNat = 0
    · exact (a0 z).ag h0 p0 (by omega) j0 jn
    · have z' : 0 < gI σ2 1202 m im.toNat := by rw [em _ _ (by decide) (by decide)] at z ⊢; omega
      exact (a1 z').ag (li := gI σ2 1202 m im.toNat - 1) (by omega) h0 (by omega) (by rw [em _ _ (by decide) (by decide)]; omega) p0 (by omega) j0 jn
/-- the reference writes, the class has put a fault right -/
theorem m_writeF {P : St → Prop} (hI : ImgI σ x m) (h0 : 0 ≤ im) (h1 : im < gI σ 1101 x 0) (p0 : 0 ≤ fr) (n1 : 1 ≤ nn) (n8 : nn ≤ 8) (h3 : fr + nn ≤ gI σ 304 (img σ x im) 0) (hX : WrX σ σ1 (img σ x im) w nn bg fr) (f2 : Frm (fun f r => r = m ∧ 1208 < f) (sI σ1 504 nk 0 v) σ2) (hrow : ∀ k : Int, 0 ≤ k → k < nn → gI σ2 1209 m k.toNat = bvx w nn bg k) (hP : ∀ σ3, Frm (fun f r => r = m ∧ 1203 ≤ f ∧ f ≤ 1208) σ2 σ3 → ImgI σ3 x m → P σ3) : ACv g l (d + 1) MX12_write [vR 12 (some m), vI im, vI fr, vI nn] σ2 P := by
  obtain ⟨e1, hc, hr, hi6, hi2⟩ := hI.im h0 h1
  obtain ⟨hF, eR⟩ := hX.frm hc
  have hlen := hc.2.1
  have hlc := hc.2.2.1
  have r1 := hr.1
  have r2 := hr.2.1
  have em : ∀ f i, 1200 ≤ f → f < 1209 → gI σ2 f m i = gI σ f m i := fun f i z0 z1 => by rw [f2.I (by omega), gI_sI, if_neg (by omega), hF.I (by omega)]
  have L2 : LC 12 σ2 m := f2.lc ((Frm.sI (P := fun f _ => f = 504) rfl).lc (hF.lc hI.2.1))
  refine m_write L2 h0 hi6 (by rw [em _ _ (by decide) (by decide)]; omega) (by rw [em _ _ (by decide) (by decide)]; omega) p0 (by omega) (by omega) n8 (fun z => ?_) (fun σ3 a0 a1 => ?_)
  · rw [em _ _ (by decide) (by decide)] at z ⊢
    rw [em _ _ (by decide) (by decide)]
    have := (hc.2.2.2.1 (gI σ 303 (img σ x im) 0 - 1) (by omega) (by omega)).2
    have e5 := hr.2.2.2.2.1 (gI σ 303 (img σ x im) 0 - 1) (by omega) (by omega)
    rw [show 4 * im + gI σ 1202 m im.toNat - 1 = 4 * im + (gI σ 303 (img σ x im) 0 - 1) by omega, ← e5]
    exact ⟨this.2.2.2.1, this.2.2.2.2.1⟩
  · have F3 : Frm (fun f r => r = m ∧ 1203 ≤ f ∧ f ≤ 1208) σ2 σ3 := by
      by_cases z : gI σ2 1202 m im.toNat = 0
      · exact (a0 z).1.mono (fun f r z => ⟨z.1, by have := z.2; omega⟩)
      · exact (a1 (by rw [em _ _ (by decide) (by decide)] at z ⊢; omega)).1.mono (fun f r z => ⟨z.1, by have := z.2; omega⟩)
    refine hP σ3 F3 ?_
    have f2' : Frm (fun f r => r = m ∧ 1208 < f) σ1 (sI σ2 504 nk 0 (gI σ1 504 nk 0)) := by
      refine ⟨f2.1, f2.2.1, f2.2.2.1, fun f r z i => ⟨?_, (f2.2.2.2 f r z i).2.1, (f2.2.2.2 f r z i).2.2⟩⟩
      have := (f2.2.2.2 f r z i).1
      rw [gI_sI] at this ⊢
      by_cases c : f = 504 ∧ r = nk ∧ i = 0
      · rw [if_pos c, c.1, c.2.1, c.2.2]
      · rw [if_neg c] at this ⊢; exact this
    have I3 : ImgI (sI σ3 504 nk 0 (gI σ1 504 nk 0)) x m := wr_core hI h0 h1 p0 n1 n8 h3 hX f2' (fun k k0 k1 => by rw [gI_sI, if_neg (by simp)]; exact hrow k k0 k1) (fun z => by
      have y := a0 (by rw [gI_sI, if_neg (by simp)] at z; exact z)
      exact ⟨frm_s2 y.1, y.2⟩) (fun z => by
      have y := a1 (by rw [gI_sI, if_neg (by simp)] at z; exact z)
      exact ⟨frm_s2 y.1, y.2⟩)
    exact I3.fr (Frm.symm (Frm.sI (P := fun f _ => f = 504) rfl)).fr (fun f r z q => by omega)
/-- a number goes into the row, then is written -/
theorem m_putG {c : Int} {P : St → Prop} (hL : LC 12 σ m) (n1 : 1 ≤ nn) (n8 : nn ≤ 8) (h81 : gI σ 1281 m 0 = im) (hc : i_and c 15 = nn) (hb : i_and c 32 ≤ 0 ↔ bg = 0) (hW : ∀ τ, Frm (fun f r => r = m ∧ f = 1209) σ τ → (∀ k : Int, 0 ≤ k → k < nn → gI τ 1209 m k.toNat = bvx w nn bg k) → ACv g l (d + 1) MX12_write [vR 12 (some m), vI im, vI fr, vI nn] τ P) : ACv g l (d + 2) MX12_put [vR 12 (some m), vI fr, vJ w, vI c] σ P := by
  have loop : ∀ (r j : Nat) (τ : St), ((j + r : Nat) : Int) = nn → Frm (fun f r => r = m ∧ f = 1209) σ τ → (∀ q : Nat, q < j → gI τ 1209 m (if bg = 0 then (q : Int) else nn - 1 - q).toNat = byt w q) → AW g l (d + 2) MX12_put 10 [some (vR 12 (some m)), some (vI fr), some (vJ w), none, some (vI c), some (vI nn), some (vI (j : Int))] [] τ (fun v σ' => v = none ∧ P σ') := by
    intro r
    induction r with
    | zero =>
      intro j τ hj F hr
      refine bk_X12_put_10 ⟨fun _ => ?_, fun z => absurd (by omega) z⟩
      rw [F.I (fun q => by omega), h81]
      refine ACv.mono (fun σ3 h => ⟨rfl, h⟩) (hW τ F (fun k k0 k1 => ?_))
      unfold bvx
      by_cases z : bg = 0
      · have := hr k.toNat (by omega)
        rw [if_pos z, show ((k.toNat : Nat) : Int) = k by omega] at this
        rw [if_pos z]; exact this
      · have := hr (nn - 1 - k).toNat (by omega)
        rw [if_neg z, show (((nn - 1 - k).toNat : Nat) : Int) = nn - 1 - k by omega, show nn - 1 - (nn - 1 - k) = k by omega] at this
        rw [if_neg z]; exact this
    | succ r ih =>
      intro j τ hj F hr
      have step : ∀ at_ : Nat, (if bg = 0 then (j : Int) else nn - 1 - j).toNat = at_ → AW g l (d + 2) MX12_put 10 [some (vR 12 (some m)), some (vI fr), some (vJ w), none, some (vI c), some (vI nn), some (vI ((j : Int) + 1))] [] (sI τ 1209 m at_ (byt w j)) (fun v σ' => v = none ∧ P σ') := fun at_ hat => by
        refine ih (j + 1) _ (by omega) (F.trans (Frm.sI ⟨rfl, rfl⟩)) (fun q hq => ?_)
        by_cases e : q = j
        · rw [e, hat, gI_slf]
        · have ne : ¬ (if bg = 0 then (q : Int) else nn - 1 - q).toNat = at_ := by
            rw [← hat]
            by_cases z : bg = 0
            · rw [if_pos z, if_pos z]; omega
            · rw [if_neg z, if_neg z]; omega
          rw [gI_sI, if_neg (fun z => ne z.2.2)]
          exact hr q (by omega)
      refine bk_X12_put_10 ⟨fun z => absurd z (by omega), fun _ => ⟨F.lc hL, fun z => ?_, fun z => ?_⟩⟩
      · rw [byt_shr w (by omega) (by omega)]
        exact ⟨⟨by omega, by omega⟩, ⟨by omega, by omega⟩, ⟨by omega, by omega⟩, step _ (by rw [if_pos (hb.mp z)])⟩
      · rw [byt_shr w (by omega) (by omega)]
        exact ⟨⟨by omega, by omega⟩, ⟨by omega, by omega⟩, ⟨by omega, by omega⟩, ⟨by omega, by omega⟩, ⟨by omega, by omega⟩, step _ (by rw [if_neg (fun q => z (hb.mpr q))])⟩
  refine AC.of mo_X12_put (Nat.le_of_ble_eq_true rfl) (bk_X12_put_0 ?_)
  rw [hc]
  exact loop nn.toNat 0 σ (by omega) Frm.rfl (fun q hq => absurd hq (by omega))
theorem m_isNodeY {t k' c : Int} {P : Int → St → Prop} (hL : LC 12 σ m) (hb : gI σ 1218 m 0 = (b : Int)) (t0 : 0 ≤ t) (t1 : t < gI σ 1264 m 0) (t6 : gI σ 1264 m 0 ≤ 6) (k0 : 0 ≤ k') (h66 : gI σ 1266 m t.toNat = c) (k1 : k' < c) (h65 : gI σ 1265 m t.toNat = im) (hP : ∀ σ', Frm (fun f r => r = m ∧ LkF f r) σ σ' → gI σ' 1280 m 0 = t → gI σ' 1281 m 0 = im → gI σ' 1253 m 0 = (b : Int) → P 1 σ') : ACi g l d MX12_isNode [vR 12 (some m), vI t, vI k'] σ P := by
  refine AC.of mo_X12_isNode (Nat.le_of_ble_eq_true rfl) (bk_X12_isNode_0 ⟨fun w => by omega, fun w => ⟨fun w2 => by omega, fun w2 => ⟨fun w3 => by omega, fun w3 => ⟨hL, ⟨by omega, by omega⟩, ?_⟩⟩⟩⟩)
  rw [h66, h65, hb]
  refine ⟨fun w4 => ⟨_, rfl, hP _ ?_ ?_ ?_ ?_⟩, fun w4 => by omega⟩
  · exact (Frm.sI ⟨rfl, by omega⟩).trans ((Frm.sI ⟨rfl, by omega⟩).trans (Frm.sI ⟨rfl, by omega⟩))
  · rw [gI_sI, if_neg (by simp), gI_sI, if_neg (by simp), gI_slf]
  · rw [gI_sI, if_neg (by simp), gI_slf]
  · exact gI_slf _ _ _ _ _
end F3
