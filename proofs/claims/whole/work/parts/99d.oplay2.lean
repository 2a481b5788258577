/-! lay: the class's spare tree, and both -/
section S3
variable {g : GP} {l : Launch} {d e : Nat} {σ σ' : St} {x m p b sp rk n : Nat} {A B : DPa} {En : List Enm} {Ss : List Stc} {T : Nat → TS} {I : Nat → Int} {st im place len : Int} {h : Int → Int}
/-- what another tree is after the spare one was laid -/
theorem tr_keep {tr : Nat} (hd : Dj σ sp tr) (ht : TOb σ tr) (hF : Fr (LyA sp rk (OwnO σ sp)) σ σ') (hN : NA σ' sp (OwnO σ sp)) : (∀ f j, 1000 ≤ f → f ≤ 1009 → Agr σ σ' f tr j) ∧ (∀ f j r, j < 400 → gR σ 1003 tr j = some r → 500 ≤ f → f ≤ 516 → Agr σ σ' f r 0) ∧ TOb σ' tr ∧ Dj σ' sp tr := by
  have nt : ∀ f, 1000 ≤ f → ¬ LyA sp rk (OwnO σ sp) f tr := fun f f0 q => by
    rcases q with (q | q | q) | q
    · exact hd.1 q.1.symm
    · omega
    · have := q.2; omega
    · exact hd.1 q.1.symm
  have nn : ∀ f j r, j < 400 → gR σ 1003 tr j = some r → f ≤ 516 → ¬ LyA sp rk (OwnO σ sp) f r := fun f j r hj hr f1 q => by
    have rh := (ht.2.2 j r hj hr).1
    rcases q with (q | q | q) | q
    · have := q.2; omega
    · omega
    · rcases q.1 with ⟨j', hj', hr'⟩ | z
      · exact hd.2 j' j r hj' hj hr' hr
      · omega
    · have := q.2; omega
  have ag : ∀ f j, 1000 ≤ f → f ≤ 1009 → Agr σ σ' f tr j := fun f j f0 _ => (hF.2 f tr ht.2.1).2 (nt f f0) j
  have R3 : ∀ j, gR σ' 1003 tr j = gR σ 1003 tr j := fun j => (ag 1003 j (by decide) (by decide)).2.2
  have an : ∀ f j r, j < 400 → gR σ 1003 tr j = some r → 500 ≤ f → f ≤ 516 → Agr σ σ' f r 0 := fun f j r hj hr f0 f1 => (hF.2 f r (ht.2.2 j r hj hr).1).2 (nn f j r hj hr f1) 0
  refine ⟨ag, an, ⟨hF.lc ht.2.1 ht.1, Nat.lt_of_lt_of_le ht.2.1 hF.1, fun j r hj hr => ?_⟩, hd.1, fun j j' r hj hj' a b => ?_⟩
  · rw [R3] at hr
    obtain ⟨y1, y2⟩ := ht.2.2 j r hj hr
    exact ⟨Nat.lt_of_lt_of_le y1 hF.1, by rw [(an 500 j r hj hr (by decide) (by decide)).1]; exact y2⟩
  · rw [R3] at b
    have rh := (ht.2.2 j' r hj' b).1
    rcases (hN j r hj a).2.1 with ⟨j2, hj2, hr2⟩ | z
    · exact hd.2 j2 j' r hj2 hj' hr2 b
    · omega
theorem x_layS {P : St → Prop} (hI : ImgI σ x m) (hD : DsI σ x m p A B En Ss b) (hsp : TOb σ sp) (hrk : LC 7 σ rk ∧ rk < hs σ) (him : 0 ≤ im ∧ im < gI σ 1101 x 0) (hlen : len = gI σ 1201 m im.toNat) (hh : h = fun q => hasM σ m im q) (h1 : 0 ≤ place ∧ place ≤ len) (hst : 0 ≤ st ∧ st < Ss.length) (hR : hs σ + 402 ≤ gB g + 600000 ∧ sl σ + 7300 ≤ 7302250)
    (ho : ∀ s', lyT En Ss h len st place = some s' → ∀ σ' no', Fr (LyA sp rk (OwnO σ sp)) σ σ' → NA σ' sp (OwnO σ sp) → LC 10 σ' sp → gR σ' 1000 sp 0 = some (img σ x im) → gI σ' 1001 sp 0 = st → gI σ' 1002 sp 0 = place → gR σ' 1006 sp 0 = some A.1 ∧ gR σ' 1007 sp 0 = some rk → TrC σ' sp no' A.2.2.2 Ss (OwnO σ sp) (hs σ) (sl σ) s' → P σ')
    (hn : lyT En Ss h len st place = none → ∀ σ', Fr (LyA sp rk (OwnO σ sp)) σ σ' → NA σ' sp (OwnO σ sp) → LC 10 σ' sp → gI σ' 1005 sp 0 = 1 → hs σ' ≤ hs σ + 400 → sl σ' ≤ sl σ + 6800 → P σ') : ACv g l (e + 98) MX10_layAll [vR 10 (some sp), vR 3 (some (img σ x im)), vI st, vI place, vR 1 (some A.1), vR 7 (some rk)] σ P := by
  obtain ⟨i1, i2, i3, i4, i5, i6, i7, i8, i9⟩ := id hI
  obtain ⟨q1, q2, q3⟩ := i7 im him.1 him.2
  obtain ⟨hW, hsz, hB⟩ := hD.lw
  obtain ⟨_, ⟨b1, _⟩, _, ⟨d1, _, d3, d4⟩, _⟩ := id hD
  have l304 : gI σ 304 (img σ x im) 0 = len := by rw [hlen]; exact q3.1
  have c304 := q2.2.1
  have hb : ∀ q : Int, 0 ≤ q → q < len → gI σ 301 (img σ x im) q.toNat = h q := fun q a0 a1 => by rw [hh]; exact q3.has q2 a0 (by omega)
  have hhb : ∀ q : Int, 0 ≤ q → q < len → 0 ≤ h q ∧ h q ≤ 255 := fun q a0 a1 => by rw [← hb q a0 a1]; exact q2.now a0 (by omega)
  have hNA : NA σ sp (OwnO σ sp) := fun j r hj hr => ⟨(hsp.2.2 j r hj hr).1, Or.inl ⟨j, hj, hr⟩, (hsp.2.2 j r hj hr).2⟩
  refine x_layAll (Own := OwnO σ sp) (H := hs σ) (Z := sl σ) (so := A.2.2.1) (fo := A.2.2.2) (c := A.2.1) ⟨hsp.1, hsp.2.1⟩ hrk ⟨q2.1, l304, ⟨by omega, by omega⟩, hb, q2.2.2.2.2.2.2.2⟩ b1 ⟨d1, d3, d4⟩ (fun r hr => Or.inr hr) hNA ⟨Nat.le_refl _, Nat.le_refl _⟩ hW hsz hhb ⟨by omega, by omega⟩ h1 hst (fun s' es σ' no' f' E' T' v1 v2 => ho s' es σ' no' f' T'.2.2.1 E'.1.2.2.2.1 E'.1.1 v1 v2 ⟨E'.1.2.1, E'.1.2.2.1⟩ T') (fun en σ' f' E' T' => hn en σ' f' T'.2.1 E'.1.2.2.2.1 T'.1 T'.2.2.1 T'.2.2.2)
theorem LyA.lay {f r : Nat} (q : LyA sp rk (OwnO σ sp) f r) : LayF f r := by
  rcases q with (q | q | q) | q
  · have := q.2; omega
  · have := q.2; omega
  · have := q.2; omega
  · have := q.2; omega
theorem LyA.top {f r : Nat} (q : LyA sp rk (OwnO σ sp) f r) : f ≤ 1009 := by
  rcases q with (q | q | q) | q
  · have := q.2; omega
  · have := q.2; omega
  · have := q.2; omega
  · have := q.2; omega
/-- the trees when too many nodes were wanted: nothing of them has changed -/
theorem tre_many {σ2 : St} {t : Nat} (hI : ImgI σ x m) (hT : TreI σ x m A.2.2.2 Ss b T I) (h9 : gR σ 1109 x 0 = some sp) (hF : Fr (LyA sp rk (OwnO σ sp)) σ σ') (hN : NA σ' sp (OwnO σ sp)) (hL : LC 10 σ' sp) (hF2 : Frm (fun f r => r = m ∧ (f = 1253 ∨ f = 1265 ∨ f = 1266 ∨ (1267 ≤ f ∧ f ≤ 1289))) σ' σ2) (hO : OtT m t σ' σ2) (h65 : ∀ j, ¬ j = t → gI σ2 1265 m j = gI σ' 1265 m j) (ht : ∀ t' : Nat, (t' : Int) < gI σ 1110 x 0 → ¬ t' = t) : TreI σ2 x m A.2.2.2 Ss b T I := by
  obtain ⟨⟨a1, a2, a3⟩, ⟨sp', b1, b2, b3⟩, c, d, ⟨rk', e1, e2, e3⟩, f⟩ := hT
  rw [h9] at b1
  obtain rfl : sp = sp' := Option.some.inj b1
  obtain ⟨_, _, i3, i4, _⟩ := id hI
  have nx : ∀ f r, 1100 ≤ f → f < 1253 ∨ f = 1264 → ¬ LyA sp rk (OwnO σ sp) f r := fun f r f0 f1 q => by have := q.top; omega
  have xR : ∀ f j, 1100 ≤ f → f < 1200 → gR σ2 f x j = gR σ f x j := fun f j f0 f1 => by rw [hF2.R (fun q => by omega), hF.R i3 (nx f x (by omega) (by omega))]
  have xI : ∀ f r j, r < hs σ → 1100 ≤ f → f < 1253 ∨ f = 1264 → gI σ2 f r j = gI σ f r j := fun f r j hr f0 f1 => by rw [hF2.I (fun q => by omega), hF.I hr (nx f r f0 f1)]
  -- trees under the second frame
  have to2 : ∀ tr, TOb σ' tr → TOb σ2 tr := fun tr ⟨q1, q2, q3⟩ => ⟨hF2.lc q1, by rw [hF2.2.1]; exact q2, fun j r hj hr => by rw [hF2.R (fun q => by omega)] at hr; rw [hF2.I (fun q => by omega), hF2.2.1]; exact q3 j r hj hr⟩
  have dj2 : ∀ tr tr', Dj σ' tr tr' → Dj σ2 tr tr' := fun tr tr' hd => ⟨hd.1, fun j j' r hj hj' a b => by rw [hF2.R (fun q => by omega)] at a b; exact hd.2 j j' r hj hj' a b⟩
  have spO : TOb σ' sp := ⟨hL, Nat.lt_of_lt_of_le b2.2.1 hF.1, fun j r hj hr => ⟨(hN j r hj hr).1, (hN j r hj hr).2.2⟩⟩
  refine ⟨⟨by rw [xI _ _ _ i3 (by omega) (by omega)]; exact a1, by rw [xI _ _ _ i3 (by omega) (by omega)]; exact a2, by rw [xI 1264 _ _ i4 (by omega) (by omega), xI 1110 _ _ i3 (by omega) (by omega)]; exact a3⟩, ⟨sp, by rw [xR _ _ (by omega) (by omega)]; exact h9, to2 sp spO, fun t' ht' tr htr => ?_⟩, fun t' ht' tr htr => ?_, fun t1 t2 ht1 ht2 hne tr1 tr2 htr1 htr2 => ?_, ⟨rk', by rw [xR _ _ (by omega) (by omega)]; exact e1, hF2.lc (hF.lc e3 e2), by rw [hF2.2.1]; exact Nat.lt_of_lt_of_le e3 hF.1⟩, fun t' ht' => ?_⟩
  · rw [xR _ _ (by omega) (by omega)] at htr
    exact dj2 _ _ (tr_keep (b3 t' ht' tr htr) (c t' ht' tr htr) hF hN).2.2.2
  · rw [xR _ _ (by omega) (by omega)] at htr
    exact to2 _ (tr_keep (b3 t' ht' tr htr) (c t' ht' tr htr) hF hN).2.2.1
  · rw [xR _ _ (by omega) (by omega)] at htr1 htr2
    have k1 := tr_keep (b3 t1 ht1 tr1 htr1) (c t1 ht1 tr1 htr1) hF hN
    have k2 := tr_keep (b3 t2 ht2 tr2 htr2) (c t2 ht2 tr2 htr2) hF hN
    have hd := d t1 t2 ht1 ht2 hne tr1 tr2 htr1 htr2
    refine dj2 _ _ ⟨hd.1, fun j j' r hj hj' a b => hd.2 j j' r hj hj' ?_ ?_⟩
    · rw [(k1.1 1003 j (by decide) (by decide)).2.2] at a; exact a
    · rw [(k2.1 1003 j' (by decide) (by decide)).2.2] at b; exact b
  · rw [xI _ _ _ i3 (by omega) (by omega)] at ht'
    obtain ⟨tr, f1, f2⟩ := f t' ht'
    have t6 : t' < 6 := by omega
    have k := tr_keep (b3 t' t6 tr f1) (c t' t6 tr f1) hF hN
    have im1 := f2.1.1
    refine ⟨tr, by rw [xR _ _ (by omega) (by omega)]; exact f1, f2.ag (by rw [xI 1101 _ _ i3 (by omega) (by omega)]; exact Int.le_refl _) (by unfold img; rw [xR _ _ (by omega) (by omega)]) (by rw [xI 1201 _ _ i4 (by omega) (by omega)]; exact Int.le_refl _) ⟨xR _ _ (by omega) (by omega), xR _ _ (by omega) (by omega)⟩ (fun f j z0 z1 => ?_) (fun f i z0 z1 hi => ?_) (fun f j z => ?_)⟩
    · have w := k.1 f j z0 (by omega)
      have w2 := hF2.2.2.2 f tr (fun q => by omega) j
      exact ⟨w2.1.trans w.1, w2.2.1.trans w.2.1, w2.2.2.trans w.2.2⟩
    · have w := k.2.1 f i _ (by have := f2.2.1.2.2.2.1; omega) (f2.2.2.1 i hi) z0 z1
      have w2 := hF2.2.2.2 f (noO σ tr i) (fun q => by omega) 0
      exact ⟨w2.1.trans w.1, w2.2.1.trans w.2.1, w2.2.2.trans w.2.2⟩
    · have ne := ht t' ht'
      have nP : ¬ LyA sp rk (OwnO σ sp) f m ∨ True := Or.inr trivial
      have s1 : gI σ2 f m j = gI σ' f m j := by
        rcases z with z | z
        · by_cases q : f = 1265
          · rw [q]; exact h65 j (by omega)
          · exact hO f j (by omega)
        · exact hO f j (by omega)
      rw [s1]
      exact hF.I i4 (fun q => by
        rcases q with (q | q | q) | q
        · have := q.2; omega
        · omega
        · have := q.2; omega
        · have := q.2; omega) j
end S3
