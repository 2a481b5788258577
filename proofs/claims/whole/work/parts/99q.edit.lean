/-! edits by nodes: a write on both sides; put -/
abbrev EdF (f _r : Nat) : Prop := f / 100 = 3 ∨ f / 100 = 4 ∨ (1203 ≤ f ∧ f ≤ 1209) ∨ f = 1253 ∨ f = 1280 ∨ f = 1281
def WrX (σ σ1 : St) (a : Nat) (w : Int64) (n bg fr : Int) : Prop := ((gI σ 303 a 0 = 0 ∧ XW0 σ σ1 a w n bg fr n) ∨ (0 < gI σ 303 a 0 ∧ XWr σ σ1 a (lay σ a (gI σ 303 a 0 - 1)) w n bg fr)) ∧ CIm σ1 a
theorem AgM.trans {a b c : St} {m : Nat} {im : Int} (h : AgM a b m im) (k : AgM b c m im) : AgM a c m im := by
  obtain ⟨h1, h2, h3, h4, h5, h6, h7⟩ := h
  obtain ⟨k1, k2, k3, k4, k5, k6, k7⟩ := k
  exact ⟨k1.trans h1, k2.trans h2, fun p a b => (k3 p a b).trans (h3 p a b), fun p a b => (k4 p a b).trans (h4 p a b), fun p a b => (k5 p a b).trans (h5 p a b), fun p a b => (k6 p a b).trans (h6 p a b), fun p a b => ⟨(k7 p a b).1.trans (h7 p a b).1, (k7 p a b).2.trans (h7 p a b).2⟩⟩
section E1
variable {g : GP} {l : Launch} {d e : Nat} {σ σ1 σ2 : St} {x m p b a : Nat} {A B : DPa} {En : List Enm} {Ss : List Stc} {T : Nat → TS} {I : Nat → Int} {t k i v im fr n bg : Int} {w : Int64} {fo : Nat → Nat → Nat} {s : TS}
theorem x_writeB {P : St → Prop} (hc : CIm σ a) (h0 : 0 ≤ fr) (h1 : 1 ≤ n) (h2 : n ≤ 8) (h3 : fr + n ≤ gI σ 304 a 0) (hP : ∀ σ1, WrX σ σ1 a w n bg fr → P σ1) : ACv g l (d + 3) MX3_write [vR 3 (some a), vI fr, vI n, vJ w, vI bg] σ P :=
  x_write hc h0 h1 h2 h3 (fun z σ1 hx hc1 => hP σ1 ⟨Or.inl ⟨z, hx⟩, hc1⟩) (fun z σ1 hx hc1 => hP σ1 ⟨Or.inr ⟨z, hx⟩, hc1⟩)
theorem WrX.frm (hc : CIm σ a) (hX : WrX σ σ1 a w n bg fr) : Frm (fun f r => (f / 100 = 3 ∧ r = a) ∨ (f / 100 = 4 ∧ ∃ u, u < 4 ∧ gR σ 302 a u = some r)) σ σ1 ∧ ∀ i, gR σ1 302 a i = gR σ 302 a i := by
  have hlc := hc.2.2.1
  rcases hX.1 with ⟨-, z⟩ | ⟨z0, z⟩
  · exact ⟨z.1.mono (fun f r q => Or.inl ⟨by have := q.2; omega, q.1⟩), z.1.R (by simp)⟩
  · refine ⟨z.frm.mono (fun f r q => ?_), z.frm.R (by simp)⟩
    rcases q with q | q
    · exact Or.inl ⟨by have := q.2; omega, q.1⟩
    · exact Or.inr ⟨q.2, (gI σ 303 a 0 - 1).toNat, by omega, by rw [q.1]; exact (hc.2.2.2.1 _ (by omega) (by omega)).1⟩
theorem m_writeB {P : St → Prop} (hI : ImgI σ x m) (h0 : 0 ≤ im) (h1 : im < gI σ 1101 x 0) (p0 : 0 ≤ fr) (n1 : 1 ≤ n) (n8 : n ≤ 8) (h3 : fr + n ≤ gI σ 304 (img σ x im) 0) (hX : WrX σ σ1 (img σ x im) w n bg fr) (f2 : Frm (fun f r => r = m ∧ 1208 < f) σ1 σ2) (hrow : ∀ k : Int, 0 ≤ k → k < n → gI σ2 1209 m k.toNat = bvx w n bg k) (hP : ∀ σ3, Frm (fun f r => r = m ∧ 1203 ≤ f ∧ f ≤ 1208) σ2 σ3 → ImgI σ3 x m → P σ3) : ACv g l (d + 1) MX12_write [vR 12 (some m), vI im, vI fr, vI n] σ2 P := by
  obtain ⟨e1, hc, hr, hi6, hi2⟩ := hI.im h0 h1
  obtain ⟨hF, eR⟩ := hX.frm hc
  have hlen := hc.2.1
  have hlc := hc.2.2.1
  have r1 := hr.1
  have r2 := hr.2.1
  have em : ∀ f i, 1200 ≤ f → f < 1209 → gI σ2 f m i = gI σ f m i := fun f i z0 z1 => by rw [f2.I (by omega), hF.I (by omega)]
  refine m_write (f2.lc (hF.lc hI.2.1)) h0 hi6 (by rw [em _ _ (by decide) (by decide)]; omega) (by rw [em _ _ (by decide) (by decide)]; omega) p0 (by omega) (by omega) n8 (fun z => ?_) (fun σ3 a0 a1 => ?_)
  · rw [em _ _ (by decide) (by decide)] at z ⊢
    rw [em _ _ (by decide) (by decide)]
    have := (hc.2.2.2.1 (gI σ 303 (img σ x im) 0 - 1) (by omega) (by omega)).2
    have e5 := hr.2.2.2.2.1 (gI σ 303 (img σ x im) 0 - 1) (by omega) (by omega)
    rw [show 4 * im + gI σ 1202 m im.toNat - 1 = 4 * im + (gI σ 303 (img σ x im) 0 - 1) by omega, ← e5]
    exact ⟨this.2.2.2.1, this.2.2.2.2.1⟩
  · have F3 : Frm (fun f r => r = m ∧ 1203 ≤ f ∧ f ≤ 1208) σ2 σ3 := by
      by_cases z : gI σ2 1202 m im.toNat = 0
      · exact (a0 z).1.mono (fun f r z => ⟨z.1, by have := z.2; omega⟩)
      · exact (a1 (by rw [em _ _ (by decide) (by decide)] at z ⊢; omega)).1.mono (fun f r z => ⟨z.1, by have := z.2; omega⟩)
    refine hP σ3 F3 ?_
    have hrel := write_rel hc hr h0 hi6 hI.2.2.2.1 p0 n1 n8 h3 hX.1 f2 hrow a0 a1
    have hG : Frm (fun f r => r = m ∧ 1200 < f) σ1 σ3 := (f2.mono (fun f r z => ⟨z.1, by have := z.2; omega⟩)).trans (F3.mono (fun f r z => ⟨z.1, by have := z.2; omega⟩))
    refine hI.step h0 h1 hF.fr (fun f r z => ?_) (fun u b' hu hb => Or.inr ⟨u, hu, by rw [← eR]; exact hb⟩) hX.2 hG (fun j j0 j6 jn => ?_) hrel
    · rcases z with z | ⟨z1, z2⟩
      · exact Or.inl z
      · exact Or.inr ⟨z1, Or.inr z2⟩
    · have ag1 : AgM σ1 σ2 m j := AgM.of (by rw [hF.2.1]; exact hI.2.2.2.1) f2.fr (fun f z0 z1 q => by omega)
      refine ag1.trans ?_
      by_cases z : gI σ2 1202 m im.toNat = 0
      · exact (a0 z).ag h0 p0 (by omega) j0 jn
      · have z' : 0 < gI σ2 1202 m im.toNat := by rw [em _ _ (by decide) (by decide)] at z ⊢; omega
        exact (a1 z').ag (li := gI σ2 1202 m im.toNat - 1) (by omega) h0 (by omega) (by rw [em _ _ (by decide) (by decide)]; omega) p0 (by omega) j0 jn
/-- the trees after an edit that touches no tree -/
theorem tre_edit (hI : ImgI σ x m) (hT : TreI σ x m fo Ss b T I) (hF : Frm EdF σ σ2) : TreI σ2 x m fo Ss b T I := by
  refine hT.fr ⟨hI.2.2.1, hI.2.2.2.1⟩ hF.fr (fun f r z q => by omega) (by rw [hF.I (fun q => by omega)]; exact Int.le_refl _) (fun im _ _ => ⟨by unfold img; rw [hF.R (fun q => by omega)], by rw [hF.I (fun q => by omega)]; exact Int.le_refl _⟩)
/-- the image in the reference, behind writes of the class -/
theorem imr_ed (hI : ImgI σ x m) (him : 0 ≤ im ∧ im < gI σ 1101 x 0) (h81 : gI σ1 1281 m 0 = im) (hL : LC 12 σ1 m) (eI : ∀ f j, 1200 ≤ f → ¬ LkF f m → gI σ1 f m j = gI σ f m j) : ImR σ1 m im (gI σ 1201 m im.toNat) (fun q => hasM σ m im q) := by
  obtain ⟨q1, q2, q3, imb, _⟩ := hI.im him.1 him.2
  have l304 : gI σ 304 (img σ x im) 0 = gI σ 1201 m im.toNat := q3.1
  have l303 : gI σ 303 (img σ x im) 0 = gI σ 1202 m im.toNat := q3.2.1
  have c304 := q2.2.1
  have c303 := q2.2.2.1
  refine ⟨hL, h81, him.1, imb, eI 1201 _ (by decide) (by omega), by omega, by omega, by rw [eI 1202 _ (by decide) (by omega)]; omega, fun q a0 a1 => ⟨?_, ?_⟩⟩
  · unfold hasM
    rw [eI 1203 _ (by decide) (by omega), eI 1202 _ (by decide) (by omega)]
    exact hv_congr (fun i _ => eI 1204 _ (by decide) (by omega)) rfl
  · have hb := q2.now a0 (by omega)
    have hr := q3.has q2 a0 (by omega)
    exact ⟨by show 0 ≤ hasM σ m im q; omega, by show hasM σ m im q ≤ 255; omega⟩
theorem kR_u {F : Fld} (k5 : F.ki = 5) : kR F = 6 ↔ F.e1 = none := by
  unfold kR
  rw [if_neg (by omega), if_neg (by omega), if_neg (by omega), if_neg (by omega), if_pos k5]
  by_cases c : F.e1 = none
  · rw [if_pos c]; exact ⟨fun _ => c, fun _ => rfl⟩
  · rw [if_neg c]; exact ⟨fun z => absurd z (by decide), fun z => absurd z c⟩
theorem op_put (hI : ImgI σ x m) (hD : DsI σ x m p A B En Ss b) (hT : TreI σ x m A.2.2.2 Ss b T I) (hi : -2147483648 ≤ i ∧ i < 2147483648) (hv : -2147483648 ≤ v ∧ v < 2147483648) : ACi g l (d + 6) MX11_put [vR 11 (some x), vI t, vI k, vI i, vI v] σ (fun a σ1 => ACi g l (d + 6) MX12_put_ [vR 12 (some m), vI t, vI k, vI i, vI v] σ1 (fun r σ2 => a = r ∧ ImgI σ2 x m ∧ Frm EdF σ σ2)) := by
  obtain ⟨i1, i2, i3, i4, i5, i6, i7, i8, i9⟩ := id hI
  obtain ⟨hW, hsz, hB⟩ := hD.lw
  obtain ⟨_, _, _, _, ⟨y1, y2, y3⟩, _⟩ := id hD
  have none' : ¬ ((0 ≤ t ∧ t < gI σ 1110 x 0) ∧ (0 ≤ k ∧ k < (T t.toNat).c)) → ACi g l (d + 6) MX12_put_ [vR 12 (some m), vI t, vI k, vI i, vI v] σ (fun r σ2 => (-1 : Int) = r ∧ ImgI σ2 x m ∧ Frm EdF σ σ2) := fun q =>
    AC.of mo_X12_put_ (Nat.le_of_ble_eq_true rfl) (bk_X12_put__0 (m_isNode i2 y1 hT (fun _ => ⟨fun z => absurd rfl z, fun _ => ⟨_, rfl, rfl, hI, Frm.rfl⟩⟩) (fun t0 t1 k0 k1 => absurd ⟨⟨t0, t1⟩, k0, k1⟩ q)))
  refine AC.of mo_X11_put (Nat.le_of_ble_eq_true rfl) (bk_X11_put_0 (x_treeOf i1 hT (fun q => x_nodeOf i1 hT (fun q2 => ⟨fun _ => ⟨_, rfl, none' q2⟩, (fun r z => nomatch z)⟩) (fun t0 t1 => absurd ⟨t0, t1⟩ q)) (fun t0 t1 tr f1 o1 v1 => x_nodeOf i1 hT (fun q2 => ⟨(fun z => nomatch z), fun r er => ⟨fun _ => ⟨_, rfl, none' q2⟩, (fun r z => nomatch z)⟩⟩) (fun _ _ k0 k1 tr' f1' _ _ => ⟨(fun z => nomatch z), fun r er => ⟨(fun z => nomatch z), fun r7 er7 => ?_⟩⟩))))
  rw [f1] at f1'
  cases f1'
  cases er
  cases er7
  have kc : k.toNat < (T t.toNat).c := by omega
  have c4 := v1.2.1.2.2.2.1
  have a2 := hT.1.2.1
  have him := v1.1.1
  obtain ⟨q1, q2, q3⟩ := i7 (I t.toNat) him.1 him.2
  have l304 : gI σ 304 (img σ x (I t.toNat)) 0 = gI σ 1201 m (I t.toNat).toNat := q3.1
  have c304 := q2.2.1
  obtain ⟨w1, w2⟩ := v1.2.2.2.2.2.2.1
  have ek : ((400 * t.toNat + k.toNat : Nat) : Int) = 400 * t + k := by omega
  have t7 : t.toNat < 7 := by omega
  have nc := (v1.2.2.2.1 k.toNat kc).1
  have ncx := nc
  obtain ⟨n1, n2, n3, n4, _, _, n7, _⟩ := ncx
  have bk2 : Bd ((400 * t.toNat + k.toNat : Nat) : Int) 2800 := ⟨by omega, by omega⟩
  have d1b := (w1.2 k.toNat kc).1.1
  have imb : I t.toNat < 6 := by omega
  -- the reference, up to where it writes
  have ref : ∀ (R : Int) (τ : St), Frm (fun f _ => f / 100 = 3 ∨ f / 100 = 4) σ τ → (¬ (T t.toNat).d 0 k.toNat = 5 → R = -4 ∧ σ = τ) → ((T t.toNat).d 0 k.toNat = 5 → (T t.toNat).d 3 k.toNat = 1 → R = -5 ∧ σ = τ) → ((T t.toNat).d 0 k.toNat = 5 → ¬ (T t.toNat).d 3 k.toNat = 1 → ∀ F, gF Ss ((T t.toNat).d 6 k.toNat) = some F → F.ki = 5 → (¬ ((0 ≤ i ∧ i < (vlN Ss (fun q => hasM σ m (I t.toNat) q) (T t.toNat) k.toNat).toInt) ∧ (0 ≤ v ∧ v ≤ 255) ∧ ¬ (F.e1 = none ∧ v = F.nu.toInt)) → R = -3 ∧ σ = τ) ∧ (((0 ≤ i ∧ i < (vlN Ss (fun q => hasM σ m (I t.toNat) q) (T t.toNat) k.toNat).toInt) ∧ (0 ≤ v ∧ v ≤ 255) ∧ ¬ (F.e1 = none ∧ v = F.nu.toInt)) → R = 0 ∧ (T t.toNat).d 1 k.toNat + i + 1 ≤ gI σ 304 (img σ x (I t.toNat)) 0 ∧ WrX σ τ (img σ x (I t.toNat)) (i2j v) 1 0 ((T t.toNat).d 1 k.toNat + i))) → ACi g l (d + 6) MX12_put_ [vR 12 (some m), vI t, vI k, vI i, vI v] τ (fun r σ2 => R = r ∧ ImgI σ2 x m ∧ Frm EdF σ σ2) := by
    intro R τ Fτ hA hC hE
    have eτ : ∀ f r j, 500 ≤ f → gI τ f r j = gI σ f r j ∧ gJ τ f r j = gJ σ f r j ∧ gR τ f r j = gR σ f r j := fun f r j z => ⟨Fτ.I (by omega) j, Fτ.J (by omega) j, Fτ.R (by omega) j⟩
    have Tτ : TreI τ x m A.2.2.2 Ss b T I := tre_edit hI hT (Fτ.mono (fun f r q => by omega))
    refine AC.of mo_X12_put_ (Nat.le_of_ble_eq_true rfl) (bk_X12_put__0 (m_isNode (Fτ.lc i2) (by rw [(eτ _ _ _ (by decide)).1]; exact y1) Tτ (fun q => absurd ⟨⟨t0, by rw [(eτ _ _ _ (by decide)).1]; exact t1⟩, k0, k1⟩ q) (fun _ _ _ _ σ1 F1 h80 h81 h53 => ⟨fun _ => ?_, fun z => absurd z (by decide)⟩)))
    have L1 := F1.lc (Fτ.lc i2)
    have eI : ∀ f j, 1200 ≤ f → ¬ LkF f m → gI σ1 f m j = gI σ f m j := fun f j z0 z => by rw [F1.I (fun q => z q.2), (eτ _ _ _ (by omega)).1]
    have eJ : ∀ f j, 1200 ≤ f → ¬ LkF f m → gJ σ1 f m j = gJ σ f m j := fun f j z0 z => by rw [F1.J (fun q => z q.2), (eτ _ _ _ (by omega)).2.1]
    have nr := (v1.2.2.2.2.1 k.toNat kc).ag (σ' := σ1) (fun f j z0 z1 => eI f _ (by omega) (by omega))
    obtain ⟨r1, r2, r3, r4, _, r6, r7, _⟩ := id nr
    have ir := imr_ed hI him h81 L1 eI
    have D1 : DR σ1 m b (3000 * b + 3000) En Ss := y3.ag (fun f j z => ⟨eI f j (by omega) (by omega), eJ f j (by omega) (by omega)⟩)
    have fd := fdr_of y2 D1
    rw [← ek, Int.toNat_natCast, r1, r4, r7]
    have same : σ = τ → ImgI σ1 x m ∧ Frm EdF σ σ1 := fun e => by
      subst e
      exact ⟨hI.fr F1.fr (fun f r z q => by have := q.2; omega), F1.mono (fun f r q => by have := q.2; omega)⟩
    refine ⟨⟨by omega, by omega⟩, ⟨by omega, by omega⟩, L1, bk2, fun z5 => ⟨fun z3 z10 hz10 => ?_, fun z3 => ⟨_, rfl, (hC z5 z3).1, same (hC z5 z3).2⟩⟩, fun z5 => ⟨_, rfl, (hA z5).1, same (hA z5).2⟩⟩
    have nd := w1.ndw w2 kc
    rcases nd.2.2.1 with u | ⟨q0, F, hF, qk, _⟩
    · exact absurd u.2 (by omega)
    have k5 : F.ki = 5 := by rcases qk with u | u | u <;> omega
    obtain ⟨hN, hY⟩ := hE z5 z3 F hF k5
    obtain ⟨f280, frr⟩ := fd.2 _ F hF
    have bad : ¬ ((0 ≤ i ∧ i < (vlN Ss (fun q => hasM σ m (I t.toNat) q) (T t.toNat) k.toNat).toInt) ∧ (0 ≤ v ∧ v ≤ 255) ∧ ¬ (F.e1 = none ∧ v = F.nu.toInt)) → ∀ υ, Frm (fun f r => r = m ∧ LkF f r) τ υ → ∃ r, some (vI (-3)) = some (vI r) ∧ R = r ∧ ImgI υ x m ∧ Frm EdF σ υ := fun z υ Fυ => by
      obtain ⟨e1, e2⟩ := hN z
      subst e2
      exact ⟨_, rfl, e1, hI.fr Fυ.fr (fun f r z q => by have := q.2; omega), Fυ.mono (fun f r q => by have := q.2; omega)⟩
    rw [if_neg (by omega)] at hz10
    refine ⟨fun z => bad (fun q => by have := q.1.1; omega) σ1 F1, fun z => m_valueOf ir fd hB (by omega) t7 nr nd ?_⟩
    rw [i2j_toInt, w32_id (by omega) (by omega)]
    refine ⟨fun y => bad (fun q => by have := q.1.2; omega) σ1 F1, fun y => ⟨fun u => bad (fun q => by have := q.2.1.1; omega) σ1 F1, fun u => ⟨fun u2 => bad (fun q => by have := q.2.1.2; omega) σ1 F1, fun u2 => ?_⟩⟩⟩
    have put : ¬ (F.e1 = none ∧ v = F.nu.toInt) → AW g l (d + 6) MX12_put_ 113 [some (vR 12 (some m)), none, none, some (vI i), some (vI v), some (vI ((400 * t.toNat + k.toNat : Nat) : Int)), none] [] σ1 (fun v σ' => ∃ r, v = some (vI r) ∧ R = r ∧ ImgI σ' x m ∧ Frm EdF σ σ') := fun ne => by
      obtain ⟨e0, le, wx⟩ := hY ⟨⟨by omega, by omega⟩, ⟨by omega, by omega⟩, ne⟩
      refine bk_X12_put__113 ⟨L1, bk2, ?_⟩
      rw [Int.toNat_natCast, r2, h81]
      refine ⟨⟨by omega, by omega⟩, ?_⟩
      have F2 : Frm (fun f r => r = m ∧ 1208 < f) τ (sI σ1 1209 m 0 v) := (F1.mono (fun f r q => ⟨q.1, by have := q.2; omega⟩)).trans (Frm.sI ⟨rfl, by decide⟩)
      refine m_writeB (n := 1) (bg := 0) (w := i2j v) hI him.1 him.2 (by omega) (by omega) (by omega) le wx F2 (fun k a0 a1 => ?_) (fun σ3 F3 I3 => ⟨_, rfl, e0, I3, ?_⟩)
      · obtain rfl : k = 0 := by omega
        rw [byt_i2j (by omega) (by omega)]
        exact gI_slf _ _ _ _ _
      · exact (Fτ.mono (fun f r q => by omega)).trans ((F1.mono (fun f r q => by have := q.2; omega)).trans ((Frm.sI (by omega)).trans (F3.mono (fun f r q => by omega))))
    rw [hz10, show (((280 * b : Nat) : Int) + (T t.toNat).d 6 k.toNat).toNat = 280 * b + ((T t.toNat).d 6 k.toNat).toNat by omega, frr.2.1, kR_u k5]
    refine ⟨L1, ⟨by omega, by omega⟩, fun u3 => put (fun q => u3 q.1), fun u3 => ?_⟩
    rw [frr.2.2.1 (Or.inr (Or.inr ⟨k5, u3⟩))]
    exact ⟨fun u4 => put (fun q => u4 q.2), fun u4 => bad (fun q => q.2.2 ⟨u3, u4⟩) σ1 F1⟩
  rw [n1, n4, n7]
  refine ⟨fun z5 => ⟨_, rfl, ref _ σ Frm.rfl (fun _ => ⟨rfl, rfl⟩) (fun q => absurd q z5) (fun q => absurd q z5)⟩, fun z5 => ?_⟩
  have nd := w1.ndw w2 kc
  have nd1 := nd.1
  rcases nd.2.2.1 with u | ⟨q0, F, hF, qk, _⟩
  · exact absurd u.2 (by omega)
  have k5 : F.ki = 5 := by rcases qk with u | u | u <;> omega
  have aF : ∀ F', gF Ss ((T t.toNat).d 6 k.toNat) = some F' → F' = F := fun F' z => by rw [hF] at z; cases z; rfl
  have fc := hD.fdc _ F hF
  unfold oF
  rw [if_neg (by omega)]
  refine ⟨(fun z => nomatch z), fun r10 e10 => ?_⟩
  cases e10
  rw [fc.2.2.2.2.2.2.2.2.2.2.1]
  refine ⟨fun z3 => ?_, fun z3 => ⟨_, rfl, ref _ σ Frm.rfl (fun q => absurd z5 q) (fun _ _ => ⟨rfl, rfl⟩) (fun _ q => absurd z3 q)⟩⟩
  have ev : (vlN Ss (fun q => hasM σ m (I t.toNat) q) (T t.toNat) k.toNat).toInt = (T t.toNat).d 2 k.toNat - (T t.toNat).d 1 k.toNat - (if F.e1 = none then 1 else 0) := by
    unfold vlN
    rw [if_neg z3, if_neg (by omega), hF]
    dsimp only
    rw [if_pos z5, i2j_toInt]
    by_cases y2 : F.e1 = none
    · rw [if_pos y2, w32_id (by omega) (by omega)]
    · rw [if_neg y2, w32_id (by omega) (by omega)]
  have up1 : (vlN Ss (fun q => hasM σ m (I t.toNat) q) (T t.toNat) k.toNat).toInt ≤ (T t.toNat).d 2 k.toNat - (T t.toNat).d 1 k.toNat := by
    rw [ev]
    by_cases y2 : F.e1 = none
    · rw [if_pos y2]; omega
    · rw [if_neg y2]; omega
  have bad : ¬ ((0 ≤ i ∧ i < (vlN Ss (fun q => hasM σ m (I t.toNat) q) (T t.toNat) k.toNat).toInt) ∧ (0 ≤ v ∧ v ≤ 255) ∧ ¬ (F.e1 = none ∧ v = F.nu.toInt)) → ∃ r, some (vI (-3)) = some (vI r) ∧ ACi g l (d + 6) MX12_put_ [vR 12 (some m), vI t, vI k, vI i, vI v] σ (fun r' σ2 => r = r' ∧ ImgI σ2 x m ∧ Frm EdF σ σ2) := fun nb =>
    ⟨_, rfl, ref _ σ Frm.rfl (fun q => absurd z5 q) (fun _ q => absurd q z3) (fun _ _ F' hF' _ => by rw [aF F' hF']; exact ⟨fun _ => ⟨rfl, rfl⟩, fun q => absurd q nb⟩)⟩
  have s91 : ∀ y0 : Int, (¬ y0 = 0 ↔ (F.e1 = none ∧ v = F.nu.toInt)) → AW g l (d + 6) MX11_put 91 [none, none, none, some (vI i), some (vI v), some (vR 10 (some tr)), some (vR 5 (some (noO σ tr k.toNat))), none] [vI y0] σ (fun v' σ1 => ∃ a, v' = some (vI a) ∧ ACi g l (d + 6) MX12_put_ [vR 12 (some m), vI t, vI k, vI i, vI v] σ1 (fun r σ2 => a = r ∧ ImgI σ2 x m ∧ Frm EdF σ σ2)) := by
    intro y0 hy0
    refine bk_X11_put_91 ⟨_, rfl, AC.of mo_X5_hasSign (Nat.le_of_ble_eq_true rfl) (bk_X5_hasSign_0 ?_)⟩
    rw [n1]
    refine ⟨fun z => absurd z5 z, fun _ => ⟨fun z => ⟨_, rfl, fun _ => bad (fun q => by have := q.1.1; omega), fun q => absurd rfl q⟩, fun z => x_signs nc nd (by omega) z5 (hD.fdc _) (fun F' hF' => ?_)⟩⟩
    rw [if_neg z3, aF F' hF', ← ev]
    refine ⟨fun y => ⟨_, rfl, fun _ => bad (fun q => by have := q.1.2; omega), fun q => absurd rfl q⟩, fun y => ⟨_, rfl, fun q => absurd q (by decide), fun _ => ⟨fun u => bad (fun q => by have := q.2.1.1; omega), fun u => ⟨fun u2 => bad (fun q => by have := q.2.1.2; omega), fun u2 => ⟨fun u3 => ⟨tr, rfl, ?_⟩, fun u3 => bad (fun q => q.2.2 (hy0.mp u3))⟩⟩⟩⟩⟩
    rw [n2, v1.1.2.1]
    refine ⟨⟨by omega, by omega⟩, _, rfl, x_writeB (w := i2j v) (n := 1) (bg := 0) q2 (by omega) (by omega) (by omega) (by omega) (fun σ1 wx => ⟨_, rfl, ref 0 σ1 ((wx.frm q2).1.mono (fun f r q => by rcases q with q | q; exact Or.inl q.1; exact Or.inr q.1)) (fun q => absurd z5 q) (fun _ q => absurd q z3) (fun _ _ F' hF' _ => ?_)⟩)⟩
    rw [aF F' hF']
    exact ⟨fun q => absurd ⟨⟨by omega, by omega⟩, ⟨by omega, by omega⟩, fun z => hy0.mpr z u3⟩ q, fun _ => ⟨rfl, by omega, wx⟩⟩
  have e9 := fc.2.2.2.2.2.2.2.2.1.neg
  have ei : i2j v = F.nu ↔ v = F.nu.toInt := by
    constructor
    · intro e
      rw [← e, i2j_toInt, w32_id (by omega) (by omega)]
    · intro e
      refine Int64.toInt_inj.mp ?_
      rw [i2j_toInt, w32_id (by omega) (by omega)]; exact e
  exact ⟨fun u => s91 0 ⟨fun q => absurd rfl q, fun q => absurd (e9.mpr q.1) u⟩, fun u => ⟨fun u2 => s91 0 ⟨fun q => absurd rfl q, fun q => absurd (ei.mpr q.2) u2⟩, fun u2 => s91 1 ⟨fun _ => ⟨e9.mp u, ei.mp u2⟩, fun _ => by decide⟩⟩⟩
end E1
