/-! sign -/
section S8
variable {g : GP} {l : Launch} {d e : Nat} {σ σ' σ2 : St} {x m p b n i : Nat} {A B : DPa} {En : List Enm} {Ss : List Stc} {T : Nat → TS} {I : Nat → Int} {t k w : Int} {fo : Nat → Nat → Nat} {s : TS}
theorem op_sign (hI : ImgI σ x m) (hD : DsI σ x m p A B En Ss b) (hT : TreI σ x m A.2.2.2 Ss b T I) (hw : -2147483648 ≤ w ∧ w < 2147483648) : ACi g l (d + 4) MX11_sign [vR 11 (some x), vI t, vI k, vI w] σ (fun a σ1 => ACi g l (d + 4) MX12_sign_ [vR 12 (some m), vI t, vI k, vI w] σ1 (fun r σ2 => a = r ∧ Frm (fun f r => r = m ∧ LkF f r) σ σ2)) := by
  obtain ⟨i1, i2, i3, i4, i5, i6, i7, i8, i9⟩ := id hI
  obtain ⟨hW, hsz, hB⟩ := hD.lw
  obtain ⟨_, _, _, _, ⟨y1, y2, y3⟩, _⟩ := id hD
  have none' : ¬ ((0 ≤ t ∧ t < gI σ 1110 x 0) ∧ (0 ≤ k ∧ k < (T t.toNat).c)) → ACi g l (d + 4) MX12_sign_ [vR 12 (some m), vI t, vI k, vI w] σ (fun r σ2 => (-1 : Int) = r ∧ Frm (fun f r => r = m ∧ LkF f r) σ σ2) := fun q =>
    AC.of mo_X12_sign_ (Nat.le_of_ble_eq_true rfl) (bk_X12_sign__0 (m_isNode i2 y1 hT (fun _ => ⟨fun z => absurd rfl z, fun _ => ⟨_, rfl, rfl, Frm.rfl⟩⟩) (fun t0 t1 k0 k1 => absurd ⟨⟨t0, t1⟩, k0, k1⟩ q)))
  refine AC.of mo_X11_sign (Nat.le_of_ble_eq_true rfl) (bk_X11_sign_0 (x_treeOf i1 hT (fun q => x_nodeOf i1 hT (fun q2 => ⟨fun _ => ⟨_, rfl, none' q2⟩, (fun r z => nomatch z)⟩) (fun t0 t1 => absurd ⟨t0, t1⟩ q)) (fun t0 t1 tr f1 o1 v1 => x_nodeOf i1 hT (fun q2 => ⟨(fun z => nomatch z), fun r er => ⟨fun _ => ⟨_, rfl, none' q2⟩, (fun r z => nomatch z)⟩⟩) (fun _ _ k0 k1 tr' f1' _ _ => ⟨(fun z => nomatch z), fun r er => ⟨(fun z => nomatch z), fun r7 er7 => ?_⟩⟩))))
  rw [f1] at f1'
  cases f1'
  cases er
  cases er7
  have kc : k.toNat < (T t.toNat).c := by omega
  have c4 := v1.2.1.2.2.2.1
  have a2 := hT.1.2.1
  have him := v1.1.1
  obtain ⟨q1, q2, q3⟩ := i7 (I t.toNat) him.1 him.2
  have l304 : gI σ 304 (img σ x (I t.toNat)) 0 = gI σ 1201 m (I t.toNat).toNat := q3.1
  have c304 := q2.2.1
  obtain ⟨w1, w2⟩ := v1.2.2.2.2.2.2.1
  have nd := w1.ndw w2 kc
  have nc := (v1.2.2.2.1 k.toNat kc).1
  have ncx := nc
  obtain ⟨n1, n2, n3, n4, _⟩ := ncx
  -- the reference, up to the value
  have ref : ∀ (R : Int), (¬ (T t.toNat).d 0 k.toNat = 5 → R = -1) → (w < 0 → R = -1) → ((T t.toNat).d 0 k.toNat = 5 → 0 ≤ w → (w < (vlN Ss (fun q => hasM σ m (I t.toNat) q) (T t.toNat) k.toNat).toInt → ((T t.toNat).d 1 k.toNat + w < gI σ 1201 m (I t.toNat).toNat ∧ R = hasM σ m (I t.toNat) ((T t.toNat).d 1 k.toNat + w))) ∧ (¬ w < (vlN Ss (fun q => hasM σ m (I t.toNat) q) (T t.toNat) k.toNat).toInt → R = -1)) → ACi g l (d + 4) MX12_sign_ [vR 12 (some m), vI t, vI k, vI w] σ (fun r σ2 => R = r ∧ Frm (fun f r => r = m ∧ LkF f r) σ σ2) := fun R h5 h0 hv => by
    refine AC.of mo_X12_sign_ (Nat.le_of_ble_eq_true rfl) (bk_X12_sign__0 (m_isNode i2 y1 hT (fun q => absurd ⟨⟨t0, t1⟩, k0, k1⟩ q) (fun _ _ _ _ σ1 F1 h80 h81 h53 => ⟨fun _ => ⟨⟨by omega, by omega⟩, ⟨by omega, by omega⟩, F1.lc i2, ⟨by omega, by omega⟩, ?_⟩, fun z => absurd z (by decide)⟩)))
    have I1 : ImgI σ1 x m := hI.fr F1.fr (fun f r z q => by have := q.2; omega)
    have eI : ∀ f j, ¬ LkF f m → gI σ1 f m j = gI σ f m j := fun f j z => F1.I (fun q => z q.2) j
    have e01 : gI σ1 1101 x 0 = gI σ 1101 x 0 := F1.I (fun q => by have := q.2; omega) 0
    have ir := imr_of (im := I t.toNat) I1 ⟨him.1, by rw [e01]; exact him.2⟩ h81
    have eh : (fun q => hasM σ1 m (I t.toNat) q) = fun q => hasM σ m (I t.toNat) q := by
      funext q
      unfold hasM
      rw [eI 1203 _ (by omega), eI 1202 _ (by omega)]
      exact hv_congr (fun i _ => eI 1204 _ (by omega)) rfl
    rw [eh, eI 1201 _ (by omega)] at ir
    have nr := (v1.2.2.2.2.1 k.toNat kc).ag (σ' := σ1) (fun f j z0 z1 => eI f j (by omega))
    have r1 := nr.1
    have r2 := nr.2.1
    rw [show 400 * t + k = ((400 * t.toNat + k.toNat : Nat) : Int) by omega, Int.toNat_natCast, r1]
    refine ⟨fun z => ⟨_, rfl, h5 z, F1⟩, fun z => ⟨fun z2 => ⟨_, rfl, h0 z2, F1⟩, fun z2 => ?_⟩⟩
    refine m_valueOf ir (fdr_of y2 (y3.ag (fun f i z => ⟨F1.I (fun q => by have := q.2; omega) i, F1.J (fun q => by have := q.2; omega) i⟩))) hB (by omega) (by omega) nr nd ?_
    obtain ⟨ha, hb⟩ := hv z (by omega)
    rw [i2j_toInt, w32_id (by omega) (by omega), r2, h81]
    have nd1 := nd.1
    refine ⟨fun z3 => ?_, fun z3 => ⟨_, rfl, hb z3, F1⟩⟩
    obtain ⟨p1, p2⟩ := ha z3
    refine ⟨F1.lc i2, ⟨by omega, by omega⟩, m_has (F1.lc i2) ir.2.2.1 ir.2.2.2.1 ir.2.2.2.2.2.2.2.1.1 ir.2.2.2.2.2.2.2.1.2 (by omega) (by omega) ⟨_, rfl, ?_, F1⟩⟩
    rw [p2]
    exact (congrFun eh _).symm
  refine AC.of mo_X5_hasSign (Nat.le_of_ble_eq_true rfl) (bk_X5_hasSign_0 ?_)
  rw [n1]
  refine ⟨fun z => ⟨_, rfl, fun y => absurd rfl y, fun _ => ⟨_, rfl, ref _ (fun _ => rfl) (fun _ => rfl) (fun y => absurd y z)⟩⟩, fun z => ⟨fun z2 => ⟨_, rfl, fun y => absurd rfl y, fun _ => ⟨_, rfl, ref _ (fun y => absurd z y) (fun _ => rfl) (fun _ y => by omega)⟩⟩, fun z2 => ?_⟩⟩
  refine x_signs nc nd (by omega) z (hD.fdc _) (fun F hF => ?_)
  -- how many signs
  have ev : (vlN Ss (fun q => hasM σ m (I t.toNat) q) (T t.toNat) k.toNat).toInt = if (T t.toNat).d 3 k.toNat = 1 then 0 else (T t.toNat).d 2 k.toNat - (T t.toNat).d 1 k.toNat - (if F.e1 = none then 1 else 0) := by
    unfold vlN
    by_cases y : (T t.toNat).d 3 k.toNat = 1
    · rw [if_pos y, if_pos y]; decide
    · rw [if_neg y, if_neg y, if_neg (by omega), hF]
      dsimp only
      have nd1 := nd.1
      rw [if_pos z, i2j_toInt]
      by_cases y2 : F.e1 = none
      · rw [if_pos y2, w32_id (by omega) (by omega)]
      · rw [if_neg y2, w32_id (by omega) (by omega)]
  rw [← ev]
  have up1 : (vlN Ss (fun q => hasM σ m (I t.toNat) q) (T t.toNat) k.toNat).toInt ≤ (T t.toNat).d 2 k.toNat - (T t.toNat).d 1 k.toNat := by
    have nd1 := nd.1
    rw [ev]
    by_cases y : (T t.toNat).d 3 k.toNat = 1
    · rw [if_pos y]; omega
    · rw [if_neg y]
      by_cases y2 : F.e1 = none
      · rw [if_pos y2]; omega
      · rw [if_neg y2]; omega
  have nd1 := nd.1
  refine ⟨fun z3 => ⟨_, rfl, fun y => absurd rfl y, fun _ => ⟨_, rfl, ref _ (fun y => absurd z y) (fun _ => rfl) (fun _ _ => ⟨fun y => by omega, fun _ => rfl⟩)⟩⟩, fun z3 => ⟨_, rfl, fun _ => ?_, fun y => absurd y (by decide)⟩⟩
  rw [n2, v1.1.2.1]
  refine ⟨⟨by omega, by omega⟩, img σ x (I t.toNat), rfl, x_has q2.1 (by omega) (fun y => absurd ⟨by omega, by omega⟩ y) (fun y0 y1' => ⟨_, rfl, ?_⟩)⟩
  rw [q3.has q2 (by omega) (by omega)]
  exact ref _ (fun y => absurd z y) (fun y => absurd y z2) (fun _ _ => ⟨fun _ => ⟨by omega, rfl⟩, fun y => absurd (by omega) y⟩)
end S8
