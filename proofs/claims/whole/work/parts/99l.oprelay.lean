/-! relay, both -/
section T2
variable {g : GP} {l : Launch} {d e : Nat} {σ σ' σ2 : St} {x m p b sp sq rk n : Nat} {A B : DPa} {En : List Enm} {Ss : List Stc} {T : Nat → TS} {I : Nat → Int} {t : Int} {fo : Nat → Nat → Nat} {s : TS}
theorem op_relay (hI : ImgI σ x m) (hD : DsI σ x m p A B En Ss b) (hT : TreI σ x m A.2.2.2 Ss b T I) (hR : hs σ + 402 ≤ gB g + 600000 ∧ sl σ + 7300 ≤ 7302250) : ACi g l (e + 99) MX11_relay [vR 11 (some x), vI t] σ (fun a σ1 => ACi g l (e + 99) MX12_relay [vR 12 (some m), vI t] σ1 (fun r σ2 => a = r ∧ Fr LayF σ σ2 ∧ hs σ2 ≤ hs σ + 402 ∧ sl σ2 ≤ sl σ + 7300 ∧ ∃ T' I', TreI σ2 x m A.2.2.2 Ss b T' I')) := by
  obtain ⟨i1, i2, i3, i4, i5, i6, i7, i8, i9⟩ := id hI
  obtain ⟨hW, hsz, hB⟩ := hD.lw
  obtain ⟨⟨a1, a2, a3⟩, ⟨sp, b1, b2, b3⟩, c, dd, ⟨rk, e1, e2, e3⟩, f⟩ := id hT
  obtain ⟨⟨x1, _⟩, _, _, _, ⟨y1, y2, y3⟩, _⟩ := id hD
  refine AC.of mo_X11_relay (Nat.le_of_ble_eq_true rfl) (bk_X11_relay_0 (x_treeOf i1 hT (fun q => ⟨fun _ => ⟨_, rfl, AC.of mo_X12_relay (Nat.le_of_ble_eq_true rfl) (bk_X12_relay_0 ⟨fun _ => ⟨_, rfl, rfl, Fr.rfl, by omega, by omega, T, I, hT⟩, fun w => ⟨fun w2 => absurd ⟨by omega, by rw [← a3]; exact w2⟩ q, fun _ => ⟨_, rfl, rfl, Fr.rfl, by omega, by omega, T, I, hT⟩⟩⟩)⟩, (fun r w => nomatch w)⟩) (fun t0 t1 tr f1 o1 v1 => ⟨(fun w => nomatch w), fun r er => ⟨sp, b1, ?_⟩⟩)))
  cases er
  obtain ⟨n, rfl⟩ : ∃ n : Nat, t = (n : Int) := ⟨t.toNat, by omega⟩
  rw [Int.toNat_natCast] at f1 v1
  have n6 : n < 6 := by omega
  have c0 := v1.2.1.2.2.1
  have hc4 := v1.2.1.2.2.2.1
  have him := v1.1.1
  obtain ⟨w1, w2⟩ := v1.2.2.2.2.2.2.1
  have d00 := v1.2.2.2.2.2.2.2.1
  have nv := (w1.2 0 c0).1
  have pl : 0 ≤ (T n).d 1 0 ∧ (T n).d 1 0 ≤ gI σ 1201 m (I n).toNat := ⟨nv.1.1, by have := nv.1.2; omega⟩
  have hst := nv.2.2.2.1 d00
  have nr0 := v1.2.2.2.2.1 0 c0
  rw [v1.1.2.1, v1.2.1.1, v1.2.1.2.1, x1, e1]
  have k12 : ∀ σ1, Fr (LyA sp rk (OwnO σ sp)) σ σ1 → (∀ f j, 1200 ≤ f → gI σ1 f m j = gI σ f m j ∧ gJ σ1 f m j = gJ σ f m j) ∧ (∀ f j, 1100 ≤ f → gR σ1 f x j = gR σ f x j ∧ gI σ1 f x j = gI σ f x j) := fun σ1 f1 => ⟨fun f j f0 => ⟨f1.I i4 (fun q => by have := q.top; omega) j, f1.J i4 (fun q => by have := q.top; omega) j⟩, fun f j f0 => ⟨f1.R i3 (fun q => by have := q.top; omega) j, f1.I i3 (fun q => by have := q.top; omega) j⟩⟩
  refine x_layS (h := fun q => hasM σ m (I n) q) hI hD b2 ⟨e2, e3⟩ him rfl rfl pl hst hR (fun s' es σ1 no1 f1' na lc10 u0 u1 u2 u67 T1 => ?_) (fun en σ1 f1' na lc10 mm hs1 sl1 => ?_)
  · -- laid
    obtain ⟨km, kx⟩ := k12 σ1 f1'
    have I1 : ImgI σ1 x m := hI.fr f1' (fun f r z q => by have := q.lay; omega)
    have TR1 : TreI σ1 x m A.2.2.2 Ss b T I := tre_many (t := 6) hI hT b1 f1' na lc10 Frm.rfl (fun _ _ _ => rfl) (fun _ _ => rfl) (fun t' ht' => by omega)
    obtain ⟨l1, l2, l3, l4⟩ := lyT_ok hW pl hst es
    obtain ⟨l5, l6⟩ := lyT_0 hW pl hst es
    have rm := T1.2.2.2.2.2
    have c400 := T1.1.2.2
    refine ⟨sp, by rw [(kx 1109 0 (by decide)).1]; exact b1, fun _ => ⟨I1.1, ⟨by omega, by omega⟩, _, rfl, ?_⟩, fun w => absurd T1.1.2.1 w⟩
    rw [Int.toNat_natCast, T1.1.1]
    generalize hσc : sR (sR σ1 1108 x n (some sp)) 1109 x 0 (some tr) = σc
    have Fc : Frm (fun f r => r = x ∧ (f = 1108 ∨ f = 1109)) σ1 σc := by
      rw [← hσc]; exact (Frm.sR ⟨rfl, by omega⟩).trans (Frm.sR ⟨rfl, by omega⟩)
    have d9 : gR σc 1109 x 0 = some tr := by rw [← hσc]; simp only [gR_sR, true_and, and_true, false_and, if_false, if_true, Nat.reduceEqDiff]
    have d8 : gR σc 1108 x n = some sp := by rw [← hσc]; simp only [gR_sR, true_and, and_true, false_and, if_false, if_true, Nat.reduceEqDiff]
    have d8o : ∀ t, ¬ t = n → gR σc 1108 x t = gR σ1 1108 x t := fun t ht => by rw [← hσc]; simp only [gR_sR, true_and, and_true, false_and, if_false, ht, Nat.reduceEqDiff]
    have Ic : ImgI σc x m := I1.fr Fc.fr (fun f r z q => by omega)
    have cm : ∀ f j, 1200 ≤ f → gI σc f m j = gI σ f m j ∧ gJ σc f m j = gJ σ f m j := fun f j f0 => ⟨by rw [Fc.I (fun q => by omega)]; exact (km f j f0).1, by rw [Fc.J (fun q => by omega)]; exact (km f j f0).2⟩
    have c11 : gI σc 1101 x 0 = gI σ 1101 x 0 := by rw [Fc.I (fun q => by omega)]; exact (kx 1101 0 (by decide)).2
    have eh : (fun q => hasM σc m (I n) q) = fun q => hasM σ m (I n) q := by
      funext q
      unfold hasM
      rw [(cm 1203 _ (by decide)).1, (cm 1202 _ (by decide)).1]
      exact hv_congr (fun i _ => (cm 1204 _ (by decide)).1) rfl
    refine AC.of mo_X12_relay (Nat.le_of_ble_eq_true rfl) (bk_X12_relay_0 ⟨fun w => by omega, fun _ => ⟨fun _ => ⟨Ic.2.1, ⟨by omega, by omega⟩, ⟨by omega, by omega⟩, ⟨by omega, by omega⟩, ?_⟩, fun w => absurd (by rw [(cm 1264 0 (by decide)).1, a3]; exact t1) w⟩⟩)
    rw [Int.toNat_natCast, (cm 1265 n (by decide)).1, v1.1.2.2, (cm 1273 _ (by decide)).1, (cm 1268 _ (by decide)).1, show (400 * (n : Int)).toNat = 400 * n + 0 by omega, nr0.2.2.2.2.2.2.2.1, nr0.2.1]
    refine m_laidAt (t := 6) (h := fun q => hasM σ m (I n) q) (len := gI σ 1201 m (I n).toNat) Ic Ic.2.1 ⟨by rw [(cm 1218 0 (by decide)).1]; exact y1, y2, y3.ag (fun f i z => cm f i (by omega))⟩ hW hB hsz ⟨him.1, by rw [c11]; exact him.2⟩ (by rw [(cm 1201 _ (by decide)).1]) eh.symm (by omega) pl hst (fun s2 es2 σ2 F2 O2 o65 q65 q66 qN => ⟨fun _ => ⟨F2.lc Ic.2.1, ⟨by omega, by omega⟩, ⟨by omega, by omega⟩, ?_⟩, fun z => absurd z (by decide)⟩) (fun en => absurd en (by rw [es]; simp))
    rw [es] at es2
    obtain rfl : s' = s2 := Option.some.inj es2
    rw [q66]
    have g3 : ∀ f j, ¬ (f = 1266 ∧ j = n) → gI (sI σ2 1266 m n (s'.c : Int)) f m j = gI σ2 f m j := fun f j z => by rw [gI_sI, if_neg (fun q => z ⟨q.1, q.2.2⟩)]
    refine m_copy (s := s') (b := b) ((Frm.sI (P := fun f r => r = m ∧ f = 1266) ⟨rfl, rfl⟩).lc (F2.lc Ic.2.1)) n6 c400 (gI_slf _ _ _ _ _) (fun i hi => (qN i hi).ag (fun f j z0 z1 => g3 f j (by omega))) (fun i hi => ?_) (fun σ4 F4 o4 qN4 => ⟨rfl, ?_, ?_, ?_, ?_⟩)
    · have kk := (l1.2 i hi).2.1
      exact ⟨fun a ha => (kk.2.1 a ha).1, kk.2.2.1, by have := kk.2.2.2; omega⟩
    · exact (f1'.mono (fun f r q => q.lay)).trans ((Fc.mono (fun f r q => by omega)).trans ((F2.mono (fun f r q => by omega)).trans ((Frm.sI (by omega)).trans (F4.mono (fun f r q => by omega))))).fr
    · rw [F4.2.1]; show hs σ2 ≤ _; rw [F2.2.1, Fc.2.1]; omega
    · rw [F4.2.2.1]; show sl σ2 ≤ _; rw [F2.2.2.1, Fc.2.2.1]; omega
    · have F5 : Frm (fun f r => r = m ∧ (f = 1253 ∨ (1265 ≤ f ∧ f ≤ 1289))) σc σ4 := (F2.mono (fun f r q => by omega)).trans ((Frm.sI (by omega)).trans (F4.mono (fun f r q => by omega)))
      have F6 : Frm (fun f r => (r = x ∧ (f = 1108 ∨ f = 1109)) ∨ (r = m ∧ (f = 1253 ∨ (1265 ≤ f ∧ f ≤ 1289)))) σ1 σ4 := (Fc.mono (fun f r q => Or.inl q)).trans (F5.mono (fun f r q => Or.inr q))
      have uM : ∀ f j, 1264 ≤ f → gI σc f m j = gI σ1 f m j := fun f j z => Fc.I (fun q => by omega) j
      have imE : img σ4 x (I n) = img σ x (I n) := by
        unfold img
        rw [F6.R (fun q => by omega), (kx 1100 _ (by decide)).1]
      have r65 : ∀ j, ¬ j = 6 → gI σ4 1265 m j = gI σ1 1265 m j := fun j z => by
        rw [F4.I (fun q => by omega), g3 _ _ (by omega), o65 j z]; exact uM 1265 j (by decide)
      have hV : TrV σ4 x m sp n A.2.2.2 Ss b s' (I n) := by
        refine tv_of (len := gI σ 1201 m (I n).toNat) (st := (T n).d 7 0) (place := (T n).d 1 0) T1 (fun f j z0 z1 => F6.2.2.2 f sp (fun q => by omega) j) (fun f i z0 z1 hi => F6.2.2.2 f (no1 i) (fun q => by omega) 0) ⟨him.1, by rw [F6.I (fun q => by omega), (kx 1101 0 (by decide)).2]; exact him.2⟩ (by rw [imE]; exact u0) u1 u2 ⟨by rw [F6.R (fun q => by omega), (kx 1105 _ (by decide)).1, x1]; exact u67.1, by rw [F6.R (fun q => by omega), (kx 1104 _ (by decide)).1, e1]; exact u67.2⟩ l6 l4 l5 l3 l1 l2 (lyT_j hW hst.1 es) (by rw [F6.I (fun q => by omega)]; exact (km 1201 _ (by decide)).1) (by rw [r65 n (by omega), (km 1265 n (by decide)).1]; exact v1.1.2.2) ?_ qN4
        rw [F4.I (fun q => by omega)]; exact gI_slf _ _ _ _ _
      refine ⟨_, _, tre_swap2 TR1 (by rw [(kx 1109 0 (by decide)).1]; exact b1) (by rw [(kx 1110 0 (by decide)).2]; exact t1) (by rw [(kx 1108 n (by decide)).1]; exact f1) F6 (by rw [F5.R (fun q => by omega)]; exact d9) (by rw [F5.R (fun q => by omega)]; exact d8) (fun t ht => by rw [F5.R (fun q => by omega)]; exact d8o t ht) (fun t' f j ht' ht6 z => ?_) hV⟩
      rcases z with ⟨z | z, zj⟩ | z
      · rw [z]; exact r65 j (by omega)
      · rw [z, F4.I (fun q => by omega), g3 _ _ (by omega), O2 1266 j (by omega)]; exact uM 1266 j (by decide)
      · rw [o4 f j (by omega), g3 _ _ (by omega), O2 f j (by omega)]; exact uM f j (by omega)
  · -- too many
    obtain ⟨km, kx⟩ := k12 σ1 f1'
    have I1 : ImgI σ1 x m := hI.fr f1' (fun f r z q => by have := q.lay; omega)
    refine ⟨sp, by rw [(kx 1109 0 (by decide)).1]; exact b1, fun w => by omega, fun _ => ⟨_, rfl, AC.of mo_X12_relay (Nat.le_of_ble_eq_true rfl) (bk_X12_relay_0 ⟨fun w => by omega, fun _ => ⟨fun _ => ⟨I1.2.1, ⟨by omega, by omega⟩, ⟨by omega, by omega⟩, ⟨by omega, by omega⟩, ?_⟩, fun w => absurd (by rw [(km 1264 0 (by decide)).1, a3]; exact t1) w⟩⟩)⟩⟩
    have eh : (fun q => hasM σ1 m (I n) q) = fun q => hasM σ m (I n) q := by
      funext q
      unfold hasM
      rw [(km 1203 _ (by decide)).1, (km 1202 _ (by decide)).1]
      exact hv_congr (fun i _ => (km 1204 _ (by decide)).1) rfl
    rw [Int.toNat_natCast, (km 1265 n (by decide)).1, v1.1.2.2, (km 1273 _ (by decide)).1, (km 1268 _ (by decide)).1, show (400 * (n : Int)).toNat = 400 * n + 0 by omega, nr0.2.2.2.2.2.2.2.1, nr0.2.1]
    refine m_laidAt (t := 6) (h := fun q => hasM σ m (I n) q) (len := gI σ 1201 m (I n).toNat) I1 I1.2.1 ⟨by rw [(km 1218 0 (by decide)).1]; exact y1, y2, y3.ag (fun f i z => km f i (by omega))⟩ hW hB hsz ⟨him.1, by rw [(kx 1101 0 (by decide)).2]; exact him.2⟩ (by rw [(km 1201 _ (by decide)).1]) eh.symm (by omega) pl hst (fun s' es => absurd es (by rw [en]; simp)) (fun _ σ2 F2 O2 o65 => ⟨fun z => absurd rfl z, fun _ => ⟨_, rfl, rfl, ?_, ?_, ?_, T, I, ?_⟩⟩)
    · exact (f1'.mono (fun f r q => q.lay)).trans (F2.mono (fun f r q => by omega)).fr
    · rw [F2.2.1]; omega
    · rw [F2.2.2.1]; omega
    · exact tre_many (t := 6) hI hT b1 f1' na lc10 F2 O2 o65 (fun t' ht' => by omega)
end T2
