/-! lay, both -/
section S5
variable {g : GP} {l : Launch} {d e : Nat} {σ σ' σ2 : St} {x m p b sp sq rk n : Nat} {A B : DPa} {En : List Enm} {Ss : List Stc} {T : Nat → TS} {I : Nat → Int} {st im place len : Int} {h : Int → Int} {fo : Nat → Nat → Nat} {s s' : TS}
theorem lyT_0 (hW : LW En Ss) (h1 : 0 ≤ place ∧ place ≤ len) (hst : 0 ≤ st ∧ st < Ss.length) (el : lyT En Ss h len st place = some s') : s'.d 0 0 = 0 ∧ s'.d 7 0 = st := by
  have hc : TS0.c < 400 := by show 0 < 400; omega
  obtain ⟨I1, U1⟩ := add_mk (Ss := Ss) (len := len) (s := TS0) (par := -1) (place := place) (st := st) TI0 TU0 hc ⟨by omega, by show (-1 : Int) < 0; omega⟩ (fun i ei => by omega) h1 hst
  have es : lyS En Ss h len 20 (mkM TS0 0 (-1) place (-1) place st 0 (nmS Ss st)) 0 st = some s' := by
    unfold lyT addS mkO at el
    rw [if_pos hc] at el
    exact el
  have ex := (lyS_ok (h := h) (len := len) hW 20 _ 0 st s' I1 U1 rfl rfl rfl rfl es).2.2
  exact ⟨by rw [ex.2.2 0 (by decide) (by decide) (by decide)]; rfl, by rw [ex.2.2 7 (by decide) (by decide) (by decide)]; rfl⟩
/-- the reference's lay up to the laying -/
theorem m_layTo {cnt : Int} {R : Int → St → Prop} (hL : LC 12 σ m) (hc : gI σ 1200 m 0 = cnt ∧ cnt ≤ 6) (hb : gI σ 1218 m 0 = (b : Int)) (b2 : b < 2) (hs19 : gI σ 1219 m b = (Ss.length : Int)) (hn : gI σ 1264 m 0 = (n : Int) ∧ n ≤ 6)
    (r1 : ¬ ((0 ≤ im ∧ im < cnt) ∧ (0 ≤ st ∧ st < Ss.length)) → R (-1) σ) (r3 : (0 ≤ im ∧ im < cnt) → (0 ≤ st ∧ st < Ss.length) → ¬ (0 ≤ place ∧ place ≤ gI σ 1201 m im.toNat) → R (-3) σ) (r2 : (0 ≤ im ∧ im < cnt) → (0 ≤ st ∧ st < Ss.length) → (0 ≤ place ∧ place ≤ gI σ 1201 m im.toNat) → n = 6 → R (-2) σ)
    (r0 : (0 ≤ im ∧ im < cnt) → (0 ≤ st ∧ st < Ss.length) → (0 ≤ place ∧ place ≤ gI σ 1201 m im.toNat) → n < 6 → ACi g l (e + 98) MX12_laidAt [vR 12 (some m), vI (n : Int), vI im, vI st, vI place] σ (fun v σ12 => gI σ12 1264 m 0 = (n : Int) ∧ (¬ v = 0 → R (n : Int) (sI σ12 1264 m 0 ((n : Int) + 1))) ∧ (v = 0 → R (-6) σ12))) : ACi g l (e + 99) MX12_lay [vR 12 (some m), vI im, vI st, vI place] σ R := by
  refine AC.of mo_X12_lay (Nat.le_of_ble_eq_true rfl) (bk_X12_lay_0 (m_isImage ?_))
  rw [hc.1]
  by_cases c1 : 0 ≤ im ∧ im < cnt
  · rw [if_pos c1]
    refine ⟨fun w => absurd w (by decide), fun _ => m_isStruct hL hb b2 hs19 ?_⟩
    by_cases c2 : 0 ≤ st ∧ st < Ss.length
    · rw [if_pos c2]
      refine ⟨fun _ => ⟨fun w => ⟨_, rfl, r3 c1 c2 (by omega)⟩, fun w => ⟨hL, ⟨by omega, by omega⟩, fun w2 => ?_, fun w2 => ⟨_, rfl, r3 c1 c2 (by omega)⟩⟩⟩, fun w => absurd w (by decide)⟩
      rw [hn.1]
      refine ⟨fun w3 => ACi.mono (fun v σ12 q => ?_) (r0 c1 c2 ⟨by omega, w2⟩ (by omega)), fun w3 => ⟨_, rfl, r2 c1 c2 ⟨by omega, w2⟩ (by omega)⟩⟩
      obtain ⟨q1, q2, q3⟩ := q
      rw [q1, show (n : Int) + 1 - 1 = (n : Int) by omega]
      exact ⟨fun z => ⟨⟨by omega, by omega⟩, ⟨by omega, by omega⟩, _, rfl, q2 z⟩, fun z => ⟨_, rfl, q3 z⟩⟩
    · rw [if_neg c2]
      exact ⟨fun w => absurd rfl w, fun _ => ⟨_, rfl, r1 (fun q => c2 q.2)⟩⟩
  · rw [if_neg c1]
    exact ⟨fun _ => ⟨_, rfl, r1 (fun q => c1 q.1)⟩, fun w => absurd rfl w⟩
theorem LM10 (f : Nat) (h : f / 100 = 10) : LM f = if f = 1003 then 400 else 0 := by
  have k : ∀ j : Fin 100, LM (1000 + j) = if 1000 + j.val = 1003 then 400 else 0 := by decide
  have := k ⟨f % 100, by omega⟩
  rw [show 1000 + f % 100 = f by omega] at this
  exact this
/-- a tree that is new -/
theorem new_tob : TOb (sArr (sNew σ 10) 1003 (hs σ) 400) (hs σ) ∧ (∀ j, gR (sArr (sNew σ 10) 1003 (hs σ) 400) 1003 (hs σ) j = none) ∧ Fr (fun _ _ => False) σ (sArr (sNew σ 10) 1003 (hs σ) 400) := by
  have no : ∀ j, gR (sArr (sNew σ 10) 1003 (hs σ) 400) 1003 (hs σ) j = none := fun j => by rw [gR_sArr, if_pos ⟨rfl, rfl⟩]
  refine ⟨⟨fun f hf => ?_, by rw [hs_sArr, hs_sNew]; omega, fun j r _ hr => by rw [no] at hr; cases hr⟩, no, Fr.sArr Fr.sNew (Nat.le_refl _)⟩
  rw [LM10 f hf, gL_sArr]
  by_cases q : f = 1003
  · rw [if_pos ⟨q, rfl⟩, if_pos q]
  · rw [if_neg (fun z => q z.1), if_neg q, gL_sNew, if_pos rfl]
theorem op_lay (hI : ImgI σ x m) (hD : DsI σ x m p A B En Ss b) (hT : TreI σ x m A.2.2.2 Ss b T I) (hR : hs σ + 402 ≤ gB g + 600000 ∧ sl σ + 7300 ≤ 7302250) : ACi g l (e + 99) MX11_lay [vR 11 (some x), vI im, vI st, vI place] σ (fun a σ1 => ACi g l (e + 99) MX12_lay [vR 12 (some m), vI im, vI st, vI place] σ1 (fun r σ2 => a = r ∧ Fr LayF σ σ2 ∧ hs σ2 ≤ hs σ + 402 ∧ sl σ2 ≤ sl σ + 7300 ∧ ∃ T' I', TreI σ2 x m A.2.2.2 Ss b T' I')) := by
  obtain ⟨i1, i2, i3, i4, i5, i6, i7, i8, i9⟩ := id hI
  obtain ⟨hW, hsz, hB⟩ := hD.lw
  obtain ⟨⟨a1, a2, a3⟩, ⟨sp, b1, b2, b3⟩, c, dd, ⟨rk, e1, e2, e3⟩, f⟩ := id hT
  obtain ⟨n, hn⟩ : ∃ n : Nat, gI σ 1110 x 0 = (n : Int) := ⟨(gI σ 1110 x 0).toNat, by omega⟩
  obtain ⟨⟨x1, _⟩, _, _, _, ⟨y1, y2, y3⟩, _⟩ := id hD
  have here : ∀ (r : Int), r = r ∧ Fr LayF σ σ ∧ hs σ ≤ hs σ + 402 ∧ sl σ ≤ sl σ + 7300 ∧ ∃ T' I', TreI σ x m A.2.2.2 Ss b T' I' := fun r => ⟨rfl, Fr.rfl, by omega, by omega, T, I, hT⟩
  have hc12 : gI σ 1200 m 0 = gI σ 1101 x 0 ∧ gI σ 1101 x 0 ≤ 6 := ⟨i6.symm, i5.2⟩
  have hn64 : gI σ 1264 m 0 = (n : Int) ∧ n ≤ 6 := ⟨by rw [a3, hn], by omega⟩
  refine AC.of mo_X11_lay (Nat.le_of_ble_eq_true rfl) (bk_X11_lay_0 (x_imageOf i1 i5.2 (fun ni => ⟨fun _ => ⟨_, rfl, m_layTo i2 hc12 y1 y2 y3.1 hn64 (fun _ => here _) (fun q => absurd q ni) (fun q => absurd q ni) (fun q => absurd q ni)⟩, (fun r w => nomatch w)⟩) (fun im0 im1 => ?_)))
  obtain ⟨q1, q2, q3⟩ := i7 im im0 im1
  rw [q1]
  refine ⟨(fun w => nomatch w), fun r3 er => ?_⟩
  cases er
  have l304 : gI σ 304 (img σ x im) 0 = gI σ 1201 m im.toNat := q3.1
  have c304 := q2.2.1
  refine x_isStructure hD ?_
  by_cases hst : 0 ≤ st ∧ st < Ss.length
  · rw [if_pos hst]
    refine ⟨fun _ => ⟨fun w => ⟨_, rfl, m_layTo i2 hc12 y1 y2 y3.1 hn64 (fun q => absurd ⟨⟨im0, im1⟩, hst⟩ q) (fun _ _ _ => here _) (fun _ _ q => by omega) (fun _ _ q => by omega)⟩, fun w => ?_⟩, fun w => absurd w (by decide)⟩
    rw [l304]
    refine ⟨fun w2 => ?_, fun w2 => ⟨_, rfl, m_layTo i2 hc12 y1 y2 y3.1 hn64 (fun q => absurd ⟨⟨im0, im1⟩, hst⟩ q) (fun _ _ _ => here _) (fun _ _ q => by omega) (fun _ _ q => by omega)⟩⟩
    rw [hn]
    refine ⟨fun w3 => ⟨sp, b1, ?_⟩, fun w3 => ⟨_, rfl, m_layTo i2 hc12 y1 y2 y3.1 hn64 (fun q => absurd ⟨⟨im0, im1⟩, hst⟩ q) (fun _ _ q => by omega) (fun _ _ _ _ => here _) (fun _ _ _ q => by omega)⟩⟩
    rw [x1, e1]
    have n6 : n < 6 := by omega
    have pl : 0 ≤ place ∧ place ≤ gI σ 1201 m im.toNat := ⟨by omega, w2⟩
    -- what the class keeps of the reference's
    have k12 : ∀ σ1, Fr (LyA sp rk (OwnO σ sp)) σ σ1 → (∀ f j, 1200 ≤ f → gI σ1 f m j = gI σ f m j ∧ gJ σ1 f m j = gJ σ f m j) ∧ (∀ f j, 1100 ≤ f → gR σ1 f x j = gR σ f x j ∧ gI σ1 f x j = gI σ f x j) := fun σ1 f1 => ⟨fun f j f0 => ⟨f1.I i4 (fun q => by have := q.top; omega) j, f1.J i4 (fun q => by have := q.top; omega) j⟩, fun f j f0 => ⟨f1.R i3 (fun q => by have := q.top; omega) j, f1.I i3 (fun q => by have := q.top; omega) j⟩⟩
    refine x_layS (h := fun q => hasM σ m im q) hI hD b2 ⟨e2, e3⟩ ⟨im0, im1⟩ rfl rfl pl hst hR (fun s' es σ1 no1 f1 na lc10 v0 v1 v2 v67 T1 => ?_) (fun en σ1 f1 na lc10 mm hs1 sl1 => ?_)
    · -- laid
      obtain ⟨km, kx⟩ := k12 σ1 f1
      have I1 : ImgI σ1 x m := hI.fr f1 (fun f r z q => by have := q.lay; omega)
      have TR1 : TreI σ1 x m A.2.2.2 Ss b T I := tre_many (t := n) hI hT b1 f1 na lc10 Frm.rfl (fun _ _ _ => rfl) (fun _ _ => rfl) (fun t' ht' => by omega)
      have hx1 : x < hs σ1 ∧ m < hs σ1 := ⟨Nat.lt_of_lt_of_le i3 f1.1, Nat.lt_of_lt_of_le i4 f1.1⟩
      have sph : sp < hs σ1 := Nat.lt_of_lt_of_le b2.2.1 f1.1
      obtain ⟨l1, l2, l3, l4⟩ := lyT_ok hW pl hst es
      obtain ⟨l5, l6⟩ := lyT_0 hW pl hst es
      have rm := T1.2.2.2.2.2
      have c400 := T1.1.2.2
      have n1 : gI σ1 1110 x 0 = (n : Int) := by rw [(kx 1110 0 (by decide)).2]; exact hn
      have s120 : ∀ (υ : St) (sq : Nat), Fr (fun _ _ => False) σ1 υ → hs υ ≤ hs σ + 402 → sl υ ≤ sl σ + 7300 → TOb υ sq → Dj υ sq sp → (∀ t, t < 6 → ¬ t = n → ∀ tr, gR σ1 1108 x t = some tr → Dj υ sq tr) → AW g l (e + 99) MX11_lay 120 [some (vR 11 (some x)), none, none, none, none, some (vR 10 (some sp))] [vR 10 (some sq), vR 11 (some x)] υ (fun v σ1 => ∃ a, v = some (vI a) ∧ ACi g l (e + 99) MX12_lay [vR 12 (some m), vI im, vI st, vI place] σ1 (fun r σ2 => a = r ∧ Fr LayF σ σ2 ∧ hs σ2 ≤ hs σ + 402 ∧ sl σ2 ≤ sl σ + 7300 ∧ ∃ T' I', TreI σ2 x m A.2.2.2 Ss b T' I')) := by
        intro υ sq fυ hsυ slυ tq dq dqs
        have uI : ∀ f r j, r < hs σ1 → gI υ f r j = gI σ1 f r j := fun f r j hr => fυ.I hr (fun q => q) j
        have uR : ∀ f r j, r < hs σ1 → gR υ f r j = gR σ1 f r j := fun f r j hr => fυ.R hr (fun q => q) j
        have TRυ : TreI υ x m A.2.2.2 Ss b T I := TR1.fr hx1 fυ (fun f r _ q => q) (by rw [uI _ _ _ hx1.1]; exact Int.le_refl _) (fun im' _ _ => ⟨by unfold img; rw [uR _ _ _ hx1.1], by rw [uI _ _ _ hx1.2]; exact Int.le_refl _⟩)
        have Iυ : ImgI υ x m := I1.fr fυ (fun f r _ q => q)
        refine bk_X11_lay_120 ⟨x, rfl, Iυ.1, ?_⟩
        rw [uI _ _ _ hx1.1, n1, Int.toNat_natCast, show (n : Int) + 1 - 1 = (n : Int) by omega]
        refine ⟨⟨by omega, by omega⟩, sp, rfl, ⟨by omega, by omega⟩, ⟨by omega, by omega⟩, _, rfl, ?_⟩
        generalize hσc : sI (sR (sR υ 1109 x 0 (some sq)) 1108 x n (some sp)) 1110 x 0 ((n : Int) + 1) = σc
        have Fc : Frm (fun f r => r = x ∧ (f = 1108 ∨ f = 1109 ∨ f = 1110)) υ σc := by
          rw [← hσc]; exact (Frm.sR ⟨rfl, by omega⟩).trans ((Frm.sR ⟨rfl, by omega⟩).trans (Frm.sI ⟨rfl, by omega⟩))
        have d9 : gR σc 1109 x 0 = some sq := by rw [← hσc]; simp only [gR_sI, gR_sR, true_and, and_true, false_and, if_false, if_true, Nat.reduceEqDiff]
        have d8 : gR σc 1108 x n = some sp := by rw [← hσc]; simp only [gR_sI, gR_sR, true_and, and_true, false_and, if_false, if_true, Nat.reduceEqDiff]
        have d8o : ∀ t, ¬ t = n → gR σc 1108 x t = gR υ 1108 x t := fun t ht => by rw [← hσc]; simp only [gR_sI, gR_sR, true_and, and_true, false_and, if_false, ht, Nat.reduceEqDiff]
        have d10 : gI σc 1110 x 0 = (n : Int) + 1 := by rw [← hσc]; exact gI_slf _ _ _ _ _
        have Ic : ImgI σc x m := Iυ.fr Fc.fr (fun f r z q => by omega)
        have cm : ∀ f j, 1200 ≤ f → gI σc f m j = gI σ f m j ∧ gJ σc f m j = gJ σ f m j := fun f j f0 => ⟨by rw [Fc.I (fun q => by omega), uI _ _ _ hx1.2]; exact (km f j f0).1, by rw [Fc.J (fun q => by omega), fυ.J hx1.2 (fun q => q)]; exact (km f j f0).2⟩
        have c11 : gI σc 1101 x 0 = gI σ 1101 x 0 := by rw [Fc.I (fun q => by omega), uI _ _ _ hx1.1]; exact (kx 1101 0 (by decide)).2
        have eh : (fun q => hasM σc m im q) = fun q => hasM σ m im q := by
          funext q
          unfold hasM
          rw [(cm 1203 _ (by decide)).1, (cm 1202 _ (by decide)).1]
          exact hv_congr (fun i _ => (cm 1204 _ (by decide)).1) rfl
        refine m_layTo (n := n) (cnt := gI σ 1101 x 0) Ic.2.1 ⟨by rw [(cm 1200 0 (by decide)).1]; exact hc12.1, i5.2⟩ (by rw [(cm 1218 0 (by decide)).1]; exact y1) y2 (by rw [(cm 1219 b (by decide)).1]; exact y3.1) ⟨by rw [(cm 1264 0 (by decide)).1]; exact hn64.1, hn64.2⟩ (fun q => absurd ⟨⟨im0, im1⟩, hst⟩ q) (fun _ _ q => absurd (by rw [(cm 1201 _ (by decide)).1]; exact pl) q) (fun _ _ _ q => by omega) (fun _ _ _ _ => ?_)
        refine m_laidAt (h := fun q => hasM σ m im q) (len := gI σ 1201 m im.toNat) Ic Ic.2.1 ⟨by rw [(cm 1218 0 (by decide)).1]; exact y1, y2, y3.ag (fun f i z => cm f i (by omega))⟩ hW hB hsz ⟨im0, by rw [c11]; exact im1⟩ (by rw [(cm 1201 _ (by decide)).1]) eh.symm (by omega) pl hst (fun s2 es2 σ2 F2 O2 o65 q65 q66 qN => ⟨?_, fun _ => ⟨rfl, ?_, ?_, ?_, ?_⟩, fun z => absurd z (by decide)⟩) (fun en => absurd en (by rw [es]; simp))
        · rw [F2.I (fun q => by omega), (cm 1264 0 (by decide)).1]; exact hn64.1
        · have w1 : Fr LayF σ υ := (f1.mono (fun f r q => q.lay)).trans (fυ.mono (fun f r q => absurd q (fun y => y)))
          exact w1.trans ((Fc.mono (fun f r q => by omega)).trans ((F2.mono (fun f r q => by omega)).trans (Frm.sI (by omega)))).fr
        · show hs σ2 ≤ _; rw [F2.2.1, Fc.2.1]; exact hsυ
        · show sl σ2 ≤ _; rw [F2.2.2.1, Fc.2.2.1]; exact slυ
        · rw [es] at es2
          obtain rfl : s' = s2 := Option.some.inj es2
          have F3 : Frm (fun f r => r = m ∧ (f = 1253 ∨ (1264 ≤ f ∧ f ≤ 1289))) σc (sI σ2 1264 m 0 ((n : Int) + 1)) := (F2.mono (fun f r q => by omega)).trans (Frm.sI (by omega))
          have g3 : ∀ f j, ¬ f = 1264 → gI (sI σ2 1264 m 0 ((n : Int) + 1)) f m j = gI σ2 f m j := fun f j z => by rw [gI_sI, if_neg (fun q => z q.1)]
          have F4 : Frm (SwF x m) υ (sI σ2 1264 m 0 ((n : Int) + 1)) := (Fc.mono (fun f r q => Or.inl q)).trans (F3.mono (fun f r q => Or.inr q))
          have uM : ∀ f j, 1264 ≤ f → gI σc f m j = gI υ f m j := fun f j z => Fc.I (fun q => by omega) j
          have imE : img (sI σ2 1264 m 0 ((n : Int) + 1)) x im = img σ x im := by
            unfold img
            rw [F4.R (fun q => by omega), uR _ _ _ hx1.1, (kx 1100 _ (by decide)).1]
          have hV : TrV (sI σ2 1264 m 0 ((n : Int) + 1)) x m sp n A.2.2.2 Ss b s' im := by
            refine tv_of (len := gI σ 1201 m im.toNat) (st := st) (place := place) T1 (fun f j z0 z1 => ?_) (fun f i z0 z1 hi => ?_) ⟨im0, by rw [F4.I (fun q => by omega), uI _ _ _ hx1.1, (kx 1101 0 (by decide)).2]; exact im1⟩ (by rw [imE]; exact v0) v1 v2 ⟨by rw [F4.R (fun q => by omega), uR _ _ _ hx1.1, (kx 1105 _ (by decide)).1, x1]; exact v67.1, by rw [F4.R (fun q => by omega), uR _ _ _ hx1.1, (kx 1104 _ (by decide)).1, e1]; exact v67.2⟩ l6 l4 l5 l3 l1 l2 (lyT_j hW hst.1 es) (by rw [F4.I (fun q => by omega), uI _ _ _ hx1.2]; exact (km 1201 _ (by decide)).1) (by rw [g3 _ _ (by decide)]; exact q65) (by rw [g3 _ _ (by decide)]; exact q66) (fun i hi => (qN i hi).ag (fun f j z0 z1 => g3 f j (by omega)))
            · have w := (fυ.2 f sp sph).2 (fun q => q) j
              have w2 := F4.2.2.2 f sp (fun q => by omega) j
              exact ⟨w2.1.trans w.1, w2.2.1.trans w.2.1, w2.2.2.trans w.2.2⟩
            · have nh := (T1.2.2.1 i (no1 i) (by omega) (T1.2.1 i hi)).1
              have w := (fυ.2 f (no1 i) nh).2 (fun q => q) 0
              have w2 := F4.2.2.2 f (no1 i) (fun q => by omega) 0
              exact ⟨w2.1.trans w.1, w2.2.1.trans w.2.1, w2.2.2.trans w.2.2⟩
          refine ⟨_, _, tre_swap TRυ (by rw [uR _ _ _ hx1.1, (kx 1109 0 (by decide)).1]; exact b1) (by rw [uI _ _ _ hx1.1]; exact n1) n6 tq dq (fun t ht hne tr htr => dqs t ht hne tr (by rw [uR _ _ _ hx1.1] at htr; exact htr)) F4 (by rw [F3.R (fun q => by omega)]; exact d9) (by rw [F3.R (fun q => by omega)]; exact d8) (fun t ht => by rw [F3.R (fun q => by omega)]; exact d8o t ht) (by rw [F3.I (fun q => by omega)]; exact d10) (gI_slf _ _ _ _ _) (fun f j z => by rw [g3 _ _ (by omega), O2 f j z]; exact uM f j (by omega)) (fun j z => by rw [g3 _ _ (by decide), o65 j z]; exact uM 1265 j (by decide)) hV⟩
      refine ⟨sp, by rw [(kx 1109 0 (by decide)).1]; exact b1, fun _ => ⟨I1.1, ?_⟩, fun w => absurd T1.1.2.1 w⟩
      rw [n1, Int.toNat_natCast, (kx 1109 0 (by decide)).1, b1]
      refine ⟨⟨by omega, by omega⟩, fun z => ⟨⟨by omega, by omega⟩, AC.of mo_X10_init (Nat.le_of_ble_eq_true rfl) (bk_X10_init_0 ⟨⟨by rw [gL_sNew, if_pos rfl], by rw [hs_sNew]; omega, by rw [sl_sNew]; omega⟩, rfl, ?_⟩)⟩, fun r19 z => ?_⟩
      · obtain ⟨o1, o2, o3⟩ := new_tob (σ := σ1)
        refine s120 _ (hs σ1) o3 (by rw [hs_sArr, hs_sNew]; omega) (by rw [sl_sArr, sl_sNew]; omega) o1 ⟨by omega, fun j j' r _ _ a _ => by rw [o2] at a; cases a⟩ (fun t ht hne tr htr => ⟨fun q => ?_, fun j j' r _ _ a _ => by rw [o2] at a; cases a⟩)
        have := (TR1.2.2.1 t ht tr htr).2.1
        omega
      · obtain ⟨_, ⟨sp', w1, w2, w3⟩, w4, w5, _⟩ := TR1
        rw [(kx 1109 0 (by decide)).1, b1] at w1
        obtain rfl : sp = sp' := Option.some.inj w1
        rw [z]
        exact s120 σ1 r19 Fr.rfl (by omega) (by omega) (w4 n n6 r19 z) (w3 n n6 r19 z).sy (fun t ht hne tr htr => w5 n t n6 ht (fun q => hne q.symm) r19 tr z htr)
    · -- too many
      obtain ⟨km, kx⟩ := k12 σ1 f1
      have I1 : ImgI σ1 x m := hI.fr f1 (fun f r z q => by have := q.lay; omega)
      refine ⟨sp, by rw [(kx 1109 0 (by decide)).1]; exact b1, fun w => by omega, fun _ => ⟨_, rfl, m_layTo (n := n) (cnt := gI σ 1101 x 0) I1.2.1 ⟨by rw [(km 1200 0 (by decide)).1]; exact hc12.1, i5.2⟩ (by rw [(km 1218 0 (by decide)).1]; exact y1) y2 (by rw [(km 1219 b (by decide)).1]; exact y3.1) ⟨by rw [(km 1264 0 (by decide)).1]; exact hn64.1, hn64.2⟩ (fun q => absurd ⟨⟨im0, im1⟩, hst⟩ q) (fun _ _ q => absurd (by rw [(km 1201 _ (by decide)).1]; exact pl) q) (fun _ _ _ q => by omega) (fun _ _ _ _ => ?_)⟩⟩
      have eh : (fun q => hasM σ1 m im q) = fun q => hasM σ m im q := by
        funext q
        unfold hasM
        rw [(km 1203 _ (by decide)).1, (km 1202 _ (by decide)).1]
        exact hv_congr (fun i _ => (km 1204 _ (by decide)).1) rfl
      refine m_laidAt (h := fun q => hasM σ m im q) (len := gI σ 1201 m im.toNat) I1 I1.2.1 ⟨by rw [(km 1218 0 (by decide)).1]; exact y1, y2, y3.ag (fun f i z => km f i (by omega))⟩ hW hB hsz ⟨im0, by rw [(kx 1101 0 (by decide)).2]; exact im1⟩ (by rw [(km 1201 _ (by decide)).1]) eh.symm (by omega) pl hst (fun s' es => absurd es (by rw [en]; simp)) (fun _ σ2 F2 O2 o65 => ⟨?_, fun z => absurd rfl z, fun _ => ⟨rfl, ?_, ?_, ?_, T, I, ?_⟩⟩)
      · rw [F2.I (fun q => by omega), (km 1264 0 (by decide)).1]; exact hn64.1
      · exact (f1.mono (fun f r q => q.lay)).trans (F2.mono (fun f r q => by omega)).fr
      · rw [F2.2.1]; omega
      · rw [F2.2.2.1]; omega
      · exact tre_many hI hT b1 f1 na lc10 F2 O2 o65 (fun t' ht' => by omega)
  · rw [if_neg hst]
    exact ⟨fun w => absurd rfl w, fun _ => ⟨_, rfl, m_layTo i2 hc12 y1 y2 y3.1 hn64 (fun _ => here _) (fun _ q => absurd q hst) (fun _ q => absurd q hst) (fun _ q => absurd q hst)⟩⟩
end S5
