/-! lay, both -/
section S5
variable {g : GP} {l : Launch} {d e : Nat} {σ σ' σ2 : St} {x m p b sp sq rk n : Nat} {A B : DPa} {En : List Enm} {Ss : List Stc} {T : Nat → TS} {I : Nat → Int} {st im place len : Int} {h : Int → Int} {fo : Nat → Nat → Nat} {s s' : TS}
theorem lyT_0 (hW : LW En Ss) (h1 : 0 ≤ place ∧ place ≤ len) (hst : 0 ≤ st ∧ st < Ss.length) (el : lyT En Ss h len st place = some s') : s'.d 0 0 = 0 ∧ s'.d 7 0 = st := by
  have hc : TS0.c < 400 := by show 0 < 400; omega
  obtain ⟨I1, U1⟩ := add_mk (Ss := Ss) (len := len) (s := TS0) (par := -1) (place := place) (st := st) TI0 TU0 hc ⟨by omega, by show (-1 : Int) < 0; omega⟩ (fun i ei => by omega) h1 hst
  have es : lyS En Ss h len 20 (mkM TS0 0 (-1) place (-1) place st 0 (nmS Ss st)) 0 st = some s' := by
    unfold lyT addS mkO at el
    rw [if_pos hc] at el
    exact el
  have ex := (lyS_ok (h := h) (len := len) hW 20 _ 0 st s' I1 U1 rfl rfl rfl rfl es).2.2
  exact ⟨by rw [ex.2.2 0 (by decide) (by decide) (by decide)]; rfl, by rw [ex.2.2 7 (by decide) (by decide) (by decide)]; rfl⟩
/-- the reference's lay up to the laying -/
theorem m_layTo {cnt : Int} {R : Int → St → Prop} (hL : LC 12 σ m) (hc : gI σ 1200 m 0 = cnt ∧ cnt ≤ 6) (hb : gI σ 1218 m 0 = (b : Int)) (b2 : b < 2) (hs19 : gI σ 1219 m b = (Ss.length : Int)) (hn : gI σ 1264 m 0 = (n : Int) ∧ n ≤ 6)
    (r1 : ¬ ((0 ≤ im ∧ im < cnt) ∧ (0 ≤ st ∧ st < Ss.length)) → R (-1) σ) (r3 : (0 ≤ im ∧ im < cnt) → (0 ≤ st ∧ st < Ss.length) → ¬ (0 ≤ place ∧ place ≤ gI σ 1201 m im.toNat) → R (-3) σ) (r2 : (0 ≤ im ∧ im < cnt) → (0 ≤ st ∧ st < Ss.length) → (0 ≤ place ∧ place ≤ gI σ 1201 m im.toNat) → n = 6 → R (-2) σ)
    (r0 : (0 ≤ im ∧ im < cnt) → (0 ≤ st ∧ st < Ss.length) → (0 ≤ place ∧ place ≤ gI σ 1201 m im.toNat) → n < 6 → ACi g l (e + 98) MX12_laidAt [vR 12 (some m), vI (n : Int), vI im, vI st, vI place] σ (fun v σ12 => gI σ12 1264 m 0 = (n : Int) ∧ (¬ v = 0 → R (n : Int) (sI σ12 1264 m 0 ((n : Int) + 1))) ∧ (v = 0 → R (-6) σ12))) : ACi g l (e + 99) MX12_lay [vR 12 (some m), vI im, vI st, vI place] σ R := by
  refine AC.of mo_X12_lay (Nat.le_of_ble_eq_true rfl) (bk_X12_lay_0 (m_isImage ?_))
  rw [hc.1]
  by_cases c1 : 0 ≤ im ∧ im < cnt
  · rw [if_pos c1]
    refine ⟨fun w => absurd w (by decide), fun _ => m_isStruct hL hb b2 hs19 ?_⟩
    by_cases c2 : 0 ≤ st ∧ st < Ss.length
    · rw [if_pos c2]
      refine ⟨fun _ => ⟨fun w => ⟨_, rfl, r3 c1 c2 (by omega)⟩, fun w => ⟨hL, ⟨by omega, by omega⟩, fun w2 => ?_, fun w2 => ⟨_, rfl, r3 c1 c2 (by omega)⟩⟩⟩, fun w => absurd w (by decide)⟩
      rw [hn.1]
      refine ⟨fun w3 => ACi.mono (fun v σ12 q => ?_) (r0 c1 c2 ⟨by omega, w2⟩ (by omega)), fun w3 => ⟨_, rfl, r2 c1 c2 ⟨by omega, w2⟩ (by omega)⟩⟩
      obtain ⟨q1, q2, q3⟩ := q
      rw [q1, show (n : Int) + 1 - 1 = (n : Int) by omega]
      exact ⟨fun z => ⟨⟨by omega, by omega⟩, ⟨by omega, by omega⟩, _, rfl, q2 z⟩, fun z => ⟨_, rfl, q3 z⟩⟩
    · rw [if_neg c2]
      exact ⟨fun w => absurd rfl w, fun _ => ⟨_, rfl, r1 (fun q => c2 q.2)⟩⟩
  · rw [if_neg c1]
    exact ⟨fun _ => ⟨_, rfl, r1 (fun q => c1 q.1)⟩, fun w => absurd rfl w⟩
theorem op_lay (hI : ImgI σ x m) (hD : DsI σ x m p A B En Ss b) (hT : TreI σ x m A.2.2.2 Ss b T I) (hR : hs σ + 402 ≤ gB g + 600000 ∧ sl σ + 7300 ≤ 7302250) : ACi g l (e + 99) MX11_lay [vR 11 (some x), vI im, vI st, vI place] σ (fun a σ1 => ACi g l (e + 99) MX12_lay [vR 12 (some m), vI im, vI st, vI place] σ1 (fun r σ2 => a = r ∧ Fr LayF σ σ2 ∧ hs σ2 ≤ hs σ + 402 ∧ sl σ2 ≤ sl σ + 7300 ∧ ∃ T' I', TreI σ2 x m A.2.2.2 Ss b T' I')) := by
  obtain ⟨i1, i2, i3, i4, i5, i6, i7, i8, i9⟩ := id hI
  obtain ⟨hW, hsz, hB⟩ := hD.lw
  obtain ⟨⟨a1, a2, a3⟩, ⟨sp, b1, b2, b3⟩, c, dd, ⟨rk, e1, e2, e3⟩, f⟩ := id hT
  obtain ⟨n, hn⟩ : ∃ n : Nat, gI σ 1110 x 0 = (n : Int) := ⟨(gI σ 1110 x 0).toNat, by omega⟩
  obtain ⟨⟨x1, _⟩, _, _, _, ⟨y1, y2, y3⟩, _⟩ := id hD
  have here : ∀ (r : Int), r = r ∧ Fr LayF σ σ ∧ hs σ ≤ hs σ + 402 ∧ sl σ ≤ sl σ + 7300 ∧ ∃ T' I', TreI σ x m A.2.2.2 Ss b T' I' := fun r => ⟨rfl, Fr.rfl, by omega, by omega, T, I, hT⟩
  have hc12 : gI σ 1200 m 0 = gI σ 1101 x 0 ∧ gI σ 1101 x 0 ≤ 6 := ⟨i6.symm, i5.2⟩
  have hn64 : gI σ 1264 m 0 = (n : Int) ∧ n ≤ 6 := ⟨by rw [a3, hn], by omega⟩
  refine AC.of mo_X11_lay (Nat.le_of_ble_eq_true rfl) (bk_X11_lay_0 (x_imageOf i1 i5.2 (fun ni => ⟨fun _ => ⟨_, rfl, m_layTo i2 hc12 y1 y2 y3.1 hn64 (fun _ => here _) (fun q => absurd q ni) (fun q => absurd q ni) (fun q => absurd q ni)⟩, (fun r w => nomatch w)⟩) (fun im0 im1 => ?_)))
  obtain ⟨q1, q2, q3⟩ := i7 im im0 im1
  rw [q1]
  refine ⟨(fun w => nomatch w), fun r3 er => ?_⟩
  cases er
  have l304 : gI σ 304 (img σ x im) 0 = gI σ 1201 m im.toNat := q3.1
  have c304 := q2.2.1
  refine x_isStructure hD ?_
  by_cases hst : 0 ≤ st ∧ st < Ss.length
  · rw [if_pos hst]
    refine ⟨fun _ => ⟨fun w => ⟨_, rfl, m_layTo i2 hc12 y1 y2 y3.1 hn64 (fun q => absurd ⟨⟨im0, im1⟩, hst⟩ q) (fun _ _ _ => here _) (fun _ _ q => by omega) (fun _ _ q => by omega)⟩, fun w => ?_⟩, fun w => absurd w (by decide)⟩
    rw [l304]
    refine ⟨fun w2 => ?_, fun w2 => ⟨_, rfl, m_layTo i2 hc12 y1 y2 y3.1 hn64 (fun q => absurd ⟨⟨im0, im1⟩, hst⟩ q) (fun _ _ _ => here _) (fun _ _ q => by omega) (fun _ _ q => by omega)⟩⟩
    rw [hn]
    refine ⟨fun w3 => ⟨sp, b1, ?_⟩, fun w3 => ⟨_, rfl, m_layTo i2 hc12 y1 y2 y3.1 hn64 (fun q => absurd ⟨⟨im0, im1⟩, hst⟩ q) (fun _ _ q => by omega) (fun _ _ _ _ => here _) (fun _ _ _ q => by omega)⟩⟩
    rw [x1, e1]
    have n6 : n < 6 := by omega
    have pl : 0 ≤ place ∧ place ≤ gI σ 1201 m im.toNat := ⟨by omega, w2⟩
    -- what the class keeps of the reference's
    have k12 : ∀ σ1, Fr (LyA sp rk (OwnO σ sp)) σ σ1 → (∀ f j, 1200 ≤ f → gI σ1 f m j = gI σ f m j ∧ gJ σ1 f m j = gJ σ f m j) ∧ (∀ f j, 1100 ≤ f → gR σ1 f x j = gR σ f x j ∧ gI σ1 f x j = gI σ f x j) := fun σ1 f1 => ⟨fun f j f0 => ⟨f1.I i4 (fun q => by have := q.top; omega) j, f1.J i4 (fun q => by have := q.top; omega) j⟩, fun f j f0 => ⟨f1.R i3 (fun q => by have := q.top; omega) j, f1.I i3 (fun q => by have := q.top; omega) j⟩⟩
    refine x_layS (h := fun q => hasM σ m im q) hI hD b2 ⟨e2, e3⟩ ⟨im0, im1⟩ rfl rfl pl hst hR (fun s' es σ1 no1 f1 na lc10 v0 v1 v2 T1 => ?_) (fun en σ1 f1 na lc10 mm hs1 sl1 => ?_)
    · sorry
    · -- too many
      obtain ⟨km, kx⟩ := k12 σ1 f1
      have I1 : ImgI σ1 x m := hI.fr f1 (fun f r z q => by have := q.lay; omega)
      refine ⟨sp, by rw [(kx 1109 0 (by decide)).1]; exact b1, fun w => by omega, fun _ => ⟨_, rfl, m_layTo (n := n) (cnt := gI σ 1101 x 0) I1.2.1 ⟨by rw [(km 1200 0 (by decide)).1]; exact hc12.1, i5.2⟩ (by rw [(km 1218 0 (by decide)).1]; exact y1) y2 (by rw [(km 1219 b (by decide)).1]; exact y3.1) ⟨by rw [(km 1264 0 (by decide)).1]; exact hn64.1, hn64.2⟩ (fun q => absurd ⟨⟨im0, im1⟩, hst⟩ q) (fun _ _ q => absurd (by rw [(km 1201 _ (by decide)).1]; exact pl) q) (fun _ _ _ q => by omega) (fun _ _ _ _ => ?_)⟩⟩
      have eh : (fun q => hasM σ1 m im q) = fun q => hasM σ m im q := by
        funext q
        unfold hasM
        rw [(km 1203 _ (by decide)).1, (km 1202 _ (by decide)).1]
        exact hv_congr (fun i _ => (km 1204 _ (by decide)).1) rfl
      refine m_laidAt (h := fun q => hasM σ m im q) (len := gI σ 1201 m im.toNat) I1 I1.2.1 ⟨by rw [(km 1218 0 (by decide)).1]; exact y1, y2, y3.ag (fun f i z => km f i (by omega))⟩ hW hB hsz ⟨im0, by rw [(kx 1101 0 (by decide)).2]; exact im1⟩ (by rw [(km 1201 _ (by decide)).1]) eh.symm (by omega) pl hst (fun s' es => absurd es (by rw [en]; simp)) (fun _ σ2 F2 O2 o65 => ⟨?_, fun z => absurd rfl z, fun _ => ⟨rfl, ?_, ?_, ?_, T, I, ?_⟩⟩)
      · rw [F2.I (fun q => by omega), (km 1264 0 (by decide)).1]; exact hn64.1
      · exact (f1.mono (fun f r q => q.lay)).trans (F2.mono (fun f r q => by omega)).fr
      · rw [F2.2.1]; omega
      · rw [F2.2.2.1]; omega
      · exact tre_many hI hT b1 f1 na lc10 F2 O2 o65 (fun t' ht' => by omega)
  · rw [if_neg hst]
    exact ⟨fun w => absurd rfl w, fun _ => ⟨_, rfl, m_layTo i2 hc12 y1 y2 y3.1 hn64 (fun _ => here _) (fun _ q => absurd q hst) (fun _ q => absurd q hst) (fun _ q => absurd q hst)⟩⟩
end S5
