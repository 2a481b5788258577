/-! clear, out, node, kid, value -/
abbrev LkF (f _r : Nat) : Prop := f = 1253 ∨ f = 1280 ∨ f = 1281
section S6
variable {g : GP} {l : Launch} {d e : Nat} {σ σ' σ2 : St} {x m p b sp sq rk n : Nat} {A B : DPa} {En : List Enm} {Ss : List Stc} {T : Nat → TS} {I : Nat → Int} {st im place len t k w : Int} {h : Int → Int} {fo : Nat → Nat → Nat} {s s' : TS}
theorem imr_of (hI : ImgI σ x m) (him : 0 ≤ im ∧ im < gI σ 1101 x 0) (h81 : gI σ 1281 m 0 = im) : ImR σ m im (gI σ 1201 m im.toNat) (fun q => hasM σ m im q) := by
  obtain ⟨i1, i2, i3, i4, i5, i6, i7, i8, i9⟩ := id hI
  obtain ⟨q1, q2, q3⟩ := i7 im him.1 him.2
  have l304 : gI σ 304 (img σ x im) 0 = gI σ 1201 m im.toNat := q3.1
  have l303 : gI σ 303 (img σ x im) 0 = gI σ 1202 m im.toNat := q3.2.1
  have c304 := q2.2.1
  have c303 := q2.2.2.1
  refine ⟨i2, h81, him.1, by omega, rfl, by omega, by omega, by omega, fun p p0 p1 => ?_⟩
  have hb := q2.now p0 (by omega)
  have hr := q3.has q2 p0 (by omega)
  exact ⟨rfl, by show 0 ≤ hasM σ m im p; omega, by show hasM σ m im p ≤ 255; omega⟩
theorem fdr_of (b2 : b < 2) (hD : DR σ m b n En Ss) : FdR σ m b Ss := by
  refine ⟨b2, fun fl F hF => ?_⟩
  obtain ⟨f0, S, hS, hk⟩ := gF_some hF
  have l1 := (List.getElem?_eq_some_iff.mp hS).1
  have l2 := (List.getElem?_eq_some_iff.mp hk).1
  have l3 := hD.2.1
  obtain ⟨_, _, _, s4, s5⟩ := hD.2.2.2.2.2 _ S hS
  refine ⟨by omega, ?_⟩
  have := (s5 _ F hk).1
  rw [show 14 * (20 * b + (fl / 14).toNat) + (fl % 14).toNat = 280 * b + fl.toNat by omega] at this
  exact this
theorem DsI.fdc (hD : DsI σ x m p A B En Ss b) : FdC σ A.1 A.2.1 A.2.2.2 Ss := fun fl F hF => by
  obtain ⟨_, _, _, ⟨d1, _⟩, _⟩ := hD
  obtain ⟨_, S, hS, hk⟩ := gF_some hF
  exact (d1.2.2.2.2.2 _ S hS).2.2.2.2 _ F hk
theorem x_treeOf {P : Option Nat → St → Prop} (hL : LC 11 σ x) (hT : TreI σ x m fo Ss b T I) (h0 : ¬ (0 ≤ t ∧ t < gI σ 1110 x 0) → P none σ) (h1 : 0 ≤ t → t < gI σ 1110 x 0 → ∀ tr, gR σ 1108 x t.toNat = some tr → TOb σ tr → TrV σ x m tr t.toNat fo Ss b (T t.toNat) (I t.toNat) → P (some tr) σ) : ACr g l d MX11_treeOf 10 [vR 11 (some x), vI t] σ P := by
  have c6 := hT.1.2.1
  refine AC.of mo_X11_treeOf (Nat.le_of_ble_eq_true rfl) (bk_X11_treeOf_0 ⟨fun w => ⟨_, rfl, h0 (by omega)⟩, fun w => ⟨fun w2 => ⟨hL, ⟨by omega, by omega⟩, ?_⟩, fun w2 => ⟨_, rfl, h0 (by omega)⟩⟩⟩)
  obtain ⟨tr, f1, f2⟩ := hT.2.2.2.2.2 t.toNat (by omega)
  rw [f1]
  exact ⟨_, rfl, h1 (by omega) w2 tr f1 (hT.2.2.1 t.toNat (by omega) tr f1) f2⟩
theorem x_nodeOf {P : Option Nat → St → Prop} (hL : LC 11 σ x) (hT : TreI σ x m fo Ss b T I) (h0 : ¬ ((0 ≤ t ∧ t < gI σ 1110 x 0) ∧ (0 ≤ k ∧ k < (T t.toNat).c)) → P none σ) (h1 : 0 ≤ t → t < gI σ 1110 x 0 → 0 ≤ k → k < (T t.toNat).c → ∀ tr, gR σ 1108 x t.toNat = some tr → TOb σ tr → TrV σ x m tr t.toNat fo Ss b (T t.toNat) (I t.toNat) → P (some (noO σ tr k.toNat)) σ) : ACr g l (d + 1) MX11_nodeOf 5 [vR 11 (some x), vI t, vI k] σ P := by
  refine AC.of mo_X11_nodeOf (Nat.le_of_ble_eq_true rfl) (bk_X11_nodeOf_0 (x_treeOf hL hT (fun q => ⟨fun _ => ⟨_, rfl, h0 (fun y => q y.1)⟩, (fun r w => nomatch w)⟩) (fun t0 t1 tr f1 o1 v1 => ⟨(fun w => nomatch w), fun r er => ?_⟩)))
  cases er
  have c5 := v1.2.1.2.2.2.2.1
  have c4 := v1.2.1.2.2.2.1
  refine ⟨fun w => ⟨_, rfl, h0 (fun y => by omega)⟩, fun w => ?_⟩
  rw [c5]
  refine ⟨fun w2 => ⟨o1.1, ⟨by omega, by omega⟩, _, rfl, ?_⟩, fun w2 => ⟨_, rfl, h0 (fun y => by omega)⟩⟩
  rw [v1.2.2.1 k.toNat (by omega)]
  exact h1 t0 t1 (by omega) (by omega) tr f1 o1 v1
theorem m_isNode {P : Int → St → Prop} (hL : LC 12 σ m) (hb : gI σ 1218 m 0 = (b : Int)) (hT : TreI σ x m fo Ss b T I) (h0 : ¬ ((0 ≤ t ∧ t < gI σ 1110 x 0) ∧ (0 ≤ k ∧ k < (T t.toNat).c)) → P 0 σ) (h1 : 0 ≤ t → t < gI σ 1110 x 0 → 0 ≤ k → k < (T t.toNat).c → ∀ σ', Frm (fun f r => r = m ∧ LkF f r) σ σ' → gI σ' 1280 m 0 = t → gI σ' 1281 m 0 = I t.toNat → gI σ' 1253 m 0 = (b : Int) → P 1 σ') : ACi g l d MX12_isNode [vR 12 (some m), vI t, vI k] σ P := by
  obtain ⟨a1, a2, a3⟩ := hT.1
  refine AC.of mo_X12_isNode (Nat.le_of_ble_eq_true rfl) (bk_X12_isNode_0 ⟨fun w => ⟨_, rfl, h0 (fun y => by omega)⟩, fun w => ?_⟩)
  rw [a3]
  refine ⟨fun w2 => ⟨_, rfl, h0 (fun y => by omega)⟩, fun w2 => ⟨fun w3 => ⟨_, rfl, h0 (fun y => by omega)⟩, fun w3 => ⟨hL, ⟨by omega, by omega⟩, ?_⟩⟩⟩
  obtain ⟨tr, f1, f2⟩ := hT.2.2.2.2.2 t.toNat (by omega)
  have c66 := f2.2.1.2.2.2.2.2
  have c65 := f2.1.2.2
  rw [c66, c65, hb]
  refine ⟨fun w4 => ⟨_, rfl, h1 (by omega) (by omega) (by omega) w4 _ ?_ ?_ ?_ ?_⟩, fun w4 => ⟨_, rfl, h0 (fun y => by omega)⟩⟩
  · exact (Frm.sI ⟨rfl, by omega⟩).trans ((Frm.sI ⟨rfl, by omega⟩).trans (Frm.sI ⟨rfl, by omega⟩))
  · rw [gI_sI, if_neg (by simp), gI_sI, if_neg (by simp), gI_slf]
  · rw [gI_sI, if_neg (by simp), gI_slf]
  · exact gI_slf _ _ _ _ _
theorem op_clear (hT : TreI σ x m fo Ss b T I) (hx : ¬ x = m) : ACi g l d MX11_clear [vR 11 (some x)] σ (fun a σ1 => ACi g l d MX12_clear [vR 12 (some m)] σ1 (fun r σ2 => a = r ∧ Frm (fun f r => (r = x ∧ f = 1110) ∨ (r = m ∧ f = 1264)) σ σ2 ∧ TreI σ2 x m fo Ss b T I)) := by
  refine AC.of mo_X11_clear (Nat.le_of_ble_eq_true rfl) (bk_X11_clear_0 ⟨_, rfl, AC.of mo_X12_clear (Nat.le_of_ble_eq_true rfl) (bk_X12_clear_0 ⟨_, rfl, ?_, ?_, ?_⟩)⟩)
  · rw [gI_sI, if_neg (by simp)]; exact hT.1.2.2.symm
  · exact (Frm.sI (Or.inl ⟨rfl, rfl⟩)).trans (Frm.sI (Or.inr ⟨rfl, rfl⟩))
  · obtain ⟨⟨a1, a2, a3⟩, ⟨sp, b1, b2, b3⟩, c, dd, ⟨rk, e1, e2, e3⟩, f⟩ := hT
    have z : gI (sI (sI σ 1110 x 0 0) 1264 m 0 0) 1110 x 0 = 0 := by rw [gI_sI, if_neg (by simp), gI_slf]
    have hF : Frm (fun f r => (r = x ∧ f = 1110) ∨ (r = m ∧ f = 1264)) σ (sI (sI σ 1110 x 0 0) 1264 m 0 0) := (Frm.sI (Or.inl ⟨rfl, rfl⟩)).trans (Frm.sI (Or.inr ⟨rfl, rfl⟩))
    have to2 : ∀ tr, TOb σ tr → TOb (sI (sI σ 1110 x 0 0) 1264 m 0 0) tr := fun tr ⟨q1, q2, q3⟩ => ⟨hF.lc q1, q2, fun j r hj hr => by rw [hF.I (fun q => by omega)]; exact q3 j r hj hr⟩
    exact ⟨⟨by omega, by omega, by rw [gI_slf, z]⟩, ⟨sp, b1, to2 sp b2, b3⟩, fun t ht tr htr => to2 tr (c t ht tr htr), dd, ⟨rk, e1, hF.lc e2, e3⟩, fun t ht => by rw [z] at ht; omega⟩
theorem op_out (ho : gJ σ 1112 x 0 = gJ σ 1290 m 0) : ACj g l d MX11_out [vR 11 (some x)] σ (fun a σ1 => ACj g l d MX12_out [vR 12 (some m)] σ1 (fun r σ2 => a = r ∧ σ2 = σ)) :=
  AC.of mo_X11_out (Nat.le_of_ble_eq_true rfl) (bk_X11_out_0 ⟨_, rfl, AC.of mo_X12_out (Nat.le_of_ble_eq_true rfl) (bk_X12_out_0 ⟨_, rfl, ho, rfl⟩)⟩)
/-- the number of a node, outward -/
theorem m_outward {y : Int} {P : Int → St → Prop} (h80 : gI σ 1280 m 0 = t) (ht : 0 ≤ t ∧ t < 7) (hy : -1 ≤ y ∧ y ≤ 400) (hP : P y σ) : ACi g l d MX12_outward [vR 12 (some m), vI (oI t.toNat y)] σ P := by
  refine AC.of mo_X12_outward (Nat.le_of_ble_eq_true rfl) (bk_X12_outward_0 ?_)
  rw [h80]
  unfold oI
  by_cases q : y < 0
  · rw [if_pos q]
    rw [show y = -1 by omega] at hP
    exact ⟨fun w => absurd w (by decide), fun _ => ⟨_, rfl, hP⟩⟩
  · rw [if_neg q]
    refine ⟨fun _ => ⟨⟨by omega, by omega⟩, ⟨by omega, by omega⟩, _, rfl, ?_⟩, fun w => absurd (by omega) w⟩
    rw [show ((400 * t.toNat : Nat) : Int) + y - 400 * t = y by omega]; exact hP
/-- what is told of a node -/
def ndV (s : TS) (k : Nat) (w : Int) : Int := if w = 0 then s.d 0 k else if w = 1 then s.d 1 k else if w = 2 then s.d 2 k else if w = 3 then s.d 5 k else if w = 4 then ((s.k k).length : Int) else if w = 5 then s.d 3 k else if w = 6 then (if s.d 4 k = 0 then 0 else 1) else if w = 7 then (if s.d 0 k = 0 then s.d 7 k else -1) else -1
theorem ndV_c {s : TS} {k : Nat} {w : Int} : (w = 0 → ndV s k w = s.d 0 k) ∧ (w = 1 → ndV s k w = s.d 1 k) ∧ (w = 2 → ndV s k w = s.d 2 k) ∧ (w = 3 → ndV s k w = s.d 5 k) ∧ (w = 4 → ndV s k w = ((s.k k).length : Int)) ∧ (w = 5 → ndV s k w = s.d 3 k) ∧ (w = 6 → ndV s k w = if s.d 4 k = 0 then 0 else 1) ∧ (w = 7 → ndV s k w = if s.d 0 k = 0 then s.d 7 k else -1) ∧ (w < 0 ∨ 7 < w → ndV s k w = -1) := by
  refine ⟨fun z => by subst z; rfl, fun z => by subst z; rfl, fun z => by subst z; rfl, fun z => by subst z; rfl, fun z => by subst z; rfl, fun z => by subst z; rfl, fun z => by subst z; rfl, fun z => by subst z; rfl, fun z => ?_⟩
  unfold ndV
  rw [if_neg (by omega), if_neg (by omega), if_neg (by omega), if_neg (by omega), if_neg (by omega), if_neg (by omega), if_neg (by omega), if_neg (by omega)]
theorem m_node_ {P : Int → St → Prop} (hL : LC 12 σ m) (hb : gI σ 1218 m 0 = (b : Int)) (hT : TreI σ x m fo Ss b T I) (t0 : 0 ≤ t) (t1 : t < gI σ 1110 x 0) (k0 : 0 ≤ k) (k1 : k < (T t.toNat).c) (hP : ∀ σ', Frm (fun f r => r = m ∧ LkF f r) σ σ' → P (ndV (T t.toNat) k.toNat w) σ') : ACi g l (d + 1) MX12_node_ [vR 12 (some m), vI t, vI k, vI w] σ P := by
  obtain ⟨tr, f1, v1⟩ := hT.2.2.2.2.2 t.toNat (by omega)
  have a2 := hT.1.2.1
  have kc : k.toNat < (T t.toNat).c := by omega
  have c4 := v1.2.1.2.2.2.1
  obtain ⟨r1, r2, r3, r4, r5, r6, r7, r8, r9, r10, _⟩ := v1.2.2.2.2.1 k.toNat kc
  have up := v1.2.2.2.2.2.2.1.1.up k.toNat kc
  refine AC.of mo_X12_node_ (Nat.le_of_ble_eq_true rfl) (bk_X12_node__0 (m_isNode hL hb hT (fun q => absurd ⟨⟨t0, t1⟩, k0, k1⟩ q) (fun _ _ _ _ σ1 F1 h80 h81 h53 => ⟨fun _ => ⟨⟨by omega, by omega⟩, ⟨by omega, by omega⟩, ?_⟩, fun z => absurd z (by decide)⟩)))
  have hp := hP σ1 F1
  have lc := F1.lc hL
  have eI : ∀ f j, 1264 ≤ f → f ≤ 1279 → gI σ1 f m j = gI σ f m j := fun f j z0 z1 => F1.I (fun q => by omega) j
  rw [show (400 * t + k).toNat = 400 * t.toNat + k.toNat by omega, eI 1267 _ (by decide) (by decide), eI 1268 _ (by decide) (by decide), eI 1269 _ (by decide) (by decide), eI 1270 _ (by decide) (by decide), eI 1271 _ (by decide) (by decide), eI 1272 _ (by decide) (by decide), eI 1279 _ (by decide) (by decide), eI 1273 _ (by decide) (by decide), r1, r2, r3, r4, r5, r6, r8, r10]
  have bd : Bd (400 * t + k) 2800 := ⟨by omega, by omega⟩
  have ht7 : 0 ≤ t ∧ t < 7 := ⟨t0, by omega⟩
  have hy5 : -1 ≤ (T t.toNat).d 5 k.toNat ∧ (T t.toNat).d 5 k.toNat ≤ 400 := ⟨up.1, by omega⟩
  obtain ⟨c0, c1, c2, c3, c4', c5, c6, c7, c8⟩ := ndV_c (s := T t.toNat) (k := k.toNat) (w := w)
  refine ⟨fun z => ⟨lc, bd, _, rfl, ?_⟩, fun z => ⟨lc, bd, _, rfl, ?_⟩, fun z => ⟨lc, bd, _, rfl, ?_⟩, fun z => ⟨lc, bd, m_outward h80 ht7 hy5 ⟨_, rfl, ?_⟩⟩, fun z => ⟨lc, bd, _, rfl, ?_⟩, fun z => ⟨lc, bd, _, rfl, ?_⟩, fun z => ⟨lc, bd, fun y => ⟨_, rfl, ?_⟩, fun y => ⟨_, rfl, ?_⟩⟩, fun z => ⟨lc, bd, fun y => ⟨_, rfl, ?_⟩, fun y => ⟨_, rfl, ?_⟩⟩, fun z => ⟨_, rfl, ?_⟩⟩
  · rw [c0 z] at hp; exact hp
  · rw [c1 z] at hp; exact hp
  · rw [c2 z] at hp; exact hp
  · rw [c3 z] at hp; exact hp
  · rw [c4' z] at hp; exact hp
  · rw [c5 z] at hp; exact hp
  · rw [c6 z, if_pos y] at hp; exact hp
  · rw [c6 z, if_neg y] at hp; exact hp
  · rw [c7 z, if_neg y] at hp; exact hp
  · rw [c7 z, if_pos y] at hp; exact hp
  · rw [c8 z] at hp; exact hp
theorem op_node (hI : ImgI σ x m) (hb : gI σ 1218 m 0 = (b : Int)) (hT : TreI σ x m fo Ss b T I) : ACi g l (d + 2) MX11_node [vR 11 (some x), vI t, vI k, vI w] σ (fun a σ1 => ACi g l (d + 2) MX12_node_ [vR 12 (some m), vI t, vI k, vI w] σ1 (fun r σ2 => a = r ∧ Frm (fun f r => r = m ∧ LkF f r) σ σ2)) := by
  obtain ⟨i1, i2, i3, i4, _⟩ := id hI
  refine AC.of mo_X11_node (Nat.le_of_ble_eq_true rfl) (bk_X11_node_0 (x_nodeOf i1 hT (fun q => ⟨fun _ => ⟨_, rfl, AC.of mo_X12_node_ (Nat.le_of_ble_eq_true rfl) (bk_X12_node__0 (m_isNode i2 hb hT (fun _ => ⟨fun w => absurd rfl w, fun _ => ⟨_, rfl, rfl, Frm.rfl⟩⟩) (fun t0 t1 k0 k1 => absurd ⟨⟨t0, t1⟩, k0, k1⟩ q)))⟩, (fun r w => nomatch w)⟩) (fun t0 t1 k0 k1 tr f1 o1 v1 => ⟨(fun w => nomatch w), fun r er => ?_⟩)))
  cases er
  have kc : k.toNat < (T t.toNat).c := by omega
  have c4 := v1.2.1.2.2.2.1
  obtain ⟨n1, n2, n3, n4, n5, n6, n7, n8, n9, _⟩ := (v1.2.2.2.1 k.toNat kc).1
  have up := v1.2.2.2.2.2.2.1.1.up k.toNat kc
  have ref : ∀ a : Int, ndV (T t.toNat) k.toNat w = a → ACi g l (d + 2) MX12_node_ [vR 12 (some m), vI t, vI k, vI w] σ (fun r σ2 => a = r ∧ Frm (fun f r => r = m ∧ LkF f r) σ σ2) := fun a ha => m_node_ i2 hb hT t0 t1 k0 k1 (fun σ' F => ⟨ha.symm, F⟩)
  obtain ⟨c0, c1, c2, c3, c4', c5, c6, c7, c8⟩ := ndV_c (s := T t.toNat) (k := k.toNat) (w := w)
  rw [n1, n2, n3, n4, n5, n6, n8, n9]
  refine ⟨fun z => ⟨_, rfl, ref _ (c0 z)⟩, fun z => ⟨_, rfl, ref _ (c1 z)⟩, fun z => ⟨_, rfl, ref _ (c2 z)⟩, fun z => ⟨fun q => ⟨_, rfl, ref _ ?_⟩, fun r5 q => ⟨_, rfl, ref _ ?_⟩⟩, fun z => ⟨_, rfl, ref _ (c4' z)⟩, fun z => ⟨_, rfl, ref _ (c5 z)⟩, fun z => ⟨fun y => ⟨_, rfl, ref _ ?_⟩, fun y => ⟨_, rfl, ref _ ?_⟩⟩, fun z => ⟨fun y => ⟨_, rfl, ref _ ?_⟩, fun y => ⟨_, rfl, ref _ ?_⟩⟩, fun z => ⟨_, rfl, ref _ (c8 z)⟩⟩
  · rw [c3 z]; have := oN_none q; omega
  · obtain ⟨j, j1, j2⟩ := oN_some q
    rw [c3 z, j2, (o1.2.2 j _ (by omega) (v1.2.2.1 j (by omega))).2, j1]
  · rw [c6 z, if_pos y]
  · rw [c6 z, if_neg y]
  · rw [c7 z, if_neg y]
  · rw [c7 z, if_pos y]
theorem op_value (hI : ImgI σ x m) (hD : DsI σ x m p A B En Ss b) (hT : TreI σ x m A.2.2.2 Ss b T I) : ACj g l (d + 4) MX11_value [vR 11 (some x), vI t, vI k] σ (fun a σ1 => ACj g l (d + 4) MX12_value [vR 12 (some m), vI t, vI k] σ1 (fun r σ2 => a = r ∧ Frm (fun f r => r = m ∧ LkF f r) σ σ2)) := by
  obtain ⟨i1, i2, i3, i4, i5, i6, i7, i8, i9⟩ := id hI
  obtain ⟨hW, hsz, hB⟩ := hD.lw
  obtain ⟨_, _, _, _, ⟨y1, y2, y3⟩, _⟩ := id hD
  have none' : ¬ ((0 ≤ t ∧ t < gI σ 1110 x 0) ∧ (0 ≤ k ∧ k < (T t.toNat).c)) → ACj g l (d + 4) MX12_value [vR 12 (some m), vI t, vI k] σ (fun r σ2 => (0 : Int64) = r ∧ Frm (fun f r => r = m ∧ LkF f r) σ σ2) := fun q =>
    AC.of mo_X12_value (Nat.le_of_ble_eq_true rfl) (bk_X12_value_0 (m_isNode i2 y1 hT (fun _ => ⟨fun _ => ⟨_, rfl, rfl, Frm.rfl⟩, fun z => absurd rfl z⟩) (fun t0 t1 k0 k1 => absurd ⟨⟨t0, t1⟩, k0, k1⟩ q)))
  refine AC.of mo_X11_value (Nat.le_of_ble_eq_true rfl) (bk_X11_value_0 (x_treeOf i1 hT (fun q => x_nodeOf i1 hT (fun q2 => ⟨fun _ => ⟨_, rfl, none' q2⟩, (fun r z => nomatch z)⟩) (fun t0 t1 => absurd ⟨t0, t1⟩ q)) (fun t0 t1 tr f1 o1 v1 => x_nodeOf i1 hT (fun q2 => ⟨(fun z => nomatch z), fun r er => ⟨fun _ => ⟨_, rfl, none' q2⟩, (fun r z => nomatch z)⟩⟩) (fun _ _ k0 k1 tr' f1' _ _ => ⟨(fun z => nomatch z), fun r er => ⟨(fun z => nomatch z), fun r7 er7 => ?_⟩⟩))))
  rw [f1] at f1'
  cases f1'
  cases er
  cases er7
  have kc : k.toNat < (T t.toNat).c := by omega
  have c4 := v1.2.1.2.2.2.1
  have a2 := hT.1.2.1
  have him := v1.1.1
  obtain ⟨q1, q2, q3⟩ := i7 (I t.toNat) him.1 him.2
  have l304 : gI σ 304 (img σ x (I t.toNat)) 0 = gI σ 1201 m (I t.toNat).toNat := q3.1
  have c304 := q2.2.1
  obtain ⟨w1, w2⟩ := v1.2.2.2.2.2.2.1
  rw [v1.1.2.1]
  refine x_reading (h := fun q => hasM σ m (I t.toNat) q) (len := gI σ 1201 m (I t.toNat).toNat) q2.1 l304 (by omega) (fun q a0 a1 => q3.has q2 a0 (by omega)) (v1.2.2.2.1 k.toNat kc).1 (w1.ndw w2 kc) (hD.fdc _) ⟨_, rfl, ?_⟩
  refine AC.of mo_X12_value (Nat.le_of_ble_eq_true rfl) (bk_X12_value_0 (m_isNode i2 y1 hT (fun q => absurd ⟨⟨t0, t1⟩, k0, k1⟩ q) (fun _ _ _ _ σ1 F1 h80 h81 h53 => ⟨fun z => absurd z (by decide), fun _ => ⟨⟨by omega, by omega⟩, ⟨by omega, by omega⟩, ?_⟩⟩)))
  have I1 : ImgI σ1 x m := hI.fr F1.fr (fun f r z q => by have := q.2; omega)
  have eI : ∀ f j, ¬ LkF f m → gI σ1 f m j = gI σ f m j := fun f j z => F1.I (fun q => z q.2) j
  have e01 : gI σ1 1101 x 0 = gI σ 1101 x 0 := F1.I (fun q => by have := q.2; omega) 0
  have ir := imr_of (im := I t.toNat) I1 ⟨him.1, by rw [e01]; exact him.2⟩ h81
  have eh : (fun q => hasM σ1 m (I t.toNat) q) = fun q => hasM σ m (I t.toNat) q := by
    funext q
    unfold hasM
    rw [eI 1203 _ (by omega), eI 1202 _ (by omega)]
    exact hv_congr (fun i _ => eI 1204 _ (by omega)) rfl
  rw [eh, eI 1201 _ (by omega)] at ir
  rw [show 400 * t + k = ((400 * t.toNat + k.toNat : Nat) : Int) by omega]
  exact m_valueOf ir (fdr_of y2 (y3.ag (fun f i z => ⟨F1.I (fun q => by have := q.2; omega) i, F1.J (fun q => by have := q.2; omega) i⟩))) hB (by omega) (by omega) ((v1.2.2.2.2.1 k.toNat kc).ag (fun f j z0 z1 => eI f j (by omega))) (w1.ndw w2 kc) ⟨_, rfl, rfl, F1⟩
end S6
