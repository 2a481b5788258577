/-! evaluate -/
abbrev EvP (qc f r : Nat) : Prop := (f ≤ 2 ∧ r = qc) ∨ (600 ≤ f ∧ f ≤ 610) ∨ (700 ≤ f ∧ f ≤ 702) ∨ (901 ≤ f ∧ f ≤ 905) ∨ f = 1111 ∨ f = 1112 ∨ (1211 ≤ f ∧ f ≤ 1217) ∨ (1242 ≤ f ∧ f ≤ 1246) ∨ (1251 ≤ f ∧ f ≤ 1255) ∨ (1257 ≤ f ∧ f ≤ 1262) ∨ f = 1280 ∨ f = 1281 ∨ f = 1286 ∨ f = 1287 ∨ f = 1290
/-- the class's code for questions -/
def QuI (σ : St) (x : Nat) (A B : DPa) : Prop := ∃ qc, gR σ 1107 x 0 = some qc ∧ LC 0 σ qc ∧ qc < hs σ ∧ ¬ qc = A.2.1 ∧ ¬ qc = B.2.1
theorem opn_aim {Ns : List Int64} {w : Int64} : ∀ (L : List Fld) (f : Int), opn (L.map (aimO Ns)) w f = opn L w f
  | [], _ => rfl
  | F :: L, f => by
    obtain ⟨o1, _, o3, _, _, _, _, _, _, o10, _⟩ := aimO_k (Ns := Ns) (F := F)
    show opn (aimO Ns F :: L.map (aimO Ns)) w f = _
    unfold opn
    rw [o1, o3, o10, opn_aim L (f + 1)]
theorem rx_aim {X : Txt} {Ns : List Int64} {L : List Fld} {i : Nat} : rx X (L.map (aimO Ns)) i = rx X L i := by
  unfold rx
  have : (fun w => opn (L.map (aimO Ns)) w 0) = fun w => opn L w 0 := by funext w; exact opn_aim L 0
  rw [this]
theorem kR_aim {Ns : List Int64} {F : Fld} : kR (aimO Ns F) = kR F := by
  obtain ⟨o1, _, _, o4, _, _, _, _, _, _, o11, _⟩ := aimO_k (Ns := Ns) (F := F)
  unfold kR
  rw [o1, o4]
  by_cases c : F.ki = 2
  · rw [o11 (by omega)]
  · rw [if_neg c, if_neg c]
section V1
variable {g : GP} {l : Launch} {d e : Nat} {σ σ1 σ2 : St} {x m p b tr n i qc : Nat} {A B : DPa} {En : List Enm} {Ss : List Stc} {T : Nat → TS} {I : Nat → Int} {t k : Int} {X : Txt}
theorem dr_qr (hD : DR σ m b (3000 * b + 3000) En Ss) (b2 : b < 2) (h16 : ∀ (s : Nat) (S : Stc), Ss[s]? = some S → ∀ F ∈ S.2.1, F.es.length ≤ 16) (hQ : QR m σ σ1) : DR σ1 m b (3000 * b + 3000) En Ss := by
  have l20 := hD.2.1
  have l8 := hD.2.2.2.1
  have hO : Out m (fun f i => RTk f i ∨ (((1242 ≤ f ∧ f ≤ 1245) ∨ f = 1262) ∧ 6000 ≤ i)) σ σ1 := by
    refine ⟨hQ.1.mono (fun f r q => ⟨q.1, by have := q.2; omega, by have := q.2; omega, by have := q.2; omega⟩), fun f i hn => ?_⟩
    have n1 : ¬ RTk f i := fun q => hn (Or.inl q)
    have n2 : ¬ (((1242 ≤ f ∧ f ≤ 1245) ∨ f = 1262) ∧ 6000 ≤ i) := fun q => hn (Or.inr q)
    unfold RTk at n1
    by_cases c : (1242 ≤ f ∧ f ≤ 1245) ∨ f = 1262
    · exact hQ.2 f i (by omega) c
    · exact ⟨hQ.1.I (fun q => by have := q.2; omega) i, hQ.1.J (fun q => by have := q.2; omega) i⟩
  refine hD.out hO h16 (fun f i z0 z1 z2 z3 q => ?_) (fun f z q => ?_) (fun f s z0 z1 z2 q => ?_) (fun f e z0 z1 z2 q => ?_) (fun f e j z0 z1 z2 z3 q => ?_) (fun f s k z0 z1 z2 z3 q => ?_) (fun f s k p z0 z1 z2 z3 z4 q => ?_) <;> (unfold RTk at q; omega)
theorem DsI.ev (hD : DsI σ x m p A B En Ss b) (hF : Frm (EvP qc) σ σ2) (hq : ¬ qc = A.2.1 ∧ ¬ qc = B.2.1) (hR : DR σ2 m b (3000 * b + 3000) En Ss) (hw : gI σ2 1111 x 0 = gI σ2 1212 m 0) : DsI σ2 x m p A B En Ss b := by
  obtain ⟨⟨a1, a2, a3, a4, a5, a6, a7⟩, ⟨b1, b2⟩, c, ⟨d1, d2, d3, d4⟩, ⟨e1, e2, e3⟩, w, v⟩ := hD
  have hh : hs σ2 = hs σ := hF.2.1
  have ag : ∀ (D : DPa), DSi σ D.1 D.2.1 D.2.2.1 D.2.2.2 → ¬ qc = D.2.1 → AgD σ σ2 D.1 D.2.1 D.2.2.1 D.2.2.2 := fun D h hn => ⟨AgA.of hF.fr h.2.2.2.2.2.1 (fun f z0 z1 q => by omega), AgA.of hF.fr h.2.2.2.2.1 (fun f z0 z1 q => by omega), fun s hs => AgA.of hF.fr (h.2.2.2.2.2.2.1 s hs) (fun f z0 z1 q => by omega), fun s k hs hk => AgA.of hF.fr (h.2.2.2.2.2.2.2 s k hs hk) (fun f z0 z1 q => by omega)⟩
  have gA := ag A b1 hq.1
  have gB := ag B b2 hq.2
  exact ⟨⟨by rw [hF.R (fun q => by omega)]; exact a1, by rw [hF.R (fun q => by omega)]; exact a2, by rw [hF.R (fun q => by omega)]; exact a3, by omega, by omega, by omega, hF.lc a7⟩, ⟨b1.ag gA (by omega), b2.ag gB (by omega)⟩, c, ⟨d1.ag gA, fun s hs => (d2 s hs).ag (gA.2.2.1 s (by have := d1.2.1; omega)), by rw [gA.1.I (by decide) (by decide)]; exact d3, by rw [gA.2.1.I (by decide) (by decide)]; exact d4⟩, ⟨by rw [hF.I (fun q => by omega)]; exact e1, e2, hR⟩, w, hw, v.2⟩
theorem op_evaluate (hS : SOK g) (hTp : TapI σ x m) (hK : ∀ i : Int, gJ σ 906 (tpe σ x) i.toNat = kwd i) (hI : ImgI σ x m) (hD : DsI σ x m p A B En Ss b) (hQ : QuI σ x A B) (hT : TreI σ x m A.2.2.2 Ss b T I) (hO : gJ σ 1112 x 0 = gJ σ 1290 m 0) : ACi g l (d + 150) MX11_evaluate [vR 11 (some x), vI t, vI k] σ (fun a σ1 => ACi g l (d + 150) MX12_evaluate [vR 12 (some m), vI t, vI k] σ1 (fun r σ2 => a = r ∧ TapI σ2 x m ∧ DsI σ2 x m p A B En Ss b ∧ (∃ qc, Frm (EvP qc) σ σ2) ∧ gJ σ2 1112 x 0 = gJ σ2 1290 m 0)) := by
  obtain ⟨i1, i2, i3, i4, i5, i6, i7, i8, i9⟩ := id hI
  obtain ⟨hW, hsz, hB⟩ := hD.lw
  obtain ⟨⟨x1, x2, x3, _⟩, ⟨s1, s2⟩, _, ⟨d1, _, d3, d4⟩, ⟨y1, y2, y3⟩, ⟨we, Ss0, ww, wa⟩, w11, _⟩ := id hD
  obtain ⟨qc, k1', k2', k3', k4', k5'⟩ := hQ
  obtain ⟨tp1, tp2, _⟩ := id hTp
  have lk : ∀ υ, Frm (fun f r => r = m ∧ LkF f r) σ υ → TapI υ x m ∧ DsI υ x m p A B En Ss b ∧ (∃ qc, Frm (EvP qc) σ υ) ∧ gJ υ 1112 x 0 = gJ υ 1290 m 0 := fun υ F => by
    refine ⟨hTp.fr F.fr (fun f r z q => by have := q.2; omega), hD.fr F.fr (fun f r z q => by have := q.2; omega), ⟨qc, F.mono (fun f r q => by have := q.2; omega)⟩, ?_⟩
    rw [F.J (fun q => by have := q.2; omega), F.J (fun q => by have := q.2; omega)]; exact hO
  have none' : ¬ ((0 ≤ t ∧ t < gI σ 1110 x 0) ∧ (0 ≤ k ∧ k < (T t.toNat).c)) → ACi g l (d + 150) MX12_evaluate [vR 12 (some m), vI t, vI k] σ (fun r σ2 => (-1 : Int) = r ∧ TapI σ2 x m ∧ DsI σ2 x m p A B En Ss b ∧ (∃ qc, Frm (EvP qc) σ σ2) ∧ gJ σ2 1112 x 0 = gJ σ2 1290 m 0) := fun q =>
    AC.of mo_X12_evaluate (Nat.le_of_ble_eq_true rfl) (bk_X12_evaluate_0 (m_isNode i2 y1 hT (fun _ => ⟨fun z => absurd rfl z, fun _ => ⟨_, rfl, rfl, lk σ Frm.rfl⟩⟩) (fun t0 t1 k0 k1 => absurd ⟨⟨t0, t1⟩, k0, k1⟩ q)))
  refine AC.of mo_X11_evaluate (Nat.le_of_ble_eq_true rfl) (bk_X11_evaluate_0 (x_treeOf i1 hT (fun q => x_nodeOf i1 hT (fun q2 => ⟨fun _ => ⟨_, rfl, none' q2⟩, (fun r z => nomatch z)⟩) (fun t0 t1 => absurd ⟨t0, t1⟩ q)) (fun t0 t1 tr f1 o1 v1 => x_nodeOf i1 hT (fun q2 => ⟨(fun z => nomatch z), fun r er => ⟨fun _ => ⟨_, rfl, none' q2⟩, (fun r z => nomatch z)⟩⟩) (fun _ _ k0 k1 tr' f1' _ _ => ⟨(fun z => nomatch z), fun r er => ⟨(fun z => nomatch z), fun r7 er7 => ?_⟩⟩))))
  rw [f1] at f1'
  cases f1'
  cases er
  cases er7
  obtain ⟨n, rfl⟩ : ∃ n : Nat, t = (n : Int) := ⟨t.toNat, by omega⟩
  obtain ⟨kk, rfl⟩ : ∃ kk : Nat, k = (kk : Int) := ⟨k.toNat, by omega⟩
  rw [Int.toNat_natCast] at f1 v1 k1
  rw [Int.toNat_natCast]
  have kc : kk < (T n).c := by omega
  have c4 := v1.2.1.2.2.2.1
  have a2 := hT.1.2.1
  have a3 := hT.1.2.2
  have him := v1.1.1
  have n6 : n < 6 := by omega
  obtain ⟨q1, q2, q3, im6, _⟩ := hI.im him.1 him.2
  have l304 : gI σ 304 (img σ x (I n)) 0 = gI σ 1201 m (I n).toNat := q3.1
  have c304 := q2.2.1
  obtain ⟨w1, w2⟩ := v1.2.2.2.2.2.2.1
  have nc := (v1.2.2.2.1 kk kc).1
  have ncx := nc
  obtain ⟨n1, n2, n3, n4, _, _, _, n8, _⟩ := ncx
  obtain ⟨rk, e1, e2, e3⟩ := hT.2.2.2.2.1
  have ek : 400 * (n : Int) + (kk : Int) = ((400 * n + kk : Nat) : Int) := by omega
  have bk2 : Bd ((400 * n + kk : Nat) : Int) 2800 := ⟨by omega, by omega⟩
  obtain ⟨d1b, _, _, v7, _⟩ := (w1.2 kk kc).1
  have stk := (w1.2 kk kc).2.2.1
  rw [n1]
  refine ⟨fun z0 => ⟨tpe σ x, tp1, ?_⟩, fun z0 => ⟨_, rfl, AC.of mo_X12_evaluate (Nat.le_of_ble_eq_true rfl) (bk_X12_evaluate_0 (m_isNode i2 y1 hT (fun q => absurd ⟨⟨t0, t1⟩, k0, by rw [Int.toNat_natCast]; exact k1⟩ q) (fun _ _ _ _ σ1 F1 h80 h81 h53 => ⟨fun _ => ?_, fun z => absurd z (by decide)⟩)))⟩⟩
  rotate_left
  · have r1 : gI σ1 1267 m (400 * n + kk) = (T n).d 0 kk := by rw [F1.I (fun q => by have := q.2; omega)]; exact (v1.2.2.2.2.1 kk kc).1
    rw [ek, Int.toNat_natCast, r1]
    exact ⟨⟨by omega, by omega⟩, ⟨by omega, by omega⟩, F1.lc i2, bk2, fun z => absurd z z0, fun _ => ⟨_, rfl, rfl, lk σ1 F1⟩⟩
  -- the struct and its fields
  have v7 := v7 z0
  have stk := stk z0
  obtain ⟨sn, hsn⟩ : ∃ sn : Nat, (T n).d 7 kk = (sn : Int) := ⟨((T n).d 7 kk).toNat, by omega⟩
  obtain ⟨ca, _⟩ := aimS_ok _ _ wa
  have ll : Ss.length = Ss0.length := by rw [ca, List.length_map]
  have hS0 : Ss0[sn]? = some Ss0[sn] := List.getElem?_eq_getElem (by omega)
  generalize Ss0[sn] = S0 at hS0
  have hSS : Ss[sn]? = some (S0.1, S0.2.1.map (aimO (Ss0.map (fun s => s.1))), S0.2.2) := by rw [ca, List.getElem?_map, hS0]; rfl
  obtain ⟨Fs, hFs⟩ : ∃ Fs, Fs = S0.2.1.map (aimO (Ss0.map (fun s => s.1))) := ⟨_, rfl⟩
  rw [← hFs] at hSS
  obtain ⟨_, f802, _, f14, ffc⟩ := d1.2.2.2.2.2 sn _ hSS
  have f802 : gI σ 802 (A.2.2.1 sn) 0 = (Fs.length : Int) := f802
  have f14 : Fs.length ≤ 14 := f14
  have ffc : ∀ k F, Fs[k]? = some F → FC σ A.1 A.2.1 (A.2.2.2 sn k) F := ffc
  obtain ⟨lw14, lwf⟩ := hW.2 sn _ hSS
  have esb : EsB Fs := fun F hF => by
    obtain ⟨j, hj⟩ := List.getElem?_of_mem hF
    exact (lwf j F hj).1.2.2.2.1
  have f12 : F12 Fs := ⟨f14, fun F hF => ⟨esb F hF, fun k3 => by
    obtain ⟨j, hj⟩ := List.getElem?_of_mem hF
    have fw := (lwf j F hj).1.2.2.2.2
    rcases fw with z | z | z | z | z | z | z | z | z | z
    · omega
    · omega
    · omega
    · exact z.2.2.2
    · omega
    · omega
    · omega
    · omega
    · omega
    · omega⟩⟩
  have l0 : Fs.length = S0.2.1.length := by rw [hFs, List.length_map]
  have rxe : ∀ X, rx X Fs 0 = rx X S0.2.1 0 := fun X => by rw [hFs]; exact rx_aim
  have sn20 : sn < 20 := by have := hW.1; omega
  have slen : (Ss0.take sn).length = sn := by rw [List.length_take]; omega
  have h16 : ∀ (s : Nat) (S : Stc), Ss[s]? = some S → ∀ F ∈ S.2.1, F.es.length ≤ 16 := fun s S hS => (aim_es ww wa s S hS).choose_spec.2.2
  have nmo : ∀ X i' N, X.OK → rx X Fs 0 = .ok (i', N) → ∀ y ∈ N, y.o = 2 → NmO Ss (T n) kk y.v.toInt := fun X i' N hX hr => by
    refine nmo_of (S := (S0.1, Fs, S0.2.2)) (kk := Fs.length) (by rw [hsn, Int.toNat_natCast]; exact hSS) (by omega) f14 ?_
    show XN (Fs.take Fs.length) (some N)
    rw [List.take_length]
    exact rx_xn hX f12 (Nat.zero_le _) hr
  refine x_splitX (d := d + 145) hS hTp hK (fun σ3 X hX hXT hXn F3 n901 tok => ?_)
  have e3' : ∀ f r j, ¬ (901 ≤ f ∧ f ≤ 905) → gI σ3 f r j = gI σ f r j ∧ gJ σ3 f r j = gJ σ f r j ∧ gR σ3 f r j = gR σ f r j := fun f r j z => ⟨F3.I (fun q => z q.2) j, F3.J (fun q => z q.2) j, F3.R (fun q => z q.2) j⟩
  have F3' : Frm (EvP qc) σ σ3 := F3.mono (fun f r q => by omega)
  refine ⟨p, by rw [(e3' _ _ _ (by decide)).2.2]; exact x3, ?_⟩
  rw [(e3' 1102 _ _ (by decide)).2.2, tp1, (e3' 1105 _ _ (by decide)).2.2, x1, (e3' 514 _ _ (by decide)).1, n8, hsn, (e3' 1107 _ _ (by decide)).2.2, k1']
  obtain ⟨wfX, _⟩ : (∀ i' N, rx X Fs 0 = .ok (i', N) → WFx (some N)) ∧ True := ⟨fun i' N hr => (rx_wf hX hX.num (Nat.zero_le _) hr).1, trivial⟩
  -- the reference: R the answer, and what it has to be
  have ref : ∀ (R : Int) (τ : St), Frm (EvP qc) σ τ → (∀ f j, 1200 ≤ f → gI τ f m j = gI σ f m j ∧ gJ τ f m j = gJ σ f m j) → gI τ 901 (tpe σ x) 0 = 0 → (∀ ee, (rx X Fs 0 = .error ee ∨ ∃ i' N, rx X Fs 0 = .ok (i', N) ∧ ¬ X.k i' = 0 ∧ ee = ck X i' 2) → R = -10 - ee.2 ∧ gI τ 1111 x 0 = ee.1 ∧ gJ τ 1112 x 0 = gJ σ 1112 x 0) → (∀ i' N, rx X Fs 0 = .ok (i', N) → X.k i' = 0 → gI τ 1111 x 0 = 0 ∧ (evE ((T n).d 2 kk) (gI σ 1201 m (I n).toNat) ((T n).d 1 kk) (nmV Ss (fun q => hasM σ m (I n) q) (T n) kk) N = none → R = -3 ∧ gJ τ 1112 x 0 = gJ σ 1112 x 0) ∧ ∀ v, evE ((T n).d 2 kk) (gI σ 1201 m (I n).toNat) ((T n).d 1 kk) (nmV Ss (fun q => hasM σ m (I n) q) (T n) kk) N = some v → R = 0 ∧ gJ τ 1112 x 0 = v) → ACi g l (d + 150) MX12_evaluate [vR 12 (some m), vI (n : Int), vI (kk : Int)] τ (fun r σ2 => R = r ∧ TapI σ2 x m ∧ DsI σ2 x m p A B En Ss b ∧ (∃ qc, Frm (EvP qc) σ σ2) ∧ gJ σ2 1112 x 0 = gJ σ2 1290 m 0) := by
    intro R τ Fτ eτ z901 hE hV
    have Lτ := Fτ.lc i2
    refine AC.of mo_X12_evaluate (Nat.le_of_ble_eq_true rfl) (bk_X12_evaluate_0 (m_isNodeY (im := I n) (c := ((T n).c : Int)) Lτ (by rw [(eτ _ _ (by decide)).1]; exact y1) t0 (by rw [(eτ _ _ (by decide)).1, a3]; exact t1) (by rw [(eτ _ _ (by decide)).1, a3]; exact a2) k0 (by rw [(eτ _ _ (by decide)).1, Int.toNat_natCast]; exact v1.2.1.2.2.2.2.2) k1 (by rw [(eτ _ _ (by decide)).1, Int.toNat_natCast]; exact v1.1.2.2) (fun σ4 F4 h80 h81 h53 => ⟨fun _ => ?_, fun z => absurd z (by decide)⟩)))
    have L4 := F4.lc Lτ
    have eI : ∀ f j, 1200 ≤ f → ¬ LkF f m → gI σ4 f m j = gI σ f m j := fun f j z0 z => by rw [F4.I (fun q => z q.2), (eτ _ _ z0).1]
    have eJ : ∀ f j, 1200 ≤ f → ¬ LkF f m → gJ σ4 f m j = gJ σ f m j := fun f j z0 z => by rw [F4.J (fun q => z q.2), (eτ _ _ z0).2]
    have nr : ∀ i, i < (T n).c → NdR σ4 m n b (T n) i := fun i hi => (v1.2.2.2.2.1 i hi).ag (fun f j z0 z1 => eI f _ (by omega) (by omega))
    have D4 : DR σ4 m b (3000 * b + 3000) En Ss := y3.ag (fun f j z => ⟨eI f j (by omega) (by omega), eJ f j (by omega) (by omega)⟩)
    obtain ⟨r1, _, _, _, _, _, _, r8, _⟩ := nr kk kc
    obtain ⟨_, sr2, _, _, sr5⟩ := D4.2.2.2.2.2 sn _ hSS
    have sr2 : gI σ4 1222 m (20 * b + sn) = (Fs.length : Int) := sr2
    rw [ek, Int.toNat_natCast, r1, h53, r8, hsn, show (20 * (b : Int) + (sn : Int)).toNat = 20 * b + sn by omega, sr2]
    refine ⟨⟨by omega, by omega⟩, ⟨by omega, by omega⟩, L4, bk2, fun _ => ⟨⟨by omega, by omega⟩, ⟨by omega, by omega⟩, ⟨by omega, by omega⟩, ?_⟩, fun z => absurd z0 z⟩
    generalize hσ5 : sI (sI (sI (sI (sI (sI σ4 1254 m 0 (sn : Int)) 1257 m 0 (Fs.length : Int)) 1246 m 0 6000) 1251 m 0 0) 1255 m 0 0) 1215 m 0 0 = σ5
    have F5 : Frm (fun f r => r = m ∧ (f = 1254 ∨ f = 1257 ∨ f = 1246 ∨ f = 1251 ∨ f = 1255 ∨ f = 1215)) σ4 σ5 := by
      rw [← hσ5]
      exact (Frm.sI ⟨rfl, by omega⟩).trans ((Frm.sI ⟨rfl, by omega⟩).trans ((Frm.sI ⟨rfl, by omega⟩).trans ((Frm.sI ⟨rfl, by omega⟩).trans ((Frm.sI ⟨rfl, by omega⟩).trans (Frm.sI ⟨rfl, by omega⟩)))))
    have g54 : gI σ5 1254 m 0 = (sn : Int) := by rw [← hσ5]; simp only [gI_sI, true_and, and_true, false_and, if_false, if_true, Nat.reduceEqDiff]
    have g57 : gI σ5 1257 m 0 = (Fs.length : Int) := by rw [← hσ5]; simp only [gI_sI, true_and, and_true, false_and, if_false, if_true, Nat.reduceEqDiff]
    have g46 : gI σ5 1246 m 0 = 6000 := by rw [← hσ5]; simp only [gI_sI, true_and, and_true, false_and, if_false, if_true, Nat.reduceEqDiff]
    have g51 : gI σ5 1251 m 0 = 0 := by rw [← hσ5]; simp only [gI_sI, true_and, and_true, false_and, if_false, if_true, Nat.reduceEqDiff]
    have g55 : gI σ5 1255 m 0 = 0 := by rw [← hσ5]; simp only [gI_sI, true_and, and_true, false_and, if_false, if_true, Nat.reduceEqDiff]
    have g15 : gI σ5 1215 m 0 = 0 := by rw [← hσ5]; exact gI_slf _ _ _ _ _
    refine r_first hX (F5.lc L4) (by rw [F5.I (fun q => by omega), eI _ _ (by decide) (by omega), hXn]) (fun z => by rw [F5.I (fun q => by omega), eI _ _ (by decide) (by omega), hXT]) g15 (fun σ6 F6 R6 => ?_)
    have D5 : DR σ5 m b (3000 * b + 3000) En Ss := D4.ag (fun f j z => ⟨F5.I (fun q => by omega) j, F5.J (fun q => by omega) j⟩)
    have D6 : DR σ6 m b (3000 * b + 3000) En Ss := D5.ag (fun f j z => ⟨F6.I (fun q => by omega) j, F6.J (fun q => by omega) j⟩)
    obtain ⟨_, _, _, _, sq5⟩ := D6.2.2.2.2.2 sn _ hSS
    have sq5 : ∀ k F, Fs[k]? = some F → FR σ6 m b (14 * (20 * b + sn) + k) F ∧ PL σ6 m (14 * (20 * b + sn) + k) (3000 * b + 3000) := sq5
    have F46 : Frm (fun f r => r = m ∧ ((1213 ≤ f ∧ f ≤ 1217) ∨ f = 1246 ∨ f = 1251 ∨ f = 1254 ∨ f = 1255 ∨ f = 1257)) σ4 σ6 := (F5.mono (fun f r q => ⟨q.1, by have := q.2; omega⟩)).trans (F6.mono (fun f r q => ⟨q.1, by have := q.2; omega⟩))
    -- the end of all
    have done_ : ∀ (σ7 : St) (fa pl : Int), QR m σ6 σ7 → DR σ7 m b (3000 * b + 3000) En Ss := fun σ7 _ _ hq => dr_qr D6 y2 h16 hq
    have base : ∀ σ7, QR m σ6 σ7 → Frm (EvP qc) σ σ7 := fun σ7 hq => Fτ.trans ((F4.mono (fun f r q => by have := q.2; omega)).trans ((F46.mono (fun f r q => by have := q.2; omega)).trans (hq.1.mono (fun f r q => by have := q.2; omega))))
    have mo : ∀ σ7, QR m σ6 σ7 → Frm (fun f r => r = m ∧ 1213 ≤ f ∧ f ≤ 1281) τ σ7 := fun σ7 hq => (F4.mono (fun f r q => ⟨q.1, by have := q.2; omega⟩)).trans ((F46.mono (fun f r q => ⟨q.1, by have := q.2; omega⟩)).trans (hq.1.mono (fun f r q => ⟨q.1, by have := q.2; omega⟩)))
    -- behind the reading: what holds at a store that the rest leads to
    have fin : ∀ (σ7 σ8 : St) (w12 : Int), QR m σ6 σ7 → Frm (fun f r => r = m ∧ (f = 1211 ∨ f = 1212 ∨ f = 1251 ∨ f = 1252 ∨ f = 1286 ∨ f = 1287 ∨ f = 1290)) σ7 σ8 → gI σ8 1211 m 0 = 0 → gI σ8 1212 m 0 = w12 → gI τ 1111 x 0 = w12 → gJ σ8 1290 m 0 = gJ τ 1112 x 0 → TapI σ8 x m ∧ DsI σ8 x m p A B En Ss b ∧ (∃ qc, Frm (EvP qc) σ σ8) ∧ gJ σ8 1112 x 0 = gJ σ8 1290 m 0 := fun σ7 σ8 w12 hq F8 u11 u12 uw uj => by
      have FA : Frm (EvP qc) σ σ8 := (base σ7 hq).trans (F8.mono (fun f r q => by have := q.2; omega))
      have FM : Frm (fun f r => r = m ∧ 1211 ≤ f) τ σ8 := ((mo σ7 hq).mono (fun f r q => ⟨q.1, by have := q.2; omega⟩)).trans (F8.mono (fun f r q => ⟨q.1, by have := q.2; omega⟩))
      refine ⟨tap_e hTp (by rw [FA.R (fun q => by omega)]) (FA.lc tp2) FA.2.1 (FA.lc i2) (by rw [FM.I (fun q => by omega)]; exact z901) u11, hD.ev FA ⟨k4', k5'⟩ ((dr_qr D6 y2 h16 hq).ag (fun f j z => ⟨F8.I (fun q => by omega) j, F8.J (fun q => by omega) j⟩)) (by rw [FM.I (fun q => by omega), u12]; exact uw), ⟨qc, FA⟩, ?_⟩
      rw [FM.J (fun q => by omega), uj]
    -- the fault
    have flt : ∀ (σ7 : St) (ee : Int × Int), QR m σ6 σ7 → gI σ7 1251 m 0 = ee.1 → gI σ7 1252 m 0 = ee.2 → EB ee → R = -10 - ee.2 ∧ gI τ 1111 x 0 = ee.1 ∧ gJ τ 1112 x 0 = gJ σ 1112 x 0 → R32 ((-10) - (gI σ7 1252 m 0)) ∧ ∃ r, some (vI ((-10) - (gI σ7 1252 m 0))) = some (vI r) ∧ R = r ∧ TapI (sI (sI σ7 1211 m 0 0) 1212 m 0 (gI σ7 1251 m 0)) x m ∧ DsI (sI (sI σ7 1211 m 0 0) 1212 m 0 (gI σ7 1251 m 0)) x m p A B En Ss b ∧ (∃ qc, Frm (EvP qc) σ (sI (sI σ7 1211 m 0 0) 1212 m 0 (gI σ7 1251 m 0))) ∧ gJ (sI (sI σ7 1211 m 0 0) 1212 m 0 (gI σ7 1251 m 0)) 1112 x 0 = gJ (sI (sI σ7 1211 m 0 0) 1212 m 0 (gI σ7 1251 m 0)) 1290 m 0 := fun σ7 ee hq g1 g2 eb hr => by
      unfold EB at eb
      rw [g1, g2]
      refine ⟨⟨by omega, by omega⟩, _, rfl, hr.1, fin σ7 _ ee.1 hq ((Frm.sI ⟨rfl, by omega⟩).trans (Frm.sI ⟨rfl, by omega⟩)) (by rw [gI_sI, if_neg (by simp), gI_slf]) (gI_slf _ _ _ _ _) hr.2.1 ?_⟩
      show gJ σ7 1290 m 0 = _
      rw [(mo σ7 hq).J (fun q => by omega), (eτ _ _ (by decide)).2, hr.2.2, hO]
    refine m_eitherQ (d := d + 143) (Fs := S0.2.1) (Sx := Ss0.take sn) (En := En) hX R6 (by rw [F6.I (fun q => by omega)]; exact g46) (by rw [F6.I (fun q => by omega)]; exact g51) (by rw [F6.I (fun q => by omega)]; exact g55) (by rw [F46.I (fun q => by have := q.2; omega)]; exact h53) y2 (by rw [F6.I (fun q => by omega), g54, slen]) (by omega) (by rw [F6.I (fun q => by omega), g57, l0]) (by omega) (fun k G hG => ?_) (fun G hG => (ww sn S0 hS0).2.2.2.2 G hG) (fun i' N hr σ7 q7 RT7 z51 nl l3 rn z62 => ?_) (fun ee hr ep σ7 q7 g1 g2 => ?_)
    · have hG' : Fs[k]? = some (aimO (Ss0.map (fun s => s.1)) G) := by rw [hFs, List.getElem?_map, hG]; rfl
      have fr := (sq5 k _ hG').1
      obtain ⟨p1, _, p3, _, _, _, _, _, _, p10, _⟩ := aimO_k (Ns := Ss0.map (fun s => s.1)) (F := G)
      rw [slen]
      have u8 := fr.1.2.2.2.2.2.2.2.1
      have u7 := fr.1.2.2.2.2.2.2.1
      have u10 := fr.1.2.2.2.2.2.2.2.2.2
      rw [p10] at u8
      rw [p3] at u7 u10
      exact ⟨by rw [fr.2.1, kR_aim], u8, u7, fun q e he hz => (u10 q e he).1 hz⟩
    · rw [← rxe] at hr
      obtain ⟨so1, _⟩ := RT.sort hX RT7
      refine ⟨fun zs => bk_X12_evaluate_107 ⟨m, rfl, r_must hX RT7 z51 (by decide) (Or.inl rfl) (fun q => absurd q (by decide)) (fun _ σ8 F8 a1 a2 => ⟨fun z => ?_, fun _ => ?_⟩)⟩, fun zs => bk_X12_evaluate_107 ⟨m, rfl, r_must hX RT7 z51 (by decide) (Or.inr rfl) (fun _ => ⟨fun _ => ?_, fun z => absurd (by omega) z⟩) (fun q => absurd q (by decide))⟩⟩
      · have := ck_pos (X := X) (i := i') (n := 2) (by decide)
        omega
      · have q8 : QR m σ6 σ8 := ⟨q7.1.trans (F8.mono (fun f r q => ⟨q.1, by have := q.2; omega⟩)), fun f j hj z => by
          have := q7.2 f j hj z
          rw [F8.I (fun q => by omega), F8.J (fun q => by omega)]; exact this⟩
        exact flt σ8 _ q8 a1 a2 (EB.ck hX) (hE _ (Or.inr ⟨i', N, hr, fun z => zs (so1.mpr z), rfl⟩))
      · have k0' := so1.mp zs
        obtain ⟨hv1, hv2, hv3⟩ := hV i' N hr k0'
        have F8 : Frm (fun f r => r = m ∧ (f = 1211 ∨ f = 1212)) σ7 (sI (sI σ7 1211 m 0 0) 1212 m 0 (gI σ7 1251 m 0)) := (Frm.sI ⟨rfl, by omega⟩).trans (Frm.sI ⟨rfl, by omega⟩)
        have u11 : gI (sI (sI σ7 1211 m 0 0) 1212 m 0 (gI σ7 1251 m 0)) 1211 m 0 = 0 := by rw [gI_sI, if_neg (by simp), gI_slf]
        have u12 : gI (sI (sI σ7 1211 m 0 0) 1212 m 0 (gI σ7 1251 m 0)) 1212 m 0 = 0 := by rw [gI_slf]; exact z51
        generalize sI (sI σ7 1211 m 0 0) 1212 m 0 (gI σ7 1251 m 0) = σ8 at *
        have M7 := mo σ7 q7
        have L8 : LC 12 σ8 m := F8.lc RT7.1
        have e47 : Frm (fun f r => r = m ∧ ((1213 ≤ f ∧ f ≤ 1217) ∨ (1242 ≤ f ∧ f ≤ 1246) ∨ f = 1251 ∨ f = 1252 ∨ f = 1254 ∨ f = 1255 ∨ (1257 ≤ f ∧ f ≤ 1262))) σ4 σ7 := (F46.mono (fun f r q => ⟨q.1, by have := q.2; omega⟩)).trans (q7.1.mono (fun f r q => ⟨q.1, by have := q.2; omega⟩))
        have e48 : ∀ f j, (1201 ≤ f ∧ f ≤ 1204) ∨ f = 1253 ∨ (1267 ≤ f ∧ f ≤ 1281) → gI σ8 f m j = gI σ4 f m j := fun f j z => by rw [F8.I (fun q => by omega), e47.I (fun q => by have := q.2; omega)]
        have ir4 := imr_ed hI him h81 L4 eI
        have D8 : DR σ8 m b (3000 * b + 3000) En Ss := (dr_qr D6 y2 h16 q7).ag (fun f j z => ⟨F8.I (fun q => by omega) j, F8.J (fun q => by omega) j⟩)
        have nr8 : ∀ i, i < (T n).c → NdR σ8 m n b (T n) i := fun i hi => (nr i hi).ag (fun f j z0 z1 => e48 f _ (by omega))
        have ev8 : EvR σ8 m n b Ss (T n) (I n) (gI σ 1201 m (I n).toNat) (fun q => hasM σ m (I n) q) := ⟨ir4.ag L8 (fun f j z => e48 f j (by omega)), fdr_of y2 D8, hB, c4, by omega, nr8, fun a ha => w1.ndw w2 ha, fun a ha z => ((w1.2 a ha).2.2.2 z).1, by rw [e48 _ _ (by omega)]; exact h53⟩
        have r69 : gI σ7 1269 m (400 * n + kk) = (T n).d 2 kk := by rw [e47.I (fun q => by have := q.2; omega)]; exact (nr kk kc).2.2.1
        rw [Int.toNat_natCast, r69]
        refine ⟨RT7.1, bk2, m_worked (d := d + 143) (nb := 6000) (fun j y hy => ?_) (by rw [F8.I (fun q => by omega)]; exact z62) (by omega) (wfX i' N hr) ev8 kc stk ⟨by omega, by omega⟩ ⟨by omega, by omega⟩ (nmo X i' N hX hr) (fun v hv σ9 F9 z86 => ⟨fun _ => ⟨_, rfl, (hv3 v hv).1, ?_⟩, fun z => absurd z86 z⟩) (fun hv v σ9 F9 z86 => ⟨fun z => by omega, fun _ => ⟨_, rfl, (hv2 hv).1, ?_⟩⟩)⟩
        · rw [F8.I (f := 1242) (fun q => by omega), F8.I (f := 1243) (fun q => by omega), F8.I (f := 1244) (fun q => by omega), F8.J (f := 1245) (fun q => by omega)]
          exact rn j y hy
        · refine fin σ7 _ 0 q7 ((F8.mono (fun f r q => ⟨q.1, by have := q.2; omega⟩)).trans ((F9.mono (fun f r q => ⟨q.1, by have := q.2; omega⟩)).trans (Frm.sJ ⟨rfl, by omega⟩))) ?_ ?_ hv1 (by rw [gJ_slf, (hv3 v hv).2])
          · show gI σ9 1211 m 0 = 0; rw [F9.I (fun q => by omega)]; exact u11
          · show gI σ9 1212 m 0 = 0; rw [F9.I (fun q => by omega)]; exact u12
        · refine fin σ7 σ9 0 q7 ((F8.mono (fun f r q => ⟨q.1, by have := q.2; omega⟩)).trans (F9.mono (fun f r q => ⟨q.1, by have := q.2; omega⟩))) (by rw [F9.I (fun q => by omega)]; exact u11) (by rw [F9.I (fun q => by omega)]; exact u12) hv1 ?_
          rw [F9.J (fun q => by omega), F8.J (fun q => by omega), M7.J (fun q => by omega), (eτ _ _ (by decide)).2, (hv2 hv).2, hO]
    · rw [← rxe] at hr
      have eb := rx_eb hX 0 ee hr
      have ans := hE ee (Or.inl hr)
      refine ⟨fun zs => bk_X12_evaluate_107 ⟨m, rfl, d_must (by omega) (by omega) ⟨fun z => absurd z (by omega), fun _ => flt σ7 ee q7 g1 g2 eb ans⟩⟩, fun zs => bk_X12_evaluate_107 ⟨m, rfl, d_must (by omega) (by omega) ⟨fun z => absurd z (by omega), fun _ => flt σ7 ee q7 g1 g2 eb ans⟩⟩⟩
  -- the class
  refine x_question (sn := sn) (c0 := A.2.1) (c := qc) (so := A.2.2.1) (fo := A.2.2.2) (Fs := Fs) (by omega) hX tok (F3.lc tp2) (F3.lc s1.1) (F3.lc k2') (s1.2.2.2.1.gen F3 (fun f r z q => by omega)) sn20 (by rw [(e3' _ _ _ (by decide)).1]; exact f802) f14 esb (fun k G hG => (ffc k G hG).frm F3 (fun f z0 z1 q => by omega) (Mo.frm F3 (fun f z q => by omega) (fun f z0 z1 q => by omega))) k4' (by rw [(e3' _ _ _ (by decide)).1]; exact d4) (fun i' N hr k0' σ5 F5 cn ce c2 l3 g6 => ?_) (fun ee he σ5 F5 fl => ?_)
  · have F35 : Frm (EvP qc) σ σ5 := F3'.trans (F5.mono (fun f r q => by omega))
    have e5 : ∀ f r j, 1100 ≤ f → gI σ5 f r j = gI σ f r j ∧ gJ σ5 f r j = gJ σ f r j ∧ gR σ5 f r j = gR σ f r j := fun f r j z => by
      obtain ⟨u1, u2, u3⟩ := e3' f r j (by omega)
      exact ⟨by rw [F5.I (fun q => by omega)]; exact u1, by rw [F5.J (fun q => by omega)]; exact u2, by rw [F5.R (fun q => by omega)]; exact u3⟩
    have g6' : gI σ5 600 p 0 = 0 := g6
    refine ⟨p, by rw [(e5 _ _ _ (by decide)).2.2]; exact x3, fun _ => ⟨rk, by rw [(e5 _ _ _ (by decide)).2.2]; exact e1, ?_⟩, fun z => absurd z (by decide)⟩
    rw [g6', (e5 1107 _ _ (by decide)).2.2, k1', F35.I (f := 503) (fun q => by omega), n3, F35.R (f := 1000) (fun q => by omega), v1.1.2.1]
    have F6 : Frm (EvP qc) σ (sI σ5 1111 x 0 0) := F35.trans (Frm.sI (by omega))
    have F56 : Frm (fun f r => r = x ∧ f = 1111) σ5 (sI σ5 1111 x 0 0) := Frm.sI ⟨rfl, rfl⟩
    have u111 : gI (sI σ5 1111 x 0 0) 1111 x 0 = 0 := gI_slf _ _ _ _ _
    have z901 : gI (sI σ5 1111 x 0 0) 901 (tpe σ x) 0 = 0 := by rw [F56.I (fun q => by omega), F5.I (fun q => by omega)]; exact n901
    have e6 : ∀ f j, 1200 ≤ f → gI (sI σ5 1111 x 0 0) f m j = gI σ f m j ∧ gJ (sI σ5 1111 x 0 0) f m j = gJ σ f m j := fun f j z => by rw [F56.I (fun q => by omega), F56.J (fun q => by omega)]; exact ⟨(e5 f m j (by omega)).1, (e5 f m j (by omega)).2.1⟩
    have j12 : gJ (sI σ5 1111 x 0 0) 1112 x 0 = gJ σ 1112 x 0 := by rw [F56.J (fun q => by omega)]; exact (e5 _ _ _ (by decide)).2.1
    have cn6 : CN (sI σ5 1111 x 0 0) qc 0 N := fun j y hy => by rw [F56.I (fun q => by omega), F56.J (fun q => by omega)]; exact cn j y hy
    have ce6 : gI (sI σ5 1111 x 0 0) 0 qc (0 + N.length) = 0 := by rw [F56.I (fun q => by omega), Nat.zero_add]; exact ce
    have c26 : gI (sI σ5 1111 x 0 0) 2 qc 0 = (N.length : Int) + 1 := by rw [F56.I (fun q => by omega)]; exact c2
    generalize sI σ5 1111 x 0 0 = σ6 at *
    have ev : EvC σ6 (img σ x (I n)) A.1 A.2.1 A.2.2.1 A.2.2.2 (noO σ tr) Ss (T n) (gI σ 1201 m (I n).toNat) (fun q => hasM σ m (I n) q) := by
      refine ⟨⟨F6.lc q2.1, by rw [F6.I (fun q => by omega)]; exact l304, ⟨by omega, by omega⟩, fun q a0 a1 => by rw [F6.I (fun q => by omega)]; exact q3.has q2 a0 (by omega)⟩, s1.2.2.2.1.gen F6 (fun f r z q => by omega), fun fl F hF => (hD.fdc fl F hF).frm F6 (fun f z0 z1 q => by omega) (Mo.frm F6 (fun f z q => by omega) (fun f z0 z1 q => by omega)), fun a' ha => (v1.2.2.2.1 a' ha).1.agn ha (fun y hy => ((w1.2 a' ha).2.1.2.1 y hy).1) (fun f j f0 f1 hj => F6.2.2.2 f _ (fun q => by omega) 0), fun a' ha => ⟨w1.ndw w2 ha, (w1.ndw w2 ha).2.2.2.1, fun y hy => ((w1.2 a' ha).2.1.2.1 y hy).1⟩⟩
    have noe : ∀ ee, ¬ (rx X Fs 0 = .error ee ∨ ∃ i' N, rx X Fs 0 = .ok (i', N) ∧ ¬ X.k i' = 0 ∧ ee = ck X i' 2) := fun ee q => by
      rcases q with q | ⟨i2', N2, q, q2', _⟩
      · rw [hr] at q; cases q
      · rw [hr] at q; cases q; exact q2' k0'
    have same : ∀ i2' N2, rx X Fs 0 = .ok (i2', N2) → N2 = N := fun i2' N2 q => by rw [hr] at q; cases q; rfl
    have e16 : gR σ6 1104 x 0 = some rk := by rw [F6.R (fun q => by omega)]; exact e1
    have wk := x_work (g := g) (l := l) (d := d + 145) (σ := σ6) (rk := rk) (c := qc) (nb := 0) (cd := A.2.1) (here := (T n).d 2 kk) (i := kk) (P := fun v23 σ22 => ∃ r24, gR σ22 1104 x 0 = some r24 ∧ (((gI σ22 700 r24 0) = 0 → ∃ a, some (vI 0) = some (vI a) ∧ ACi g l (d + 150) MX12_evaluate [vR 12 (some m), vI (n : Int), vI (kk : Int)] (sJ σ22 1112 x 0 v23) (fun r σ2 => a = r ∧ TapI σ2 x m ∧ DsI σ2 x m p A B En Ss b ∧ (∃ qc, Frm (EvP qc) σ σ2) ∧ gJ σ2 1112 x 0 = gJ σ2 1290 m 0)) ∧ (¬ (gI σ22 700 r24 0) = 0 → ∃ a, some (vI (-3)) = some (vI a) ∧ ACi g l (d + 150) MX12_evaluate [vR 12 (some m), vI (n : Int), vI (kk : Int)] σ22 (fun r σ2 => a = r ∧ TapI σ2 x m ∧ DsI σ2 x m p A B En Ss b ∧ (∃ qc, Frm (EvP qc) σ σ2) ∧ gJ σ2 1112 x 0 = gJ σ2 1290 m 0)))) (F6.lc e2) (F6.lc k2') cn6 ce6 (by rw [c26]; omega) (by rw [c26]; omega) (wfX i' N hr) ev kc stk ⟨by omega, by omega⟩ ⟨by omega, by omega⟩ (fun y hy ho => (nmo X i' N hX hr y hy ho).1) (fun v hv σ7 F7 z7 => ⟨rk, by rw [F7.R (fun q => by omega)]; exact e16, fun _ => ⟨_, rfl, ?_⟩, fun z => absurd z7 z⟩) (fun hv v σ7 F7 z7 => ⟨rk, by rw [F7.R (fun q => by omega)]; exact e16, fun z => by omega, fun _ => ⟨_, rfl, ?_⟩⟩)
    · exact wk
    · have F8 : Frm (fun f r => (r = rk ∧ 700 ≤ f ∧ f ≤ 702) ∨ (r = x ∧ f = 1112)) σ6 (sJ σ7 1112 x 0 v) := (F7.mono (fun f r q => Or.inl q)).trans (Frm.sJ (Or.inr ⟨rfl, rfl⟩))
      refine ref 0 _ (F6.trans (F8.mono (fun f r q => by omega))) (fun f j z => ?_) (by rw [F8.I (fun q => by omega)]; exact z901) (fun ee q => absurd q (noe ee)) (fun i2' N2 q _ => ⟨by rw [F8.I (fun q => by omega)]; exact u111, fun hn => ?_, fun v2 hv2 => ⟨rfl, ?_⟩⟩)
      · rw [F8.I (fun q => by omega), F8.J (fun q => by omega)]; exact e6 f j z
      · rw [same i2' N2 q, hv] at hn; cases hn
      · rw [same i2' N2 q, hv] at hv2; cases hv2; exact gJ_slf _ _ _ _ _
    · refine ref (-3) σ7 (F6.trans (F7.mono (fun f r q => by omega))) (fun f j z => ?_) (by rw [F7.I (fun q => by omega)]; exact z901) (fun ee q => absurd q (noe ee)) (fun i2' N2 q _ => ⟨by rw [F7.I (fun q => by omega)]; exact u111, fun hn => ⟨rfl, by rw [F7.J (fun q => by omega)]; exact j12⟩, fun v2 hv2 => ?_⟩)
      · rw [F7.I (fun q => by omega), F7.J (fun q => by omega)]; exact e6 f j z
      · rw [same i2' N2 q, hv] at hv2; cases hv2
  · have F35 : Frm (EvP qc) σ σ5 := F3'.trans (F5.mono (fun f r q => by omega))
    have e5 : ∀ f r j, 1100 ≤ f → gI σ5 f r j = gI σ f r j ∧ gJ σ5 f r j = gJ σ f r j ∧ gR σ5 f r j = gR σ f r j := fun f r j z => by
      obtain ⟨u1, u2, u3⟩ := e3' f r j (by omega)
      exact ⟨by rw [F5.I (fun q => by omega)]; exact u1, by rw [F5.J (fun q => by omega)]; exact u2, by rw [F5.R (fun q => by omega)]; exact u3⟩
    have eb : EB ee := by
      rcases he with q | ⟨i2', N2, _, _, q⟩
      · exact rx_eb hX 0 ee q
      · rw [q]; exact EB.ck hX
    unfold EB at eb
    have uni : ∀ e2, (rx X Fs 0 = .error e2 ∨ ∃ i' N, rx X Fs 0 = .ok (i', N) ∧ ¬ X.k i' = 0 ∧ e2 = ck X i' 2) → e2 = ee := fun e2 q => by
      rcases he with h1 | ⟨i1', N1, h1, _, h1e⟩
      · rcases q with q | ⟨i2', N2, q, _, _⟩
        · rw [h1] at q; cases q; rfl
        · rw [h1] at q; cases q
      · rcases q with q | ⟨i2', N2, q, _, qe⟩
        · rw [h1] at q; cases q
        · rw [h1] at q; cases q; rw [qe, h1e]
    have nok : ∀ i' N, rx X Fs 0 = .ok (i', N) → ¬ X.k i' = 0 := fun i' N q => by
      rcases he with h1 | ⟨i1', N1, h1, hz, _⟩
      · rw [h1] at q; cases q
      · rw [h1] at q; cases q; exact hz
    refine ⟨p, by rw [(e5 _ _ _ (by decide)).2.2]; exact x3, fun z => absurd rfl z, fun _ => ?_⟩
    rw [fl.1, fl.2]
    have F56 : Frm (fun f r => r = x ∧ f = 1111) σ5 (sI σ5 1111 x 0 ee.1) := Frm.sI ⟨rfl, rfl⟩
    refine ⟨⟨by omega, by omega⟩, _, rfl, ref _ _ (F35.trans (F56.mono (fun f r q => by omega))) (fun f j z => ?_) ?_ (fun e2 q => ?_) (fun i2' N2 q z => absurd z (nok i2' N2 q))⟩
    · rw [F56.I (fun q => by omega), F56.J (fun q => by omega)]; exact ⟨(e5 f m j (by omega)).1, (e5 f m j (by omega)).2.1⟩
    · rw [F56.I (fun q => by omega), F5.I (fun q => by omega)]; exact n901
    · rw [uni e2 q]
      exact ⟨rfl, gI_slf _ _ _ _ _, by rw [F56.J (fun q => by omega)]; exact (e5 _ _ _ (by decide)).2.1⟩
end V1
