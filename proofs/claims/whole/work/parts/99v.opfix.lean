/-! fix, both -/
abbrev FxP (f r : Nat) : Prop := FxF f r ∨ f = 504 ∨ f = 1272
section F4
variable {g : GP} {l : Launch} {d e : Nat} {σ σ1 σ2 σ3 : St} {x m p b : Nat} {A B : DPa} {En : List Enm} {Ss : List Stc} {T : Nat → TS} {I : Nat → Int} {t k : Int}
theorem FxR.frm {nk q : Nat} (h : FxR σ σ1 nk m q) : Frm FxP σ σ1 := ⟨h.1, h.2.1, h.2.2.1, fun f r z i => by
  have y := h.2.2.2 f r i (fun q => z (Or.inl q))
  exact ⟨y.2.2 (fun q => z (Or.inr (Or.inl q.1))) (fun q => z (Or.inr (Or.inr q.1))), y.1, y.2.1⟩⟩
theorem op_fix (hI : ImgI σ x m) (hD : DsI σ x m p A B En Ss b) (hT : TreI σ x m A.2.2.2 Ss b T I) : ACi g l (d + 12) MX11_fix [vR 11 (some x), vI t, vI k] σ (fun a σ1 => ACi g l (d + 12) MX12_fix [vR 12 (some m), vI t, vI k] σ1 (fun r σ2 => a = r ∧ ImgI σ2 x m ∧ Frm FxP σ σ2 ∧ ∃ T', TreI σ2 x m A.2.2.2 Ss b T' I)) := by
  obtain ⟨i1, i2, i3, i4, i5, i6, i7, i8, i9⟩ := id hI
  obtain ⟨hW, hsz, hB⟩ := hD.lw
  obtain ⟨⟨x1, _⟩, ⟨s1, _⟩, _, ⟨d1, _, d3, d4⟩, ⟨y1, y2, y3⟩, _⟩ := id hD
  have none' : ¬ ((0 ≤ t ∧ t < gI σ 1110 x 0) ∧ (0 ≤ k ∧ k < (T t.toNat).c)) → ACi g l (d + 12) MX12_fix [vR 12 (some m), vI t, vI k] σ (fun r σ2 => (-1 : Int) = r ∧ ImgI σ2 x m ∧ Frm FxP σ σ2 ∧ ∃ T', TreI σ2 x m A.2.2.2 Ss b T' I) := fun q =>
    AC.of mo_X12_fix (Nat.le_of_ble_eq_true rfl) (bk_X12_fix_0 (m_isNode i2 y1 hT (fun _ => ⟨fun z => absurd rfl z, fun _ => ⟨_, rfl, rfl, hI, Frm.rfl, T, hT⟩⟩) (fun t0 t1 k0 k1 => absurd ⟨⟨t0, t1⟩, k0, k1⟩ q)))
  refine AC.of mo_X11_fix (Nat.le_of_ble_eq_true rfl) (bk_X11_fix_0 (x_treeOf i1 hT (fun q => x_nodeOf i1 hT (fun q2 => ⟨fun _ => ⟨_, rfl, none' q2⟩, (fun r z => nomatch z)⟩) (fun t0 t1 => absurd ⟨t0, t1⟩ q)) (fun t0 t1 tr f1 o1 v1 => x_nodeOf i1 hT (fun q2 => ⟨(fun z => nomatch z), fun r er => ⟨fun _ => ⟨_, rfl, none' q2⟩, (fun r z => nomatch z)⟩⟩) (fun _ _ k0 k1 tr' f1' _ _ => ⟨(fun z => nomatch z), fun r er => ⟨(fun z => nomatch z), fun r7 er7 => ?_⟩⟩))))
  rw [f1] at f1'
  cases f1'
  cases er
  cases er7
  obtain ⟨n, rfl⟩ : ∃ n : Nat, t = (n : Int) := ⟨t.toNat, by omega⟩
  obtain ⟨kk, rfl⟩ : ∃ kk : Nat, k = (kk : Int) := ⟨k.toNat, by omega⟩
  rw [Int.toNat_natCast] at f1 v1 k1
  rw [Int.toNat_natCast]
  have kc : kk < (T n).c := by omega
  have c4 := v1.2.1.2.2.2.1
  have a2 := hT.1.2.1
  have a3 := hT.1.2.2
  have him := v1.1.1
  have n6 : n < 6 := by omega
  obtain ⟨q1, q2, q3, im6, _⟩ := hI.im him.1 him.2
  have l304 : gI σ 304 (img σ x (I n)) 0 = gI σ 1201 m (I n).toNat := q3.1
  have c304 := q2.2.1
  obtain ⟨w1, w2⟩ := v1.2.2.2.2.2.2.1
  obtain ⟨_, jt, t5, t6, t7⟩ := v1.2.2.2.2.2.2.2
  have nc := (v1.2.2.2.1 kk kc).1
  have ncx := nc
  obtain ⟨n1, n2, n3, n4, _, n6', n7, _⟩ := ncx
  obtain ⟨rk, e1, e2, e3⟩ := hT.2.2.2.2.1
  have ek : 400 * (n : Int) + (kk : Int) = ((400 * n + kk : Nat) : Int) := by omega
  have bk2 : Bd ((400 * n + kk : Nat) : Int) 2800 := ⟨by omega, by omega⟩
  have d1b := (w1.2 kk kc).1.1
  have hh : ∀ q : Int, 0 ≤ q → q < gI σ 1201 m (I n).toNat → gI σ 301 (img σ x (I n)) q.toNat = hasM σ m (I n) q := fun q a0 a1 => q3.has q2 a0 (by omega)
  -- a sum's node and where it stands
  have sum : (T n).d 0 kk = 10 → ∃ (i : Nat) (F : Fld), (T n).d 5 kk = (i : Int) ∧ i < (T n).c ∧ (T n).d 0 i = 0 ∧ gF Ss ((T n).d 6 kk) = some F ∧ F.ki = 10 ∧ TyR F.ty ∧ (217 ≤ F.nu.toInt ∧ F.nu.toInt ≤ 220) ∧ (∃ N, F.e1 = some N) ∧ (∃ N, F.e2 = some N) ∧ WFx F.e1 ∧ WFx F.e2 ∧ (∀ N, F.e1 = some N → ∀ x ∈ N, x.o = 2 → NmO Ss (T n) i x.v.toInt) ∧ (∀ N, F.e2 = some N → ∀ x ∈ N, x.o = 2 → NmO Ss (T n) i x.v.toInt) := fun k10 => by
    obtain ⟨j1, _, _, j4, j5⟩ := jt kk kc
    have j5 := j5 k10
    have j4 := j4 j5.1
    refine ⟨((T n).d 5 kk).toNat, ?_⟩
    have ic : ((T n).d 5 kk).toNat < (T n).c := by omega
    have ei : (T n).d 5 kk = ((((T n).d 5 kk).toNat : Nat) : Int) := by omega
    obtain ⟨⟨_, _, _, v4, _⟩, _, vb, _⟩ := w1.2 _ ic
    obtain ⟨_, u, F, u14, u6, hF, uk⟩ := (vb j5.2).1 kk j4
    have v7 := v4 j5.2
    obtain ⟨f0, S, hS, hk⟩ := gF_some hF
    have dv : ((T n).d 6 kk / 14).toNat = ((T n).d 7 ((T n).d 5 kk).toNat).toNat := by omega
    have md : ((T n).d 6 kk % 14).toNat = u := by omega
    obtain ⟨l14, lf⟩ := hW.2 _ S hS
    obtain ⟨fw, fx⟩ := lf _ F hk
    have fk := fw.2.2.2.2
    have kf : F.ki = 10 := by omega
    rw [dv] at hS
    refine ⟨F, ei, ic, j5.2, hF, kf, ?_⟩
    rcases fk with z | z | z | z | z | z | z | z | z | z
    · omega
    · omega
    · omega
    · omega
    · omega
    · omega
    · omega
    · omega
    · omega
    · exact ⟨z.2.1, ⟨z.2.2.1, z.2.2.2.1⟩, z.2.2.2.2.1, z.2.2.2.2.2, fw.2.1, fw.2.2.1, fun N eN => nmo_of hS v7.1 l14 (by rw [← eN]; exact fx.2.1), fun N eN => nmo_of hS v7.1 l14 (by rw [← eN]; exact fx.2.2)⟩
  -- the reference
  have ref : ∀ (R : Int) (τ : St), (∀ f j, 1200 ≤ f → gI τ f m j = gI σ f m j ∧ gJ τ f m j = gJ σ f m j) → LC 12 τ m → (∀ υ, Frm (fun f r => r = m ∧ (LkF f r ∨ SbF m f r)) τ υ → R < 0 → ImgI υ x m ∧ Frm FxP σ υ ∧ ∃ T', TreI υ x m A.2.2.2 Ss b T' I) → (¬ (T n).d 0 kk = 10 → R = -4) → ((T n).d 0 kk = 10 → (T n).d 3 kk = 1 → R = -5) → ((T n).d 0 kk = 10 → ¬ (T n).d 3 kk = 1 → ∀ i F, (T n).d 5 kk = ((i : Nat) : Int) → gF Ss ((T n).d 6 kk) = some F → (∀ ee, sumB Ss (fun q => hasM σ m (I n) q) (gI σ 1201 m (I n).toNat) (T n) i kk F = .error ee → R = -3) ∧ ∀ r, sumB Ss (fun q => hasM σ m (I n) q) (gI σ 1201 m (I n).toNat) (T n) i kk F = .ok r → R = 0 ∧ ∀ (υ : St) (P : St → Prop), Frm (fun f r => r = m ∧ 1208 < f) τ υ → (∀ k : Int, 0 ≤ k → k < tw F.ty → gI υ 1209 m k.toNat = bvx (dueV (fun q => hasM σ m (I n) q) F.nu.toInt ((T n).d 1 kk) ((T n).d 2 kk) ((T n).d 1 i + r.1) ((T n).d 1 i + r.2)) (tw F.ty) (tbg F.ty) k) → (∀ σ3, Frm (fun f r => r = m ∧ 1203 ≤ f ∧ f ≤ 1208) υ σ3 → ImgI σ3 x m → P σ3) → ACv g l (d + 10) MX12_write [vR 12 (some m), vI (I n), vI ((T n).d 1 kk), vI (tw F.ty)] υ P) → ((T n).d 0 kk = 10 → ¬ (T n).d 3 kk = 1 → R = 0 → FxR σ τ (noO σ tr kk) m (400 * n + kk) ∧ gI τ 504 (noO σ tr kk) 0 = if (T n).d 3 kk = 3 then 0 else (T n).d 3 kk) → ACi g l (d + 12) MX12_fix [vR 12 (some m), vI (n : Int), vI (kk : Int)] τ (fun r σ2 => R = r ∧ ImgI σ2 x m ∧ Frm FxP σ σ2 ∧ ∃ T', TreI σ2 x m A.2.2.2 Ss b T' I) := by
    intro R τ eτ Lτ same hA hC hE hV
    refine AC.of mo_X12_fix (Nat.le_of_ble_eq_true rfl) (bk_X12_fix_0 (m_isNodeY (im := I n) (c := ((T n).c : Int)) Lτ (by rw [(eτ _ _ (by decide)).1]; exact y1) t0 (by rw [(eτ _ _ (by decide)).1, a3]; exact t1) (by rw [(eτ _ _ (by decide)).1, a3]; exact a2) k0 (by rw [(eτ _ _ (by decide)).1, Int.toNat_natCast]; exact v1.2.1.2.2.2.2.2) k1 (by rw [(eτ _ _ (by decide)).1, Int.toNat_natCast]; exact v1.1.2.2) (fun σ1 F1 h80 h81 h53 => ⟨fun _ => ?_, fun z => absurd z (by decide)⟩)))
    have L1 := F1.lc Lτ
    have eI : ∀ f j, 1200 ≤ f → ¬ LkF f m → gI σ1 f m j = gI σ f m j := fun f j z0 z => by rw [F1.I (fun q => z q.2), (eτ _ _ z0).1]
    have eJ : ∀ f j, 1200 ≤ f → ¬ LkF f m → gJ σ1 f m j = gJ σ f m j := fun f j z0 z => by rw [F1.J (fun q => z q.2), (eτ _ _ z0).2]
    have nr : ∀ i, i < (T n).c → NdR σ1 m n b (T n) i := fun i hi => (v1.2.2.2.2.1 i hi).ag (fun f j z0 z1 => eI f _ (by omega) (by omega))
    obtain ⟨r1, r2, r3, r4, _, r6, r7, _⟩ := nr kk kc
    have ir := imr_ed hI him h81 L1 eI
    have D1 : DR σ1 m b (3000 * b + 3000) En Ss := y3.ag (fun f j z => ⟨eI f j (by omega) (by omega), eJ f j (by omega) (by omega)⟩)
    have E1 : EnR σ1 m n b En Ss (I n) (gI σ 1201 m (I n).toNat) (fun q => hasM σ m (I n) q) := ⟨ir, ⟨y2, D1⟩, h53, by rw [eI _ _ (by decide) (by omega)]; exact y1, h80, by omega⟩
    have W1 : TrW σ1 m n b (T n) := ⟨c4, nr⟩
    have fd := fdr_of y2 D1
    have F1' : Frm (fun f r => r = m ∧ (LkF f r ∨ SbF m f r)) τ σ1 := F1.mono (fun f r q => ⟨q.1, Or.inl q.2⟩)
    rw [ek, Int.toNat_natCast, r1, r4, r7, r6]
    refine ⟨⟨by omega, by omega⟩, ⟨by omega, by omega⟩, L1, bk2, fun z10 => ⟨fun z3 zz hzz => ?_, fun z3 => ⟨_, rfl, hC z10 z3, same σ1 F1' (by have := hC z10 z3; omega)⟩⟩, fun z10 => ⟨_, rfl, hA z10, same σ1 F1' (by have := hA z10; omega)⟩⟩
    obtain ⟨i, F, p5, ic, i0, hF, kf, ty, nu, pN, pM, wx1, wx2, hx1, hx2⟩ := sum z10
    obtain ⟨hEe, hEo⟩ := hE z10 z3 i F p5 hF
    have q0 := (gF_some hF).1
    obtain ⟨f280, frr⟩ := fd.2 _ F hF
    have ez : zz = (fxR b ((T n).d 6 kk) : Int) := by rw [hzz, if_neg (by omega)]; unfold fxR; omega
    have ep : oI n ((T n).d 5 kk) = ((400 * n + i : Nat) : Int) := by rw [p5]; unfold oI; rw [if_neg (by omega)]; omega
    rw [ez, ep]
    obtain ⟨b1, b2, b3⟩ := ty_bit3 ty
    have ty1 := ty.1
    have ty2 := ty.2.1
    have vi := (w1.2 i ic).1.1
    refine m_sumBoundsW (d := d + 4) E1 W1 w1 w2 hB ic i0 kc hF wx1 wx2 hx1 hx2 hD.2.2.2.1.1.2.1 pN pM (fun ee he σ2 F2 W2 e0 => ⟨fun z => absurd z (by omega), fun _ => ⟨_, rfl, hEe ee he, same σ2 (F1'.trans (F2.mono (fun f r q => ⟨q.1, Or.inr q⟩))) (by have := hEe ee he; omega)⟩⟩) (fun r hr rr0 rr1 rr2 σ2 F2 W2 a8 a9 => ⟨fun _ => ?_, fun z => absurd (by decide) z⟩)
    obtain ⟨R0, hw⟩ := hEo r hr
    obtain ⟨fxτ, h5⟩ := hV z10 z3 R0
    have L2 := F2.lc L1
    have E2 := E1.ry (sb_ns (t := n) F2).ry
    have r62 := (W2.2 kk kc).2.2.2.2.2.1
    have r22 := (W2.2 kk kc).2.1
    refine ⟨L2, ?_⟩
    rw [r62, ep, r22]
    refine m_dueW (d := d + 9) E2 W2 ic kc ⟨by omega, by omega⟩ hF kf ty nu a8 a9 ⟨rr0, rr1, rr2⟩ ⟨L2, ⟨by unfold fxR; omega, by unfold fxR; omega⟩, ?_⟩
    have f29 := ((E2.fdr.2 _ F hF).2).1.2.2.2.2.2.2.2.2.1 (ty_nz ty)
    rw [Int.toNat_natCast, f29]
    have h81' : gI σ2 1281 m 0 = I n := by rw [F2.I (fun q => by omega)]; exact h81
    refine m_putG (d := d + 9) (nn := tw F.ty) (bg := tbg F.ty) (im := I n) L2 ty1 ty2 h81' b1 b2 (fun υ Fυ rows => ?_)
    have Fτυ : Frm (fun f r => r = m ∧ (LkF f r ∨ SbF m f r ∨ f = 1209)) τ υ := (F1'.mono (fun f r q => ⟨q.1, by rcases q.2 with z | z; exact Or.inl z; exact Or.inr (Or.inl z)⟩)).trans ((F2.mono (fun f r q => ⟨q.1, Or.inr (Or.inl q)⟩)).trans (Fυ.mono (fun f r q => ⟨q.1, Or.inr (Or.inr q.2)⟩)))
    refine hw υ _ (Fτυ.mono (fun f r q => ⟨q.1, by have := q.2; omega⟩)) (fun c c0 c1 => ?_) (fun σ3 F3 I3 => ?_)
    · rw [rows c c0 c1]
      unfold bvx
      have lo := mkv_low ty1 ty2
      by_cases bz : tbg F.ty = 0
      · rw [if_pos bz, byt_low _ _ ty1 ty2 lo c0 (by omega), if_pos c1]
      · rw [if_neg bz, byt_low _ _ ty1 ty2 lo (by omega) (by omega), if_pos (by omega)]
    · have Fτ3 : Frm (fun f r => r = m ∧ (LkF f r ∨ SbF m f r ∨ (1203 ≤ f ∧ f ≤ 1209))) τ σ3 := (Fτυ.mono (fun f r q => ⟨q.1, by rcases q.2 with z | z | z; exact Or.inl z; exact Or.inr (Or.inl z); exact Or.inr (Or.inr (by omega))⟩)).trans (F3.mono (fun f r q => ⟨q.1, Or.inr (Or.inr (by have := q.2; omega))⟩))
      have fx3 : FxR σ σ3 (noO σ tr kk) m (400 * n + kk) := fxτ.trans (FxR.of (Fτ3.mono (fun f r q => by have := q.2; omega)))
      have e72 : gI σ3 1272 m (400 * n + kk) = (T n).d 3 kk := by
        rw [Fτ3.I (fun q => by have := q.2; omega), (eτ _ _ (by decide)).1]
        exact (v1.2.2.2.2.1 kk kc).2.2.2.1
      have h53' : gI σ3 504 (noO σ tr kk) 0 = if (T n).d 3 kk = 3 then 0 else (T n).d 3 kk := by rw [Fτ3.I (fun q => by have := q.2; omega)]; exact h5
      refine ⟨F3.lc (Fυ.lc L2), ?_⟩
      rw [e72]
      refine ⟨fun u => ⟨_, rfl, R0, I3, fx3.frm, _, tre_fix hI hT t1 f1 kc z10 z3 fx3 (by rw [h53', if_neg u]) e72⟩, fun u => ⟨_, rfl, R0, I3.fr (Frm.sI (P := fun f _ => f = 1272) rfl).fr (fun f r z q => by omega), ?_, _, tre_fix (v := 0) hI hT t1 f1 kc z10 z3 (fx3.trans FxR.s12) ?_ (gI_slf _ _ _ _ _)⟩⟩
      · exact (fx3.trans FxR.s12).frm
      · rw [gI_sI, if_neg (by simp), h53', if_pos u]
  -- the class
  rw [n1, n4]
  have here : ∀ υ, Frm (fun f r => r = m ∧ (LkF f r ∨ SbF m f r)) σ υ → ImgI υ x m ∧ Frm FxP σ υ ∧ ∃ T', TreI υ x m A.2.2.2 Ss b T' I := fun υ F => by
    have F' : Frm FxF σ υ := F.mono (fun f r q => by have := q.2; omega)
    refine ⟨hI.fr F.fr (fun f r z q => by have := q.2; omega), F'.mono (fun f r q => Or.inl q), T, hT.fr ⟨i3, i4⟩ F'.fr (fun f r z q => by omega) (by rw [F'.I (fun q => by omega)]; exact Int.le_refl _) (fun im _ _ => ⟨by unfold img; rw [F'.R (fun q => by omega)], by rw [F'.I (fun q => by omega)]; exact Int.le_refl _⟩)⟩
  refine ⟨fun z10 => ⟨fun z3 => ?_, fun z3 => ⟨_, rfl, ref _ σ (fun _ _ _ => ⟨rfl, rfl⟩) i2 (fun υ F _ => here υ F) (fun q => absurd z10 q) (fun _ _ => rfl) (fun _ q => absurd z3 q) (fun _ q => absurd z3 q)⟩⟩, fun z10 => ⟨_, rfl, ref _ σ (fun _ _ _ => ⟨rfl, rfl⟩) i2 (fun υ F _ => here υ F) (fun _ => rfl) (fun q => absurd q z10) (fun q => absurd q z10) (fun q => absurd q z10)⟩⟩
  obtain ⟨i, F, p5, ic, i0, hF, kf, ty, nu, pN, pM, wx1, wx2, hx1, hx2⟩ := sum z10
  have q0 := (gF_some hF).1
  have ty1 := ty.1
  have ty2 := ty.2.1
  have vi := (w1.2 i ic).1.1
  have aF : ∀ F', gF Ss ((T n).d 6 kk) = some F' → F' = F := fun F' z => by rw [hF] at z; cases z; rfl
  have h513 : gR σ 513 (noO σ tr kk) 0 = some (A.2.2.2 ((T n).d 6 kk / 14).toNat ((T n).d 6 kk % 14).toNat) := by rw [n7]; unfold oF; rw [if_neg (by omega)]
  have h507 : gR σ 507 (noO σ tr kk) 0 = some (noO σ tr i) := by rw [n6', p5]; exact oN_at
  have tl := (w2 kk kc F hF).1 (by rw [z10]; unfold isNu; omega) z3
  refine AC.of mo_X10_makeDue (Nat.le_of_ble_eq_true rfl) (bk_X10_makeDue_0 ⟨_, rfl, ?_⟩)
  rw [h513, h507]
  refine ⟨(fun z => nomatch z), fun r3 er3 => ⟨(fun z => nomatch z), fun r5 er5 => ?_⟩⟩
  have EC0 : EnC σ tr (img σ x (I n)) A.1 A.2.1 rk A.2.2.1 A.2.2.2 En Ss (gI σ 1201 m (I n).toNat) (fun q => hasM σ m (I n) q) (fun _ => True) := ⟨⟨v1.1.2.1, by rw [t6]; exact x1, by rw [t7]; exact e1, o1.1, o1.2.1, e2, e3⟩, ⟨q2.1, l304, ⟨by omega, by omega⟩, hh, q2.2.2.2.2.2.2.2⟩, s1, ⟨d1, d3, d4⟩, fun _ _ => trivial⟩
  have TC0 : TrC σ tr (noO σ tr) A.2.2.2 Ss (fun _ => True) (hs σ) (sl σ) (T n) := ⟨⟨v1.2.1.2.2.2.2.1, t5, c4⟩, v1.2.2.1, fun j r hj hr => ⟨(o1.2.2 j r hj hr).1, trivial, (o1.2.2 j r hj hr).2⟩, v1.2.2.2.1, v1.2.2.2.2.2.1, by omega, by omega⟩
  have up : ∀ υ, Frm (RfF tr rk) σ υ → (∀ f j, 1200 ≤ f → gI υ f m j = gI σ f m j ∧ gJ υ f m j = gJ σ f m j) ∧ LC 12 υ m := fun υ F => ⟨fun f j z => ⟨F.I (fun q => by omega) j, F.J (fun q => by omega) j⟩, F.lc i2⟩
  refine x_rangeFaultW (d := d + 5) EC0 TC0 w1 w2 ic i0 kc p5 hF rfl wx1 wx2 hx1 hx2 d1.2.1 pN pM (fun ee he σ7 F7 T7 ne => ⟨fun z => absurd z ne, fun _ => ⟨_, rfl, fun _ => ⟨_, rfl, ?_⟩, fun z => absurd rfl z⟩⟩) (fun r hr rr0 rr1 rr2 σ7 F7 T7 a8 a9 => ⟨fun _ => ?_, fun z => absurd rfl z⟩)
  · obtain ⟨u1, u2⟩ := up σ7 F7
    refine ref (-3) σ7 u1 u2 (fun υ Fυ _ => ?_) (fun q => absurd z10 q) (fun _ q => absurd q z3) (fun _ _ i' F' hi' hF' => ?_) (fun _ _ q => absurd q (by decide))
    · have F' : Frm FxF σ υ := (F7.mono (fun f r q => by omega)).trans (Fυ.mono (fun f r q => by have := q.2; omega))
      refine ⟨(hI.fr F7.fr (fun f r z q => by omega)).fr Fυ.fr (fun f r z q => by have := q.2; omega), F'.mono (fun f r q => Or.inl q), T, hT.fr ⟨i3, i4⟩ F'.fr (fun f r z q => by omega) (by rw [F'.I (fun q => by omega)]; exact Int.le_refl _) (fun im _ _ => ⟨by unfold img; rw [F'.R (fun q => by omega)], by rw [F'.I (fun q => by omega)]; exact Int.le_refl _⟩)⟩
    · obtain rfl : i' = i := by omega
      rw [aF F' hF']
      exact ⟨fun _ _ => rfl, fun r hr => by rw [he] at hr; cases hr⟩
  · obtain ⟨u1, u2⟩ := up σ7 F7
    have I7 : ImgI σ7 x m := hI.fr F7.fr (fun f r z q => by omega)
    have E7 := EC0.fr (rf_ly (Own := fun _ => True) F7)
    have eR : ∀ f r j, ¬ f = 1008 → ¬ f = 1009 → ¬ (700 ≤ f ∧ f ≤ 702) → gR σ7 f r j = gR σ f r j ∧ gI σ7 f r j = gI σ f r j := fun f r j z1 z2 z3 => ⟨F7.R (fun q => by omega) j, F7.I (fun q => by omega) j⟩
    have im7 : img σ7 x (I n) = img σ x (I n) := by unfold img; rw [(eR _ _ _ (by decide) (by decide) (by decide)).1]
    obtain ⟨_, q27, _⟩ := I7.im him.1 (by rw [(eR 1101 _ _ (by decide) (by decide) (by decide)).2]; exact him.2)
    rw [im7] at q27
    have fc := hD.fdc _ F hF
    refine ⟨_, by rw [(eR _ _ _ (by decide) (by decide) (by decide)).1]; exact h513, x_due (d := d + 9) E7 T7 kc hF rfl nu a8 a9 ⟨by omega, by omega, by omega⟩ ⟨_, by rw [(eR _ _ _ (by decide) (by decide) (by decide)).1]; exact h513, img σ x (I n), by rw [(eR _ _ _ (by decide) (by decide) (by decide)).1]; exact v1.1.2.1, ?_⟩⟩
    rw [(eR 502 _ _ (by decide) (by decide) (by decide)).2, (eR 203 _ _ (by decide) (by decide) (by decide)).2, (eR 205 _ _ (by decide) (by decide) (by decide)).2, n2, fc.xtw, fc.2.2.2.2.1]
    have l7 : (T n).d 1 kk + tw F.ty ≤ gI σ7 304 (img σ x (I n)) 0 := by rw [(eR 304 _ _ (by decide) (by decide) (by decide)).2]; omega
    refine x_writeB (d := d + 7) (n := tw F.ty) (bg := tbg F.ty) q27 (by omega) ty1 ty2 l7 (fun σ18 wx => ?_)
    have wf := (wx.frm q27).1
    have e18 : ∀ f r j, ¬ f / 100 = 3 → ¬ f / 100 = 4 → gI σ18 f r j = gI σ7 f r j ∧ gJ σ18 f r j = gJ σ7 f r j := fun f r j z1 z2 => ⟨wf.I (fun q => by omega) j, wf.J (fun q => by omega) j⟩
    have wx' : WrX σ7 σ18 (img σ7 x (I n)) (dueV (fun q => hasM σ m (I n) q) F.nu.toInt ((T n).d 1 kk) ((T n).d 2 kk) ((T n).d 1 i + r.1) ((T n).d 1 i + r.2)) (tw F.ty) (tbg F.ty) ((T n).d 1 kk) := by rw [im7]; exact wx
    have h17 : I n < gI σ7 1101 x 0 := by rw [(eR 1101 _ _ (by decide) (by decide) (by decide)).2]; exact him.2
    have l7' : (T n).d 1 kk + tw F.ty ≤ gI σ7 304 (img σ7 x (I n)) 0 := by rw [im7]; exact l7
    have fx18 : FxR σ σ18 (noO σ tr kk) m (400 * n + kk) := FxR.of ((F7.mono (fun f r q => by omega)).trans (wf.mono (fun f r q => by omega)))
    have g5 : gI σ18 504 (noO σ tr kk) 0 = (T n).d 3 kk := by rw [(e18 _ _ _ (by decide) (by decide)).1, (eR _ _ _ (by decide) (by decide) (by decide)).2]; exact n4
    have u18 : ∀ f j, 1200 ≤ f → gI σ18 f m j = gI σ f m j ∧ gJ σ18 f m j = gJ σ f m j := fun f j z => by rw [(e18 f m j (by omega) (by omega)).1, (e18 f m j (by omega) (by omega)).2]; exact u1 f j z
    rw [g5]
    refine ⟨fun u => ⟨_, rfl, fun z => absurd z (by decide), fun _ => ⟨_, rfl, ?_⟩⟩, fun u => ⟨_, rfl, fun z => absurd z (by decide), fun _ => ⟨_, rfl, ?_⟩⟩⟩
    · refine ref 0 σ18 u18 (wf.lc u2) (fun _ _ q => absurd q (by decide)) (fun q => absurd z10 q) (fun _ q => absurd q z3) (fun _ _ i' F' hi' hF' => ?_) (fun _ _ _ => ⟨fx18, by rw [g5, if_neg u]⟩)
      obtain rfl : i' = i := by omega
      rw [aF F' hF']
      refine ⟨(fun ee he => by rw [hr] at he; exact (nomatch he)), fun r' hr' => ?_⟩
      rw [hr] at hr'
      cases hr'
      exact ⟨rfl, fun υ P Fυ rows hP => m_writeB (d := d + 9) I7 him.1 h17 (by omega) ty1 ty2 l7' wx' Fυ rows hP⟩
    · refine ref 0 (sI σ18 504 (noO σ tr kk) 0 0) (fun f j z => by rw [gI_sI, if_neg (by omega)]; exact u18 f j z) ((Frm.sI (P := fun f _ => f = 504) rfl).lc (wf.lc u2)) (fun _ _ q => absurd q (by decide)) (fun q => absurd z10 q) (fun _ q => absurd q z3) (fun _ _ i' F' hi' hF' => ?_) (fun _ _ _ => ⟨fx18.trans FxR.s5, by rw [gI_slf, if_pos u]⟩)
      obtain rfl : i' = i := by omega
      rw [aF F' hF']
      refine ⟨(fun ee he => by rw [hr] at he; exact (nomatch he)), fun r' hr' => ?_⟩
      rw [hr] at hr'
      cases hr'
      exact ⟨rfl, fun υ P Fυ rows hP => m_writeF (d := d + 9) (nk := noO σ tr kk) (v := 0) I7 him.1 h17 (by omega) ty1 ty2 l7' wx' Fυ rows hP⟩
end F4
