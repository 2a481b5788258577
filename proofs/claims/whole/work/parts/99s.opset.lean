/-! set, both -/
def stY (F : Fld) (s : TS) (k : Nat) : Int := if s.d 0 k = 4 then (match F.es[(s.d 8 k - 1).toNat]? with
  | some e => e.2.1.toInt
  | none => 0) else 8 * tw F.ty
def stG (F : Fld) (s : TS) (k : Nat) : Bool := decide (¬ tsg F.ty = 0 ∧ ¬ s.d 0 k = 4 ∧ ¬ s.d 0 k = 3)
def stW (F : Fld) (s : TS) (k : Nat) (h : Int → Int) (v : Int64) : Int64 := if s.d 0 k = 4 then (match F.es[(s.d 8 k - 1).toNat]? with
  | some e => (rdP h F.ty (s.d 1 k) &&& ((j_shl (mkv e.2.1.toInt) e.2.2) ^^^ ((-1) : Int64))) ||| (j_shl v e.2.2)
  | none => 0) else v
section E3
variable {g : GP} {l : Launch} {d e : Nat} {σ σ1 σ2 : St} {x m p b a : Nat} {A B : DPa} {En : List Enm} {Ss : List Stc} {T : Nat → TS} {I : Nat → Int} {t k : Int} {v : Int64} {fo : Nat → Nat → Nat} {s : TS}
theorem op_set (hI : ImgI σ x m) (hD : DsI σ x m p A B En Ss b) (hT : TreI σ x m A.2.2.2 Ss b T I) : ACi g l (d + 6) MX11_set [vR 11 (some x), vI t, vI k, vJ v] σ (fun a σ1 => ACi g l (d + 6) MX12_set [vR 12 (some m), vI t, vI k, vJ v] σ1 (fun r σ2 => a = r ∧ ImgI σ2 x m ∧ Frm EdF σ σ2)) := by
  obtain ⟨i1, i2, i3, i4, i5, i6, i7, i8, i9⟩ := id hI
  obtain ⟨hW, hsz, hB⟩ := hD.lw
  obtain ⟨_, _, _, _, ⟨y1, y2, y3⟩, _⟩ := id hD
  have none' : ¬ ((0 ≤ t ∧ t < gI σ 1110 x 0) ∧ (0 ≤ k ∧ k < (T t.toNat).c)) → ACi g l (d + 6) MX12_set [vR 12 (some m), vI t, vI k, vJ v] σ (fun r σ2 => (-1 : Int) = r ∧ ImgI σ2 x m ∧ Frm EdF σ σ2) := fun q =>
    AC.of mo_X12_set (Nat.le_of_ble_eq_true rfl) (bk_X12_set_0 (m_isNode i2 y1 hT (fun _ => ⟨fun z => absurd rfl z, fun _ => ⟨_, rfl, rfl, hI, Frm.rfl⟩⟩) (fun t0 t1 k0 k1 => absurd ⟨⟨t0, t1⟩, k0, k1⟩ q)))
  refine AC.of mo_X11_set (Nat.le_of_ble_eq_true rfl) (bk_X11_set_0 (x_treeOf i1 hT (fun q => x_nodeOf i1 hT (fun q2 => ⟨fun _ => ⟨_, rfl, none' q2⟩, (fun r z => nomatch z)⟩) (fun t0 t1 => absurd ⟨t0, t1⟩ q)) (fun t0 t1 tr f1 o1 v1 => x_nodeOf i1 hT (fun q2 => ⟨(fun z => nomatch z), fun r er => ⟨fun _ => ⟨_, rfl, none' q2⟩, (fun r z => nomatch z)⟩⟩) (fun _ _ k0 k1 tr' f1' _ _ => ⟨(fun z => nomatch z), fun r er => ⟨(fun z => nomatch z), fun r7 er7 => ?_⟩⟩))))
  rw [f1] at f1'
  cases f1'
  cases er
  cases er7
  have kc : k.toNat < (T t.toNat).c := by omega
  have c4 := v1.2.1.2.2.2.1
  have a2 := hT.1.2.1
  have him := v1.1.1
  obtain ⟨q1, q2, q3⟩ := i7 (I t.toNat) him.1 him.2
  have l304 : gI σ 304 (img σ x (I t.toNat)) 0 = gI σ 1201 m (I t.toNat).toNat := q3.1
  have c304 := q2.2.1
  obtain ⟨w1, w2⟩ := v1.2.2.2.2.2.2.1
  have ek : ((400 * t.toNat + k.toNat : Nat) : Int) = 400 * t + k := by omega
  have t7 : t.toNat < 7 := by omega
  have k400 : k.toNat < 400 := by omega
  have nc := (v1.2.2.2.1 k.toNat kc).1
  have ncx := nc
  obtain ⟨n1, n2, n3, n4, _, _, n7, _, _, _, _, _, _, n14⟩ := ncx
  have bk2 : Bd ((400 * t.toNat + k.toNat : Nat) : Int) 2800 := ⟨by omega, by omega⟩
  have d1b := (w1.2 k.toNat kc).1.1
  -- what a numbered node is
  have num : isNu ((T t.toNat).d 0 k.toNat) → ∃ F, gF Ss ((T t.toNat).d 6 k.toNat) = some F ∧ TyR F.ty ∧ (¬ (T t.toNat).d 3 k.toNat = 1 → (T t.toNat).d 1 k.toNat + tw F.ty ≤ gI σ 1201 m (I t.toNat).toNat) ∧ ((T t.toNat).d 0 k.toNat = 4 → ∃ e, F.es[((T t.toNat).d 8 k.toNat - 1).toNat]? = some e ∧ F.ki = 3 ∧ 1 ≤ (T t.toNat).d 8 k.toNat ∧ (T t.toNat).d 8 k.toNat ≤ F.es.length ∧ 1 ≤ e.2.1.toInt ∧ e.2.1.toInt ≤ 64) := fun nu => by
    rcases (w1.ndw w2 kc).2.2.1 with u | ⟨q0, F, hF, qk, qn, _⟩
    · unfold isNu at nu; omega
    · refine ⟨F, hF, (qn nu).1, (qn nu).2, fun k4 => ?_⟩
      have u : F.ki = 3 ∧ 1 ≤ (T t.toNat).d 8 k.toNat ∧ (T t.toNat).d 8 k.toNat ≤ F.es.length := by
        rcases qk with u | u | u
        · omega
        · exact u.2
        · omega
      have ee : F.es[((T t.toNat).d 8 k.toNat - 1).toNat]? = some F.es[((T t.toNat).d 8 k.toNat - 1).toNat] := List.getElem?_eq_getElem (by omega)
      have bo := BiO_at _ _ _ (hB _ F hF u.1).1 _ _ ee
      exact ⟨_, ee, u.1, u.2.1, u.2.2, bo.2.1, bo.2.2.1⟩
  -- the reference, up to where it writes
  have ref : ∀ (R : Int) (τ : St), Frm (fun f _ => f / 100 = 3 ∨ f / 100 = 4) σ τ → (¬ isNu ((T t.toNat).d 0 k.toNat) → R = -4 ∧ σ = τ) → (isNu ((T t.toNat).d 0 k.toNat) → (T t.toNat).d 3 k.toNat = 1 → R = -5 ∧ σ = τ) → (isNu ((T t.toNat).d 0 k.toNat) → ¬ (T t.toNat).d 3 k.toNat = 1 → ∀ F, gF Ss ((T t.toNat).d 6 k.toNat) = some F → (¬ okS (stY F (T t.toNat) k.toNat) (stG F (T t.toNat) k.toNat) v → R = -3 ∧ σ = τ) ∧ (okS (stY F (T t.toNat) k.toNat) (stG F (T t.toNat) k.toNat) v → R = 0 ∧ WrX σ τ (img σ x (I t.toNat)) (stW F (T t.toNat) k.toNat (fun q => hasM σ m (I t.toNat) q) v) (tw F.ty) (tbg F.ty) ((T t.toNat).d 1 k.toNat))) → ACi g l (d + 6) MX12_set [vR 12 (some m), vI t, vI k, vJ v] τ (fun r σ2 => R = r ∧ ImgI σ2 x m ∧ Frm EdF σ σ2) := by
    intro R τ Fτ hA hC hE
    have eτ : ∀ f r j, 500 ≤ f → gI τ f r j = gI σ f r j ∧ gJ τ f r j = gJ σ f r j ∧ gR τ f r j = gR σ f r j := fun f r j z => ⟨Fτ.I (by omega) j, Fτ.J (by omega) j, Fτ.R (by omega) j⟩
    have Tτ : TreI τ x m A.2.2.2 Ss b T I := tre_edit hI hT (Fτ.mono (fun f r q => by omega))
    refine AC.of mo_X12_set (Nat.le_of_ble_eq_true rfl) (bk_X12_set_0 (m_isNode (Fτ.lc i2) (by rw [(eτ _ _ _ (by decide)).1]; exact y1) Tτ (fun q => absurd ⟨⟨t0, by rw [(eτ _ _ _ (by decide)).1]; exact t1⟩, k0, k1⟩ q) (fun _ _ _ _ σ1 F1 h80 h81 h53 => ⟨fun _ => ?_, fun z => absurd z (by decide)⟩)))
    have L1 := F1.lc (Fτ.lc i2)
    have eI : ∀ f j, 1200 ≤ f → ¬ LkF f m → gI σ1 f m j = gI σ f m j := fun f j z0 z => by rw [F1.I (fun q => z q.2), (eτ _ _ _ (by omega)).1]
    have eJ : ∀ f j, 1200 ≤ f → ¬ LkF f m → gJ σ1 f m j = gJ σ f m j := fun f j z0 z => by rw [F1.J (fun q => z q.2), (eτ _ _ _ (by omega)).2.1]
    have nr := (v1.2.2.2.2.1 k.toNat kc).ag (σ' := σ1) (fun f j z0 z1 => eI f _ (by omega) (by omega))
    obtain ⟨r1, r2, r3, r4, _, r6, r7, _, r9, _⟩ := id nr
    have ir := imr_ed hI him h81 L1 eI
    have D1 : DR σ1 m b (3000 * b + 3000) En Ss := y3.ag (fun f j z => ⟨eI f j (by omega) (by omega), eJ f j (by omega) (by omega)⟩)
    have fd := fdr_of y2 D1
    rw [← ek, Int.toNat_natCast, r1]
    have same : σ = τ → ImgI σ1 x m ∧ Frm EdF σ σ1 := fun e => by
      subst e
      exact ⟨hI.fr F1.fr (fun f r z q => by have := q.2; omega), F1.mono (fun f r q => by have := q.2; omega)⟩
    have s64 : isNu ((T t.toNat).d 0 k.toNat) → AW g l (d + 6) MX12_set 64 [some (vR 12 (some m)), none, none, some (vJ v), none, some (vI ((400 * t.toNat + k.toNat : Nat) : Int)), some (vI ((T t.toNat).d 0 k.toNat)), none, none, none, none, none, none, none, none] [] σ1 (fun v' σ' => ∃ r, v' = some (vI r) ∧ R = r ∧ ImgI σ' x m ∧ Frm EdF σ σ') := fun nu => by
      obtain ⟨F, hF, ty, tl, p4⟩ := num nu
      obtain ⟨f280, frr⟩ := fd.2 _ F hF
      have q0 := (gF_some hF).1
      refine bk_X12_set_64 ?_
      rw [Int.toNat_natCast, r4, r7, if_neg (by omega), r9, show (((280 * b : Nat) : Int) + (T t.toNat).d 6 k.toNat).toNat = 280 * b + ((T t.toNat).d 6 k.toNat).toNat by omega, frr.1.2.2.2.2.2.2.2.2.1 (ty_nz ty)]
      obtain ⟨b1, b2, b3⟩ := ty_bit3 ty
      have ty1 := ty.1
      have ty2 := ty.2.1
      refine ⟨L1, bk2, fun z3 => ⟨⟨by omega, by omega⟩, fun z5 hz5 => ?_⟩, fun z3 => ⟨_, rfl, (hC nu z3).1, same (hC nu z3).2⟩⟩
      subst hz5
      obtain ⟨hN, hY⟩ := hE nu z3 F hF
      have tl := tl z3
      have bad : ¬ okS (stY F (T t.toNat) k.toNat) (stG F (T t.toNat) k.toNat) v → ∃ r, some (vI (-3)) = some (vI r) ∧ R = r ∧ ImgI σ1 x m ∧ Frm EdF σ σ1 := fun z => ⟨_, rfl, (hN z).1, same (hN z).2⟩
      have put : okS (stY F (T t.toNat) k.toNat) (stG F (T t.toNat) k.toNat) v → AW g l (d + 6) MX12_set 228 [some (vR 12 (some m)), none, none, none, none, some (vI ((400 * t.toNat + k.toNat : Nat) : Int)), none, none, some (vI F.ty.toInt), some (vJ (stW F (T t.toNat) k.toNat (fun q => hasM σ m (I t.toNat) q) v)), none, none, none, none, none] [] σ1 (fun v' σ' => ∃ r, v' = some (vI r) ∧ R = r ∧ ImgI σ' x m ∧ Frm EdF σ σ') := fun ok => by
        obtain ⟨e0, wx⟩ := hY ok
        refine bk_X12_set_228 ⟨L1, bk2, ?_⟩
        rw [Int.toNat_natCast, r2]
        refine m_putB (n := tw F.ty) (bg := tbg F.ty) hI him.1 him.2 (by omega) ty1 ty2 (by omega) wx (F1.mono (fun f r q => ⟨q.1, by have := q.2; omega⟩)) h81 b1 b2 (fun σ3 F3 I3 => ⟨_, rfl, e0, I3, ?_⟩)
        exact (Fτ.mono (fun f r q => by omega)).trans ((F1.mono (fun f r q => by have := q.2; omega)).trans (F3.mono (fun f r q => by omega)))
      refine ⟨fun n4' => ?_, fun n4' => ?_⟩
      · have eY : stY F (T t.toNat) k.toNat = 8 * tw F.ty := if_neg n4'
        have eW : stW F (T t.toNat) k.toNat (fun q => hasM σ m (I t.toNat) q) v = v := if_neg n4'
        rw [b1]
        rw [eY] at bad
        rw [eY, eW] at put
        have unsigned : stG F (T t.toNat) k.toNat = false → ACi g l (d + 5) MX12_has_ [vR 12 (some m), vJ v, vI (tw F.ty), vI 0] σ1 (fun v9 σ8 => ((¬ v9 = 0 → AW g l (d + 6) MX12_set 228 [some (vR 12 (some m)), none, none, none, none, some (vI ((400 * t.toNat + k.toNat : Nat) : Int)), none, none, some (vI F.ty.toInt), some (vJ v), none, none, none, none, none] [] σ8 (fun v' σ' => ∃ r, v' = some (vI r) ∧ R = r ∧ ImgI σ' x m ∧ Frm EdF σ σ')) ∧ (v9 = 0 → ∃ r, some (vI (-3)) = some (vI r) ∧ R = r ∧ ImgI σ8 x m ∧ Frm EdF σ σ8))) := fun sf => by
          rw [sf] at bad put
          exact m_has_ (sg := false) ⟨ty1, ty2⟩ ⟨fun _ => rfl, fun _ => rfl⟩ (fun ok => ⟨fun _ => put ok, fun q => absurd q (by decide)⟩) (fun no => ⟨fun q => absurd rfl q, fun _ => bad no⟩)
        refine ⟨fun u => unsigned (decide_eq_false (fun z => z.1 (b3.mp u))), fun u => ⟨fun u2 => unsigned (decide_eq_false (fun z => z.2.2 u2)), fun u2 => ?_⟩⟩
        have sf : stG F (T t.toNat) k.toNat = true := decide_eq_true ⟨fun z => u (b3.mpr z), n4', u2⟩
        rw [sf] at bad put
        exact m_has_ (sg := true) ⟨ty1, ty2⟩ ⟨fun q => absurd q (by decide), fun q => absurd q (by decide)⟩ (fun ok => ⟨fun _ => put ok, fun q => absurd q (by decide)⟩) (fun no => ⟨fun q => absurd rfl q, fun _ => bad no⟩)
      · obtain ⟨e, ee, k3, e8, e8', p1, p64⟩ := p4 n4'
        obtain ⟨bo, l12⟩ := hB _ F hF k3
        have sf : stG F (T t.toNat) k.toNat = false := decide_eq_false (fun z => z.2.1 n4')
        have eY : stY F (T t.toNat) k.toNat = e.2.1.toInt := by unfold stY; rw [if_pos n4', ee]
        have eW : stW F (T t.toNat) k.toNat (fun q => hasM σ m (I t.toNat) q) v = (rdP (fun q => hasM σ m (I t.toNat) q) F.ty ((T t.toNat).d 1 k.toNat) &&& ((j_shl (mkv e.2.1.toInt) e.2.2) ^^^ ((-1) : Int64))) ||| (j_shl v e.2.2) := by unfold stW; rw [if_pos n4', ee]
        rw [eY, sf, okS_part p1 p64] at bad put
        rw [eW] at put
        rw [show (16 * (((280 * b : Nat) : Int) + (T t.toNat).d 6 k.toNat) + (T t.toNat).d 8 k.toNat - 1).toNat = 16 * (280 * b + ((T t.toNat).d 6 k.toNat).toNat) + ((T t.toNat).d 8 k.toNat - 1).toNat by omega, (frr.1.2.2.2.2.2.2.2.2.2 _ e ee).2.1]
        refine ⟨⟨by omega, by omega⟩, ⟨by omega, by omega⟩, ⟨by omega, by omega⟩, ⟨by omega, by omega⟩, ?_⟩
        have ev : i2j e.2.1.toInt = e.2.1 := Int64.toInt_inj.mp (by rw [i2j_toInt, w32_id (by omega) (by omega)])
        rw [← ev]
        refine m_mask (by omega) (by omega) ⟨fun ok => ⟨L1, ?_⟩, fun no => bad no⟩
        rw [r2]
        have sh : ∀ {P : Int → St → Prop}, P e.2.2 σ1 → ACi g l (d + 5) MX12_shift [vR 12 (some m), vI ((400 * t.toNat + k.toNat : Nat) : Int)] σ1 P := fun hp => m_shiftN L1 t7 k400 fd nr hF bo ty2 l12 ⟨e8, e8'⟩ ee hp
        have rd := m_rdP (g := g) (l := l) (d := d + 3) (p := (T t.toNat).d 1 k.toNat) (P := fun v27 σ26 => ACi g l (d + 5) MX12_shift [vR 12 (some m), vI ((400 * t.toNat + k.toNat : Nat) : Int)] σ26 (fun v29 σ28 => ACi g l (d + 5) MX12_shift [vR 12 (some m), vI ((400 * t.toNat + k.toNat : Nat) : Int)] σ28 (fun v31 σ30 => AW g l (d + 6) MX12_set 228 [some (vR 12 (some m)), none, none, none, none, some (vI ((400 * t.toNat + k.toNat : Nat) : Int)), none, none, some (vI F.ty.toInt), some (vJ ((v27 &&& ((j_shl (mkv e.2.1.toInt) v29) ^^^ ((-1) : Int64))) ||| (j_shl v v31))), none, none, none, none, none] [] σ30 (fun v' σ' => ∃ r, v' = some (vI r) ∧ R = r ∧ ImgI σ' x m ∧ Frm EdF σ σ')))) ir fd hF ty (by omega) tl (sh (sh (put ok)))
        rw [frr.1.2.2.2.2.2.2.2.2.1 (ty_nz ty)] at rd
        exact rd
    refine ⟨⟨by omega, by omega⟩, ⟨by omega, by omega⟩, L1, bk2, fun z8 hz8 => ?_⟩
    subst hz8
    refine ⟨fun u => s64 (by unfold isNu; omega), fun u1 => ⟨fun u => s64 (by unfold isNu; omega), fun u2 => ⟨fun u => s64 (by unfold isNu; omega), fun u3 => ⟨fun u => s64 (by unfold isNu; omega), fun u4 => ⟨fun u => s64 (by unfold isNu; omega), fun u5 => ?_⟩⟩⟩⟩⟩
    have nn : ¬ isNu ((T t.toNat).d 0 k.toNat) := by unfold isNu; omega
    exact ⟨_, rfl, (hA nn).1, same (hA nn).2⟩
  -- the class
  have go : isNu ((T t.toNat).d 0 k.toNat) → ((gR σ 513 (noO σ tr k.toNat) 0 = none → ∃ a, some (vI (-4)) = some (vI a) ∧ ACi g l (d + 6) MX12_set [vR 12 (some m), vI t, vI k, vJ v] σ (fun r σ2 => a = r ∧ ImgI σ2 x m ∧ Frm EdF σ σ2)) ∧ (∀ r12, gR σ 513 (noO σ tr k.toNat) 0 = some r12 → ((¬ (gI σ 504 (noO σ tr k.toNat) 0) = 1 → ACi g l (d + 5) MX5_canHave [vR 5 (some (noO σ tr k.toNat)), vJ v] σ (fun v16 σ15 => ((¬ v16 = 0 → ((¬ (gI σ15 501 (noO σ tr k.toNat) 0) = 4 → AW g l (d + 6) MX11_set 123 [none, none, none, none, none, none, some (vR 5 (some (noO σ tr k.toNat))), some (vR 3 (gR σ15 1000 tr 0)), some (vR 2 (gR σ15 513 (noO σ tr k.toNat) 0)), none, none] [vJ v] σ15 (fun v' σ1 => ∃ a, v' = some (vI a) ∧ ACi g l (d + 6) MX12_set [vR 12 (some m), vI t, vI k, vJ v] σ1 (fun r σ2 => a = r ∧ ImgI σ2 x m ∧ Frm EdF σ σ2))) ∧ ((gI σ15 501 (noO σ tr k.toNat) 0) = 4 → ∃ r19, gR σ15 513 (noO σ tr k.toNat) 0 = some r19 ∧ ∃ r21, gR σ15 1000 tr 0 = some r21 ∧ ACj g l (d + 5) MX3_read [vR 3 (some r21), vI (gI σ15 502 (noO σ tr k.toNat) 0), vI (gI σ15 203 r19 0), vI (gI σ15 205 r19 0)] σ15 (fun v24 σ23 => ACj g l (d + 5) MX5_withPart [vR 5 (some (noO σ tr k.toNat)), vJ v24, vJ v] σ23 (fun v26 σ25 => AW g l (d + 6) MX11_set 123 [none, none, none, none, none, none, some (vR 5 (some (noO σ tr k.toNat))), some (vR 3 (gR σ15 1000 tr 0)), some (vR 2 (gR σ15 513 (noO σ tr k.toNat) 0)), none, none] [vJ v26] σ25 (fun v' σ1 => ∃ a, v' = some (vI a) ∧ ACi g l (d + 6) MX12_set [vR 12 (some m), vI t, vI k, vJ v] σ1 (fun r σ2 => a = r ∧ ImgI σ2 x m ∧ Frm EdF σ σ2))))))) ∧ (v16 = 0 → ∃ a, some (vI (-3)) = some (vI a) ∧ ACi g l (d + 6) MX12_set [vR 12 (some m), vI t, vI k, vJ v] σ15 (fun r σ2 => a = r ∧ ImgI σ2 x m ∧ Frm EdF σ σ2))))) ∧ ((gI σ 504 (noO σ tr k.toNat) 0) = 1 → ∃ a, some (vI (-5)) = some (vI a) ∧ ACi g l (d + 6) MX12_set [vR 12 (some m), vI t, vI k, vJ v] σ (fun r σ2 => a = r ∧ ImgI σ2 x m ∧ Frm EdF σ σ2))))) := fun nu => by
    obtain ⟨F, hF, ty, tl, p4⟩ := num nu
    have q0 := (gF_some hF).1
    have aF : ∀ F', gF Ss ((T t.toNat).d 6 k.toNat) = some F' → F' = F := fun F' z => by rw [hF] at z; cases z; rfl
    have fc := hD.fdc _ F hF
    have h513 : gR σ 513 (noO σ tr k.toNat) 0 = some (A.2.2.2 ((T t.toNat).d 6 k.toNat / 14).toNat ((T t.toNat).d 6 k.toNat % 14).toNat) := by rw [n7]; unfold oF; rw [if_neg (by omega)]
    have ty1 := ty.1
    have ty2 := ty.2.1
    rw [h513]
    refine ⟨(fun z => nomatch z), fun r12 e12 => ?_⟩
    cases e12
    rw [n4]
    refine ⟨fun z3 => ?_, fun z3 => ⟨_, rfl, ref _ σ Frm.rfl (fun q => absurd nu q) (fun _ _ => ⟨rfl, rfl⟩) (fun _ q => absurd z3 q)⟩⟩
    have tl := tl z3
    have fin : okS (stY F (T t.toNat) k.toNat) (stG F (T t.toNat) k.toNat) v → AW g l (d + 6) MX11_set 123 [none, none, none, none, none, none, some (vR 5 (some (noO σ tr k.toNat))), some (vR 3 (gR σ 1000 tr 0)), some (vR 2 (gR σ 513 (noO σ tr k.toNat) 0)), none, none] [vJ (stW F (T t.toNat) k.toNat (fun q => hasM σ m (I t.toNat) q) v)] σ (fun v' σ1 => ∃ a, v' = some (vI a) ∧ ACi g l (d + 6) MX12_set [vR 12 (some m), vI t, vI k, vJ v] σ1 (fun r σ2 => a = r ∧ ImgI σ2 x m ∧ Frm EdF σ σ2)) := fun ok => by
      refine bk_X11_set_123 ⟨_, rfl, _, h513, _, v1.1.2.1, ?_⟩
      rw [n2, fc.xtw, fc.2.2.2.2.1]
      refine x_writeB (n := tw F.ty) (bg := tbg F.ty) q2 (by omega) ty1 ty2 (by omega) (fun σ1 wx => ⟨_, rfl, ref 0 σ1 ((wx.frm q2).1.mono (fun f r q => by rcases q with q | q; exact Or.inl q.1; exact Or.inr q.1)) (fun q => absurd nu q) (fun _ q => absurd q z3) (fun _ _ F' hF' => ?_)⟩)
      rw [aF F' hF']
      exact ⟨fun q => absurd ok q, fun _ => ⟨rfl, wx⟩⟩
    have hy : ((T t.toNat).d 0 k.toNat = 4 → stY F (T t.toNat) k.toNat = gI σ 516 (noO σ tr k.toNat) 0) ∧ (¬ (T t.toNat).d 0 k.toNat = 4 → stY F (T t.toNat) k.toNat = 8 * gI σ 203 (A.2.2.2 ((T t.toNat).d 6 k.toNat / 14).toNat ((T t.toNat).d 6 k.toNat % 14).toNat) 0 ∧ 1 ≤ gI σ 203 (A.2.2.2 ((T t.toNat).d 6 k.toNat / 14).toNat ((T t.toNat).d 6 k.toNat % 14).toNat) 0 ∧ gI σ 203 (A.2.2.2 ((T t.toNat).d 6 k.toNat / 14).toNat ((T t.toNat).d 6 k.toNat % 14).toNat) 0 ≤ 8) := by
      refine ⟨fun k4 => ?_, fun k4 => ?_⟩
      · obtain ⟨e, ee, _⟩ := p4 k4
        unfold stY
        rw [if_pos k4, ee, (n14 k4 F e hF ee).2]
      · rw [fc.xtw]
        exact ⟨if_neg k4, ty1, ty2⟩
    have y1' : 1 ≤ stY F (T t.toNat) k.toNat := by
      unfold stY
      by_cases k4 : (T t.toNat).d 0 k.toNat = 4
      · obtain ⟨e, ee, _, _, _, pp, _⟩ := p4 k4
        rw [if_pos k4, ee]; exact pp
      · rw [if_neg k4]; omega
    refine x_canHave (r2 := A.2.2.2 ((T t.toNat).d 6 k.toNat / 14).toNat ((T t.toNat).d 6 k.toNat % 14).toNat) n1 h513 fc.xsg hy y1' (fun ok => ⟨fun _ => ?_, fun q => absurd q (by decide)⟩) (fun no => ⟨fun q => absurd rfl q, fun _ => ⟨_, rfl, ref _ σ Frm.rfl (fun q => absurd nu q) (fun _ q => absurd q z3) (fun _ _ F' hF' => by rw [aF F' hF']; exact ⟨fun _ => ⟨rfl, rfl⟩, fun q => absurd q no⟩)⟩⟩)
    have ok : okS (stY F (T t.toNat) k.toNat) (stG F (T t.toNat) k.toNat) v := ok
    rw [n1]
    refine ⟨fun k4 => ?_, fun k4 => ⟨_, h513, _, v1.1.2.1, ?_⟩⟩
    · have eW : stW F (T t.toNat) k.toNat (fun q => hasM σ m (I t.toNat) q) v = v := if_neg k4
      have := fin ok
      rw [eW] at this
      exact this
    · obtain ⟨e, ee, _⟩ := p4 k4
      obtain ⟨e15, e16⟩ := n14 k4 F e hF ee
      rw [n2, fc.xtw, fc.2.2.2.2.1]
      have er : rv (fun j => gI σ 301 (img σ x (I t.toNat)) (if tbg F.ty = 0 then (T t.toNat).d 1 k.toNat + tw F.ty - 1 - j else (T t.toNat).d 1 k.toNat + j).toNat) (tw F.ty).toNat = rdP (fun q => hasM σ m (I t.toNat) q) F.ty ((T t.toNat).d 1 k.toNat) := by
        unfold rdP
        refine rv_congr (fun j j0 j1 => ?_)
        by_cases bz : tbg F.ty = 0
        · rw [if_pos bz]
          exact q3.has q2 (by omega) (by omega)
        · rw [if_neg bz]
          exact q3.has q2 (by omega) (by omega)
      refine x_read q2.1 (by omega) (by omega) (by omega) (by omega) (AC.of mo_X5_withPart (Nat.le_of_ble_eq_true rfl) (bk_X5_withPart_0 (x_lowBits ⟨_, rfl, ?_⟩)))
      rw [er, e15, e16]
      have := fin ok
      have eW : stW F (T t.toNat) k.toNat (fun q => hasM σ m (I t.toNat) q) v = (rdP (fun q => hasM σ m (I t.toNat) q) F.ty ((T t.toNat).d 1 k.toNat) &&& ((j_shl (mkv e.2.1.toInt) e.2.2) ^^^ ((-1) : Int64))) ||| (j_shl v e.2.2) := by unfold stW; rw [if_pos k4, ee]
      rw [eW] at this
      exact this
  refine AC.of mo_X5_hasNumber (Nat.le_of_ble_eq_true rfl) (bk_X5_hasNumber_0 ?_)
  rw [n1]
  refine ⟨fun u => ⟨_, rfl, fun q => absurd q (by decide), fun _ => go (by unfold isNu; omega)⟩, fun u1 => ⟨fun u => ⟨_, rfl, fun q => absurd q (by decide), fun _ => go (by unfold isNu; omega)⟩, fun u2 => ⟨fun u => ⟨_, rfl, fun q => absurd q (by decide), fun _ => go (by unfold isNu; omega)⟩, fun u3 => ⟨fun u => ⟨_, rfl, fun q => absurd q (by decide), fun _ => go (by unfold isNu; omega)⟩, fun u4 => ⟨fun u5 => ⟨_, rfl, fun _ => ?_, fun q => absurd rfl q⟩, fun u => ⟨_, rfl, fun q => absurd q (by decide), fun _ => go (by unfold isNu; omega)⟩⟩⟩⟩⟩⟩
  have nn : ¬ isNu ((T t.toNat).d 0 k.toNat) := by unfold isNu; omega
  exact ⟨_, rfl, ref _ σ Frm.rfl (fun _ => ⟨rfl, rfl⟩) (fun q => absurd q nn) (fun q => absurd q nn)⟩
end E3
