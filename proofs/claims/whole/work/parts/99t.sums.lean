/-! sums of trees that stand: both sides, with narrow frames -/
abbrev SbF (m f r : Nat) : Prop := r = m ∧ (1286 ≤ f ∧ f ≤ 1289)
abbrev RfF (tr rk f r : Nat) : Prop := (r = rk ∧ 700 ≤ f ∧ f ≤ 702) ∨ (r = tr ∧ (f = 1008 ∨ f = 1009))
def TrW (σ : St) (m t b : Nat) (s : TS) : Prop := s.c ≤ 400 ∧ ∀ i, i < s.c → NdR σ m t b s i
section F1
variable {g : GP} {l : Launch} {d : Nat} {σ σ' σ'' : St} {m t b i k : Nat} {En : List Enm} {Ss : List Stc} {s : TS} {h : Int → Int} {len im fl : Int} {K : List (Nat × Int)} {F : Fld}
theorem TrW.wk (hT : TrW σ m t b s) (hF : Frm (SbF m) σ σ') : TrW σ' m t b s := ⟨hT.1, fun i hi => (hT.2 i hi).ag (fun f j z0 z1 => hF.I (fun q => by omega) _)⟩
theorem sb_ns (hF : Frm (SbF m) σ σ') : NsO m t σ σ' := ⟨hF.mono (fun f r q => ⟨q.1, by have := q.2; omega⟩), fun f j z => hF.I (fun q => by omega) j⟩
theorem m_evW {N : List Nd} {at_ here : Int} {P : Int64 → St → Prop} (hE : EnR σ m t b En Ss im len h) (hT : TrW σ m t b s) (hI : TI Ss len s) (hU : TU Ss len s) (hB : ∀ fl F, gF Ss fl = some F → F.ki = 3 → BiO F.es 0 (8 * tw F.ty) ∧ F.es.length ≤ 12) (hi : i < s.c) (h0' : s.d 0 i = 0) (hxr : XR σ m b at_ (some N)) (hw : WFx (some N)) (hhere : 0 ≤ here ∧ here ≤ len) (hx : ∀ x ∈ N, x.o = 2 → NmO Ss s i x.v.toInt) (h20 : Ss.length ≤ 20)
    (h1 : ∀ v, evE here len (s.d 1 i) (nmV Ss h s i) N = some v → ∀ σ', Frm (SbF m) σ σ' → TrW σ' m t b s → gI σ' 1286 m 0 = 0 → Frm (WkF m) σ σ' → P v σ') (h0 : evE here len (s.d 1 i) (nmV Ss h s i) N = none → ∀ v σ', Frm (SbF m) σ σ' → TrW σ' m t b s → gI σ' 1286 m 0 = 1 → Frm (WkF m) σ σ' → P v σ') :
    ACj g l (d + 6) MX12_worked [vR 12 (some m), vI at_, vI ((400 * t + i : Nat) : Int), vI here] σ P := by
  obtain ⟨nb, x1, x2, x3, x4, x5, x6⟩ := hxr
  have b2 := hE.2.1.1
  obtain ⟨⟨_, _, _, v4, _⟩, _, vb, _⟩ := hI.2 i hi
  have v7 := v4 h0'
  have fw : ∀ σ', Frm (WkF m) σ σ' → Frm (SbF m) σ σ' := fun σ' hF => hF.mono (fun f r q => ⟨q.1, by have := q.2; omega⟩)
  rw [x1]
  exact m_worked x5 x6 (by omega) hw ⟨hE.1, hE.fdr, hB, hT.1, hE.2.2.2.2.2, hT.2, fun a ha => hI.ndw hU ha, fun a ha z => ((hI.2 a ha).2.2.2 z).1, hE.2.2.1⟩ hi (vb h0') ⟨v7.1, by omega⟩ hhere hx (fun v hv σ' hF z => h1 v hv σ' (fw σ' hF) (hT.wk (fw σ' hF)) z hF) (fun hv v σ' hF z => h0 hv v σ' (fw σ' hF) (hT.wk (fw σ' hF)) z hF)
theorem m_sumBoundsW {P : Int → St → Prop} (hE : EnR σ m t b En Ss im len h) (hT : TrW σ m t b s) (hI : TI Ss len s) (hU : TU Ss len s) (hB : ∀ fl F, gF Ss fl = some F → F.ki = 3 → BiO F.es 0 (8 * tw F.ty) ∧ F.es.length ≤ 12) (hi : i < s.c) (h0' : s.d 0 i = 0) (hk : k < s.c) (hF : gF Ss fl = some F) (hw1 : WFx F.e1) (hw2 : WFx F.e2) (hx1 : ∀ N, F.e1 = some N → ∀ x ∈ N, x.o = 2 → NmO Ss s i x.v.toInt) (hx2 : ∀ N, F.e2 = some N → ∀ x ∈ N, x.o = 2 → NmO Ss s i x.v.toInt) (h20 : Ss.length ≤ 20) (hN : ∃ N, F.e1 = some N) (hM : ∃ N, F.e2 = some N)
    (he : ∀ e, sumB Ss h len s i k F = .error e → ∀ σ', Frm (SbF m) σ σ' → TrW σ' m t b s → 0 < e → P e σ')
    (ho : ∀ r, sumB Ss h len s i k F = .ok r → 0 ≤ r.1 → r.1 ≤ r.2 → r.2 ≤ len - s.d 1 i → ∀ σ', Frm (SbF m) σ σ' → TrW σ' m t b s → (gJ σ' 1288 m 0).toInt = r.1 → (gJ σ' 1289 m 0).toInt = r.2 → P 0 σ') : ACi g l (d + 7) MX12_sumBounds [vR 12 (some m), vI ((400 * t + k : Nat) : Int), vI (fxR b fl : Int), vI ((400 * t + i : Nat) : Int)] σ P := by
  obtain ⟨N, eN⟩ := hN
  obtain ⟨M, eM⟩ := hM
  have t7 := hE.2.2.2.2.2
  have c4 := hT.1
  have fl5 := fx_lt hE hF
  have fr := (hE.fdr.2 fl F hF).2
  have xr1 := fr.1.2.1
  rw [eN] at xr1 hw1
  rw [eM] at hw2
  obtain ⟨⟨v1, _⟩, _⟩ := hI.2 k hk
  obtain ⟨⟨vi, _⟩, _⟩ := hI.2 i hi
  have n2 := (hT.2 k hk).2.1
  have z0 : (0 : Int64).toInt = 0 := by decide
  unfold sumB at he ho
  rw [eN, eM] at he ho
  dsimp only at he ho
  refine AC.of mo_X12_sumBounds (Nat.le_of_ble_eq_true rfl) (bk_X12_sumBounds_0 ⟨hE.1.1, ⟨by omega, by omega⟩, ⟨by omega, by omega⟩, ?_⟩)
  rw [Int.toNat_natCast, Int.toNat_natCast, n2, z0]
  -- the second
  have second : ∀ (v : Int64) (σ4 : St), Frm (SbF m) σ σ4 → TrW σ4 m t b s → (evE (s.d 1 k) len (s.d 1 i) (nmV Ss h s i) N = some v ∧ gI σ4 1286 m 0 = 0 ∨ evE (s.d 1 k) len (s.d 1 i) (nmV Ss h s i) N = none ∧ gI σ4 1286 m 0 = 1) → LC 12 σ4 m ∧ ACj g l (d + 6) MX12_worked [vR 12 (some m), vI (gI σ4 1234 m (fxR b fl)), vI ((400 * t + i : Nat) : Int), vI (gI σ4 1268 m (400 * t + k))] (sJ σ4 1288 m 0 v) (fun v8 σ7 => ((¬ (gI σ4 1286 m 0) = 0 → (∃ r, some (vI 6) = some (vI r) ∧ P r (sJ σ7 1289 m 0 v8))) ∧ ((gI σ4 1286 m 0) = 0 → (((gI σ7 1286 m 0) = 0 → (((gJ σ7 1288 m 0).toInt < 0 → (∃ r, some (vI 5) = some (vI r) ∧ P r (sJ σ7 1289 m 0 v8))) ∧ (¬ (gJ σ7 1288 m 0).toInt < 0 → ((v8.toInt < (gJ σ7 1288 m 0).toInt → (∃ r, some (vI 5) = some (vI r) ∧ P r (sJ σ7 1289 m 0 v8))) ∧ (¬ v8.toInt < (gJ σ7 1288 m 0).toInt → LC 12 σ7 m ∧ Bd (gI σ7 1281 m 0) 6 ∧ Bd ((400 * t + i : Nat) : Int) 2800 ∧ R32 ((gI σ7 1201 m (gI σ7 1281 m 0).toNat) - (gI σ7 1268 m ((400 * t + i : Nat) : Int).toNat)) ∧ ((v8.toInt ≤ (i2j ((gI σ7 1201 m (gI σ7 1281 m 0).toNat) - (gI σ7 1268 m ((400 * t + i : Nat) : Int).toNat))).toInt → (∃ r, some (vI 0) = some (vI r) ∧ P r (sJ σ7 1289 m 0 v8))) ∧ (¬ v8.toInt ≤ (i2j ((gI σ7 1201 m (gI σ7 1281 m 0).toNat) - (gI σ7 1268 m ((400 * t + i : Nat) : Int).toNat))).toInt → (∃ r, some (vI 5) = some (vI r) ∧ P r (sJ σ7 1289 m 0 v8))))))))) ∧ (¬ (gI σ7 1286 m 0) = 0 → (∃ r, some (vI 6) = some (vI r) ∧ P r (sJ σ7 1289 m 0 v8))))))) := by
    intro v σ4 o4 T4 hv
    have o5 : Frm (SbF m) σ (sJ σ4 1288 m 0 v) := o4.trans (Frm.sJ ⟨rfl, by omega⟩)
    have E4 := hE.ry (sb_ns (t := t) o4).ry
    have E5 := hE.ry (sb_ns (t := t) o5).ry
    have T5 : TrW (sJ σ4 1288 m 0 v) m t b s := T4.wk (Frm.sJ ⟨rfl, by omega⟩)
    have xr2 := (E5.fdr.2 fl F hF).2.1.2.2.1
    rw [eM] at xr2
    have n24 := (T4.2 k hk).2.1
    refine ⟨E4.1.1, ?_⟩
    rw [n24]
    refine m_evW E5 T5 hI hU hB hi h0' xr2 hw2 ⟨by omega, by omega⟩ (hx2 M eM) h20 (fun u hu σ7 o7 T7 z7 hF7 => ?_) (fun hu u σ7 o7 T7 z7 hF7 => ?_)
    · have o8 : ∀ u', Frm (SbF m) σ (sJ σ7 1289 m 0 u') := fun u' => (o5.trans o7).trans (Frm.sJ ⟨rfl, by omega⟩)
      have T8 : ∀ u', TrW (sJ σ7 1289 m 0 u') m t b s := fun u' => T7.wk (Frm.sJ ⟨rfl, by omega⟩)
      have g88 : gJ σ7 1288 m 0 = v := by rw [hF7.J (fun q => by omega), gJ_slf]
      have E7 := hE.ry (sb_ns (t := t) (o5.trans o7)).ry
      obtain ⟨i1, i2, i3, i4, i5, i6, i7, i8, i9⟩ := id E7.1
      have ni2 := (T7.2 i hi).2.1
      rw [g88]
      refine ⟨fun w => ⟨_, rfl, ?_⟩, fun w => ⟨fun _ => ?_, fun z => absurd z7 z⟩⟩
      · rcases hv with ⟨hv, hz⟩ | ⟨hv, hz⟩
        · exact absurd hz w
        · exact he 6 (by rw [hv]) _ (o8 u) (T8 u) (by decide)
      · rcases hv with ⟨hv, hz⟩ | ⟨hv, hz⟩
        · rw [hv, hu] at he ho
          dsimp only at he ho
          refine ⟨fun a1 => ⟨_, rfl, he 5 (by rw [if_pos (by omega)]) _ (o8 u) (T8 u) (by decide)⟩, fun a1 => ⟨fun a2 => ⟨_, rfl, he 5 (by rw [if_pos (by omega)]) _ (o8 u) (T8 u) (by decide)⟩, fun a2 => ⟨i1, by rw [i2]; exact ⟨by omega, by omega⟩, ⟨by omega, by omega⟩, ?_⟩⟩⟩
          rw [i2, i5, Int.toNat_natCast, ni2, i2j_toInt, w32_id (by omega) (by omega)]
          refine ⟨⟨by omega, by omega⟩, fun a3 => ⟨_, rfl, ?_⟩, fun a3 => ⟨_, rfl, he 5 (by rw [if_pos (by omega)]) _ (o8 u) (T8 u) (by decide)⟩⟩
          refine ho (v.toInt, u.toInt) (by rw [if_neg (by omega)]) (by show 0 ≤ v.toInt; omega) (by show v.toInt ≤ u.toInt; omega) (by show u.toInt ≤ _; omega) _ (o8 u) (T8 u) ?_ (by rw [gJ_slf])
          rw [gJ_sJ, if_neg (by simp), g88]
        · omega
    · have er : (match evE (s.d 1 k) len (s.d 1 i) (nmV Ss h s i) N, evE (s.d 1 k) len (s.d 1 i) (nmV Ss h s i) M with
        | some a, some b => if a.toInt < 0 ∨ b.toInt < a.toInt ∨ len - s.d 1 i < b.toInt then (.error 5 : Except Int (Int × Int)) else .ok (a.toInt, b.toInt)
        | _, _ => .error 6) = .error 6 := by
        rw [hu]
        cases evE (s.d 1 k) len (s.d 1 i) (nmV Ss h s i) N <;> rfl
      have o8 : Frm (SbF m) σ (sJ σ7 1289 m 0 u) := (o5.trans o7).trans (Frm.sJ ⟨rfl, by omega⟩)
      have T8 : TrW (sJ σ7 1289 m 0 u) m t b s := T7.wk (Frm.sJ ⟨rfl, by omega⟩)
      exact ⟨fun w => ⟨_, rfl, he 6 er _ o8 T8 (by decide)⟩, fun w => ⟨fun z => by omega, fun _ => ⟨_, rfl, he 6 er _ o8 T8 (by decide)⟩⟩⟩
  exact m_evW hE hT hI hU hB hi h0' xr1 hw1 ⟨by omega, by omega⟩ (hx1 N eN) h20 (fun v hv σ4 o4 T4 z _ => second v σ4 o4 T4 (Or.inl ⟨hv, z⟩)) (fun hv v σ4 o4 T4 z _ => second v σ4 o4 T4 (Or.inr ⟨hv, z⟩))
theorem m_dueW {A B : Int} {P : Int64 → St → Prop} (hE : EnR σ m t b En Ss im len h) (hT : TrW σ m t b s) (hi : i < s.c) (hk : k < s.c) (hvi : 0 ≤ s.d 1 i ∧ s.d 1 i ≤ len) (hF : gF Ss fl = some F) (f10 : F.ki = 10) (ty : TyR F.ty) (hnu : 217 ≤ F.nu.toInt ∧ F.nu.toInt ≤ 220) (hA : (gJ σ 1288 m 0).toInt = A) (hB : (gJ σ 1289 m 0).toInt = B) (hb : 0 ≤ A ∧ A ≤ B ∧ B ≤ len - s.d 1 i) (hP : P (dueV h F.nu.toInt (s.d 1 k) (s.d 2 k) (s.d 1 i + A) (s.d 1 i + B) &&& mkv (8 * tw F.ty)) σ) : ACj g l (d + 2) MX12_due [vR 12 (some m), vI ((400 * t + k : Nat) : Int), vI (fxR b fl : Int), vI ((400 * t + i : Nat) : Int)] σ P := by
  have t7 := hE.2.2.2.2.2
  have c4 := hT.1
  have fl5 := fx_lt hE hF
  have fr := (hE.fdr.2 fl F hF).2
  have e35 := fr.2.2.2 f10
  have e29 := fr.1.2.2.2.2.2.2.2.2.1 (ty_nz ty)
  obtain ⟨y1, _, _⟩ := ty_bit3 ty
  obtain ⟨i1, i2, i3, i4, i5, i6, i7, i8, i9⟩ := id hE.1
  obtain ⟨_, k2, k3, _⟩ := hT.2 k hk
  obtain ⟨_, q2, _⟩ := hT.2 i hi
  have ty1 := ty.1
  have ty8 := ty.2.1
  have loop : ∀ (n : Nat) (p : Int) (v : Int64), p = B - n → A ≤ p → dueL h F.nu.toInt (s.d 1 k) (s.d 2 k) ((s.d 1 i + B) - (s.d 1 i + A)).toNat (s.d 1 i + A) 0 = dueL h F.nu.toInt (s.d 1 k) (s.d 2 k) n (s.d 1 i + p) v → AW g l (d + 2) MX12_due 10 [some (vR 12 (some m)), some (vI ((400 * t + k : Nat) : Int)), some (vI (fxR b fl : Int)), some (vI ((400 * t + i : Nat) : Int)), some (vJ v), none, some (vI p), none] [] σ (fun v σ' => ∃ r, v = some (vJ r) ∧ P r σ') := by
    intro n
    induction n with
    | zero =>
      intro p v hp hA' e
      have e : dueL h F.nu.toInt (s.d 1 k) (s.d 2 k) ((s.d 1 i + B) - (s.d 1 i + A)).toNat (s.d 1 i + A) 0 = v := e
      unfold dueV at hP
      rw [e] at hP
      have s160 : ∀ y : Int64, P (y &&& mkv (8 * tw F.ty)) σ → AW g l (d + 2) MX12_due 160 [some (vR 12 (some m)), none, some (vI (fxR b fl : Int)), none, none, none, none, none] [vJ y] σ (fun v σ' => ∃ r, v = some (vJ r) ∧ P r σ') := fun y hy => by
        refine bk_X12_due_160 ⟨i1, ⟨by omega, by omega⟩, ?_⟩
        rw [Int.toNat_natCast, e29, y1]
        exact ⟨⟨by omega, by omega⟩, m_mask (by omega) (by omega) ⟨_, rfl, hy⟩⟩
      refine bk_X12_due_10 ?_
      rw [hB, i2j_toInt, w32_id (by omega) (by omega)]
      refine ⟨fun _ => ⟨i1, ⟨by omega, by omega⟩, ?_⟩, fun w => absurd (by omega) w⟩
      rw [Int.toNat_natCast, e35]
      refine ⟨fun w => s160 v ?_, fun w => s160 _ ?_⟩
      · rw [if_neg (by omega)] at hP; exact hP
      · rw [if_pos (by omega)] at hP; exact hP
    | succ n ih =>
      intro p v hp hA' e
      rw [dueL] at e
      refine bk_X12_due_10 ?_
      rw [hB, i2j_toInt, w32_id (by omega) (by omega)]
      refine ⟨fun w => absurd w (by omega), fun _ => ⟨i1, ⟨by omega, by omega⟩, ?_⟩⟩
      rw [Int.toNat_natCast, Int.toNat_natCast, q2, k2, k3]
      have hb9 := i9 (s.d 1 i + p) (by omega) (by omega)
      have out : ¬ (s.d 1 k ≤ s.d 1 i + p ∧ s.d 1 i + p < s.d 2 k) → AW g l (d + 2) MX12_due 57 [some (vR 12 (some m)), some (vI ((400 * t + k : Nat) : Int)), some (vI (fxR b fl : Int)), some (vI ((400 * t + i : Nat) : Int)), some (vJ v), none, some (vI p), some (vI (s.d 1 i + p))] [] σ (fun v σ' => ∃ r, v = some (vJ r) ∧ P r σ') := fun z => by
        rw [if_neg z] at e
        unfold stp at e
        refine bk_X12_due_57 ⟨i1, ⟨by omega, by omega⟩, ?_⟩
        rw [Int.toNat_natCast, e35, i2]
        refine ⟨fun y1 => ⟨fun y2 => m_has i1 i3 i4 i8.1 i8.2 (by omega) (by omega) ⟨⟨by omega, by omega⟩, ih (p + 1) _ (by omega) (by omega) ?_⟩, fun y2 => m_has i1 i3 i4 i8.1 i8.2 (by omega) (by omega) ⟨⟨by omega, by omega⟩, ih (p + 1) _ (by omega) (by omega) ?_⟩⟩, fun y1 => m_has i1 i3 i4 i8.1 i8.2 (by omega) (by omega) ⟨⟨by omega, by omega⟩, ih (p + 1) _ (by omega) (by omega) ?_⟩⟩
        · rw [if_neg (by omega), if_neg (by omega)] at e; rw [hb9.1, show s.d 1 i + (p + 1) = s.d 1 i + p + 1 by omega]; exact e
        · rw [if_neg (by omega), if_pos (by omega)] at e; rw [hb9.1, show s.d 1 i + (p + 1) = s.d 1 i + p + 1 by omega, Int64.mul_comm]; exact e
        · rw [if_pos (by omega)] at e; rw [hb9.1, show s.d 1 i + (p + 1) = s.d 1 i + p + 1 by omega]; exact e
      refine ⟨⟨by omega, by omega⟩, fun z8 hz8 => ⟨⟨by omega, by omega⟩, ?_⟩⟩
      rw [hz8]
      refine ⟨fun w => out (by omega), fun w => ⟨fun u => out (by omega), fun u => ⟨⟨by omega, by omega⟩, ih (p + 1) v (by omega) (by omega) ?_⟩⟩⟩
      rw [if_pos ⟨by omega, by omega⟩] at e; rw [show s.d 1 i + (p + 1) = s.d 1 i + p + 1 by omega]; exact e
  refine AC.of mo_X12_due (Nat.le_of_ble_eq_true rfl) (bk_X12_due_0 ?_)
  rw [j2i_eq, hA, w32_id (by omega) (by omega)]
  exact loop (B - A).toNat A 0 (by omega) (Int.le_refl _) (by rw [show (s.d 1 i + B) - (s.d 1 i + A) = B - A by omega])
end F1
section F2
variable {g : GP} {l : Launch} {d : Nat} {σ σ' : St} {tr a dd c rk H Z i k fr : Nat} {no : Nat → Nat} {so : Nat → Nat} {fo : Nat → Nat → Nat} {En : List Enm} {Ss : List Stc} {s : TS} {h : Int → Int} {len fl : Int} {Own : Nat → Prop} {F : Fld}
theorem rf_ly (hF : Frm (RfF tr rk) σ σ') : Fr (LyF tr rk Own) σ σ' := (hF.mono (fun f r q => by
  rcases q with q | q
  · exact Or.inr (Or.inl q)
  · exact Or.inl ⟨q.1, by have := q.2; omega⟩)).fr
theorem x_rangeFaultW {P : Int → St → Prop} (hE : EnC σ tr a dd c rk so fo En Ss len h Own) (hT : TrC σ tr no fo Ss Own H Z s) (hI : TI Ss len s) (hU : TU Ss len s) (hi : i < s.c) (h0' : s.d 0 i = 0) (hk : k < s.c) (h5 : s.d 5 k = (i : Int)) (hF : gF Ss fl = some F) (h6 : s.d 6 k = fl) (hw1 : WFx F.e1) (hw2 : WFx F.e2) (hx1 : ∀ N, F.e1 = some N → ∀ x ∈ N, x.o = 2 → NmO Ss s i x.v.toInt) (hx2 : ∀ N, F.e2 = some N → ∀ x ∈ N, x.o = 2 → NmO Ss s i x.v.toInt) (h20 : Ss.length ≤ 20) (hN : ∃ N, F.e1 = some N) (hM : ∃ N, F.e2 = some N)
    (he : ∀ e, sumB Ss h len s i k F = .error e → ∀ σ', Frm (RfF tr rk) σ σ' → TrC σ' tr no fo Ss Own H Z s → ¬ e = 0 → P e σ')
    (ho : ∀ r, sumB Ss h len s i k F = .ok r → 0 ≤ r.1 → r.1 ≤ r.2 → r.2 ≤ len - s.d 1 i → ∀ σ', Frm (RfF tr rk) σ σ' → TrC σ' tr no fo Ss Own H Z s → gI σ' 1008 tr 0 = s.d 1 i + r.1 → gI σ' 1009 tr 0 = s.d 1 i + r.2 → P 0 σ') : ACi g l (d + 5) MX10_rangeFault [vR 10 (some tr), vR 5 (some (no k))] σ P := by
  obtain ⟨N, eN⟩ := hN
  obtain ⟨M, eM⟩ := hM
  have f0 := (gF_some hF).1
  obtain ⟨⟨v1, _⟩, _⟩ := hI.2 k hk
  obtain ⟨⟨vi, _⟩, _⟩ := hI.2 i hi
  obtain ⟨⟨q1, q2, q3, _⟩, ⟨_, b2, b3, _⟩, c1, _⟩ := id hE
  obtain ⟨⟨n1, n2, n3, n4, n5, n6, n7, _⟩, _⟩ := hT.2.2.2.1 k hk
  have op : oN no (s.d 5 k) = some (no i) := by rw [h5]; exact oN_at
  have ofl : oF fo (s.d 6 k) = some (fo (fl / 14).toNat (fl % 14).toNat) := by rw [h6]; exact oF_at f0 rfl
  have z0 : (0 : Int64).toInt = 0 := by decide
  unfold sumB at he ho
  rw [eN, eM] at he ho
  dsimp only at he ho
  have fc := hE.fdc fl F hF
  have xc1 := fc.e1
  rw [eN] at xc1 hw1
  rw [eM] at hw2
  refine AC.of mo_X10_rangeFault (Nat.le_of_ble_eq_true rfl) (bk_X10_rangeFault_0 ⟨no k, rfl, dd, q2, fo (fl / 14).toNat (fl % 14).toNat, by rw [n7]; exact ofl, rk, q3, ?_⟩)
  rw [c1.2.1, q1, n6, n2, op]
  -- the second
  have second : ∀ (v : Int64) (σ9 : St), Frm (RfF tr rk) σ σ9 → TrC σ9 tr no fo Ss Own H Z s → (evE (s.d 1 k) len (s.d 1 i) (nmV Ss h s i) N = some v ∧ gI σ9 700 rk 0 = 0 ∨ evE (s.d 1 k) len (s.d 1 i) (nmV Ss h s i) N = none ∧ gI σ9 700 rk 0 = 1) → ∃ r11, gR σ9 1007 tr 0 = some r11 ∧ ∃ r13, gR σ9 1006 tr 0 = some r13 ∧ ∃ r15, gR σ9 513 (no k) 0 = some r15 ∧ ACj g l (d + 4) MX7_work [vR 7 (some r11), vR 0 (gR σ9 110 r13 0), vI (gI σ9 210 r15 0), vR 5 (some (no i)), vI (gI σ9 502 (no k) 0), vR 3 (gR σ9 1000 tr 0)] σ9 (fun v18 σ17 => ((¬ (gI σ9 700 r11 0) = 0 → (∃ r, some (vI 6) = some (vI r) ∧ P r σ17)) ∧ ((gI σ9 700 r11 0) = 0 → ∃ r20, gR σ17 1007 tr 0 = some r20 ∧ (((gI σ17 700 r20 0) = 0 → ((v.toInt < (0 : Int64).toInt → (∃ r, some (vI 5) = some (vI r) ∧ P r σ17)) ∧ (¬ v.toInt < (0 : Int64).toInt → ((v18.toInt < v.toInt → (∃ r, some (vI 5) = some (vI r) ∧ P r σ17)) ∧ (¬ v18.toInt < v.toInt → ∃ r25, gR σ17 1000 tr 0 = some r25 ∧ ∃ r27, some (no i) = some r27 ∧ R32 ((gI σ17 304 r25 0) - (gI σ17 502 r27 0)) ∧ ((v18.toInt ≤ (i2j ((gI σ17 304 r25 0) - (gI σ17 502 r27 0))).toInt → R32 ((gI σ17 502 r27 0) + (j2i v)) ∧ R32 ((gI σ17 502 r27 0) + (j2i v18)) ∧ (∃ r, some (vI 0) = some (vI r) ∧ P r (sI (sI σ17 1008 tr 0 ((gI σ17 502 r27 0) + (j2i v))) 1009 tr 0 ((gI σ17 502 r27 0) + (j2i v18))))) ∧ (¬ v18.toInt ≤ (i2j ((gI σ17 304 r25 0) - (gI σ17 502 r27 0))).toInt → (∃ r, some (vI 5) = some (vI r) ∧ P r σ17)))))))) ∧ (¬ (gI σ17 700 r20 0) = 0 → (∃ r, some (vI 6) = some (vI r) ∧ P r σ17)))))) := by
    intro v σ9 f9 T9 hv
    have E9 := hE.fr (rf_ly f9)
    obtain ⟨⟨w1, w2, w3, _⟩, _, y1, _⟩ := id E9
    obtain ⟨⟨m1, m2, m3, m4, m5, m6, m7, _⟩, _⟩ := T9.2.2.2.1 k hk
    have fc9 := E9.fdc fl F hF
    have xc2 := fc9.e2
    rw [eM] at xc2
    refine ⟨rk, w3, dd, w2, fo (fl / 14).toNat (fl % 14).toNat, by rw [m7]; exact ofl, ?_⟩
    rw [y1.2.1, w1, m2, z0]
    refine x_ev E9 T9 hI hU hi h0' xc2 hw2 ⟨by omega, by omega⟩ (hx2 M eM) h20 (fun u hu σ17 g1 g2 t17 z7 => ?_) (fun hu u σ17 g1 g2 t17 z7 => ?_)
    · have E17 := E9.fr g1
      obtain ⟨⟨e1, e2, e3, _⟩, ⟨_, p2, p3, _⟩, _⟩ := id E17
      have F17 := f9.trans (g2.mono (fun f r q => Or.inl q))
      refine ⟨fun w => ⟨_, rfl, ?_⟩, fun w => ⟨rk, e3, fun _ => ?_, fun z => absurd z7 z⟩⟩
      · rcases hv with ⟨hv, hz⟩ | ⟨hv, hz⟩
        · exact absurd hz w
        · exact he 6 (by rw [hv]) σ17 F17 t17 (by decide)
      · rcases hv with ⟨hv, hz⟩ | ⟨hv, hz⟩
        · rw [hv, hu] at he ho
          dsimp only at he ho
          refine ⟨fun a1 => ⟨_, rfl, he 5 (by rw [if_pos (by omega)]) σ17 F17 t17 (by decide)⟩, fun a1 => ⟨fun a2 => ⟨_, rfl, he 5 (by rw [if_pos (by omega)]) σ17 F17 t17 (by decide)⟩, fun a2 => ⟨a, e1, no i, rfl, ?_⟩⟩⟩
          have i2 := (t17.2.2.2.1 i hi).1.2.1
          rw [p2, i2, i2j_toInt, w32_id (by omega) (by omega)]
          refine ⟨⟨by omega, by omega⟩, fun a3 => ?_, fun a3 => ⟨_, rfl, he 5 (by rw [if_pos (by omega)]) σ17 F17 t17 (by decide)⟩⟩
          rw [j2i_eq, j2i_eq, w32_id (by omega) (by omega), w32_id (by omega) (by omega)]
          refine ⟨⟨by omega, by omega⟩, ⟨by omega, by omega⟩, _, rfl, ?_⟩
          have FW8 : Frm (fun f r => r = tr ∧ (f = 1008 ∨ f = 1009)) σ17 (sI (sI σ17 1008 tr 0 (s.d 1 i + v.toInt)) 1009 tr 0 (s.d 1 i + u.toInt)) := (Frm.sI ⟨rfl, by omega⟩).trans (Frm.sI ⟨rfl, by omega⟩)
          refine ho (v.toInt, u.toInt) (by rw [if_neg (by omega)]) (by show 0 ≤ v.toInt; omega) (by show v.toInt ≤ u.toInt; omega) (by show u.toInt ≤ _; omega) _ (F17.trans (FW8.mono (fun f r q => Or.inr q))) (t17.frm FW8 (fun f r z q => by omega)) ?_ (gI_slf _ _ _ _ _)
          rw [gI_sI, if_neg (by simp), gI_slf]
        · omega
    · have E17 := E9.fr g1
      obtain ⟨⟨e1, e2, e3, _⟩, _⟩ := id E17
      have F17 := f9.trans (g2.mono (fun f r q => Or.inl q))
      have er : (match evE (s.d 1 k) len (s.d 1 i) (nmV Ss h s i) N, evE (s.d 1 k) len (s.d 1 i) (nmV Ss h s i) M with
        | some a, some b => if a.toInt < 0 ∨ b.toInt < a.toInt ∨ len - s.d 1 i < b.toInt then (.error 5 : Except Int (Int × Int)) else .ok (a.toInt, b.toInt)
        | _, _ => .error 6) = .error 6 := by
        rw [hu]
        cases evE (s.d 1 k) len (s.d 1 i) (nmV Ss h s i) N <;> rfl
      exact ⟨fun w => ⟨_, rfl, he 6 er σ17 F17 t17 (by decide)⟩, fun w => ⟨rk, e3, fun z => by omega, fun _ => ⟨_, rfl, he 6 er σ17 F17 t17 (by decide)⟩⟩⟩
  exact x_ev hE hT hI hU hi h0' xc1 hw1 ⟨by omega, by omega⟩ (hx1 N eN) h20 (fun v hv σ9 _ g1 t9 z7 => second v σ9 (g1.mono (fun f r q => Or.inl q)) t9 (Or.inl ⟨hv, z7⟩)) (fun hv v σ9 _ g1 t9 z7 => second v σ9 (g1.mono (fun f r q => Or.inl q)) t9 (Or.inr ⟨hv, z7⟩))
end F2
