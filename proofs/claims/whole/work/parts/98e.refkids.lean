/-! the reference lays: arrays, unions, pointers -/
section R5
variable {g : GP} {l : Launch} {d : Nat} {σ σ' σ'' : St} {m t b i k r : Nat} {En : List Enm} {Ss : List Stc} {s : TS} {h : Int → Int} {len im fl : Int} {K : List (Nat × Int)} {F : Fld} {L : LY}
theorem m_arrayLaid {P : St → Prop} (hE : EnR σ m t b En Ss im len h) (hT : TrR σ m t b s) (hS : SkR σ m t K) (hK : K.length < 128) (hI : TI Ss len s) (hU : TU Ss len s) (hB : ∀ fl F, gF Ss fl = some F → F.ki = 3 → BiO F.es 0 (8 * tw F.ty) ∧ F.es.length ≤ 12) (hi : i < s.c) (h0' : s.d 0 i = 0) (hk : k < s.c) (h3 : s.d 3 k = 0) (hF : gF Ss fl = some F) (f2 : F.ki = 2) (hW : F.st = -1 ∧ TyR F.ty ∨ 0 ≤ F.st ∧ F.st < Ss.length ∧ (F.e1 = none → 0 < szS Ss F.st)) (hsz : szS Ss F.st ≤ 1000000) (hw : WFx F.e1) (hx : ∀ N, F.e1 = some N → ∀ x ∈ N, x.o = 2 → NmO Ss s i x.v.toInt) (h20 : Ss.length ≤ 20)
    (hf : ∀ e, lyAr Ss h len L s i k fl F = some (s.w 3 k e, true) → ∀ σ', NsO m t σ σ' → TrR σ' m t b (s.w 3 k e) → P σ')
    (ho : ∀ n : Nat, lyAr Ss h len L s i k fl F = arB Ss len L k fl F n s → n ≤ 200 → ∀ σ', RyO m t σ σ' → TrR σ' m t b s → SkR σ' m t (K ++ [(k, (n : Int))]) → P σ') : ACv g l (d + 7) MX12_arrayLaid [vR 12 (some m), vI ((400 * t + k : Nat) : Int), vI (fxR b fl : Int), vI ((400 * t + i : Nat) : Int)] σ P := by
  have t7 := hE.2.2.2.2.2
  have c4 := hT.1.2.2
  have fl5 := fx_lt hE hF
  have fr := (hE.fdr.2 fl F hF).2
  have xr := fr.1.2.1
  have e31 := fr.1.2.2.2.2.2.1
  have e28 : gI σ 1228 m (fxR b fl) = if F.st = -1 then 1 else 3 := by rw [fr.2.1]; unfold kR; rw [if_neg (by omega), if_neg (by omega), if_pos f2]
  obtain ⟨⟨v1, _⟩, _⟩ := hI.2 k hk
  have n2 := (hT.2 k hk).2.1
  obtain ⟨i1, i2, i3, i4, i5, i6, i7, i8, i9⟩ := id hE.1
  have z0 : (0 : Int64).toInt = 0 := by decide
  have z2 : (200 : Int64).toInt = 200 := by decide
  have ng : gI σ 1233 m (fxR b fl) < 0 ↔ F.e1 = none := xr.neg.1
  unfold lyAr at hf ho
  have s147 : ∀ (τ : St) (v : Int64) (n : Nat), RyO m t σ τ → TrR τ m t b s → SkR τ m t K → 0 ≤ v.toInt → min 200 v.toInt = (n : Int) → (∀ σ', RyO m t σ σ' → TrR σ' m t b s → SkR σ' m t (K ++ [(k, (n : Int))]) → P σ') → AW g l (d + 7) MX12_arrayLaid 147 [some (vR 12 (some m)), some (vI ((400 * t + k : Nat) : Int)), none, none, none, some (vJ v), none] [] τ (fun v σ' => v = none ∧ P σ') := fun τ v n oτ Tτ Sτ v0 hn hp => by
    refine bk_X12_arrayLaid_147 ?_
    rw [z2]
    refine ⟨fun w => ?_, fun w => ?_⟩
    · rw [j2i_eq, w32_id (by omega) (by omega), show v.toInt = (n : Int) by omega]
      exact m_opens (hE.ry oτ) Tτ Sτ hK (fun σ' o T S => ⟨rfl, hp σ' (oτ.trans o) T S⟩)
    · rw [show (200 : Int) = (n : Int) by omega]
      exact m_opens (hE.ry oτ) Tτ Sτ hK (fun σ' o T S => ⟨rfl, hp σ' (oτ.trans o) T S⟩)
  have s41 : ∀ y : Int, y = eachN Ss F → y ≤ 1000000 → AW g l (d + 7) MX12_arrayLaid 41 [some (vR 12 (some m)), some (vI ((400 * t + k : Nat) : Int)), some (vI (fxR b fl : Int)), some (vI ((400 * t + i : Nat) : Int)), none, none, none] [vI y] σ (fun v σ' => v = none ∧ P σ') := fun y hy hy2 => by
    refine bk_X12_arrayLaid_41 ⟨i1, ⟨by omega, by omega⟩, ?_⟩
    rw [Int.toNat_natCast, Int.toNat_natCast, n2, i2, i5]
    refine ⟨fun w => ⟨⟨by omega, by omega⟩, ?_⟩, fun w => ⟨⟨by omega, by omega⟩, ⟨by omega, by omega⟩, ⟨by omega, by omega⟩, ?_⟩⟩
    · cases e1 : F.e1 with
      | none => have := ng.mpr e1; omega
      | some N =>
        rw [e1] at xr hw hf ho
        dsimp only at hf ho
        unfold amtB at hf ho
        refine m_ev hE hT hI hU hB hi h0' xr hw ⟨by omega, by omega⟩ (hx N e1) h20 (fun v hv σ1 o1 T1 z7 f7 => ?_) (fun hv v σ1 o1 T1 z7 f7 => ?_)
        · have E1 := hE.ry o1.ry
          have x1 := (E1.fdr.2 fl F hF).2.1.2.1
          have ng1 : gI σ1 1233 m (fxR b fl) < 0 ↔ F.e1 = none := x1.neg.1
          rw [hv] at hf ho
          dsimp only at hf ho
          have bad : v.toInt < 0 ∨ 200 < v.toInt → AW g l (d + 7) MX12_arrayLaid 126 [some (vR 12 (some m)), some (vI ((400 * t + k : Nat) : Int)), none, none, none, none, none] [] σ1 (fun v σ' => v = none ∧ P σ') := fun q =>
            bk_X12_arrayLaid_126 ⟨fun _ => m_fault0 E1 T1 hk h3 (fun σ' o T => ⟨rfl, hf 5 (by rw [if_pos q]) σ' (o1.trans o) T⟩), fun u => absurd z7 u⟩
          refine bk_X12_arrayLaid_92 ⟨E1.1.1, ⟨by omega, by omega⟩, ?_⟩
          rw [Int.toNat_natCast, z0, z2]
          refine ⟨fun u => absurd (ng1.mp u) (by rw [e1]; simp), fun u => ⟨fun u => absurd z7 u, fun _ => ⟨fun q => bad (Or.inl q), fun q => ⟨fun q2 => ?_, fun q2 => bad (Or.inr (by omega))⟩⟩⟩⟩
          exact s147 σ1 v v.toInt.toNat o1.ry T1 (hS.ns o1) (by omega) (by omega) (ho v.toInt.toNat (by rw [if_neg (by omega)]) (by omega))
        · have E1 := hE.ry o1.ry
          have x1 := (E1.fdr.2 fl F hF).2.1.2.1
          have ng1 : gI σ1 1233 m (fxR b fl) < 0 ↔ F.e1 = none := x1.neg.1
          rw [hv] at hf
          refine bk_X12_arrayLaid_92 ⟨E1.1.1, ⟨by omega, by omega⟩, ?_⟩
          rw [Int.toNat_natCast]
          refine ⟨fun u => absurd (ng1.mp u) (by rw [e1]; simp), fun u => ⟨fun _ => ?_, fun u => by omega⟩⟩
          exact bk_X12_arrayLaid_126 ⟨fun u => by omega, fun _ => m_fault0 E1 T1 hk h3 (fun σ' o T => ⟨rfl, hf 6 rfl σ' (o1.trans o) T⟩)⟩
    · cases e1 : F.e1 with
      | some N => exact absurd (ng.mp (by omega)) (by rw [e1]; simp)
      | none =>
        have yp : 0 < y := by
          rw [hy]; unfold eachN
          rcases hW with q | q
          · rw [if_pos q.1]; have := q.2.1; omega
          · rw [if_neg (by omega)]; exact q.2.2 e1
        rw [e1] at ho
        dsimp only at ho
        have fz : 0 ≤ (len - s.d 1 k) / y := Int.ediv_nonneg (by omega) (by omega)
        have fz2 : (len - s.d 1 k) / y ≤ 2000 := Int.le_trans (Int.ediv_le_self _ (by omega)) (by omega)
        have iv : (i2j (i_div (len - s.d 1 k) y)).toInt = (len - s.d 1 k) / y := by rw [i_div_pos (by omega) (by omega) (by omega) (by omega), i2j_toInt, w32_id (by omega) (by omega)]
        have fe : filN Ss len s k F = min 200 ((len - s.d 1 k) / y) := by unfold filN; rw [← hy, if_pos yp]
        refine ⟨by omega, bk_X12_arrayLaid_92 ⟨i1, ⟨by omega, by omega⟩, ?_⟩⟩
        rw [Int.toNat_natCast]
        refine ⟨fun _ => s147 σ _ (filN Ss len s k F).toNat RyO.rfl hT hS (by rw [iv]; exact fz) (by rw [iv, fe]; omega) (ho _ rfl (by rw [fe]; omega)), fun u => absurd (ng.mpr e1) u⟩
  obtain ⟨_, ⟨b2, e3⟩, _, e5, _⟩ := id hE
  refine AC.of mo_X12_arrayLaid (Nat.le_of_ble_eq_true rfl) (bk_X12_arrayLaid_0 ⟨i1, ⟨by omega, by omega⟩, ?_⟩)
  rw [Int.toNat_natCast, e28, e31, e5]
  by_cases z : F.st = -1
  · rw [if_pos z]
    refine ⟨fun w => absurd rfl w, fun _ => ?_⟩
    have ty : TyR F.ty := by
      rcases hW with q | q
      · exact q.2
      · omega
    have e29 := fr.1.2.2.2.2.2.2.2.2.1 (ty_nz ty)
    rw [e29, (ty_bit3 ty).1]
    exact s41 _ (by unfold eachN; rw [if_pos z]) (by have := ty.2.1; omega)
  · rw [if_neg z]
    have hst : 0 ≤ F.st ∧ F.st < Ss.length := by
      rcases hW with q | q
      · exact absurd q.1 z
      · exact ⟨q.1, q.2.1⟩
    have hget : Ss[F.st.toNat]? = some Ss[F.st.toNat] := List.getElem?_eq_getElem (by omega)
    have es := (e3.2.2.2.2.2 _ _ hget).2.2.1
    have ez : szS Ss F.st = Ss[F.st.toNat].2.2 := by unfold szS; rw [if_neg (by omega), hget]
    refine ⟨fun _ => ⟨⟨by omega, by omega⟩, ⟨by omega, by omega⟩, ⟨by omega, by omega⟩, ?_⟩, fun w => absurd w (by decide)⟩
    rw [show (20 * (b : Int) + F.st).toNat = 20 * b + F.st.toNat by omega, es, ← ez]
    exact s41 _ (by unfold eachN; rw [if_neg z]) hsz
/-- what is wanted behind a union or a pointer -/
def PoO (σ : St) (m t b r : Nat) (Ss : List Stc) (s : TS) (k : Nat) (K : List (Nat × Int)) (st place : Int) (P : St → Prop) : Prop :=
  (¬ s.c < 400 → ∀ σ', RyO m t σ σ' → gI σ' 1282 m 0 = 1 → P σ') ∧ (s.c < 400 → ∀ σ', RyO m t σ σ' → TrR σ' m t b (bgS r (mkM s 0 k place (-1) place st 0 (nmS Ss st)) s.c) → SkR σ' m t ((K ++ [(k, 0)]) ++ [(s.c, bgX r)]) → P σ')
theorem m_unionLaid {P : St → Prop} (hE : EnR σ m t b En Ss im len h) (hT : TrR σ m t b s) (hS : SkR σ m t K) (hK : K.length < 126) (hI : TI Ss len s) (hU : TU Ss len s) (hB : ∀ fl F, gF Ss fl = some F → F.ki = 3 → BiO F.es 0 (8 * tw F.ty) ∧ F.es.length ≤ 12) (hi : i < s.c) (h0' : s.d 0 i = 0) (hk : k < s.c) (h3 : s.d 3 k = 0) (hF : gF Ss fl = some F) (f6 : F.ki = 6) (hN : ∃ N, F.e1 = some N) (hot : -1 ≤ F.ot ∧ F.ot < Ss.length) (hes : ∀ e ∈ F.es, 0 ≤ e.2.2 ∧ e.2.2 < Ss.length) (h16 : F.es.length ≤ 16) (hw : WFx F.e1) (hx : ∀ N, F.e1 = some N → ∀ x ∈ N, x.o = 2 → NmO Ss s i x.v.toInt) (h20 : Ss.length ≤ 20) (hA : Anc s k = 20 - (r : Int)) (hr : r ≤ 20)
    (hf : ∀ e, lyUn Ss h len L s i k F = some (s.w 3 k e, true) → ∀ σ', NsO m t σ σ' → TrR σ' m t b (s.w 3 k e) → P σ')
    (ho : ∀ st : Int, 0 ≤ st → st < Ss.length → (lyUn Ss h len L s i k F = match addS L Ss s k st (s.d 1 k) with
      | none => none
      | some s1 => some (s1.w 2 k (s1.d 2 s.c), true)) → PoO σ m t b r Ss s k K st (s.d 1 k) P) : ACv g l (d + 7) MX12_unionLaid [vR 12 (some m), vI ((400 * t + k : Nat) : Int), vI (fxR b fl : Int), vI ((400 * t + i : Nat) : Int)] σ P := by
  obtain ⟨N, eN⟩ := hN
  have t7 := hE.2.2.2.2.2
  have c4 := hT.1.2.2
  have fl5 := fx_lt hE hF
  have fr := (hE.fdr.2 fl F hF).2
  have xr := fr.1.2.1
  rw [eN] at xr hw
  obtain ⟨⟨v1, _⟩, _⟩ := hI.2 k hk
  have n2 := (hT.2 k hk).2.1
  unfold lyUn at hf ho
  rw [eN] at hf ho
  dsimp only at hf ho
  refine AC.of mo_X12_unionLaid (Nat.le_of_ble_eq_true rfl) (bk_X12_unionLaid_0 ⟨hE.1.1, ⟨by omega, by omega⟩, ⟨by omega, by omega⟩, ?_⟩)
  rw [Int.toNat_natCast, Int.toNat_natCast, n2]
  refine m_ev hE hT hI hU hB hi h0' xr hw ⟨by omega, by omega⟩ (hx N eN) h20 (fun v hv σ1 o1 T1 z7 _ => ⟨fun _ => ?_, fun w => absurd z7 w⟩) (fun hv v σ1 o1 T1 z7 _ => ⟨fun w => by omega, fun _ => m_fault0 (hE.ry o1.ry) T1 hk h3 (fun σ' o T => ⟨rfl, ?_⟩)⟩)
  · rw [hv] at hf ho
    dsimp only at hf ho
    have E1 := hE.ry o1.ry
    have fr1 := (E1.fdr.2 fl F hF).2
    have e37 := fr1.1.2.2.2.2.2.2.1
    have e36 := fr1.1.2.2.2.2.1
    have ent := fr1.1.2.2.2.2.2.2.2.2.2
    have n21 := (T1.2 k hk).2.1
    -- the end of the search
    have fin : ∀ y : Int, y = tgt F v → AW g l (d + 7) MX12_unionLaid 52 [some (vR 12 (some m)), some (vI ((400 * t + k : Nat) : Int)), some (vI (fxR b fl : Int)), none, some (vJ v), none, some (vI y), some (vI (-1))] [] σ1 (fun v σ' => v = none ∧ P σ') := fun y hy => by
      refine bk_X12_unionLaid_52 ⟨fun _ => ⟨fun w => ?_, fun w => ?_⟩, fun w => absurd (by decide) w⟩
      · have hn : ¬ tgt F v = -1 := by omega
        have lt : y < Ss.length := by
          rw [hy]; unfold tgt
          cases ef : F.es.find? (fun e => e.2.1 == v) with
          | none => exact hot.2
          | some e => exact (hes e (List.mem_of_find?_eq_some ef)).2
        have hp := ho y w lt (by rw [if_neg hn, hy]; rfl)
        refine m_opens (x := 0) E1 T1 (hS.ns o1) (by omega) (fun σ2 o2 T2 S2 => ⟨(hE.ry (o1.ry.trans o2)).1.1, ⟨by omega, by omega⟩, ?_⟩)
        have n22 := (T2.2 k hk).2.1
        rw [Int.toNat_natCast, n22]
        exact m_begun (par := (k : Int)) (fld := -1) (nm := nmS Ss y) (by unfold oI; rw [if_neg (by omega)]; omega) rfl (hE.ry (o1.ry.trans o2)) T2 S2 (by rw [app_l]; omega) (fun i hi => (hI.2 i hi).2.1) ⟨by omega, by omega⟩ hA hr (fun nc σ3 o3 mm => ⟨rfl, hp.1 nc σ3 ((o1.ry.trans o2).trans o3) mm⟩) (fun hc σ3 o3 T3 S3 => ⟨rfl, hp.2 hc σ3 ((o1.ry.trans o2).trans o3) T3 S3⟩)
      · have hn : tgt F v = -1 := by
          rw [← hy]
          have : -1 ≤ y := by
            rw [hy]; unfold tgt
            cases ef : F.es.find? (fun e => e.2.1 == v) with
            | none => exact hot.1
            | some e => have := (hes e (List.mem_of_find?_eq_some ef)).1; show -1 ≤ e.2.2; omega
          omega
        exact m_fault0 E1 T1 hk h3 (fun σ' o T => ⟨rfl, hf 7 (by rw [if_pos hn]) σ' (o1.trans o) T⟩)
    have loop : ∀ (j : Nat) (y : Int), j ≤ F.es.length → y = (match (F.es.drop j).find? (fun e => e.2.1 == v) with
        | some e => e.2.2
        | none => F.ot) → AW g l (d + 7) MX12_unionLaid 52 [some (vR 12 (some m)), some (vI ((400 * t + k : Nat) : Int)), some (vI (fxR b fl : Int)), none, some (vJ v), none, some (vI y), some (vI ((j : Int) - 1))] [] σ1 (fun v σ' => v = none ∧ P σ') := by
      intro j
      induction j with
      | zero => intro y _ hy; exact fin y hy
      | succ j ih =>
        intro y hj hy
        have lt : j < F.es.length := by omega
        have hget : F.es[j]? = some F.es[j] := List.getElem?_eq_getElem lt
        obtain ⟨_, y2, y3⟩ := ent j _ hget
        have y3 := y3 f6
        have dj : F.es.drop j = F.es[j] :: F.es.drop (j + 1) := List.drop_eq_getElem_cons lt
        refine bk_X12_unionLaid_52 ⟨fun w => absurd w (by omega), fun _ => ⟨E1.1.1, ⟨by omega, by omega⟩, ⟨by omega, by omega⟩, ⟨by omega, by omega⟩, ?_⟩⟩
        rw [show (16 * (fxR b fl : Int) + (((j + 1 : Nat) : Int) - 1)).toNat = 16 * fxR b fl + j by omega, y2, y3, show ((j + 1 : Nat) : Int) - 1 + -1 = (j : Int) - 1 by omega]
        refine ⟨fun w => ⟨⟨by omega, by omega⟩, ih y (by omega) ?_⟩, fun w z14 hz => ⟨⟨by omega, by omega⟩, ih z14 (by omega) ?_⟩⟩
        · rw [dj, List.find?_cons, show (F.es[j].2.1 == v) = false by simp [w]]; exact hy
        · rw [dj, List.find?_cons, show (F.es[j].2.1 == v) = true by simp [w]]; exact hz
    refine ⟨E1.1.1, ?_⟩
    rw [e37, e36]
    refine ⟨⟨by omega, by omega⟩, fun z9 hz => ?_⟩
    rw [hz]
    exact loop F.es.length F.ot (Nat.le_refl _) (by rw [List.drop_eq_nil_of_le (Nat.le_refl _)]; rfl)
  · rw [hv] at hf; exact hf 6 rfl σ' (o1.trans o) T
theorem m_pointed {P : St → Prop} (hE : EnR σ m t b En Ss im len h) (hT : TrR σ m t b s) (hS : SkR σ m t K) (hK : K.length < 126) (hI : TI Ss len s) (hU : TU Ss len s) (hB : ∀ fl F, gF Ss fl = some F → F.ki = 3 → BiO F.es 0 (8 * tw F.ty) ∧ F.es.length ≤ 12) (hi : i < s.c) (h0' : s.d 0 i = 0) (hk : k < s.c) (h3 : s.d 3 k = 0) (h4 : s.d 4 k = 0) (hF : gF Ss fl = some F) (f7 : F.ki = 7) (hst : 0 ≤ F.st ∧ F.st < Ss.length) (hnu : 1 ≤ F.nu.toInt ∧ F.nu.toInt ≤ 4096) (hw : WFx F.e1) (hx : ∀ N, F.e1 = some N → ∀ x ∈ N, x.o = 2 → NmO Ss s i x.v.toInt) (h20 : Ss.length ≤ 20) (hA : Anc s k = 20 - (r : Int)) (hr : r ≤ 20)
    (hf : ∀ s', lyPt Ss h len L s i k F = some (s', true) → ∀ σ', NsO m t σ σ' → TrR σ' m t b s' → P σ')
    (ho : ∀ a : Int, 0 ≤ a → a < len → (lyPt Ss h len L s i k F = match addS L Ss s k F.st a with
      | none => none
      | some s1 => some (s1, true)) → PoO σ m t b r Ss s k K F.st a P) : ACv g l (d + 7) MX12_pointed [vR 12 (some m), vI ((400 * t + k : Nat) : Int), vI (fxR b fl : Int), vI ((400 * t + i : Nat) : Int)] σ P := by
  have t7 := hE.2.2.2.2.2
  have c4 := hT.1.2.2
  have fl5 := fx_lt hE hF
  have fr := (hE.fdr.2 fl F hF).2
  have xr := fr.1.2.1
  have e35 := fr.2.2.1 (Or.inl f7)
  obtain ⟨⟨v1, _⟩, _⟩ := hI.2 k hk
  have n2 := (hT.2 k hk).2.1
  have z0 : (0 : Int64).toInt = 0 := by decide
  have nuj : i2j F.nu.toInt = F.nu := Int64.toInt_inj.mp (by rw [i2j_toInt, w32_id (by omega) (by omega)])
  -- the aim is known
  have s61 : ∀ (v : Int64) (τ : St), NsO m t σ τ → TrR τ m t b s → lyPt Ss h len L s i k F = lyPa Ss len L s k F v → AW g l (d + 7) MX12_pointed 61 [some (vR 12 (some m)), some (vI ((400 * t + k : Nat) : Int)), some (vI (fxR b fl : Int)), none, some (vJ v), none, none] [] τ (fun v σ' => v = none ∧ P σ') := fun v τ oτ Tτ el => by
    rw [el] at hf ho
    unfold lyPa at hf ho
    have Eτ := hE.ry oτ.ry
    obtain ⟨i1, i2, i3, i4, i5, i6, i7, i8, i9⟩ := id Eτ.1
    have e31 := (Eτ.fdr.2 fl F hF).2.1.2.2.2.2.2.1
    have bad : v.toInt < 0 ∨ len ≤ v.toInt → ACv g l (d + 6) MX12_faulty [vR 12 (some m), vI ((400 * t + k : Nat) : Int), vI 8] τ (fun σ2 => (none : Option AV) = none ∧ P σ2) := fun q => m_fault0 Eτ Tτ hk h3 (fun σ' o T => ⟨rfl, hf _ (by rw [if_pos q]) σ' (oτ.trans o) T⟩)
    refine bk_X12_pointed_61 ?_
    rw [z0]
    refine ⟨fun q => bad (Or.inl q), fun q => ⟨i1, ?_⟩⟩
    rw [i2, i5, i2j_toInt, w32_id (by omega) (by omega)]
    refine ⟨⟨by omega, by omega⟩, fun q2 => ⟨⟨by omega, by omega⟩, ?_⟩, fun q2 => bad (Or.inr (by omega))⟩
    rw [if_neg (by omega)] at hf ho
    have n6 := (Tτ.2 k hk).2.2.2.2.2.1
    have up := hI.up
    rw [Int.toNat_natCast, n6]
    have fin : ∀ υ : St, NsO m t σ υ → (TrR υ m t b s ∧ abv s F.st v.toInt s.c (s.d 5 k) = false ∨ TrR υ m t b (s.w 4 k 1) ∧ abv s F.st v.toInt s.c (s.d 5 k) = true) → AW g l (d + 7) MX12_pointed 100 [some (vR 12 (some m)), some (vI ((400 * t + k : Nat) : Int)), some (vI (fxR b fl : Int)), none, some (vJ v), none, some (vI (-1))] [] υ (fun v σ' => v = none ∧ P σ') := fun υ oυ hυ => by
      have Eυ := hE.ry oυ.ry
      refine bk_X12_pointed_100 ⟨fun _ => ⟨Eυ.1.1, ⟨by omega, by omega⟩, ?_⟩, fun w => absurd (by decide) w⟩
      rw [Int.toNat_natCast]
      rcases hυ with ⟨Tυ, ea⟩ | ⟨Tυ, ea⟩
      · have n5 := (Tυ.2 k hk).2.2.2.2.1
        rw [n5, h4]
        refine ⟨fun _ => ?_, fun w => absurd rfl w⟩
        have hp := ho v.toInt (by omega) (by omega) (by rw [if_neg (by rw [ea]; decide)]; rfl)
        refine m_opens (x := 0) Eυ Tυ (hS.ns oυ) (by omega) (fun σ2 o2 T2 S2 => ?_)
        have E2 := hE.ry (oυ.ry.trans o2)
        have e31' := (E2.fdr.2 fl F hF).2.1.2.2.2.2.2.1
        refine ⟨E2.1.1, ⟨by omega, by omega⟩, ?_⟩
        rw [Int.toNat_natCast, e31', j2i_eq, w32_id (by omega) (by omega)]
        exact m_begun (par := (k : Int)) (fld := -1) (nm := nmS Ss F.st) (by unfold oI; rw [if_neg (by omega)]; omega) rfl E2 T2 S2 (by rw [app_l]; omega) (fun i hi => (hI.2 i hi).2.1) ⟨by omega, by omega⟩ hA hr (fun nc σ3 o3 mm => ⟨rfl, hp.1 nc σ3 ((oυ.ry.trans o2).trans o3) mm⟩) (fun hc σ3 o3 T3 S3 => ⟨rfl, hp.2 hc σ3 ((oυ.ry.trans o2).trans o3) T3 S3⟩)
      · have n5 := (Tυ.2 k hk).2.2.2.2.1
        rw [n5, w_at]
        exact ⟨fun w => absurd w (by decide), fun _ => ⟨rfl, hf _ (by rw [if_pos ea]) υ oυ Tυ⟩⟩
    have loop : ∀ (n : Nat) (p : Int) (υ : St), -1 ≤ p → p < n → p < s.c → NsO m t σ υ → (TrR υ m t b s ∧ abv s F.st v.toInt s.c (s.d 5 k) = abv s F.st v.toInt n p ∨ TrR υ m t b (s.w 4 k 1) ∧ abv s F.st v.toInt s.c (s.d 5 k) = true) → AW g l (d + 7) MX12_pointed 100 [some (vR 12 (some m)), some (vI ((400 * t + k : Nat) : Int)), some (vI (fxR b fl : Int)), none, some (vJ v), none, some (vI (oI t p))] [] υ (fun v σ' => v = none ∧ P σ') := by
      intro n
      induction n with
      | zero =>
        intro p υ p0 p1 _ oυ hυ
        rw [show oI t p = -1 by unfold oI; rw [if_pos (by omega)]]
        exact fin υ oυ hυ
      | succ n ih =>
        intro p υ p0 p1 p2 oυ hυ
        rw [abv] at hυ
        by_cases q0 : p < 0
        · rw [if_pos q0] at hυ
          rw [show oI t p = -1 by unfold oI; rw [if_pos q0]]
          exact fin υ oυ hυ
        · rw [if_neg q0] at hυ
          have Eυ := hE.ry oυ.ry
          have e31' := (Eυ.fdr.2 fl F hF).2.1.2.2.2.2.2.1
          have pc : p.toNat < s.c := by omega
          have up' := up p.toNat pc
          have rd : gI υ 1267 m (400 * t + p.toNat) = s.d 0 p.toNat ∧ gI υ 1273 m (400 * t + p.toNat) = s.d 7 p.toNat ∧ gI υ 1268 m (400 * t + p.toNat) = s.d 1 p.toNat ∧ gI υ 1270 m (400 * t + p.toNat) = oI t (s.d 5 p.toNat) := by
            rcases hυ with ⟨Tυ, _⟩ | ⟨Tυ, _⟩
            · obtain ⟨a1, a2, _, _, _, a6, _, a8, _⟩ := Tυ.2 p.toNat pc
              exact ⟨a1, a8, a2, a6⟩
            · obtain ⟨a1, a2, _, _, _, a6, _, a8, _⟩ := Tυ.2 p.toNat pc
              rw [w_ne (by decide)] at a1 a2 a6 a8
              exact ⟨a1, a8, a2, a6⟩
          have vp := (hI.2 p.toNat pc).1.1
          have nx : ¬ (s.d 0 p.toNat = 0 ∧ s.d 7 p.toNat = F.st ∧ s.d 1 p.toNat = v.toInt) → AW g l (d + 7) MX12_pointed 100 [some (vR 12 (some m)), some (vI ((400 * t + k : Nat) : Int)), some (vI (fxR b fl : Int)), none, some (vJ v), none, some (vI (oI t (s.d 5 p.toNat)))] [] υ (fun v σ' => v = none ∧ P σ') := fun z => by
            rw [if_neg z] at hυ
            exact ih _ υ up'.1 (by omega) (by omega) oυ hυ
          rw [show oI t p = ((400 * t + p.toNat : Nat) : Int) by unfold oI; rw [if_neg q0]; omega]
          refine bk_X12_pointed_100 ⟨fun w => by omega, fun _ => ⟨Eυ.1.1, ⟨by omega, by omega⟩, ?_⟩⟩
          simp only [Int.toNat_natCast]
          rw [rd.1, rd.2.1, rd.2.2.1, rd.2.2.2, e31']
          have eqv : i2j (s.d 1 p.toNat) = v ↔ s.d 1 p.toNat = v.toInt := by
            constructor
            · intro e
              rw [← e, i2j_toInt, w32_id (by omega) (by omega)]
            · intro e
              exact Int64.toInt_inj.mp (by rw [i2j_toInt, w32_id (by omega) (by omega)]; exact e)
          refine ⟨fun z => nx (fun y => z y.1), fun z => ⟨⟨by omega, by omega⟩, fun z2 => nx (fun y => z2 y.2.1), fun z2 => ⟨fun z3 => nx (fun y => z3 (eqv.mpr y.2.2)), fun z3 => ⟨⟨by omega, by omega⟩, ih _ _ up'.1 (by omega) (by omega) (oυ.trans (NsO.sI (by omega) (by omega))) (Or.inr ?_)⟩⟩⟩⟩
          rw [if_pos ⟨z, z2, eqv.mp z3⟩] at hυ
          rcases hυ with ⟨Tυ, ea⟩ | ⟨Tυ, ea⟩
          · exact ⟨Tυ.w hk (by omega), ea⟩
          · refine ⟨?_, ea⟩
            have w := Tυ.w (k := k) (f := 4) (fr := 1279) (v := 1) hk (by omega)
            rw [w_w] at w
            exact w
    exact loop s.c _ τ (up k hk).1 (by have := (up k hk).2; omega) (by have := (up k hk).2; omega) oτ (Or.inl ⟨Tτ, rfl⟩)
  have ng : gI σ 1233 m (fxR b fl) < 0 ↔ F.e1 = none := xr.neg.1
  unfold lyPt at s61 hf ho
  refine AC.of mo_X12_pointed (Nat.le_of_ble_eq_true rfl) (bk_X12_pointed_0 (m_val' hE hT hI hU hB hk ⟨hE.1.1, ⟨by omega, by omega⟩, ?_⟩))
  rw [Int.toNat_natCast, Int.toNat_natCast, e35, nuj, n2]
  refine ⟨fun w => ?_, fun w => ⟨⟨by omega, by omega⟩, ?_⟩⟩
  · have e1 := ng.mp w
    rw [e1] at s61
    exact s61 _ σ NsO.rfl hT rfl
  · cases e1 : F.e1 with
    | none => exact absurd (ng.mpr e1) w
    | some N =>
      rw [e1] at s61 hf ho xr hw
      dsimp only at s61 hf ho
      refine m_ev hE hT hI hU hB hi h0' xr hw ⟨by omega, by omega⟩ (hx N e1) h20 (fun v hv σ1 o1 T1 z7 _ => ⟨fun _ => ?_, fun w => absurd z7 w⟩) (fun hv v σ1 o1 T1 z7 _ => ⟨fun w => by omega, fun _ => m_fault0 (hE.ry o1.ry) T1 hk h3 (fun σ' o T => ⟨rfl, ?_⟩)⟩)
      · rw [hv] at s61; exact s61 _ σ1 o1 T1 rfl
      · rw [hv] at hf; exact hf _ rfl σ' (o1.trans o) T
end R5
