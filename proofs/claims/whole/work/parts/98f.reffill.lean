/-! the reference lays: a field is filled -/
section R6
variable {g : GP} {l : Launch} {e : Nat} {σ σ' σ'' : St} {m t b i k r : Nat} {En : List Enm} {Ss : List Stc} {s : TS} {h : Int → Int} {len im fl : Int} {K : List (Nat × Int)} {F : Fld} {L : LY}
theorem covB_nn {n : Int} {f : TS → OTB} (hf : ∀ s, ¬ f s = none) : ¬ covB len s k n f = none := by
  unfold covB
  by_cases q : n ≤ len - s.d 1 k
  · rw [if_pos q]; exact hf _
  · rw [if_neg q]; simp
theorem amtB_nn {N : List Nd} {most : Int} {f : Int → OTB} (hf : ∀ n, ¬ f n = none) : ¬ amtB Ss h len s i k N most f = none := by
  unfold amtB
  cases evE (s.d 1 k) len (s.d 1 i) (nmV Ss h s i) N with
  | none => simp
  | some v =>
    dsimp only
    by_cases q : v.toInt < 0 ∨ most < v.toInt
    · rw [if_pos q]; simp
    · rw [if_neg q]; exact hf _
theorem m_filled {P : Int → St → Prop} (hE : EnR σ m t b En Ss im len h) (hT : TrR σ m t b s) (hS : SkR σ m t K) (hK : K.length < 126) (hI : TI Ss len s) (hX : TX Ss len s k) (hB : ∀ fl F, gF Ss fl = some F → F.ki = 3 → BiO F.es 0 (8 * tw F.ty) ∧ F.es.length ≤ 12) (hi : i < s.c) (h0' : s.d 0 i = 0) (hk : k < s.c) (h0 : s.d 0 k = F.ki) (h3 : s.d 3 k = 0) (h4 : s.d 4 k = 0) (h5 : s.d 5 k = (i : Int)) (h6 : s.d 6 k = fl) (hkk : s.k k = []) (hle : s.d 1 i ≤ s.d 1 k) (hF : gF Ss fl = some F) (hW : FW En Ss F) (hsz : ∀ x, szS Ss x ≤ 1000000) (n0 : ¬ F.ki = 0)
    (hx1 : ∀ t : TS, t.d 7 i = s.d 7 i → ∀ N, F.e1 = some N → ∀ x ∈ N, x.o = 2 → NmO Ss t i x.v.toInt) (hx2 : ∀ t : TS, t.d 7 i = s.d 7 i → ∀ N, F.e2 = some N → ∀ x ∈ N, x.o = 2 → NmO Ss t i x.v.toInt) (h20 : Ss.length ≤ 20) (hA : Anc s k = 20 - (r : Int)) (hr : r ≤ 20)
    (h1 : ∀ r', bdF En Ss h len L s i k fl F = some r' → ∀ σ', NsO m t σ σ' → TrR σ' m t b r'.1 → P (if r'.2 = true then 1 else 0) σ')
    (hn : bdF En Ss h len L s i k fl F = none → ∀ σ', NsO m t σ σ' → gI σ' 1282 m 0 = 1 → P 1 σ')
    (h2 : F.ki = 2 → ∀ n : Nat, bdF En Ss h len L s i k fl F = arB Ss len L k fl F n s → n ≤ 200 → ∀ σ', RyO m t σ σ' → TrR σ' m t b s → SkR σ' m t (K ++ [(k, (n : Int))]) → P 1 σ')
    (h6' : F.ki = 6 → ∀ st : Int, 0 ≤ st → st < Ss.length → (bdF En Ss h len L s i k fl F = match addS L Ss s k st (s.d 1 k) with
      | none => none
      | some s1 => some (s1.w 2 k (s1.d 2 s.c), true)) → PoO σ m t b r Ss s k K st (s.d 1 k) (P 1))
    (h7' : F.ki = 7 → ∀ (s1 : TS) (a : Int), s1 = s.w 2 k (s.d 1 k + tw F.ty) → TI Ss len s1 → TU Ss len s1 → 0 ≤ a → a < len → (bdF En Ss h len L s i k fl F = match addS L Ss s1 k F.st a with
      | none => none
      | some s2 => some (s2, true)) → PoO σ m t b r Ss s1 k K F.st a (P 1)) : ACi g l (e + 11) MX12_filled [vR 12 (some m), vI ((400 * t + k : Nat) : Int), vI (fxR b fl : Int), vI ((400 * t + i : Nat) : Int)] σ P := by
  have t7 := hE.2.2.2.2.2
  have c4 := hT.1.2.2
  have fl5 := fx_lt hE hF
  have fr := (hE.fdr.2 fl F hF).2
  have v1 := (hI.2 k hk).1.1
  have vi := (hI.2 i hi).1.1
  have i6 := hE.1.2.2.2.2.2.1
  have e28 : gI σ 1228 m (fxR b fl) = kR F := fr.2.1
  obtain ⟨ne4, kge, kle, _⟩ := hW.ne4
  have hF' : ∀ F', gF Ss (s.d 6 k) = some F' → F' = F := fun F' q => by rw [h6, hF] at q; cases q; rfl
  have U : ¬ isNu F.ki → (F.ki = 5 → ¬ F.e1 = none) → TU Ss len s := fun n5 n6 => TX.all hX (fun F' q => by
    rw [hF' F' q, h0]
    exact ⟨fun z => absurd z n5, fun z z1 => absurd z1 (n6 z)⟩)
  -- the bytes are there
  have s141 : (F.ki = 1 ∨ F.ki = 3 ∨ F.ki = 7 ∨ F.ki = 10) → (¬ tw F.ty ≤ len - s.d 1 k → bdF En Ss h len L s i k fl F = some (s.w 3 k 1, false)) →
      (F.ki = 1 → tw F.ty ≤ len - s.d 1 k → ∀ σ3, NsO m t σ σ3 → TrR σ3 m t b (s.w 2 k (s.d 1 k + tw F.ty)) → TI Ss len (s.w 2 k (s.d 1 k + tw F.ty)) → TU Ss len (s.w 2 k (s.d 1 k + tw F.ty)) → ((F.pr < 0 → ∃ y, some (vI 1) = some (vI y) ∧ P y σ3) ∧ (¬ F.pr < 0 → ACi g l (e + 10) MX12_paired [vR 12 (some m), vI ((400 * t + k : Nat) : Int), vI (fxR b fl : Int)] σ3 (fun v12 σ11 => ((0 ≤ v12 → ∃ y, some (vI 1) = some (vI y) ∧ P y σ11) ∧ (¬ 0 ≤ v12 → ACv g l (e + 10) MX12_faulty [vR 12 (some m), vI ((400 * t + k : Nat) : Int), vI 4] σ11 (fun σ14 => ∃ y, some (vI 1) = some (vI y) ∧ P y σ14))))))) →
      (F.ki = 10 → tw F.ty ≤ len - s.d 1 k → ∀ σ3, NsO m t σ σ3 → TrR σ3 m t b (s.w 2 k (s.d 1 k + tw F.ty)) → TI Ss len (s.w 2 k (s.d 1 k + tw F.ty)) → TU Ss len (s.w 2 k (s.d 1 k + tw F.ty)) → ACv g l (e + 10) MX12_summed [vR 12 (some m), vI ((400 * t + k : Nat) : Int), vI (fxR b fl : Int), vI ((400 * t + i : Nat) : Int)] σ3 (fun σ15 => ∃ y, some (vI 1) = some (vI y) ∧ P y σ15)) →
      (F.ki = 7 → tw F.ty ≤ len - s.d 1 k → ∀ σ3, NsO m t σ σ3 → TrR σ3 m t b (s.w 2 k (s.d 1 k + tw F.ty)) → TI Ss len (s.w 2 k (s.d 1 k + tw F.ty)) → TU Ss len (s.w 2 k (s.d 1 k + tw F.ty)) → ACv g l (e + 10) MX12_pointed [vR 12 (some m), vI ((400 * t + k : Nat) : Int), vI (fxR b fl : Int), vI ((400 * t + i : Nat) : Int)] σ3 (fun σ16 => ∃ y, some (vI 1) = some (vI y) ∧ P y σ16)) →
      (F.ki = 3 → tw F.ty ≤ len - s.d 1 k → ∀ σ3, NsO m t σ σ3 → TrR σ3 m t b (s.w 2 k (s.d 1 k + tw F.ty)) → TI Ss len (s.w 2 k (s.d 1 k + tw F.ty)) → TU Ss len (s.w 2 k (s.d 1 k + tw F.ty)) → ACv g l (e + 10) MX12_partsLaid [vR 12 (some m), vI ((400 * t + k : Nat) : Int), vI (fxR b fl : Int)] σ3 (fun σ17 => ∃ y, some (vI 1) = some (vI y) ∧ P y σ17)) →
      AW g l (e + 11) MX12_filled 141 [some (vR 12 (some m)), some (vI ((400 * t + k : Nat) : Int)), some (vI (fxR b fl : Int)), some (vI ((400 * t + i : Nat) : Int))] [] σ (fun v σ' => ∃ y, v = some (vI y) ∧ P y σ') := fun hki hbad c1 c10 c7 c3 => by
    have ty : TyR F.ty := by
      rcases hki with q | q | q | q
      · exact (hW.k1 q).1
      · exact (hW.k3 q).1
      · exact (hW.k7 q).1
      · exact (hW.k10 q).1
    have inv : (kR F = 4 → F.ki = 3) ∧ (kR F = 8 → F.ki = 7) ∧ (kR F = 11 → F.ki = 10) ∧ (¬ kR F = 4 → ¬ kR F = 8 → ¬ kR F = 11 → F.ki = 1) := by
      rcases hki with q | q | q | q
      · rw [kR_1 q]; exact ⟨fun z => by omega, fun z => by omega, fun z => by omega, fun _ _ _ => q⟩
      · rw [kR_3 q]; exact ⟨fun _ => q, fun z => by omega, fun z => by omega, fun z => absurd rfl z⟩
      · rw [kR_7 q]; exact ⟨fun z => by omega, fun _ => q, fun z => by omega, fun _ z => absurd rfl z⟩
      · rw [kR_10 q]; exact ⟨fun z => by omega, fun z => by omega, fun _ => q, fun _ _ z => absurd rfl z⟩
    have e29 : gI σ 1229 m (fxR b fl) = F.ty.toInt := fr.1.2.2.2.2.2.2.2.2.1 (ty_nz ty)
    have y1 := ty.1
    have y8 := ty.2.1
    refine bk_X12_filled_141 ⟨hE.1.1, ⟨by omega, by omega⟩, ?_⟩
    simp only [Int.toNat_natCast]
    rw [e29, (ty_bit3 ty).1]
    refine m_reaches hE hT hk ⟨by omega, by omega⟩ h3 (n := tw F.ty) (by rw [i2j_toInt, w32_id (by omega) (by omega)]) ⟨by omega, by omega⟩ (fun q σ3 o3 T3 => ⟨fun _ => ?_, fun w => absurd w (by decide)⟩) (fun q σ3 o3 T3 => ⟨fun w => absurd rfl w, fun _ => ⟨_, rfl, h1 _ (hbad q) σ3 o3 T3⟩⟩)
    have E3 := hE.ry o3.ry
    have f3 := (E3.fdr.2 fl F hF).2
    have a28 : gI σ3 1228 m (fxR b fl) = kR F := f3.2.1
    have a30 : gI σ3 1230 m (fxR b fl) = F.pr := f3.1.2.2.2.1
    obtain ⟨I3, U3⟩ := cov_in hI hX hk (by omega) (fun F' z => by
      rw [hF' F' z, h0]
      exact ⟨fun _ => Int.le_refl _, fun z => by omega⟩) q
    rw [a28, a30]
    exact ⟨E3.1.1, fun w => ⟨fun w2 => ⟨fun w3 => c1 (inv.2.2.2 w w2 w3) q σ3 o3 T3 I3 U3, fun w3 => c10 (inv.2.2.1 w3) q σ3 o3 T3 I3 U3⟩, fun w2 => c7 (inv.2.1 w2) q σ3 o3 T3 I3 U3⟩, fun w => c3 (inv.1 w) q σ3 o3 T3 I3 U3⟩
  have d3e : (s.w 2 k (s.d 1 k + tw F.ty)).d 3 k = 0 := by rw [w_ne (by decide)]; exact h3
  have d0e : (s.w 2 k (s.d 1 k + tw F.ty)).d 0 k = F.ki := by rw [w_ne (by decide)]; exact h0
  have d0i : (s.w 2 k (s.d 1 k + tw F.ty)).d 0 i = 0 := by rw [w_ne (by decide)]; exact h0'
  have d4e : (s.w 2 k (s.d 1 k + tw F.ty)).d 4 k = 0 := by rw [w_ne (by decide)]; exact h4
  have d6e : (s.w 2 k (s.d 1 k + tw F.ty)).d 6 k = fl := by rw [w_ne (by decide)]; exact h6
  have d7e : (s.w 2 k (s.d 1 k + tw F.ty)).d 7 i = s.d 7 i := w_ne (by decide)
  have fin141 : F.ki = 1 ∨ F.ki = 3 ∨ F.ki = 7 ∨ F.ki = 10 → AW g l (e + 11) MX12_filled 141 [some (vR 12 (some m)), some (vI ((400 * t + k : Nat) : Int)), some (vI (fxR b fl : Int)), some (vI ((400 * t + i : Nat) : Int))] [] σ (fun v σ' => ∃ y, v = some (vI y) ∧ P y σ') := fun hki => by
    refine s141 hki (fun q => ?_) (fun z q σ3 o3 T3 I3 U3 => ?_) (fun z q σ3 o3 T3 I3 U3 => ?_) (fun z q σ3 o3 T3 I3 U3 => ?_) (fun z q σ3 o3 T3 I3 U3 => ?_)
    · unfold bdF covB
      rcases hki with z | z | z | z
      · rw [if_neg (by omega), if_pos z, if_neg q]
      · rw [if_neg (by omega), if_neg (by omega), if_neg (by omega), if_pos z, if_neg q]
      · rw [if_neg (by omega), if_neg (by omega), if_neg (by omega), if_neg (by omega), if_neg (by omega), if_neg (by omega), if_pos z, if_neg q]
      · rw [if_neg (by omega), if_neg (by omega), if_neg (by omega), if_neg (by omega), if_neg (by omega), if_neg (by omega), if_neg (by omega), if_neg (by omega), if_neg (by omega), if_neg q]
    · -- a whole
      have w := hW.k1 z
      have eb : bdF En Ss h len L s i k fl F = some (if 0 ≤ F.pr ∧ prW En F.pr (vlN Ss h (s.w 2 k (s.d 1 k + tw F.ty)) k) = false then (s.w 2 k (s.d 1 k + tw F.ty)).w 3 k 4 else s.w 2 k (s.d 1 k + tw F.ty), true) := by
        unfold bdF covB; rw [if_neg (by omega), if_pos z, if_pos q]
      have E3 := hE.ry o3.ry
      refine ⟨fun y => ⟨_, rfl, h1 _ eb σ3 o3 ?_⟩, fun y => m_paired E3 T3 I3 U3 hB hk hF ⟨by omega, w.2.2.2⟩ (fun pw => ⟨fun y2 => absurd y2 (by decide), fun _ => m_fault0 E3 T3 hk d3e (fun σ4 o4 T4 => ⟨_, rfl, h1 _ eb σ4 (o3.trans o4) ?_⟩)⟩) (fun q2 pw q3 => ⟨fun _ => ⟨_, rfl, h1 _ eb σ3 o3 ?_⟩, fun y2 => absurd q3 y2⟩)⟩
      · rw [if_neg (by omega)]; exact T3
      · rw [if_pos ⟨by omega, pw⟩]; exact T4
      · rw [if_neg (fun u => by rw [pw] at u; exact absurd u.2 (by decide))]; exact T3
    · -- a sum
      have w := hW.k10 z
      have eb : bdF En Ss h len L s i k fl F = some (lySm Ss h len (s.w 2 k (s.d 1 k + tw F.ty)) i k F, true) := by
        unfold bdF covB; rw [if_neg (by omega), if_neg (by omega), if_neg (by omega), if_neg (by omega), if_neg (by omega), if_neg (by omega), if_neg (by omega), if_neg (by omega), if_neg (by omega), if_pos q]
      exact m_summed (hE.ry o3.ry) T3 I3 U3 hB hi d0i hk (by rw [d0e]; exact z) d3e d6e hF z w.1 ⟨w.2.1, w.2.2.1⟩ hW.2.1 hW.2.2.1 (hx1 _ d7e) (hx2 _ d7e) h20 w.2.2.2.1 w.2.2.2.2 (fun σ4 o4 T4 => ⟨_, rfl, h1 _ eb σ4 (o3.trans o4) T4⟩)
    · -- a pointer
      have w := hW.k7 z
      have eb : bdF En Ss h len L s i k fl F = lyPt Ss h len L (s.w 2 k (s.d 1 k + tw F.ty)) i k F := by
        unfold bdF covB; rw [if_neg (by omega), if_neg (by omega), if_neg (by omega), if_neg (by omega), if_neg (by omega), if_neg (by omega), if_pos z, if_pos q]
      have an : Anc (s.w 2 k (s.d 1 k + tw F.ty)) k = 20 - (r : Int) := by
        rw [← hA]
        exact anc_cg hI.up (fun j _ => ⟨w_ne (by decide), w_ne (by decide)⟩) _ _ _ (by omega)
      refine m_pointed (L := L) (hE.ry o3.ry) T3 (hS.ns o3) hK I3 U3 hB hi d0i hk d3e d4e hF z ⟨w.2.1, w.2.2.1⟩ w.2.2.2 hW.2.1 (hx1 _ d7e) h20 an hr (fun s' es σ4 o4 T4 => ⟨_, rfl, h1 _ (eb.trans es) σ4 (o3.trans o4) T4⟩) (fun a a0 a1 ea => ?_)
      have hp := h7' z _ a rfl I3 U3 a0 a1 (by rw [eb, ea]; rfl)
      exact ⟨fun nc σ' o' mm => ⟨_, rfl, hp.1 nc σ' (o3.ry.trans o') mm⟩, fun hc σ' o' T' S' => ⟨_, rfl, hp.2 hc σ' (o3.ry.trans o') T' S'⟩⟩
    · -- bits
      have w := hW.k3 z
      have eb : bdF En Ss h len L s i k fl F = (btO k fl F.es 0 (s.w 2 k (s.d 1 k + tw F.ty))).map (fun s => (s, true)) := by
        unfold bdF covB; rw [if_neg (by omega), if_neg (by omega), if_neg (by omega), if_pos z, if_pos q]
      refine m_partsLaid (hE.ry o3.ry) T3 I3 U3 hk hF (by rw [d0e]; exact z) d6e d3e hkk z w.1 w.2.2 ⟨fun r' er σ4 o4 T4 => ⟨_, rfl, ?_⟩, fun en v σ4 hv o4 mm => ⟨_, rfl, ?_⟩⟩
      · have := h1 r' (eb.trans er) σ4 (o3.trans o4) T4
        obtain ⟨x, _, x2⟩ := map_inv er
        rw [← x2] at this
        exact this
      · exact hn (eb.trans en) σ4 (o3.trans o4) mm
  refine AC.of mo_X12_filled (Nat.le_of_ble_eq_true rfl) (bk_X12_filled_0 ⟨hE.1.1, ⟨by omega, by omega⟩, ?_⟩)
  simp only [Int.toNat_natCast]
  rw [e28]
  have hkis : F.ki = 1 ∨ F.ki = 2 ∨ F.ki = 3 ∨ F.ki = 5 ∨ F.ki = 6 ∨ F.ki = 7 ∨ F.ki = 8 ∨ F.ki = 9 ∨ F.ki = 10 := by
    obtain ⟨_, _, _, _, w⟩ := hW
    omega
  have arr : F.ki = 2 → ACv g l (e + 10) MX12_arrayLaid [vR 12 (some m), vI ((400 * t + k : Nat) : Int), vI (fxR b fl : Int), vI ((400 * t + i : Nat) : Int)] σ (fun σ3 => ∃ y, some (vI 1) = some (vI y) ∧ P y σ3) := fun z => by
    have eb : bdF En Ss h len L s i k fl F = lyAr Ss h len L s i k fl F := by
      unfold bdF; rw [if_neg (by omega), if_neg (by omega), if_pos z]
    exact m_arrayLaid (L := L) hE hT hS (by omega) hI (U (by unfold isNu; omega) (fun q => by omega)) hB hi h0' hk h3 hF z (hW.k2 z) (hsz _) hW.2.1 (hx1 s rfl) h20 (fun e' ee σ' o' T' => ⟨_, rfl, h1 _ (eb.trans ee) σ' o' T'⟩) (fun n en n2 σ' o' T' S' => ⟨_, rfl, h2 z n (eb.trans en) n2 σ' o' T' S'⟩)
  rcases hkis with z | z | z | z | z | z | z | z | z
  · rw [kR_1 z]
    exact ⟨fun w => by omega, fun w => by omega, fun w => by omega, fun w => by omega, fun w => by omega, fun w => by omega, fun w => by omega, fun w => by omega, fun w => by omega, fun w => by omega, fun _ => fin141 (Or.inl z)⟩
  · have e2 : kR F = if F.st = -1 then 1 else 3 := by unfold kR; rw [if_neg (by omega), if_neg (by omega), if_pos z]
    rw [e2]
    by_cases y : F.st = -1
    · rw [if_pos y]
      exact ⟨fun _ => arr z, fun w => by omega, fun w => by omega, fun w => by omega, fun w => by omega, fun w => by omega, fun w => by omega, fun w => by omega, fun w => by omega, fun w => by omega, fun w => by omega⟩
    · rw [if_neg y]
      exact ⟨fun w => by omega, fun w => by omega, fun _ => arr z, fun w => by omega, fun w => by omega, fun w => by omega, fun w => by omega, fun w => by omega, fun w => by omega, fun w => by omega, fun w => by omega⟩
  · rw [kR_3 z]
    exact ⟨fun w => by omega, fun w => by omega, fun w => by omega, fun _ => fin141 (Or.inr (Or.inl z)), fun w => by omega, fun w => by omega, fun w => by omega, fun w => by omega, fun w => by omega, fun w => by omega, fun w => by omega⟩
  · -- a text
    rw [kR_5 z]
    have eb : bdF En Ss h len L s i k fl F = lyTx Ss h len s i k F := by
      unfold bdF; rw [if_neg (by omega), if_neg (by omega), if_neg (by omega), if_neg (by omega), if_pos z]
    cases e1 : F.e1 with
    | none =>
      rw [if_pos rfl]
      refine ⟨fun w => by omega, fun w => by omega, fun w => by omega, fun w => by omega, fun w => by omega, fun _ => m_untilLaid hE hT hI hk h3 hF z e1 ⟨fun r' er σ' o' T' => ⟨by cases r'.2 <;> simp, _, rfl, h1 r' (by rw [eb]; unfold lyTx; rw [e1]; exact er) σ' o' T'⟩, fun en => absurd en (covB_nn (fun s => by simp))⟩, fun w => by omega, fun w => by omega, fun w => by omega, fun w => by omega, fun w => by omega⟩
    | some N =>
      rw [if_neg (by simp)]
      refine ⟨fun w => by omega, fun w => by omega, fun w => by omega, fun w => by omega, fun _ => m_textLaid hE hT hI (U (by unfold isNu; omega) (fun _ q => by rw [e1] at q; cases q)) hB hi h0' hk h3 hF e1 hW.2.1 (hx1 s rfl N e1) h20 ⟨fun r' er σ' o' T' => ⟨by cases r'.2 <;> simp, _, rfl, h1 r' (by rw [eb]; unfold lyTx; rw [e1]; exact er) σ' o' T'⟩, fun en => absurd en (amtB_nn (fun n => covB_nn (fun s => by simp)))⟩, fun w => by omega, fun w => by omega, fun w => by omega, fun w => by omega, fun w => by omega, fun w => by omega⟩
  · -- a union
    rw [kR_6 z]
    have w := hW.k6 z
    have eb : bdF En Ss h len L s i k fl F = lyUn Ss h len L s i k F := by
      unfold bdF; rw [if_neg (by omega), if_neg (by omega), if_neg (by omega), if_neg (by omega), if_neg (by omega), if_pos z]
    refine ⟨fun w => by omega, fun w => by omega, fun w => by omega, fun w => by omega, fun w => by omega, fun w => by omega, fun _ => m_unionLaid (L := L) hE hT hS hK hI (U (by unfold isNu; omega) (fun q => by omega)) hB hi h0' hk h3 hF z w.1 ⟨w.2.1, w.2.2.1⟩ w.2.2.2 hW.2.2.2.1 hW.2.1 (hx1 s rfl) h20 hA hr (fun e' ee σ' o' T' => ⟨_, rfl, h1 _ (eb.trans ee) σ' o' T'⟩) (fun st s0 s1 es => ?_), fun w => by omega, fun w => by omega, fun w => by omega, fun w => by omega⟩
    have hp := h6' z st s0 s1 (by rw [eb, es]; rfl)
    exact ⟨fun nc σ' o' mm => ⟨_, rfl, hp.1 nc σ' o' mm⟩, fun hc σ' o' T' S' => ⟨_, rfl, hp.2 hc σ' o' T' S'⟩⟩
  · rw [kR_7 z]
    exact ⟨fun w => by omega, fun w => by omega, fun w => by omega, fun w => by omega, fun w => by omega, fun w => by omega, fun w => by omega, fun _ => fin141 (Or.inr (Or.inr (Or.inl z))), fun w => by omega, fun w => by omega, fun w => by omega⟩
  · -- a pad
    rw [kR_8 z]
    have w := hW.k8 z
    have e35 : gI σ 1235 m (fxR b fl) = F.nu.toInt := fr.2.2.1 (Or.inr (Or.inl z))
    have n2k := (hT.2 k hk).2.1
    have n2i := (hT.2 i hi).2.1
    rw [e35, n2k, n2i]
    have q1 : i_rem (s.d 1 k - s.d 1 i) F.nu.toInt = (s.d 1 k - s.d 1 i) % F.nu.toInt := i_rem_pos (by omega) (by omega) (by omega) (by omega)
    have m0 := Int.emod_nonneg (s.d 1 k - s.d 1 i) (show F.nu.toInt ≠ 0 by omega)
    have m1 := Int.emod_lt_of_pos (s.d 1 k - s.d 1 i) (show 0 < F.nu.toInt by omega)
    have q2 : i_rem (F.nu.toInt - (s.d 1 k - s.d 1 i) % F.nu.toInt) F.nu.toInt = (F.nu.toInt - (s.d 1 k - s.d 1 i) % F.nu.toInt) % F.nu.toInt := i_rem_pos (by omega) (by omega) (by omega) (by omega)
    have p0 := Int.emod_nonneg (F.nu.toInt - (s.d 1 k - s.d 1 i) % F.nu.toInt) (show F.nu.toInt ≠ 0 by omega)
    have p1 := Int.emod_lt_of_pos (F.nu.toInt - (s.d 1 k - s.d 1 i) % F.nu.toInt) (show 0 < F.nu.toInt by omega)
    have eb : bdF En Ss h len L s i k fl F = covB len s k ((F.nu.toInt - (s.d 1 k - s.d 1 i) % F.nu.toInt) % F.nu.toInt) (fun s => some (s, true)) := by
      unfold bdF; rw [if_neg (by omega), if_neg (by omega), if_neg (by omega), if_neg (by omega), if_neg (by omega), if_neg (by omega), if_neg (by omega), if_pos z]
    unfold covB at eb
    refine ⟨fun w => by omega, fun w => by omega, fun w => by omega, fun w => by omega, fun w => by omega, fun w => by omega, fun w => by omega, fun w => by omega, fun _ => ?_, fun w => by omega, fun w => by omega⟩
    rw [q1, q2]
    refine ⟨⟨by omega, by omega⟩, ⟨by omega, by omega⟩, ⟨by omega, by omega⟩, by omega, ⟨by omega, by omega⟩, by omega, m_reaches hE hT hk ⟨by omega, by omega⟩ h3 (by rw [i2j_toInt, w32_id (by omega) (by omega)]) ⟨p0, by omega⟩ (fun q σ' o' T' => ⟨Or.inr rfl, _, rfl, h1 (s.w 2 k (s.d 1 k + (F.nu.toInt - (s.d 1 k - s.d 1 i) % F.nu.toInt) % F.nu.toInt), true) (by rw [eb, if_pos q]) σ' o' T'⟩) (fun q σ' o' T' => ⟨Or.inl rfl, _, rfl, h1 (s.w 3 k 1, false) (by rw [eb, if_neg q]) σ' o' T'⟩)⟩
  · -- a magic
    rw [kR_9 z]
    have eb : bdF En Ss h len L s i k fl F = covB len s k F.es.length (fun s => some (if 0 ≤ al (me F.es h (s.d 1 k)) F.es.length then s else s.w 3 k 2, true)) := by
      unfold bdF; rw [if_neg (by omega), if_neg (by omega), if_neg (by omega), if_neg (by omega), if_neg (by omega), if_neg (by omega), if_neg (by omega), if_neg (by omega), if_pos z]
    exact ⟨fun w => by omega, fun w => by omega, fun w => by omega, fun w => by omega, fun w => by omega, fun w => by omega, fun w => by omega, fun w => by omega, fun w => by omega, fun _ => m_magicLaid hE hT hI hk h3 hF hW.2.2.2.1 ⟨fun r' er σ' o' T' => ⟨by cases r'.2 <;> simp, _, rfl, h1 r' (eb.trans er) σ' o' T'⟩, fun en => absurd en (covB_nn (fun s => by simp))⟩, fun w => by omega⟩
  · rw [kR_10 z]
    exact ⟨fun w => by omega, fun w => by omega, fun w => by omega, fun w => by omega, fun w => by omega, fun w => by omega, fun w => by omega, fun w => by omega, fun w => by omega, fun w => by omega, fun _ => fin141 (Or.inr (Or.inr (Or.inr z)))⟩
end R6
