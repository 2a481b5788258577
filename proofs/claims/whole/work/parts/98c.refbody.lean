/-! the reference lays: fields without structs below -/
section R3
variable {g : GP} {l : Launch} {d : Nat} {σ σ' σ'' : St} {m t b i k : Nat} {En : List Enm} {Ss : List Stc} {s : TS} {h : Int → Int} {len im fl : Int} {K : List (Nat × Int)} {F : Fld}
abbrev fxR (b : Nat) (fl : Int) : Nat := 280 * b + fl.toNat
def PoR (σ : St) (m t b : Nat) (res : OTB) (P : Int → St → Prop) : Prop :=
  (∀ r, res = some r → ∀ σ', NsO m t σ σ' → TrR σ' m t b r.1 → P (if r.2 = true then 1 else 0) σ') ∧ (res = none → ∀ v σ', (v = 0 ∨ v = 1) → NsO m t σ σ' → gI σ' 1282 m 0 = 1 → P v σ')
theorem PoR.ys {s1 : TS} {P : Int → St → Prop} (hP : PoR σ m t b (some (s1, true)) P) (hF : NsO m t σ σ') (hT : TrR σ' m t b s1) : P 1 σ' := hP.1 _ rfl σ' hF hT
theorem PoR.nt {s1 : TS} {P : Int → St → Prop} (hP : PoR σ m t b (some (s1, false)) P) (hF : NsO m t σ σ') (hT : TrR σ' m t b s1) : P 0 σ' := hP.1 _ rfl σ' hF hT
theorem TrR.ns {f fr : Nat} {v : Int} (hk : k < 400) (hf : f = 2 ∧ fr = 1269 ∨ f = 3 ∧ fr = 1272 ∨ f = 4 ∧ fr = 1279) : NsO m t σ (sI σ fr m (400 * t + k) v) := NsO.sI (by omega) (by omega)
theorem m_faulty {v : Int} {P : St → Prop} (hE : EnR σ m t b En Ss im len h) (hT : TrR σ m t b s) (hk : k < s.c) (hP : ∀ σ', NsO m t σ σ' → Frm (fun f r => r = m ∧ f = 1272) σ σ' → TrR σ' m t b (if s.d 3 k = 0 then s.w 3 k v else s) → P σ') : ACv g l d MX12_faulty [vR 12 (some m), vI ((400 * t + k : Nat) : Int), vI v] σ P := by
  have t7 := hE.2.2.2.2.2
  have c4 := hT.1.2.2
  have n4 := (hT.2 k hk).2.2.2.1
  refine AC.of mo_X12_faulty (Nat.le_of_ble_eq_true rfl) (bk_X12_faulty_0 ⟨hE.1.1, ⟨by omega, by omega⟩, ?_⟩)
  rw [Int.toNat_natCast, n4]
  refine ⟨fun z => ⟨rfl, hP σ NsO.rfl Frm.rfl (by rw [if_neg z]; exact hT)⟩, fun z => ⟨rfl, hP _ (TrR.ns (f := 3) (by omega) (by omega)) (Frm.sI ⟨rfl, rfl⟩) (by rw [if_pos z]; exact hT.w hk (by omega))⟩⟩
theorem m_fault0 {v : Int} {P : St → Prop} (hE : EnR σ m t b En Ss im len h) (hT : TrR σ m t b s) (hk : k < s.c) (h3 : s.d 3 k = 0) (hP : ∀ σ', NsO m t σ σ' → TrR σ' m t b (s.w 3 k v) → P σ') : ACv g l d MX12_faulty [vR 12 (some m), vI ((400 * t + k : Nat) : Int), vI v] σ P :=
  m_faulty hE hT hk (fun σ' o _ T => hP σ' o (by rw [if_pos h3] at T; exact T))
theorem m_reaches {x : Int64} {n : Int} {P : Int → St → Prop} (hE : EnR σ m t b En Ss im len h) (hT : TrR σ m t b s) (hk : k < s.c) (hb : 0 ≤ s.d 1 k ∧ s.d 1 k ≤ len) (h3 : s.d 3 k = 0) (hx : x.toInt = n) (hn : 0 ≤ n ∧ n ≤ 1000000)
    (h1 : n ≤ len - s.d 1 k → ∀ σ', NsO m t σ σ' → TrR σ' m t b (s.w 2 k (s.d 1 k + n)) → P 1 σ') (h0 : ¬ n ≤ len - s.d 1 k → ∀ σ', NsO m t σ σ' → TrR σ' m t b (s.w 3 k 1) → P 0 σ') : ACi g l (d + 1) MX12_reaches [vR 12 (some m), vI ((400 * t + k : Nat) : Int), vJ x] σ P := by
  have t7 := hE.2.2.2.2.2
  have c4 := hT.1.2.2
  obtain ⟨i1, i2, i3, i4, i5, i6, i7, i8, i9⟩ := id hE.1
  have n2 := (hT.2 k hk).2.1
  refine AC.of mo_X12_reaches (Nat.le_of_ble_eq_true rfl) (bk_X12_reaches_0 ⟨i1, ⟨by omega, by omega⟩, ?_⟩)
  rw [Int.toNat_natCast, n2, i2, i5]
  have e1 : (i2j (s.d 1 k) + x).toInt = s.d 1 k + n := by rw [Int64.toInt_add, i2j_toInt, w32_id (by omega) (by omega), bmod64, hx]; omega
  have e2 : (i2j len).toInt = len := by rw [i2j_toInt, w32_id (by omega) (by omega)]
  have e3 : j2i x = n := by rw [j2i_eq, hx, w32_id (by omega) (by omega)]
  rw [e1, e2, e3]
  refine ⟨⟨by omega, by omega⟩, fun z => ⟨⟨by omega, by omega⟩, _, rfl, h1 (by omega) _ (TrR.ns (f := 2) (by omega) (by omega)) (hT.w hk (by omega))⟩, fun z => m_fault0 hE hT hk h3 (fun σ' o T => ⟨_, rfl, h0 (by omega) σ' o T⟩)⟩
theorem m_ev {N : List Nd} {at_ here : Int} {P : Int64 → St → Prop} (hE : EnR σ m t b En Ss im len h) (hT : TrR σ m t b s) (hI : TI Ss len s) (hU : TU Ss len s) (hB : ∀ fl F, gF Ss fl = some F → F.ki = 3 → BiO F.es 0 (8 * tw F.ty) ∧ F.es.length ≤ 12) (hi : i < s.c) (h0' : s.d 0 i = 0) (hxr : XR σ m b at_ (some N)) (hw : WFx (some N)) (hhere : 0 ≤ here ∧ here ≤ len) (hx : ∀ x ∈ N, x.o = 2 → NmO Ss s i x.v.toInt) (h20 : Ss.length ≤ 20)
    (h1 : ∀ v, evE here len (s.d 1 i) (nmV Ss h s i) N = some v → ∀ σ', NsO m t σ σ' → TrR σ' m t b s → gI σ' 1286 m 0 = 0 → Frm (WkF m) σ σ' → P v σ') (h0 : evE here len (s.d 1 i) (nmV Ss h s i) N = none → ∀ v σ', NsO m t σ σ' → TrR σ' m t b s → gI σ' 1286 m 0 = 1 → Frm (WkF m) σ σ' → P v σ') :
    ACj g l (d + 6) MX12_worked [vR 12 (some m), vI at_, vI ((400 * t + i : Nat) : Int), vI here] σ P := by
  obtain ⟨nb, x1, x2, x3, x4, x5, x6⟩ := hxr
  have b2 := hE.2.1.1
  obtain ⟨⟨_, _, _, v4, _⟩, _, vb, _⟩ := hI.2 i hi
  have v7 := v4 h0'
  have tc : ∀ σ', Frm (WkF m) σ σ' → TrR σ' m t b s := fun σ' hF => hT.wk (hF.mono (fun f r q => ⟨q.1, by omega⟩))
  rw [x1]
  exact m_worked x5 x6 (by omega) hw (hE.evr hT hI hU hB) hi (vb h0') ⟨v7.1, by omega⟩ hhere hx (fun v hv σ' hF z => h1 v hv σ' (NsO.wk hF) (tc σ' hF) z hF) (fun hv v σ' hF z => h0 hv v σ' (NsO.wk hF) (tc σ' hF) z hF)
theorem fx_lt (hE : EnR σ m t b En Ss im len h) (hF : gF Ss fl = some F) : fxR b fl < 560 := by
  have := (hE.fdr.2 fl F hF).1
  have := hE.2.1.1
  unfold fxR; omega
theorem m_textLaid {N : List Nd} {P : Int → St → Prop} (hE : EnR σ m t b En Ss im len h) (hT : TrR σ m t b s) (hI : TI Ss len s) (hU : TU Ss len s) (hB : ∀ fl F, gF Ss fl = some F → F.ki = 3 → BiO F.es 0 (8 * tw F.ty) ∧ F.es.length ≤ 12) (hi : i < s.c) (h0' : s.d 0 i = 0) (hk : k < s.c) (h3 : s.d 3 k = 0) (hF : gF Ss fl = some F) (e1 : F.e1 = some N) (hw : WFx F.e1) (hx : ∀ x ∈ N, x.o = 2 → NmO Ss s i x.v.toInt) (h20 : Ss.length ≤ 20)
    (hP : PoR σ m t b (amtB Ss h len s i k N 2000 (fun n => covB len s k n (fun s => some (s, true)))) P) : ACi g l (d + 7) MX12_textLaid [vR 12 (some m), vI ((400 * t + k : Nat) : Int), vI (fxR b fl : Int), vI ((400 * t + i : Nat) : Int)] σ P := by
  have t7 := hE.2.2.2.2.2
  have c4 := hT.1.2.2
  have fl5 := fx_lt hE hF
  have fr := (hE.fdr.2 fl F hF).2
  have xr := fr.1.2.1
  rw [e1] at xr hw
  obtain ⟨⟨v1, _⟩, _⟩ := hI.2 k hk
  have n2 := (hT.2 k hk).2.1
  have z0 : (0 : Int64).toInt = 0 := by decide
  have z2 : (2000 : Int64).toInt = 2000 := by decide
  unfold amtB at hP
  refine AC.of mo_X12_textLaid (Nat.le_of_ble_eq_true rfl) (bk_X12_textLaid_0 ⟨hE.1.1, ⟨by omega, by omega⟩, ⟨by omega, by omega⟩, ?_⟩)
  rw [Int.toNat_natCast, Int.toNat_natCast, n2, z0, z2]
  refine m_ev hE hT hI hU hB hi h0' xr hw ⟨by omega, by omega⟩ hx h20 (fun v hv σ1 o1 T1 z _ => ⟨fun w => absurd z w, fun _ => ?_⟩) (fun hv v σ1 o1 T1 z _ => ⟨fun _ => bk_X12_textLaid_42 ⟨fun w => by omega, fun _ => m_fault0 (hE.ry o1.ry) T1 hk h3 (fun σ' o T => ⟨_, rfl, ?_⟩)⟩, fun w => by omega⟩)
  · rw [hv] at hP
    dsimp only at hP
    have bad : v.toInt < 0 ∨ 2000 < v.toInt → AW g l (d + 7) MX12_textLaid 42 [some (vR 12 (some m)), some (vI ((400 * t + k : Nat) : Int)), none, none, none, none] [] σ1 (fun v σ' => ∃ r, v = some (vI r) ∧ P r σ') := fun q => by
      rw [if_pos q] at hP
      exact bk_X12_textLaid_42 ⟨fun _ => m_fault0 (hE.ry o1.ry) T1 hk h3 (fun σ' o T => ⟨_, rfl, hP.ys (o1.trans o) T⟩), fun w => absurd z w⟩
    refine ⟨fun w => bad (Or.inl w), fun w => ⟨fun u => ?_, fun u => bad (Or.inr (by omega))⟩⟩
    rw [if_neg (by omega)] at hP
    unfold covB at hP
    exact m_reaches (hE.ry o1.ry) T1 hk ⟨by omega, by omega⟩ h3 rfl ⟨by omega, by omega⟩ (fun q σ' o T => ⟨Or.inr rfl, _, rfl, by rw [if_pos q] at hP; exact hP.ys (o1.trans o) T⟩) (fun q σ' o T => ⟨Or.inl rfl, _, rfl, by rw [if_neg q] at hP; exact hP.nt (o1.trans o) T⟩)
  · rw [hv] at hP; exact hP.ys (o1.trans o) T
theorem m_untilLaid {P : Int → St → Prop} (hE : EnR σ m t b En Ss im len h) (hT : TrR σ m t b s) (hI : TI Ss len s) (hk : k < s.c) (h3 : s.d 3 k = 0) (hF : gF Ss fl = some F) (f5 : F.ki = 5) (e1 : F.e1 = none)
    (hP : PoR σ m t b (covB len s k (utl h len F.nu.toInt (len - s.d 1 k).toNat (s.d 1 k) + 1 - s.d 1 k) (fun s => some (s, true))) P) : ACi g l (d + 2) MX12_untilLaid [vR 12 (some m), vI ((400 * t + k : Nat) : Int), vI (fxR b fl : Int)] σ P := by
  have t7 := hE.2.2.2.2.2
  have c4 := hT.1.2.2
  have fl5 := fx_lt hE hF
  have fr := (hE.fdr.2 fl F hF).2
  have nu := fr.2.2.1 (Or.inr (Or.inr ⟨f5, e1⟩))
  obtain ⟨⟨v1, _⟩, _⟩ := hI.2 k hk
  obtain ⟨i1, i2, i3, i4, i5, i6, i7, i8, i9⟩ := id hE.1
  have n2 := (hT.2 k hk).2.1
  unfold covB at hP
  have s44 : ∀ p : Int, s.d 1 k ≤ p → p ≤ len → utl h len F.nu.toInt (len - s.d 1 k).toNat (s.d 1 k) = p → AW g l (d + 2) MX12_untilLaid 44 [some (vR 12 (some m)), some (vI ((400 * t + k : Nat) : Int)), none, some (vI p)] [] σ (fun v σ' => ∃ r, v = some (vI r) ∧ P r σ') := fun p p0 p1 ep => by
    rw [ep] at hP
    refine bk_X12_untilLaid_44 ⟨⟨by omega, by omega⟩, i1, ⟨by omega, by omega⟩, ?_⟩
    rw [Int.toNat_natCast, n2]
    refine ⟨⟨by omega, by omega⟩, m_reaches hE hT hk ⟨by omega, by omega⟩ h3 (by rw [i2j_toInt, w32_id (by omega) (by omega)]) ⟨by omega, by omega⟩ (fun q σ' o T => ⟨Or.inr rfl, _, rfl, ?_⟩) (fun q σ' o T => ⟨Or.inl rfl, _, rfl, ?_⟩)⟩
    · rw [if_pos q] at hP; exact hP.ys o T
    · rw [if_neg q] at hP; exact hP.nt o T
  have loop : ∀ (j : Nat) (p : Int), s.d 1 k ≤ p → p = len - j → utl h len F.nu.toInt (len - s.d 1 k).toNat (s.d 1 k) = utl h len F.nu.toInt j p → AW g l (d + 2) MX12_untilLaid 7 [some (vR 12 (some m)), some (vI ((400 * t + k : Nat) : Int)), some (vI (fxR b fl : Int)), some (vI p)] [] σ (fun v σ' => ∃ r, v = some (vI r) ∧ P r σ') := by
    intro j
    induction j with
    | zero =>
      intro p p0 p1 ep
      refine bk_X12_untilLaid_7 ⟨i1, ?_⟩
      rw [i2, i5]
      exact ⟨⟨by omega, by omega⟩, fun _ => s44 p p0 (by omega) ep, fun w => absurd (by omega) w⟩
    | succ j ih =>
      intro p p0 p1 ep
      rw [utl] at ep
      have hb := i9 p (by omega) (by omega)
      refine bk_X12_untilLaid_7 ⟨i1, ?_⟩
      rw [i2, i5]
      refine ⟨⟨by omega, by omega⟩, fun w => absurd w (by omega), fun _ => m_has i1 i3 i4 i8.1 i8.2 (by omega) (by omega) ⟨i1, ⟨by omega, by omega⟩, ?_⟩⟩
      rw [Int.toNat_natCast, nu, hb.1]
      refine ⟨fun w => s44 p p0 (by omega) ?_, fun w => ⟨⟨by omega, by omega⟩, ih (p + 1) (by omega) (by omega) ?_⟩⟩
      · rw [if_neg (fun q => q.2 w)] at ep; exact ep
      · rw [if_pos ⟨by omega, w⟩] at ep; exact ep
  refine AC.of mo_X12_untilLaid (Nat.le_of_ble_eq_true rfl) (bk_X12_untilLaid_0 ⟨i1, ⟨by omega, by omega⟩, ?_⟩)
  rw [Int.toNat_natCast, n2]
  exact loop (len - s.d 1 k).toNat (s.d 1 k) (Int.le_refl _) (by omega) rfl
theorem al_cg {e e' : Int → Int} : ∀ n : Nat, (∀ i : Nat, i < n → e i = e' i) → al e n = al e' n := by
  intro n
  induction n with
  | zero => intro _; exact Eq.refl (0 : Int)
  | succ n ih =>
    intro hn
    show (if e n = 0 then al e n else -1) = (if e' n = 0 then al e' n else -1)
    rw [ih (fun i hi => hn i (Nat.lt_succ_of_lt hi)), hn n (Nat.lt_succ_self _)]
theorem me_cg {es : List Ent} {h h' : Int → Int} {p : Int} (hh : ∀ i : Int, 0 ≤ i → i < es.length → h (p + i) = h' (p + i)) : al (me es h p) es.length = al (me es h' p) es.length := by
  refine al_cg es.length (fun i hi => ?_)
  have q := hh (i : Int) (by omega) (by omega)
  unfold me
  rw [q]
theorem m_magicLaid {P : Int → St → Prop} (hE : EnR σ m t b En Ss im len h) (hT : TrR σ m t b s) (hI : TI Ss len s) (hk : k < s.c) (h3 : s.d 3 k = 0) (hF : gF Ss fl = some F) (h16 : F.es.length ≤ 16)
    (hP : PoR σ m t b (covB len s k F.es.length (fun s => some (if 0 ≤ al (me F.es h (s.d 1 k)) F.es.length then s else s.w 3 k 2, true))) P) : ACi g l (d + 3) MX12_magicLaid [vR 12 (some m), vI ((400 * t + k : Nat) : Int), vI (fxR b fl : Int)] σ P := by
  have t7 := hE.2.2.2.2.2
  have c4 := hT.1.2.2
  have fl5 := fx_lt hE hF
  have fr := (hE.fdr.2 fl F hF).2
  have e37 := fr.1.2.2.2.2.2.2.1
  obtain ⟨⟨v1, _⟩, _⟩ := hI.2 k hk
  unfold covB at hP
  refine AC.of mo_X12_magicLaid (Nat.le_of_ble_eq_true rfl) (bk_X12_magicLaid_0 ⟨hE.1.1, ⟨by omega, by omega⟩, ?_⟩)
  rw [Int.toNat_natCast, e37]
  refine m_reaches hE hT hk ⟨by omega, by omega⟩ h3 (n := (F.es.length : Int)) (by rw [i2j_toInt, w32_id (by omega) (by omega)]) ⟨by omega, by omega⟩ (fun q σ' o T => ⟨fun _ => ?_, fun w => absurd w (by decide)⟩) (fun q σ' o T => ⟨fun w => absurd rfl w, fun _ => ⟨_, rfl, by rw [if_neg q] at hP; exact hP.nt o T⟩⟩)
  rw [if_pos q] at hP
  dsimp only at hP
  have d1e : (s.w 2 k (s.d 1 k + (F.es.length : Int))).d 1 k = s.d 1 k := w_ne (by decide)
  have d3e : (s.w 2 k (s.d 1 k + (F.es.length : Int))).d 3 k = 0 := by rw [w_ne (by decide)]; exact h3
  rw [d1e] at hP
  have E' := hE.ry o.ry
  obtain ⟨i1, i2, i3, i4, i5, i6, i7, i8, i9⟩ := id E'.1
  have n2 := (T.2 k hk).2.1
  rw [d1e] at n2
  refine ⟨i1, ⟨by omega, by omega⟩, ?_⟩
  rw [Int.toNat_natCast, n2]
  have cg := me_cg (es := F.es) (h := hasM σ' m im) (h' := h) (p := s.d 1 k) (fun i i0 i1' => (i9 _ (by omega) (by omega)).1)
  refine m_magicAt i1 i3 i4 i8.1 i8.2 i2 fl5 (E'.fdr.2 fl F hF).2 h16 (by omega) (by omega) ?_
  rw [cg]
  by_cases z : 0 ≤ al (me F.es h (s.d 1 k)) F.es.length
  · rw [if_pos z] at hP ⊢
    exact ⟨fun _ => ⟨_, rfl, hP.ys o T⟩, fun w => absurd w (by decide)⟩
  · rw [if_neg z] at hP ⊢
    exact ⟨fun w => absurd rfl w, fun _ => m_fault0 E' T hk d3e (fun σ2 o2 T2 => ⟨_, rfl, hP.ys (o.trans o2) T2⟩)⟩
theorem m_val' {P : Int64 → St → Prop} (hE : EnR σ m t b En Ss im len h) (hT : TrR σ m t b s) (hI : TI Ss len s) (hU : TU Ss len s) (hB : ∀ fl F, gF Ss fl = some F → F.ki = 3 → BiO F.es 0 (8 * tw F.ty) ∧ F.es.length ≤ 12) (hk : k < s.c) (hP : P (vlN Ss h s k) σ) : ACj g l (d + 3) MX12_valueOf [vR 12 (some m), vI ((400 * t + k : Nat) : Int)] σ P :=
  m_valueOf hE.1 hE.fdr hB (by have := hT.1.2.2; omega) hE.2.2.2.2.2 (hT.2 k hk) (hI.ndw hU hk) hP
theorem m_paired {P : Int → St → Prop} (hE : EnR σ m t b En Ss im len h) (hT : TrR σ m t b s) (hI : TI Ss len s) (hU : TU Ss len s) (hB : ∀ fl F, gF Ss fl = some F → F.ki = 3 → BiO F.es 0 (8 * tw F.ty) ∧ F.es.length ≤ 12) (hk : k < s.c) (hF : gF Ss fl = some F) (hp : 0 ≤ F.pr ∧ F.pr < En.length) (h1 : prW En F.pr (vlN Ss h s k) = false → P (-1) σ) (h2 : ∀ q : Int, prW En F.pr (vlN Ss h s k) = true → 0 ≤ q → P q σ) : ACi g l (d + 4) MX12_paired [vR 12 (some m), vI ((400 * t + k : Nat) : Int), vI (fxR b fl : Int)] σ P := by
  have fl5 := fx_lt hE hF
  have fr := (hE.fdr.2 fl F hF).2
  have e30 := fr.1.2.2.2.1
  obtain ⟨_, ⟨b2, e3⟩, _, e5, _⟩ := id hE
  obtain ⟨_, _, _, l8, hen, _⟩ := e3
  have hget : En[F.pr.toNat]? = some En[F.pr.toNat] := List.getElem?_eq_getElem (by omega)
  generalize En[F.pr.toNat] = E at hget
  obtain ⟨_, x2, x3, x4⟩ := hen _ E hget
  unfold prW at h1 h2
  rw [hget] at h1 h2
  dsimp only at h1 h2
  have loop : ∀ (W : List Ent) (p : Nat), (∀ j e, W[j]? = some e → E.2[p + j]? = some e) → p + W.length = E.2.length → (E.2.any (fun e => e.2.1 == vlN Ss h s k) = W.any (fun e => e.2.1 == vlN Ss h s k)) → AW g l (d + 4) MX12_paired 25 [some (vR 12 (some m)), none, none, some (vI ((8 * b + F.pr.toNat : Nat) : Int)), some (vJ (vlN Ss h s k)), none, some (vI (p : Int))] [] σ (fun v σ' => ∃ r, v = some (vI r) ∧ P r σ') := by
    intro W
    induction W with
    | nil =>
      intro p _ hp' ea
      have hp' : p + 0 = E.2.length := hp'
      refine bk_X12_paired_25 ⟨hE.1.1, ⟨by omega, by omega⟩, ?_⟩
      rw [Int.toNat_natCast, x2]
      exact ⟨fun _ => ⟨_, rfl, h1 ea⟩, fun w => absurd (by omega) w⟩
    | cons y W ih =>
      intro p hW hp' ea
      have hp' : p + (W.length + 1) = E.2.length := hp'
      have hy : E.2[p]? = some y := hW 0 y rfl
      obtain ⟨_, y2⟩ := x4 p y hy
      rw [List.any_cons] at ea
      refine bk_X12_paired_25 ⟨hE.1.1, ⟨by omega, by omega⟩, ?_⟩
      rw [Int.toNat_natCast, x2]
      refine ⟨fun w => absurd w (by omega), fun _ => ⟨⟨by omega, by omega⟩, ⟨by omega, by omega⟩, ⟨by omega, by omega⟩, ?_⟩⟩
      rw [show (10 * ((8 * b + F.pr.toNat : Nat) : Int) + (p : Int)).toNat = 10 * (8 * b + F.pr.toNat) + p by omega, y2]
      refine ⟨fun w => ⟨⟨by omega, by omega⟩, ?_⟩, fun w => ⟨_, rfl, h2 _ ?_ (by omega)⟩⟩
      · rw [show (y.2.1 == vlN Ss h s k) = false by simp [w], Bool.false_or] at ea
        rw [show (p : Int) + 1 = ((p + 1 : Nat) : Int) by omega]
        exact ih (p + 1) (fun j e he => by rw [show p + 1 + j = p + (j + 1) by omega]; exact hW (j + 1) e he) (by omega) ea
      · rw [show (y.2.1 == vlN Ss h s k) = true by simp [w], Bool.true_or] at ea
        exact ea
  refine AC.of mo_X12_paired (Nat.le_of_ble_eq_true rfl) (bk_X12_paired_0 ?_)
  rw [Int.toNat_natCast, e30, e5]
  refine ⟨⟨by omega, by omega⟩, hE.1.1, ⟨by omega, by omega⟩, ⟨by omega, by omega⟩, fun z5 hz => m_val' hE hT hI hU hB hk ?_⟩
  rw [show z5 = ((8 * b + F.pr.toNat : Nat) : Int) by omega]
  exact loop E.2 0 (fun j e he => by rw [Nat.zero_add]; exact he) (by omega) rfl
theorem m_partsLaid {P : St → Prop} (hE : EnR σ m t b En Ss im len h) (hT : TrR σ m t b s) (hI : TI Ss len s) (hU : TU Ss len s) (hk : k < s.c) (hF : gF Ss fl = some F) (h0 : s.d 0 k = 3) (h6 : s.d 6 k = fl) (h3 : s.d 3 k = 0) (hkk : s.k k = []) (f3 : F.ki = 3) (ty : TyR F.ty) (h12 : F.es.length ≤ 12)
    (hP : PoR σ m t b ((btO k fl F.es 0 s).map (fun s => (s, true))) (fun _ σ' => P σ')) : ACv g l (d + 1) MX12_partsLaid [vR 12 (some m), vI ((400 * t + k : Nat) : Int), vI (fxR b fl : Int)] σ P := by
  have fl5 := fx_lt hE hF
  have f0 := (gF_some hF).1
  have t7 := hE.2.2.2.2.2
  have loop : ∀ (E : List Ent) (p : Nat) (τ : St) (s1 : TS), (∀ j e, E[j]? = some e → F.es[p + j]? = some e) → p + E.length = F.es.length → NsO m t σ τ → TrR τ m t b s1 → TI Ss len s1 → TU Ss len s1 → s.c ≤ s1.c → s1.d 0 k = 3 → s1.d 6 k = fl → s1.d 3 k = 0 → (s1.k k).length = p → btO k fl F.es 0 s = btO k fl E p s1 → AW g l (d + 1) MX12_partsLaid 2 [some (vR 12 (some m)), some (vI ((400 * t + k : Nat) : Int)), some (vI (fxR b fl : Int)), some (vI (p : Int)), none] [] τ (fun v σ' => v = none ∧ P σ') := by
    intro E
    induction E with
    | nil =>
      intro p τ s1 _ hp oτ Tτ _ _ _ _ _ _ _ eb
      have hp : p + 0 = F.es.length := hp
      have Eτ := hE.ry oτ.ry
      have e37 := (Eτ.fdr.2 fl F hF).2.1.2.2.2.2.2.2.1
      refine bk_X12_partsLaid_2 ⟨Eτ.1.1, ⟨by omega, by omega⟩, ?_⟩
      rw [Int.toNat_natCast, e37]
      have eb : btO k fl F.es 0 s = some s1 := eb
      rw [eb] at hP
      exact ⟨fun _ => ⟨rfl, hP.1 _ rfl τ oτ Tτ⟩, fun w => absurd (by omega) w⟩
    | cons x E ih =>
      intro p τ s1 hEs hp oτ Tτ I1 U1 hc1 k0 k6 k3 kl eb
      have hp : p + (E.length + 1) = F.es.length := hp
      have Eτ := hE.ry oτ.ry
      have e37 := (Eτ.fdr.2 fl F hF).2.1.2.2.2.2.2.2.1
      have hx : F.es[p]? = some x := hEs 0 x rfl
      have hk1 : k < s1.c := by omega
      have c4 := Tτ.1.2.2
      have n2 := (Tτ.2 k hk1).2.1
      rw [btO] at eb
      refine bk_X12_partsLaid_2 ⟨Eτ.1.1, ⟨by omega, by omega⟩, ?_⟩
      rw [Int.toNat_natCast, Int.toNat_natCast, e37, n2]
      refine ⟨fun w => absurd w (by omega), fun _ => ⟨fun w => absurd Tτ.1.2.1 w, fun _ => ⟨⟨by omega, by omega⟩, m_make (par := (k : Int)) (fld := fl) (u2 := s1.d 2 k) (u7 := -1) (u8 := (p : Int) + 1) (nm := x.1) (by unfold oI; rw [if_neg (by omega)]; omega) (by unfold flR fxR; rw [if_neg (by omega)]; omega) Eτ Tτ (fun i hi => (I1.2 i hi).2.1) ⟨by omega, by omega⟩ (fun nc => ⟨fun w => ?_, fun _ => ⟨rfl, ?_⟩⟩) (fun hc σ' o' many r69 r73 r75 post => ⟨fun _ => ⟨o'.1.lc Eτ.1.1, ⟨by omega, by omega⟩, ⟨by omega, by omega⟩, ?_⟩, fun w => absurd many w⟩)⟩⟩⟩
      · rw [gI_slf] at w; exact absurd w (by decide)
      · have em : mkO s1 4 k (s1.d 1 k) fl (s1.d 2 k) (-1) ((p : Int) + 1) x.1 = none := by unfold mkO; rw [if_neg nc]
        rw [em] at eb
        have eb : btO k fl F.es 0 s = none := eb
        rw [eb] at hP
        exact hP.2 rfl 1 _ (Or.inr rfl) (oτ.trans ⟨Frm.sI ⟨rfl, by omega⟩, fun f j z => by rw [gI_sI, if_neg (by omega)]⟩) (gI_slf _ _ _ _ _)
      · have em : mkO s1 4 k (s1.d 1 k) fl (s1.d 2 k) (-1) ((p : Int) + 1) x.1 = some (mkM s1 4 k (s1.d 1 k) fl (s1.d 2 k) (-1) ((p : Int) + 1) x.1) := by unfold mkO; rw [if_pos hc]
        rw [em] at eb
        dsimp only at eb
        have bo := btO_ok (k := k) (len := len) hF f3 ty [x] p s1 (mkM s1 4 k (s1.d 1 k) fl (s1.d 2 k) (-1) ((p : Int) + 1) x.1) (fun j e he => by
          cases j with
          | zero => cases he; exact hx
          | succ j => cases he) I1 U1 hk1 k0 k6 k3 kl (by rw [btO, em]; rfl)
        rw [Int.toNat_natCast]
        -- ends of k
        have rdk : ∀ (v w : Int), (∀ f j, ¬ (j = 400 * t + s1.c ∧ (f = 1269 ∨ f = 1273 ∨ f = 1275)) → gI (sI (sI σ' 1269 m (400 * t + s1.c) v) 1275 m (400 * t + s1.c) w) f m j = gI σ' f m j) := fun v w f j z => by rw [gI_sI, if_neg (by omega), gI_sI, if_neg (by omega)]
        have T0 := post (sI (sI σ' 1269 m (400 * t + s1.c) (s1.d 2 k)) 1275 m (400 * t + s1.c) ((p : Int) + 1)) (rdk _ _) (by rw [gI_sI, if_neg (by simp), gI_slf]) (by rw [gI_sI, if_neg (by simp), gI_sI, if_neg (by simp)]; exact r73) (gI_slf _ _ _ _ _)
        have ek : gI σ' 1269 m (400 * t + k) = s1.d 2 k := by
          have w := (T0.2 k (by rw [mk_c]; omega)).2.2.1
          rw [rdk _ _ _ _ (by omega), mk_o (by omega)] at w
          exact w
        rw [ek, show (p : Int) + 1 = ((p + 1 : Nat) : Int) by omega]
        rw [show (p : Int) + 1 = ((p + 1 : Nat) : Int) by omega] at T0
        have oo : NsO m t τ (sI (sI σ' 1269 m (400 * t + s1.c) (s1.d 2 k)) 1275 m (400 * t + s1.c) ((p + 1 : Nat) : Int)) := o'.trans ((NsO.sI (by omega) (by omega)).trans (NsO.sI (by omega) (by omega)))
        refine ih (p + 1) _ _ (fun j e he => by rw [show p + 1 + j = p + (j + 1) by omega]; exact hEs (j + 1) e he) (by omega) (oτ.trans oo) T0 ?_ ?_ (by rw [mk_c]; omega) (by rw [mk_o (by omega)]; exact k0) (by rw [mk_o (by omega)]; exact k6) (by rw [mk_o (by omega)]; exact k3) (by rw [mk_kp (by omega) rfl, app_l, kl]) ?_
        · exact bo.1
        · exact bo.2.1
        · exact eb
  refine AC.of mo_X12_partsLaid (Nat.le_of_ble_eq_true rfl) (bk_X12_partsLaid_0 ?_)
  exact loop F.es 0 σ s (fun j e he => by rw [Nat.zero_add]; exact he) (by omega) NsO.rfl hT hI hU (Nat.le_refl _) h0 h6 h3 (by rw [hkk]; rfl) rfl
end R3
