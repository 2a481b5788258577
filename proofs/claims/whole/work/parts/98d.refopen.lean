/-! the reference lays: sums, and what is begun -/
def ancN (s : TS) : Nat → Int → Int → Int
  | 0, _, a => a
  | n + 1, p, a => if p < 0 then a else ancN s n (s.d 5 p.toNat) (if s.d 0 p.toNat = 0 then a + 1 else a)
/-- how many structs stand at p and above -/
def Anc (s : TS) (p : Int) : Int := ancN s (p + 1).toNat p 0
def UpO (s : TS) (N : Nat) : Prop := ∀ j : Nat, j < N → -1 ≤ s.d 5 j ∧ s.d 5 j < j
theorem anc_add {s : TS} : ∀ (n : Nat) (p a : Int), ancN s n p a = a + ancN s n p 0 := by
  intro n
  induction n with
  | zero => intro p a; show a = a + 0; omega
  | succ n ih =>
    intro p a
    rw [ancN, ancN]
    by_cases q : p < 0
    · rw [if_pos q, if_pos q]; omega
    · rw [if_neg q, if_neg q, ih _ (if s.d 0 p.toNat = 0 then a + 1 else a), ih _ (if s.d 0 p.toNat = 0 then 0 + 1 else 0)]
      by_cases z : s.d 0 p.toNat = 0
      · rw [if_pos z, if_pos z]; omega
      · rw [if_neg z, if_neg z]; omega
theorem anc_fu {s : TS} {N : Nat} (hU : UpO s N) : ∀ (n n' : Nat) (p a : Int), p < n → p < n' → p < N → ancN s n p a = ancN s n' p a := by
  intro n
  induction n with
  | zero =>
    intro n' p a h1 h2 _
    cases n' with
    | zero => rfl
    | succ n' => rw [ancN, ancN, if_pos (by omega)]
  | succ n ih =>
    intro n' p a h1 h2 h3
    cases n' with
    | zero => rw [ancN, ancN, if_pos (by omega)]
    | succ n' =>
      rw [ancN, ancN]
      by_cases q : p < 0
      · rw [if_pos q, if_pos q]
      · rw [if_neg q, if_neg q]
        have := hU p.toNat (by omega)
        exact ih n' _ _ (by omega) (by omega) (by omega)
theorem anc_st {s : TS} {N : Nat} (hU : UpO s N) {p : Nat} (hp : p < N) : Anc s p = (if s.d 0 p = 0 then 1 else 0) + Anc s (s.d 5 p) := by
  unfold Anc
  rw [show ((p : Int) + 1).toNat = p + 1 by omega, ancN, if_neg (by omega), Int.toNat_natCast, anc_add]
  have := hU p hp
  rw [anc_fu hU p (s.d 5 p + 1).toNat (s.d 5 p) 0 (by omega) (by omega) (by omega)]
  by_cases z : s.d 0 p = 0
  · rw [if_pos z, if_pos z]; omega
  · rw [if_neg z, if_neg z]
theorem anc_cg {s s' : TS} {N : Nat} (hU : UpO s N) (he : ∀ j : Nat, j < N → s'.d 0 j = s.d 0 j ∧ s'.d 5 j = s.d 5 j) : ∀ (n : Nat) (p a : Int), p < N → ancN s' n p a = ancN s n p a := by
  intro n
  induction n with
  | zero => intro p a _; rfl
  | succ n ih =>
    intro p a hp
    rw [ancN, ancN]
    by_cases q : p < 0
    · rw [if_pos q, if_pos q]
    · rw [if_neg q, if_neg q]
      obtain ⟨e1, e2⟩ := he p.toNat (by omega)
      have := hU p.toNat (by omega)
      rw [e1, e2]
      exact ih _ _ (by omega)
theorem anc_ge {s : TS} : ∀ (n : Nat) (p a : Int), a ≤ ancN s n p a ∧ ancN s n p a ≤ a + n := by
  intro n
  induction n with
  | zero => intro p a; show a ≤ a ∧ a ≤ a + ((0 : Nat) : Int); omega
  | succ n ih =>
    intro p a
    rw [ancN]
    by_cases q : p < 0
    · rw [if_pos q]; omega
    · rw [if_neg q]
      have := ih (s.d 5 p.toNat) (if s.d 0 p.toNat = 0 then a + 1 else a)
      by_cases z : s.d 0 p.toNat = 0
      · rw [if_pos z] at this ⊢; omega
      · rw [if_neg z] at this ⊢; omega
/-- a struct that is begun with r to go -/
def bgS (r : Nat) (s : TS) (n : Nat) : TS := if r = 0 then s.w 3 n 9 else s
def bgX (r : Nat) : Int := if r = 0 then 14 else 0
/-- what is closed hands its end up -/
def clS (s : TS) (n : Nat) : TS := if s.d 5 n < 0 ∨ s.d 0 (s.d 5 n).toNat = 7 then s else s.w 2 (s.d 5 n).toNat (s.d 2 n)
section R4
variable {g : GP} {l : Launch} {d : Nat} {σ σ' σ'' : St} {m t b i k : Nat} {En : List Enm} {Ss : List Stc} {s : TS} {h : Int → Int} {len im fl : Int} {K : List (Nat × Int)} {F : Fld}
theorem TI.up (hI : TI Ss len s) : UpO s s.c := fun j hj => (hI.2 j hj).2.1.2.2
theorem NsO.sJ {f : Nat} {v : Int64} (hf : f = 1288 ∨ f = 1289) : NsO m t σ (sJ σ f m 0 v) := ⟨Frm.sJ ⟨Eq.refl _, by omega⟩, fun f' j' z => Eq.refl _⟩
theorem ns_many {v : Int} : NsO m t σ (sI σ 1282 m 0 v) := ⟨Frm.sI ⟨Eq.refl _, by omega⟩, fun f j z => by rw [gI_sI, if_neg (by omega)]⟩
theorem m_sumBounds {P : Int → St → Prop} (hE : EnR σ m t b En Ss im len h) (hT : TrR σ m t b s) (hI : TI Ss len s) (hU : TU Ss len s) (hB : ∀ fl F, gF Ss fl = some F → F.ki = 3 → BiO F.es 0 (8 * tw F.ty) ∧ F.es.length ≤ 12) (hi : i < s.c) (h0' : s.d 0 i = 0) (hk : k < s.c) (hF : gF Ss fl = some F) (hw1 : WFx F.e1) (hw2 : WFx F.e2) (hx1 : ∀ N, F.e1 = some N → ∀ x ∈ N, x.o = 2 → NmO Ss s i x.v.toInt) (hx2 : ∀ N, F.e2 = some N → ∀ x ∈ N, x.o = 2 → NmO Ss s i x.v.toInt) (h20 : Ss.length ≤ 20) (hN : ∃ N, F.e1 = some N) (hM : ∃ N, F.e2 = some N)
    (he : ∀ e, sumB Ss h len s i k F = .error e → ∀ σ', NsO m t σ σ' → TrR σ' m t b s → 0 < e → P e σ')
    (ho : ∀ r, sumB Ss h len s i k F = .ok r → 0 ≤ r.1 → r.1 ≤ r.2 → r.2 ≤ len - s.d 1 i → ∀ σ', NsO m t σ σ' → TrR σ' m t b s → (gJ σ' 1288 m 0).toInt = r.1 → (gJ σ' 1289 m 0).toInt = r.2 → P 0 σ') : ACi g l (d + 7) MX12_sumBounds [vR 12 (some m), vI ((400 * t + k : Nat) : Int), vI (fxR b fl : Int), vI ((400 * t + i : Nat) : Int)] σ P := by
  obtain ⟨N, eN⟩ := hN
  obtain ⟨M, eM⟩ := hM
  have t7 := hE.2.2.2.2.2
  have c4 := hT.1.2.2
  have fl5 := fx_lt hE hF
  have fr := (hE.fdr.2 fl F hF).2
  have xr1 := fr.1.2.1
  rw [eN] at xr1 hw1
  rw [eM] at hw2
  obtain ⟨⟨v1, _⟩, _⟩ := hI.2 k hk
  obtain ⟨⟨vi, _⟩, _⟩ := hI.2 i hi
  have n2 := (hT.2 k hk).2.1
  have z0 : (0 : Int64).toInt = 0 := by decide
  unfold sumB at he ho
  rw [eN, eM] at he ho
  dsimp only at he ho
  refine AC.of mo_X12_sumBounds (Nat.le_of_ble_eq_true rfl) (bk_X12_sumBounds_0 ⟨hE.1.1, ⟨by omega, by omega⟩, ⟨by omega, by omega⟩, ?_⟩)
  rw [Int.toNat_natCast, Int.toNat_natCast, n2, z0]
  -- the second
  have second : ∀ (v : Int64) (σ4 : St), NsO m t σ σ4 → TrR σ4 m t b s → (evE (s.d 1 k) len (s.d 1 i) (nmV Ss h s i) N = some v ∧ gI σ4 1286 m 0 = 0 ∨ evE (s.d 1 k) len (s.d 1 i) (nmV Ss h s i) N = none ∧ gI σ4 1286 m 0 = 1) → LC 12 σ4 m ∧ ACj g l (d + 6) MX12_worked [vR 12 (some m), vI (gI σ4 1234 m (fxR b fl)), vI ((400 * t + i : Nat) : Int), vI (gI σ4 1268 m (400 * t + k))] (sJ σ4 1288 m 0 v) (fun v8 σ7 => ((¬ (gI σ4 1286 m 0) = 0 → (∃ r, some (vI 6) = some (vI r) ∧ P r (sJ σ7 1289 m 0 v8))) ∧ ((gI σ4 1286 m 0) = 0 → (((gI σ7 1286 m 0) = 0 → (((gJ σ7 1288 m 0).toInt < 0 → (∃ r, some (vI 5) = some (vI r) ∧ P r (sJ σ7 1289 m 0 v8))) ∧ (¬ (gJ σ7 1288 m 0).toInt < 0 → ((v8.toInt < (gJ σ7 1288 m 0).toInt → (∃ r, some (vI 5) = some (vI r) ∧ P r (sJ σ7 1289 m 0 v8))) ∧ (¬ v8.toInt < (gJ σ7 1288 m 0).toInt → LC 12 σ7 m ∧ Bd (gI σ7 1281 m 0) 6 ∧ Bd ((400 * t + i : Nat) : Int) 2800 ∧ R32 ((gI σ7 1201 m (gI σ7 1281 m 0).toNat) - (gI σ7 1268 m ((400 * t + i : Nat) : Int).toNat)) ∧ ((v8.toInt ≤ (i2j ((gI σ7 1201 m (gI σ7 1281 m 0).toNat) - (gI σ7 1268 m ((400 * t + i : Nat) : Int).toNat))).toInt → (∃ r, some (vI 0) = some (vI r) ∧ P r (sJ σ7 1289 m 0 v8))) ∧ (¬ v8.toInt ≤ (i2j ((gI σ7 1201 m (gI σ7 1281 m 0).toNat) - (gI σ7 1268 m ((400 * t + i : Nat) : Int).toNat))).toInt → (∃ r, some (vI 5) = some (vI r) ∧ P r (sJ σ7 1289 m 0 v8))))))))) ∧ (¬ (gI σ7 1286 m 0) = 0 → (∃ r, some (vI 6) = some (vI r) ∧ P r (sJ σ7 1289 m 0 v8))))))) := by
    intro v σ4 o4 T4 hv
    have o5 : NsO m t σ (sJ σ4 1288 m 0 v) := o4.trans (NsO.sJ (Or.inl rfl))
    have E4 := hE.ry o4.ry
    have E5 := hE.ry o5.ry
    have T5 : TrR (sJ σ4 1288 m 0 v) m t b s := T4.wk (Frm.sJ ⟨rfl, by omega⟩)
    have xr2 := (E5.fdr.2 fl F hF).2.1.2.2.1
    rw [eM] at xr2
    have n24 := (T4.2 k hk).2.1
    refine ⟨E4.1.1, ?_⟩
    rw [n24]
    refine m_ev E5 T5 hI hU hB hi h0' xr2 hw2 ⟨by omega, by omega⟩ (hx2 M eM) h20 (fun u hu σ7 o7 T7 z7 hF7 => ?_) (fun hu u σ7 o7 T7 z7 hF7 => ?_)
    · have o8 : ∀ u', NsO m t σ (sJ σ7 1289 m 0 u') := fun u' => (o5.trans o7).trans (NsO.sJ (Or.inr rfl))
      have T8 : ∀ u', TrR (sJ σ7 1289 m 0 u') m t b s := fun u' => T7.wk (Frm.sJ ⟨rfl, by omega⟩)
      have g88 : gJ σ7 1288 m 0 = v := by rw [hF7.J (fun q => by omega), gJ_slf]
      have E7 := hE.ry (o5.trans o7).ry
      obtain ⟨i1, i2, i3, i4, i5, i6, i7, i8, i9⟩ := id E7.1
      have ni2 := (T7.2 i hi).2.1
      rw [g88]
      refine ⟨fun w => ⟨_, rfl, ?_⟩, fun w => ⟨fun _ => ?_, fun z => absurd z7 z⟩⟩
      · rcases hv with ⟨hv, hz⟩ | ⟨hv, hz⟩
        · exact absurd hz w
        · exact he 6 (by rw [hv]) _ (o8 u) (T8 u) (by decide)
      · rcases hv with ⟨hv, hz⟩ | ⟨hv, hz⟩
        · rw [hv, hu] at he ho
          dsimp only at he ho
          refine ⟨fun a1 => ⟨_, rfl, he 5 (by rw [if_pos (by omega)]) _ (o8 u) (T8 u) (by decide)⟩, fun a1 => ⟨fun a2 => ⟨_, rfl, he 5 (by rw [if_pos (by omega)]) _ (o8 u) (T8 u) (by decide)⟩, fun a2 => ⟨i1, by rw [i2]; exact ⟨by omega, by omega⟩, ⟨by omega, by omega⟩, ?_⟩⟩⟩
          rw [i2, i5, Int.toNat_natCast, ni2, i2j_toInt, w32_id (by omega) (by omega)]
          refine ⟨⟨by omega, by omega⟩, fun a3 => ⟨_, rfl, ?_⟩, fun a3 => ⟨_, rfl, he 5 (by rw [if_pos (by omega)]) _ (o8 u) (T8 u) (by decide)⟩⟩
          refine ho (v.toInt, u.toInt) (by rw [if_neg (by omega)]) (by show 0 ≤ v.toInt; omega) (by show v.toInt ≤ u.toInt; omega) (by show u.toInt ≤ _; omega) _ (o8 u) (T8 u) ?_ (by rw [gJ_slf])
          rw [gJ_sJ, if_neg (by simp), g88]
        · omega
    · have er : (match evE (s.d 1 k) len (s.d 1 i) (nmV Ss h s i) N, evE (s.d 1 k) len (s.d 1 i) (nmV Ss h s i) M with
        | some a, some b => if a.toInt < 0 ∨ b.toInt < a.toInt ∨ len - s.d 1 i < b.toInt then (.error 5 : Except Int (Int × Int)) else .ok (a.toInt, b.toInt)
        | _, _ => .error 6) = .error 6 := by
        rw [hu]
        cases evE (s.d 1 k) len (s.d 1 i) (nmV Ss h s i) N <;> rfl
      have o8 : NsO m t σ (sJ σ7 1289 m 0 u) := (o5.trans o7).trans (NsO.sJ (Or.inr rfl))
      have T8 : TrR (sJ σ7 1289 m 0 u) m t b s := T7.wk (Frm.sJ ⟨rfl, by omega⟩)
      exact ⟨fun w => ⟨_, rfl, he 6 er _ o8 T8 (by decide)⟩, fun w => ⟨fun z => by omega, fun _ => ⟨_, rfl, he 6 er _ o8 T8 (by decide)⟩⟩⟩
  exact m_ev hE hT hI hU hB hi h0' xr1 hw1 ⟨by omega, by omega⟩ (hx1 N eN) h20 (fun v hv σ4 o4 T4 z _ => second v σ4 o4 T4 (Or.inl ⟨hv, z⟩)) (fun hv v σ4 o4 T4 z _ => second v σ4 o4 T4 (Or.inr ⟨hv, z⟩))
theorem m_due {A B : Int} {P : Int64 → St → Prop} (hE : EnR σ m t b En Ss im len h) (hT : TrR σ m t b s) (hi : i < s.c) (hk : k < s.c) (hvi : 0 ≤ s.d 1 i ∧ s.d 1 i ≤ len) (hF : gF Ss fl = some F) (f10 : F.ki = 10) (ty : TyR F.ty) (hnu : 217 ≤ F.nu.toInt ∧ F.nu.toInt ≤ 220) (hA : (gJ σ 1288 m 0).toInt = A) (hB : (gJ σ 1289 m 0).toInt = B) (hb : 0 ≤ A ∧ A ≤ B ∧ B ≤ len - s.d 1 i) (hP : P (dueV h F.nu.toInt (s.d 1 k) (s.d 2 k) (s.d 1 i + A) (s.d 1 i + B) &&& mkv (8 * tw F.ty)) σ) : ACj g l (d + 2) MX12_due [vR 12 (some m), vI ((400 * t + k : Nat) : Int), vI (fxR b fl : Int), vI ((400 * t + i : Nat) : Int)] σ P := by
  have t7 := hE.2.2.2.2.2
  have c4 := hT.1.2.2
  have fl5 := fx_lt hE hF
  have fr := (hE.fdr.2 fl F hF).2
  have e35 := fr.2.2.2 f10
  have e29 := fr.1.2.2.2.2.2.2.2.2.1 (ty_nz ty)
  obtain ⟨y1, _, _⟩ := ty_bit3 ty
  obtain ⟨i1, i2, i3, i4, i5, i6, i7, i8, i9⟩ := id hE.1
  obtain ⟨_, k2, k3, _⟩ := hT.2 k hk
  obtain ⟨_, q2, _⟩ := hT.2 i hi
  have ty1 := ty.1
  have ty8 := ty.2.1
  have loop : ∀ (n : Nat) (p : Int) (v : Int64), p = B - n → A ≤ p → dueL h F.nu.toInt (s.d 1 k) (s.d 2 k) ((s.d 1 i + B) - (s.d 1 i + A)).toNat (s.d 1 i + A) 0 = dueL h F.nu.toInt (s.d 1 k) (s.d 2 k) n (s.d 1 i + p) v → AW g l (d + 2) MX12_due 10 [some (vR 12 (some m)), some (vI ((400 * t + k : Nat) : Int)), some (vI (fxR b fl : Int)), some (vI ((400 * t + i : Nat) : Int)), some (vJ v), none, some (vI p), none] [] σ (fun v σ' => ∃ r, v = some (vJ r) ∧ P r σ') := by
    intro n
    induction n with
    | zero =>
      intro p v hp hA' e
      have e : dueL h F.nu.toInt (s.d 1 k) (s.d 2 k) ((s.d 1 i + B) - (s.d 1 i + A)).toNat (s.d 1 i + A) 0 = v := e
      unfold dueV at hP
      rw [e] at hP
      have s160 : ∀ y : Int64, P (y &&& mkv (8 * tw F.ty)) σ → AW g l (d + 2) MX12_due 160 [some (vR 12 (some m)), none, some (vI (fxR b fl : Int)), none, none, none, none, none] [vJ y] σ (fun v σ' => ∃ r, v = some (vJ r) ∧ P r σ') := fun y hy => by
        refine bk_X12_due_160 ⟨i1, ⟨by omega, by omega⟩, ?_⟩
        rw [Int.toNat_natCast, e29, y1]
        exact ⟨⟨by omega, by omega⟩, m_mask (by omega) (by omega) ⟨_, rfl, hy⟩⟩
      refine bk_X12_due_10 ?_
      rw [hB, i2j_toInt, w32_id (by omega) (by omega)]
      refine ⟨fun _ => ⟨i1, ⟨by omega, by omega⟩, ?_⟩, fun w => absurd (by omega) w⟩
      rw [Int.toNat_natCast, e35]
      refine ⟨fun w => s160 v ?_, fun w => s160 _ ?_⟩
      · rw [if_neg (by omega)] at hP; exact hP
      · rw [if_pos (by omega)] at hP; exact hP
    | succ n ih =>
      intro p v hp hA' e
      rw [dueL] at e
      refine bk_X12_due_10 ?_
      rw [hB, i2j_toInt, w32_id (by omega) (by omega)]
      refine ⟨fun w => absurd w (by omega), fun _ => ⟨i1, ⟨by omega, by omega⟩, ?_⟩⟩
      rw [Int.toNat_natCast, Int.toNat_natCast, q2, k2, k3]
      have hb9 := i9 (s.d 1 i + p) (by omega) (by omega)
      have out : ¬ (s.d 1 k ≤ s.d 1 i + p ∧ s.d 1 i + p < s.d 2 k) → AW g l (d + 2) MX12_due 57 [some (vR 12 (some m)), some (vI ((400 * t + k : Nat) : Int)), some (vI (fxR b fl : Int)), some (vI ((400 * t + i : Nat) : Int)), some (vJ v), none, some (vI p), some (vI (s.d 1 i + p))] [] σ (fun v σ' => ∃ r, v = some (vJ r) ∧ P r σ') := fun z => by
        rw [if_neg z] at e
        unfold stp at e
        refine bk_X12_due_57 ⟨i1, ⟨by omega, by omega⟩, ?_⟩
        rw [Int.toNat_natCast, e35, i2]
        refine ⟨fun y1 => ⟨fun y2 => m_has i1 i3 i4 i8.1 i8.2 (by omega) (by omega) ⟨⟨by omega, by omega⟩, ih (p + 1) _ (by omega) (by omega) ?_⟩, fun y2 => m_has i1 i3 i4 i8.1 i8.2 (by omega) (by omega) ⟨⟨by omega, by omega⟩, ih (p + 1) _ (by omega) (by omega) ?_⟩⟩, fun y1 => m_has i1 i3 i4 i8.1 i8.2 (by omega) (by omega) ⟨⟨by omega, by omega⟩, ih (p + 1) _ (by omega) (by omega) ?_⟩⟩
        · rw [if_neg (by omega), if_neg (by omega)] at e; rw [hb9.1, show s.d 1 i + (p + 1) = s.d 1 i + p + 1 by omega]; exact e
        · rw [if_neg (by omega), if_pos (by omega)] at e; rw [hb9.1, show s.d 1 i + (p + 1) = s.d 1 i + p + 1 by omega, Int64.mul_comm]; exact e
        · rw [if_pos (by omega)] at e; rw [hb9.1, show s.d 1 i + (p + 1) = s.d 1 i + p + 1 by omega]; exact e
      refine ⟨⟨by omega, by omega⟩, fun z8 hz8 => ⟨⟨by omega, by omega⟩, ?_⟩⟩
      rw [hz8]
      refine ⟨fun w => out (by omega), fun w => ⟨fun u => out (by omega), fun u => ⟨⟨by omega, by omega⟩, ih (p + 1) v (by omega) (by omega) ?_⟩⟩⟩
      rw [if_pos ⟨by omega, by omega⟩] at e; rw [show s.d 1 i + (p + 1) = s.d 1 i + p + 1 by omega]; exact e
  refine AC.of mo_X12_due (Nat.le_of_ble_eq_true rfl) (bk_X12_due_0 ?_)
  rw [j2i_eq, hA, w32_id (by omega) (by omega)]
  exact loop (B - A).toNat A 0 (by omega) (Int.le_refl _) (by rw [show (s.d 1 i + B) - (s.d 1 i + A) = B - A by omega])
theorem m_summed {P : St → Prop} (hE : EnR σ m t b En Ss im len h) (hT : TrR σ m t b s) (hI : TI Ss len s) (hU : TU Ss len s) (hB : ∀ fl F, gF Ss fl = some F → F.ki = 3 → BiO F.es 0 (8 * tw F.ty) ∧ F.es.length ≤ 12) (hi : i < s.c) (h0' : s.d 0 i = 0) (hk : k < s.c) (h0 : s.d 0 k = 10) (h3 : s.d 3 k = 0) (h6 : s.d 6 k = fl) (hF : gF Ss fl = some F) (f10 : F.ki = 10) (ty : TyR F.ty) (hnu : 217 ≤ F.nu.toInt ∧ F.nu.toInt ≤ 220) (hw1 : WFx F.e1) (hw2 : WFx F.e2) (hx1 : ∀ N, F.e1 = some N → ∀ x ∈ N, x.o = 2 → NmO Ss s i x.v.toInt) (hx2 : ∀ N, F.e2 = some N → ∀ x ∈ N, x.o = 2 → NmO Ss s i x.v.toInt) (h20 : Ss.length ≤ 20) (hN : ∃ N, F.e1 = some N) (hM : ∃ N, F.e2 = some N)
    (hP : ∀ σ', NsO m t σ σ' → TrR σ' m t b (lySm Ss h len s i k F) → P σ') : ACv g l (d + 8) MX12_summed [vR 12 (some m), vI ((400 * t + k : Nat) : Int), vI (fxR b fl : Int), vI ((400 * t + i : Nat) : Int)] σ P := by
  have t7 := hE.2.2.2.2.2
  have c4 := hT.1.2.2
  have fl5 := fx_lt hE hF
  obtain ⟨⟨vi, _⟩, _⟩ := hI.2 i hi
  obtain ⟨⟨vk, _⟩, _⟩ := hI.2 k hk
  have nu := (hU k hk F (by rw [h6]; exact hF)).1 (by rw [h0]; unfold isNu; omega) (by omega)
  unfold lySm at hP
  refine AC.of mo_X12_summed (Nat.le_of_ble_eq_true rfl) (bk_X12_summed_0 (m_sumBounds hE hT hI hU hB hi h0' hk hF hw1 hw2 hx1 hx2 h20 hN hM (fun e he σ1 o1 T1 e0 => ⟨fun w => by omega, fun _ => m_fault0 (hE.ry o1.ry) T1 hk h3 (fun σ2 o2 T2 => ⟨rfl, ?_⟩)⟩) (fun r hr r0 r1 r2 σ1 o1 T1 a8 a9 => ⟨fun _ => ?_, fun w => absurd (by decide) w⟩)))
  · rw [he] at hP; exact hP σ2 (o1.trans o2) T2
  · rw [hr] at hP
    dsimp only at hP
    have E1 := hE.ry o1.ry
    have n2 := (T1.2 k hk).2.1
    refine ⟨E1.1.1, ⟨by omega, by omega⟩, ⟨by omega, by omega⟩, ?_⟩
    rw [Int.toNat_natCast, Int.toNat_natCast, n2]
    refine m_rdP E1.1 E1.fdr hF ty vk.1 nu (m_due E1 T1 hi hk ⟨by omega, by omega⟩ hF f10 ty hnu a8 a9 ⟨r0, r1, r2⟩ ⟨fun w => ⟨rfl, hP σ1 o1 (by rw [if_pos w]; exact T1)⟩, fun w => m_fault0 E1 T1 hk h3 (fun σ2 o2 T2 => ⟨rfl, hP σ2 (o1.trans o2) (by rw [if_neg w]; exact T2)⟩)⟩)
theorem m_above {P : Int → St → Prop} (hE : EnR σ m t b En Ss im len h) (hT : TrR σ m t b s) (hUp : UpO s s.c) (hk : k < s.c) (hP : P (Anc s (s.d 5 k)) σ) : ACi g l d MX12_above [vR 12 (some m), vI ((400 * t + k : Nat) : Int)] σ P := by
  have t7 := hE.2.2.2.2.2
  have c4 := hT.1.2.2
  have loop : ∀ (n : Nat) (p a : Int), -1 ≤ p → p < n → p < s.c → 0 ≤ a → a + n ≤ 1000 → P (ancN s n p a) σ → AW g l d MX12_above 9 [some (vR 12 (some m)), none, some (vI a), some (vI (oI t p))] [] σ (fun v σ' => ∃ r, v = some (vI r) ∧ P r σ') := by
    intro n
    induction n with
    | zero =>
      intro p a p0 p1 _ a0 _ hP
      have e : oI t p = -1 := by unfold oI; rw [if_pos (by omega)]
      rw [e]
      exact bk_X12_above_9 ⟨fun _ => ⟨_, rfl, hP⟩, fun w => absurd (by decide) w⟩
    | succ n ih =>
      intro p a p0 p1 p2 a0 a1 hP
      rw [ancN] at hP
      by_cases q : p < 0
      · rw [if_pos q] at hP
        have e : oI t p = -1 := by unfold oI; rw [if_pos q]
        rw [e]
        exact bk_X12_above_9 ⟨fun _ => ⟨_, rfl, hP⟩, fun w => absurd (by decide) w⟩
      · rw [if_neg q] at hP
        have e : oI t p = ((400 * t + p.toNat : Nat) : Int) := by unfold oI; rw [if_neg q]; omega
        have pc : p.toNat < s.c := by omega
        obtain ⟨n1, _, _, _, _, n6, _⟩ := hT.2 p.toNat pc
        have up := hUp p.toNat pc
        rw [e]
        refine bk_X12_above_9 ⟨fun w => by omega, fun _ => ⟨hE.1.1, ⟨by omega, by omega⟩, ?_⟩⟩
        rw [Int.toNat_natCast, n1, n6]
        refine ⟨fun z => ⟨⟨by omega, by omega⟩, ?_⟩, fun z => ⟨⟨by omega, by omega⟩, ?_⟩⟩
        · rw [if_neg z] at hP
          rw [Int.add_zero]
          exact ih _ _ up.1 (by omega) (by omega) a0 (by omega) hP
        · rw [if_pos z] at hP
          exact ih _ _ up.1 (by omega) (by omega) (by omega) (by omega) hP
  have n6 := (hT.2 k hk).2.2.2.2.2.1
  have up := hUp k hk
  refine AC.of mo_X12_above (Nat.le_of_ble_eq_true rfl) (bk_X12_above_0 ⟨hE.1.1, ⟨by omega, by omega⟩, ?_⟩)
  rw [Int.toNat_natCast, n6]
  exact loop (s.d 5 k + 1).toNat (s.d 5 k) 0 up.1 (by omega) (by omega) (by omega) (by omega) hP
theorem m_opens {n : Nat} {x : Int} {P : St → Prop} (hE : EnR σ m t b En Ss im len h) (hT : TrR σ m t b s) (hS : SkR σ m t K) (hK : K.length < 128) (hP : ∀ σ', RyO m t σ σ' → TrR σ' m t b s → SkR σ' m t (K ++ [(n, x)]) → P σ') : ACv g l d MX12_opens [vR 12 (some m), vI ((400 * t + n : Nat) : Int), vI x] σ P := by
  refine AC.of mo_X12_opens (Nat.le_of_ble_eq_true rfl) (bk_X12_opens_0 ⟨hE.1.1, ?_⟩)
  rw [hS.1, Int.toNat_natCast]
  have F : Frm (fun f r => r = m ∧ (1283 ≤ f ∧ f ≤ 1285)) σ (sI (sI (sI σ 1283 m K.length ((400 * t + n : Nat) : Int)) 1284 m K.length x) 1285 m 0 ((K.length : Int) + 1)) := (Frm.sI ⟨rfl, by omega⟩).trans ((Frm.sI ⟨rfl, by omega⟩).trans (Frm.sI ⟨rfl, by omega⟩))
  exact ⟨⟨by omega, by omega⟩, ⟨by omega, by omega⟩, rfl, hP _ ⟨F.mono (fun f r q => Or.inr q), fun f j z => F.I (fun q => by omega) j⟩ (hT.wk (F.mono (fun f r q => ⟨q.1, by omega⟩))) hS.push⟩
theorem m_closes {n : Nat} {x : Int} {P : St → Prop} (hE : EnR σ m t b En Ss im len h) (hT : TrR σ m t b s) (hUp : UpO s s.c) (hS : SkR σ m t (K ++ [(n, x)])) (hK : K.length < 128) (hn : n < s.c) (hP : ∀ σ', RyO m t σ σ' → TrR σ' m t b (clS s n) → SkR σ' m t K → P σ') : ACv g l d MX12_closes [vR 12 (some m)] σ P := by
  have t7 := hE.2.2.2.2.2
  have c4 := hT.1.2.2
  obtain ⟨s1, s2, s3⟩ := hS.top
  obtain ⟨n1, n2, n3, n4, n5, n6, _⟩ := hT.2 n hn
  have up := hUp n hn
  have F0 : Frm (fun f r => r = m ∧ (1283 ≤ f ∧ f ≤ 1285)) σ (sI σ 1285 m 0 (K.length : Int)) := Frm.sI ⟨rfl, by omega⟩
  have o0 : RyO m t σ (sI σ 1285 m 0 (K.length : Int)) := ⟨F0.mono (fun f r q => Or.inr q), fun f j z => F0.I (fun q => by omega) j⟩
  have T0 : TrR (sI σ 1285 m 0 (K.length : Int)) m t b s := hT.wk (F0.mono (fun f r q => ⟨q.1, by omega⟩))
  unfold clS at hP
  refine AC.of mo_X12_closes (Nat.le_of_ble_eq_true rfl) (bk_X12_closes_0 ?_)
  rw [s1, show ((K.length : Int) + 1 - 1) = (K.length : Int) by omega, Int.toNat_natCast]
  refine ⟨⟨by omega, by omega⟩, hE.1.1, ⟨by omega, by omega⟩, fun z4 hz => ?_⟩
  rw [s2] at hz
  rw [hz, Int.toNat_natCast, n6, n3]
  refine ⟨⟨by omega, by omega⟩, fun w => ⟨rfl, ?_⟩, fun w => ?_⟩
  · have : s.d 5 n < 0 := by
      by_cases q : s.d 5 n < 0
      · exact q
      · unfold oI at w; rw [if_neg q] at w; omega
    rw [if_pos (Or.inl this)] at hP
    exact hP _ o0 T0 hS.pop
  · have q : ¬ s.d 5 n < 0 := fun q => w (by unfold oI; rw [if_pos q]; decide)
    have e : oI t (s.d 5 n) = ((400 * t + (s.d 5 n).toNat : Nat) : Int) := by unfold oI; rw [if_neg q]; omega
    have pc : (s.d 5 n).toNat < s.c := by omega
    have p1 := (hT.2 _ pc).1
    rw [e, Int.toNat_natCast, p1]
    refine ⟨⟨by omega, by omega⟩, fun z => ⟨rfl, ?_⟩, fun z => ⟨rfl, ?_⟩⟩
    · rw [if_pos (Or.inr z)] at hP; exact hP _ o0 T0 hS.pop
    · rw [if_neg (fun y => y.elim q z)] at hP
      have T1 := T0.w (k := (s.d 5 n).toNat) (f := 2) (fr := 1269) (v := s.d 2 n) pc (by omega)
      have o1 : NsO m t (sI σ 1285 m 0 (K.length : Int)) (sI (sI σ 1285 m 0 (K.length : Int)) 1269 m (400 * t + (s.d 5 n).toNat) (s.d 2 n)) := NsO.sI (by omega) (by omega)
      exact hP _ (o0.trans o1.ry) T1 (hS.pop.ns o1)
theorem m_stops1 {n : Nat} {x : Int} {P : St → Prop} (hE : EnR σ m t b En Ss im len h) (hT : TrR σ m t b s) (hS : SkR σ m t (K ++ [(n, x)])) (hK : K.length < 128) (hn : n < s.c) (h0 : s.d 0 n = 0) (hP : ∀ σ', RyO m t σ σ' → TrR σ' m t b s → SkR σ' m t (K ++ [(n, 14)]) → P σ') : ACv g l d MX12_stops [vR 12 (some m)] σ P := by
  have t7 := hE.2.2.2.2.2
  have c4 := hT.1.2.2
  obtain ⟨s1, s2, s3⟩ := hS.top
  have n1 := (hT.2 n hn).1
  have F0 : Frm (fun f r => r = m ∧ (1283 ≤ f ∧ f ≤ 1285)) σ (sI σ 1284 m K.length 14) := Frm.sI ⟨rfl, by omega⟩
  refine AC.of mo_X12_stops (Nat.le_of_ble_eq_true rfl) (bk_X12_stops_0 ?_)
  rw [s1, show ((K.length : Int) + 1 - 1) = (K.length : Int) by omega]
  refine ⟨⟨by omega, by omega⟩, bk_X12_stops_7 ⟨hE.1.1, ⟨by omega, by omega⟩, ?_⟩⟩
  rw [Int.toNat_natCast, s2, Int.toNat_natCast, n1]
  exact ⟨⟨by omega, by omega⟩, fun _ => ⟨rfl, hP _ ⟨F0.mono (fun f r q => Or.inr q), fun f j z => F0.I (fun q => by omega) j⟩ (hT.wk (F0.mono (fun f r q => ⟨q.1, by omega⟩))) hS.set⟩, fun w => absurd h0 w⟩
theorem m_stops2 {n n' : Nat} {x y : Int} {P : St → Prop} (hE : EnR σ m t b En Ss im len h) (hT : TrR σ m t b s) (hS : SkR σ m t ((K ++ [(n, x)]) ++ [(n', y)])) (hK : K.length < 127) (hn : n < s.c) (h0 : s.d 0 n = 0) (hn' : n' < s.c) (h0' : ¬ s.d 0 n' = 0) (hP : ∀ σ', RyO m t σ σ' → TrR σ' m t b s → SkR σ' m t ((K ++ [(n, 14)]) ++ [(n', y)]) → P σ') : ACv g l d MX12_stops [vR 12 (some m)] σ P := by
  have t7 := hE.2.2.2.2.2
  have c4 := hT.1.2.2
  obtain ⟨s1, s2, s3⟩ := hS.top
  rw [app_l] at s1 s2 s3
  have n1' := (hT.2 n' hn').1
  have n1 := (hT.2 n hn).1
  have k0 : (((K ++ [(n, x)]) ++ [(n', y)] : List (Nat × Int)))[K.length]? = some (n, x) := by rw [List.getElem?_append_left (by rw [app_l]; omega), List.getElem?_append_right (Nat.le_refl _), Nat.sub_self]; rfl
  obtain ⟨q2, q3⟩ := hS.2 K.length (n, x) k0
  have F0 : Frm (fun f r => r = m ∧ (1283 ≤ f ∧ f ≤ 1285)) σ (sI σ 1284 m K.length 14) := Frm.sI ⟨rfl, by omega⟩
  refine AC.of mo_X12_stops (Nat.le_of_ble_eq_true rfl) (bk_X12_stops_0 ?_)
  rw [s1, show (((K.length + 1 : Nat) : Int) + 1 - 1) = ((K.length + 1 : Nat) : Int) by omega]
  refine ⟨⟨by omega, by omega⟩, bk_X12_stops_7 ⟨hE.1.1, ⟨by omega, by omega⟩, ?_⟩⟩
  rw [Int.toNat_natCast, s2, Int.toNat_natCast, n1']
  refine ⟨⟨by omega, by omega⟩, fun w => absurd w h0', fun _ => ⟨⟨by omega, by omega⟩, ?_⟩⟩
  rw [show ((K.length + 1 : Nat) : Int) + -1 = (K.length : Int) by omega]
  refine bk_X12_stops_7 ⟨hE.1.1, ⟨by omega, by omega⟩, ?_⟩
  rw [Int.toNat_natCast, q2, Int.toNat_natCast, n1]
  refine ⟨⟨by omega, by omega⟩, fun _ => ⟨rfl, hP _ ⟨F0.mono (fun f r q => Or.inr q), fun f j z => F0.I (fun q => by omega) j⟩ (hT.wk (F0.mono (fun f r q => ⟨q.1, by omega⟩))) ⟨?_, fun q z hz => ?_⟩⟩, fun w => absurd h0 w⟩
  · rw [gI_sI, if_neg (by simp), hS.1, app_l, app_l, app_l, app_l]
  · rw [gI_sI, if_neg (by simp)]
    rcases app_q hz with ⟨lt, hz⟩ | ⟨eq, ez⟩
    · rcases app_q hz with ⟨lt2, hz⟩ | ⟨eq2, ez2⟩
      · rw [gI_sI, if_neg (by omega)]
        exact hS.2 q z (by rw [List.getElem?_append_left (by rw [app_l]; omega), List.getElem?_append_left lt2]; exact hz)
      · rw [eq2, ez2, gI_slf]; exact ⟨q2, rfl⟩
    · rw [app_l] at eq
      rw [eq, ez, gI_sI, if_neg (by omega)]
      exact ⟨s2, s3⟩
theorem m_begun {r : Nat} {par st place fld pr fd : Int} {nm : Int64} {P : St → Prop} (hpr : pr = oI t par) (hfd : fd = flR b fld) (hE : EnR σ m t b En Ss im len h) (hT : TrR σ m t b s) (hS : SkR σ m t K) (hK : K.length < 128) (hKd : ∀ i, i < s.c → NdK s i) (hp : -1 ≤ par ∧ par < s.c) (hA : Anc s par = 20 - (r : Int)) (hr : r ≤ 20)
    (h0 : ¬ s.c < 400 → ∀ σ', RyO m t σ σ' → gI σ' 1282 m 0 = 1 → P σ')
    (h1 : s.c < 400 → ∀ σ', RyO m t σ σ' → TrR σ' m t b (bgS r (mkM s 0 par place fld place st 0 nm) s.c) → SkR σ' m t (K ++ [(s.c, bgX r)]) → P σ') : ACv g l (d + 1) MX12_begun [vR 12 (some m), vI st, vI pr, vI place, vI fd] σ P := by
  have t7 := hE.2.2.2.2.2
  refine AC.of mo_X12_begun (Nat.le_of_ble_eq_true rfl) (bk_X12_begun_0 (m_make (u2 := place) (u7 := st) (u8 := 0) (nm := nm) hpr hfd hE hT hKd hp (fun nc => ⟨fun w => ?_, fun _ => ⟨rfl, ?_⟩⟩) (fun hc σ1 o1 many r69 r73 r75 post => ⟨fun _ => ⟨o1.1.lc hE.1.1, ⟨by omega, by omega⟩, ?_⟩, fun w => absurd many w⟩)))
  · rw [gI_slf] at w; exact absurd w (by decide)
  · exact h0 nc _ ns_many.ry (gI_slf _ _ _ _ _)
  · rw [Int.toNat_natCast]
    have o2 : NsO m t σ (sI σ1 1273 m (400 * t + s.c) st) := o1.trans (NsO.sI (by omega) (by omega))
    have T2 := post (sI σ1 1273 m (400 * t + s.c) st) (fun f j z => by rw [gI_sI, if_neg (by omega)]) (by rw [gI_sI, if_neg (by simp)]; exact r69) (gI_slf _ _ _ _ _) (by rw [gI_sI, if_neg (by simp)]; exact r75)
    have E2 := hE.ry o2.ry
    have S2 := hS.ns o2
    have m5 : (mkM s 0 par place fld place st 0 nm).d 5 s.c = par := mk_n
    have m3 : (mkM s 0 par place fld place st 0 nm).d 3 s.c = 0 := mk_n
    have up0 : UpO s s.c := fun j hj => (hKd j hj).2.2
    have up1 : UpO (mkM s 0 par place fld place st 0 nm) (mkM s 0 par place fld place st 0 nm).c := fun j hj => by
      rw [mk_c] at hj
      by_cases e : j = s.c
      · rw [e, m5]; exact hp
      · rw [mk_o e]; exact up0 j (by omega)
    have an : Anc (mkM s 0 par place fld place st 0 nm) par = Anc s par := anc_cg up0 (fun j hj => ⟨mk_o (by omega), mk_o (by omega)⟩) _ _ _ hp.2
    have cl : s.c < (mkM s 0 par place fld place st 0 nm).c := by rw [mk_c]; omega
    refine m_above E2 T2 up1 cl ?_
    rw [m5, an, hA]
    refine ⟨fun w => bk_X12_begun_43 ⟨fun _ => bk_X12_begun_58 ⟨fun _ => m_opens E2 T2 S2 hK (fun σ3 o3 T3 S3 => ⟨rfl, h1 hc σ3 (o2.ry.trans o3) ?_ ?_⟩), fun y => absurd rfl y⟩, fun y => absurd rfl y⟩, fun w => bk_X12_begun_43 ⟨fun y => absurd y (by decide), fun _ => m_fault0 E2 T2 cl m3 (fun σ3 o3 T3 => bk_X12_begun_58 ⟨fun y => absurd y (by decide), fun _ => m_opens (E2.ry o3.ry) T3 (S2.ns o3) hK (fun σ4 o4 T4 S4 => ⟨rfl, h1 hc σ4 ((o2.trans o3).ry.trans o4) ?_ ?_⟩)⟩)⟩⟩
    · unfold bgS; rw [if_neg (by omega)]; exact T3
    · unfold bgX; rw [if_neg (by omega)]; exact S3
    · unfold bgS; rw [if_pos (by omega)]; exact T4
    · unfold bgX; rw [if_pos (by omega)]; exact S4
end R4
