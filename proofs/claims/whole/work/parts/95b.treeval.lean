/-! the reference's values -/
theorem BiO_le : ∀ (es : List Ent) (a w : Int), BiO es a w → a ≤ w
  | [], _, _, h => h
  | e :: es, a, w, h => by have := BiO_le es _ w h.2.2.2.2; have := h.2.1; omega
theorem BiO_at : ∀ (es : List Ent) (a w : Int), BiO es a w → ∀ (j : Nat) (e : Ent), es[j]? = some e → e.2.2 = a + smE (es.take j) ∧ 1 ≤ e.2.1.toInt ∧ e.2.1.toInt ≤ 64 ∧ a + smE (es.take j) + e.2.1.toInt ≤ w ∧ 0 ≤ smE (es.take j)
  | [], _, _, _, j, e, he => absurd he (by simp)
  | x :: es, a, w, h, 0, e, he => by
    have he : some x = some e := he
    cases he
    obtain ⟨h1, h2, h3, h4, h5⟩ := h
    have := BiO_le _ _ _ h5
    show x.2.2 = a + 0 ∧ _ ∧ _ ∧ a + 0 + x.2.1.toInt ≤ w ∧ (0 : Int) ≤ 0
    exact ⟨by omega, h2, h3, by omega, by omega⟩
  | x :: es, a, w, h, j + 1, e, he => by
    have he : es[j]? = some e := he
    obtain ⟨h1, h2, h3, h4, h5⟩ := h
    obtain ⟨r1, r2, r3, r4, r5⟩ := BiO_at es _ w h5 j e he
    show e.2.2 = a + (x.2.1.toInt + smE (es.take j)) ∧ _ ∧ _ ∧ a + (x.2.1.toInt + smE (es.take j)) + e.2.1.toInt ≤ w ∧ 0 ≤ x.2.1.toInt + smE (es.take j)
    exact ⟨by omega, r2, r3, by omega, by omega⟩
section T2
variable {g : GP} {l : Launch} {d : Nat} {σ : St} {m b t a i dd c : Nat} {no : Nat → Nat} {so : Nat → Nat} {fo : Nat → Nat → Nat} {En : List Enm} {Ss : List Stc} {s : TS} {h : Int → Int} {len im : Int}
/-- the image in the reference -/
def ImR (σ : St) (m : Nat) (im len : Int) (h : Int → Int) : Prop := LC 12 σ m ∧ gI σ 1281 m 0 = im ∧ 0 ≤ im ∧ im < 6 ∧ gI σ 1201 m im.toNat = len ∧ len ≤ 2000 ∧ 0 ≤ len ∧ (0 ≤ gI σ 1202 m im.toNat ∧ gI σ 1202 m im.toNat ≤ 4) ∧ ∀ p : Int, 0 ≤ p → p < len → hasM σ m im p = h p ∧ 0 ≤ h p ∧ h p ≤ 255
/-- the fields in the reference -/
def FdR (σ : St) (m b : Nat) (Ss : List Stc) : Prop := b < 2 ∧ ∀ fl F, gF Ss fl = some F → fl < 280 ∧ FR σ m b (280 * b + fl.toNat) F
theorem m_rdP {p : Int} {F : Fld} {fl : Int} {P : Int64 → St → Prop} (hI : ImR σ m im len h) (hF : FdR σ m b Ss) (hf : gF Ss fl = some F) (ty : TyR F.ty) (h0 : 0 ≤ p) (h1 : p + tw F.ty ≤ len) (hP : P (rdP h F.ty p) σ) : ACj g l (d + 2) MX12_raw [vR 12 (some m), vI p, vI (gI σ 1229 m (280 * b + fl.toNat))] σ P := by
  obtain ⟨i1, i2, i3, i4, i5, i6, i7, i8, i9⟩ := hI
  obtain ⟨_, fr⟩ := hF.2 fl F hf
  have e29 := fr.1.2.2.2.2.2.2.2.2.1 (ty_nz ty)
  obtain ⟨b1, b2, b3⟩ := ty_bit3 ty
  have ty1 := ty.1
  rw [e29]
  refine m_raw (bg := tbg F.ty) (w := tw F.ty) i1 i2 i3 i4 i8.1 i8.2 b1 b2 h0 (by omega) (by omega) ?_
  have er : rv (fun j => hasM σ m im (if tbg F.ty = 0 then p + tw F.ty - 1 - j else p + j)) (tw F.ty).toNat = rdP h F.ty p := by
    unfold rdP
    refine rv_congr (fun j j0 j1 => ?_)
    exact (i9 (if tbg F.ty = 0 then p + tw F.ty - 1 - j else p + j) (by split <;> omega) (by split <;> omega)).1
  rw [er]; exact hP
theorem m_valueOf {P : Int64 → St → Prop} (hI : ImR σ m im len h) (hF : FdR σ m b Ss) (hB : ∀ fl F, gF Ss fl = some F → F.ki = 3 → BiO F.es 0 (8 * tw F.ty) ∧ F.es.length ≤ 12) (hi : i < 400) (ht : t < 7) (hN : NdR σ m t b s i) (hW : NdW Ss len s i) (hP : P (vlN Ss h s i) σ) : ACj g l (d + 3) MX12_valueOf [vR 12 (some m), vI ((400 * t + i : Nat) : Int)] σ P := by
  have hI' := hI
  obtain ⟨i1, i2, i3, i4, i5, i6, i7, i8, i9⟩ := hI
  obtain ⟨n1, n2, n3, n4, n5, n6, n7, n8, n9, n10, n11, n12, n13⟩ := hN
  obtain ⟨w1, w2, w3, w4, w5⟩ := hW
  have b2 := hF.1
  unfold vlN at hP
  refine AC.of mo_X12_valueOf (Nat.le_of_ble_eq_true rfl) (bk_X12_valueOf_0 ⟨i1, ⟨by omega, by omega⟩, ?_⟩)
  rw [Int.toNat_natCast, n4, n1, n10, n7, n2, n3]
  refine ⟨fun q => ?_, fun q => ⟨_, rfl, by rw [if_pos q] at hP; exact hP⟩⟩
  rw [if_neg q] at hP
  by_cases k2 : s.d 0 i = 2
  · rw [if_pos k2] at hP
    exact ⟨fun z => by omega, fun _ => ⟨_, rfl, hP⟩, fun z => by omega, fun z => by omega, fun z => by omega, fun z => by omega, fun z => by omega, fun z => by omega, fun z => by omega, fun z => by omega, fun z => by omega⟩
  rw [if_neg k2] at hP
  rcases w3 with w3 | ⟨q0, F, q1, q2', q3, q4⟩
  · have e0 : gF Ss (s.d 6 i) = none := by unfold gF; rw [if_pos (by omega)]
    rw [e0] at hP
    exact ⟨fun z => by omega, fun z => by omega, fun z => by omega, fun z => by omega, fun z => by omega, fun z => by omega, fun z => by omega, fun z => by omega, fun z => by omega, fun z => by omega, fun _ => ⟨_, rfl, hP⟩⟩
  rw [q1] at hP
  have hP : P (if s.d 0 i = 5 then i2j (s.d 2 i - s.d 1 i - (if F.e1 = none then 1 else 0)) else if s.d 0 i = 1 ∨ s.d 0 i = 7 ∨ s.d 0 i = 10 then sgn F.ty (rdP h F.ty (s.d 1 i)) else if s.d 0 i = 3 then rdP h F.ty (s.d 1 i) else if s.d 0 i = 4 then (match F.es[(s.d 8 i - 1).toNat]? with
      | some e => j_ushr (rdP h F.ty (s.d 1 i)) e.2.2 &&& mkv e.2.1.toInt
      | none => 0) else 0) σ := hP
  obtain ⟨f280, fr⟩ := hF.2 _ F q1
  rw [if_neg (show ¬ s.d 6 i < 0 by omega)]
  have fn : (((280 * b : Nat) : Int) + s.d 6 i).toNat = 280 * b + (s.d 6 i).toNat := by omega
  rw [fn]
  have s80 : (s.d 0 i = 1 ∨ s.d 0 i = 7 ∨ s.d 0 i = 10) → AW g l (d + 3) MX12_valueOf 80 [some (vR 12 (some m)), some (vI ((400 * t + i : Nat) : Int)), some (vI (((280 * b : Nat) : Int) + s.d 6 i)), none, none, none] [] σ (fun v σ' => ∃ r, v = some (vJ r) ∧ P r σ') := fun kk => by
    rw [if_neg (by omega), if_pos kk] at hP
    obtain ⟨ty, tl⟩ := q3 (by unfold isNu; omega)
    have e29 := fr.1.2.2.2.2.2.2.2.2.1 (ty_nz ty)
    obtain ⟨b1, b2, b3⟩ := ty_bit3 ty
    have ty1 := ty.1
    have ty2 := ty.2.1
    refine bk_X12_valueOf_80 ⟨i1, ⟨by omega, by omega⟩, ⟨by omega, by omega⟩, ?_⟩
    rw [Int.toNat_natCast, n2, fn]
    refine m_rdP hI' hF q1 ty w1.1 (tl q) ⟨i1, ?_⟩
    rw [e29, b1]
    refine ⟨⟨by omega, by omega⟩, ⟨by omega, by omega⟩, fun z hz => ⟨fun u => ⟨_, rfl, ?_⟩, fun u => ⟨_, rfl, ?_⟩⟩⟩
    · unfold sgn at hP
      rw [if_pos (b3.mp u)] at hP; exact hP
    · unfold sgn at hP
      rw [if_neg (fun w => u (b3.mpr w)), ← hz] at hP; exact hP
  refine ⟨fun z => s80 (by omega), fun z => by omega, fun z => ?_, fun z => ?_, fun z => ?_, fun z => ⟨_, rfl, ?_⟩, fun z => s80 (by omega), fun z => ⟨_, rfl, ?_⟩, fun z => ⟨_, rfl, ?_⟩, fun z => s80 (by omega), fun z => ⟨_, rfl, ?_⟩⟩
  · rw [if_neg (by omega), if_neg (by omega), if_pos z] at hP
    obtain ⟨ty, tl⟩ := q3 (by unfold isNu; omega)
    exact ⟨⟨by omega, by omega⟩, m_rdP hI' hF q1 ty w1.1 (tl q) ⟨_, rfl, hP⟩⟩
  · rw [if_neg (by omega), if_neg (by omega), if_neg (by omega), if_pos z] at hP
    obtain ⟨ty, tl⟩ := q3 (by unfold isNu; omega)
    have k3 : F.ki = 3 ∧ 1 ≤ s.d 8 i ∧ s.d 8 i ≤ F.es.length := by
      rcases q2' with u | u | u
      · omega
      · exact u.2
      · omega
    obtain ⟨bo, l12⟩ := hB _ F q1 k3.1
    have e37 := fr.1.2.2.2.2.2.2.1
    have pv := fr.1.2.2.2.2.2.2.2.2.2
    cases he : F.es[(s.d 8 i - 1).toNat]? with
    | none => rw [List.getElem?_eq_none_iff] at he; omega
    | some e =>
      rw [he] at hP
      obtain ⟨o1, o2, o3, o4, o5⟩ := BiO_at _ _ _ bo _ e he
      have ty2 := ty.2.1
      refine ⟨⟨by omega, by omega⟩, m_rdP hI' hF q1 ty w1.1 (tl q) ?_⟩
      -- the shift
      have shf : ∀ (A : List Ent) (j : Nat) (acc : Int), (∀ k x, A[k]? = some x → F.es[j + k]? = some x) → ((j : Int) + A.length = s.d 8 i - 1) → 0 ≤ acc → acc + smE A = e.2.2 → (∀ x ∈ A, 1 ≤ x.2.1.toInt ∧ x.2.1.toInt ≤ 64) → ∀ P' : Int → St → Prop, P' e.2.2 σ → AW g l (d + 2) MX12_shift 4 [some (vR 12 (some m)), some (vI ((400 * t + i : Nat) : Int)), some (vI acc), some (vI (j : Int))] [] σ (fun v σ' => ∃ r, v = some (vI r) ∧ P' r σ') := by
        intro A
        induction A with
        | nil =>
          intro j acc _ hj a0 ha _ P' hP'
          have hj : (j : Int) + ((0 : Nat) : Int) = s.d 8 i - 1 := hj
          have ha : acc + 0 = e.2.2 := ha
          refine bk_X12_shift_4 ⟨i1, ⟨by omega, by omega⟩, ?_⟩
          rw [Int.toNat_natCast, n9]
          exact ⟨⟨by omega, by omega⟩, fun _ => ⟨_, rfl, by rw [show acc = e.2.2 by omega]; exact hP'⟩, fun w => absurd (by omega) w⟩
        | cons x A ih =>
          intro j acc hA hj a0 ha hx P' hP'
          have hj : (j : Int) + ((A.length + 1 : Nat) : Int) = s.d 8 i - 1 := hj
          have ha : acc + (x.2.1.toInt + smE A) = e.2.2 := ha
          have x64 := hx x List.mem_cons_self
          have nnA := smE_nn A (fun y hy => (hx y (List.mem_cons_of_mem _ hy)).1)
          have c0 := hA 0 x rfl
          rw [Nat.add_zero] at c0
          have pvx := (pv j x c0).2.1
          refine bk_X12_shift_4 ⟨i1, ⟨by omega, by omega⟩, ?_⟩
          rw [Int.toNat_natCast, n9, n7, if_neg (show ¬ s.d 6 i < 0 by omega), show (16 * (((280 * b : Nat) : Int) + s.d 6 i) + (j : Int)).toNat = 16 * (280 * b + (s.d 6 i).toNat) + j by omega, pvx, j2i_eq, w32_id (by omega) (by omega)]
          exact ⟨⟨by omega, by omega⟩, fun w => absurd w (by omega), fun _ => ⟨⟨by omega, by omega⟩, ⟨by omega, by omega⟩, ⟨by omega, by omega⟩, ⟨by omega, by omega⟩, fun z9 hz => ⟨⟨by omega, by omega⟩, ih (j + 1) z9 (fun k y hy => by rw [show j + 1 + k = j + (k + 1) by omega]; exact hA (k + 1) y hy) (by omega) (by omega) (by omega) (fun y hy => hx y (List.mem_cons_of_mem _ hy)) P' hP'⟩⟩⟩
      have tkl : ((F.es.take (s.d 8 i - 1).toNat).length : Int) = s.d 8 i - 1 := by rw [List.length_take]; omega
      refine AC.of mo_X12_shift (Nat.le_of_ble_eq_true rfl) (bk_X12_shift_0 (shf (F.es.take (s.d 8 i - 1).toNat) 0 0 (fun k x hx => by
        rw [Nat.zero_add]
        rw [List.getElem?_take] at hx
        split at hx
        · exact hx
        · cases hx) (by omega) (by omega) (by omega) (fun x hx => by
        obtain ⟨k, hk⟩ := List.getElem?_of_mem (List.mem_of_mem_take hx)
        have := BiO_at _ _ _ bo k x hk
        exact ⟨this.2.1, this.2.2.1⟩) _ ⟨i1, ⟨by omega, by omega⟩, ?_⟩))
      rw [n9, show (16 * (((280 * b : Nat) : Int) + s.d 6 i) + s.d 8 i - 1).toNat = 16 * (280 * b + (s.d 6 i).toNat) + (s.d 8 i - 1).toNat by omega, (pv _ e he).2.1]
      refine ⟨⟨by omega, by omega⟩, ⟨by omega, by omega⟩, ⟨by omega, by omega⟩, ?_⟩
      have hm := m_mask (g := g) (l := l) (d := d + 2) (σ := σ) (m := m) (n := e.2.1.toInt) (P := fun v18 σ17 => ∃ r, some (vJ (j_ushr (rdP h F.ty (s.d 1 i)) e.2.2 &&& v18)) = some (vJ r) ∧ P r σ17) (by omega) (by omega) ⟨_, rfl, hP⟩
      have ev : i2j e.2.1.toInt = e.2.1 := Int64.toInt_inj.mp (by rw [i2j_toInt, w32_id (by omega) (by omega)])
      rw [ev] at hm
      exact hm
  · rw [if_pos z] at hP
    have ki5 : F.ki = 5 := by
      rcases q2' with u | u | u <;> omega
    have k28 := fr.2.1
    rw [kR_5 ki5] at k28
    rw [k28]
    have q4' := q4 z
    refine ⟨⟨by omega, by omega⟩, ⟨by omega, by omega⟩, fun u => ⟨⟨by omega, by omega⟩, _, rfl, ?_⟩, fun u => ⟨⟨by omega, by omega⟩, _, rfl, ?_⟩⟩
    · by_cases w : F.e1 = none
      · rw [if_pos w] at u; omega
      · rw [if_neg w] at hP; exact hP
    · by_cases w : F.e1 = none
      · rw [if_pos w] at hP; exact hP
      · rw [if_neg w] at u; omega
  · rw [if_neg (by omega), if_neg (by omega), if_neg (by omega), if_neg (by omega)] at hP; exact hP
  · rw [if_neg (by omega), if_neg (by omega), if_neg (by omega), if_neg (by omega)] at hP; exact hP
  · rw [if_neg (by omega), if_neg (by omega), if_neg (by omega), if_neg (by omega)] at hP; exact hP
  · rw [if_neg (by omega), if_neg (by omega), if_neg (by omega), if_neg (by omega)] at hP; exact hP
end T2
