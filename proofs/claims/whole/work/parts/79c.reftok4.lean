/-! the reference's looks at a token -/
section M13
variable {g : GP} {l : Launch} {d : Nat} {σ : St} {m : Nat}
theorem m_isWord {w : Int64} {P : Int → St → Prop} (h1 : gI σ 1213 m 0 = 1 → gJ σ 1216 m 0 = w → P 1 σ) (h0 : ¬ (gI σ 1213 m 0 = 1 ∧ gJ σ 1216 m 0 = w) → P 0 σ) : ACi g l d MX12_isWord [vR 12 (some m), vJ w] σ P :=
  AC.of mo_X12_isWord (Nat.le_of_ble_eq_true rfl) (bk_X12_isWord_0 ⟨fun q => ⟨_, rfl, h0 (fun z => q z.1)⟩, fun q => ⟨fun q2 => ⟨_, rfl, h0 (fun z => q2 z.2)⟩, fun q2 => ⟨_, rfl, h1 q q2⟩⟩⟩)
theorem m_isSign {c : Int} {P : Int → St → Prop} (h1 : gI σ 1213 m 0 = 3 → gJ σ 1217 m 0 = i2j c → P 1 σ) (h0 : ¬ (gI σ 1213 m 0 = 3 ∧ gJ σ 1217 m 0 = i2j c) → P 0 σ) : ACi g l d MX12_isSign [vR 12 (some m), vI c] σ P :=
  AC.of mo_X12_isSign (Nat.le_of_ble_eq_true rfl) (bk_X12_isSign_0 ⟨fun q => ⟨_, rfl, h0 (fun z => q z.1)⟩, fun q => ⟨fun q2 => ⟨_, rfl, h0 (fun z => q2 z.2)⟩, fun q2 => ⟨_, rfl, h1 q q2⟩⟩⟩)
theorem m_whole {q e : Int} {T : Int → Int} {P : Int → St → Prop} (hL : LC 12 σ m) (hq : gI σ 1214 m 0 = q) (he : gI σ 1215 m 0 = e) (hT : ∀ i : Int, gI σ 1210 m i.toNat = T i) (k0 : 0 ≤ q) (k1 : q ≤ e) (k2 : e ≤ 3000) (hb : ∀ i : Int, q ≤ i → i < e → 0 ≤ T i ∧ T i ≤ 255)
    (h : P (if gI σ 1213 m 0 = 1 then (if tyV T q e = -1 then 0 else tyV T q e) else 0) σ) : ACi g l d MX12_whole [vR 12 (some m)] σ P := by
  refine AC.of mo_X12_whole (Nat.le_of_ble_eq_true rfl) (bk_X12_whole_0 ?_)
  rw [he, hq, hT, hT]
  refine ⟨fun z => ⟨_, rfl, by rw [if_neg z] at h; exact h⟩, fun z => ?_⟩
  rw [if_pos z] at h
  have no : ¬ ((T q = 117 ∨ T q = 115) ∧ (e - q = 2 ∨ (e - q = 3 ∧ T (e - 1) = 98)) ∧ 1 ≤ T (q + 1) - 48 ∧ T (q + 1) - 48 ≤ 8) → ∃ r, some (vI 0) = some (vI r) ∧ P r σ := fun c => by
    have e1 : tyV T q e = -1 := if_neg c
    rw [if_pos e1] at h
    exact ⟨_, rfl, h⟩
  refine ⟨⟨by omega, by omega⟩, fun c => no (by omega), fun c => ⟨fun c3 => ⟨hL, ⟨by omega, by omega⟩, fun z7 h7 => ⟨⟨by omega, by omega⟩, ⟨by omega, by omega⟩, fun z10 h10 => ?_⟩⟩, fun c3 => no (by omega)⟩⟩
  have b1 := hb (q + 1) (by omega) (by omega)
  have mid : (z7 = 117 ∨ z7 = 115) → AW g l d MX12_whole 70 [some (vR 12 (some m)), some (vI z7), some (vI z10)] [] σ (fun v σ' => ∃ r, v = some (vI r) ∧ P r σ') := by
    intro hz
    have fin : (e - q = 2 ∨ (e - q = 3 ∧ T (e - 1) = 98)) → 49 ≤ z10 → z10 ≤ 56 → ∀ y0 : Int, y0 = (if z7 = 115 then 16 else 0) → AW g l d MX12_whole 129 [some (vR 12 (some m)), none, none] [vI y0, vI (z10 - 48)] σ (fun v σ' => ∃ r, v = some (vI r) ∧ P r σ') := by
      intro c1 c2 c4 y0 hy
      have e1 : tyV T q e = (T (q + 1) - 48) + (if T q = 115 then 16 else 0) + (if e - q = 3 then 32 else 0) := if_pos ⟨by omega, c1, by omega, by omega⟩
      rw [← h10, ← h7, ← hy] at e1
      have y1 : 0 ≤ y0 ∧ y0 ≤ 16 := by rw [hy]; split <;> omega
      refine bk_X12_whole_129 ?_
      rw [he, hq]
      refine ⟨⟨by omega, by omega⟩, ⟨by omega, by omega⟩, fun c5 => ⟨⟨by omega, by omega⟩, _, rfl, ?_⟩, fun c5 => ⟨⟨by omega, by omega⟩, _, rfl, ?_⟩⟩
      · rw [if_neg c5] at e1
        rw [e1, if_neg (by omega)] at h; exact h
      · rw [if_pos c5] at e1
        rw [e1, if_neg (by omega)] at h; exact h
    refine bk_X12_whole_70 ?_
    rw [he, hq, hT]
    refine ⟨fun c1 => no (by omega), fun c1 => ⟨fun c2 => no (by omega), fun c2 => ⟨⟨by omega, by omega⟩, fun c4 => ⟨⟨by omega, by omega⟩, fun c5 => fin (by omega) (by omega) (by omega) _ (if_neg c5).symm, fun c5 => fin (by omega) (by omega) (by omega) _ (if_pos c5).symm⟩, fun c4 => ⟨hL, ⟨by omega, by omega⟩, ⟨by omega, by omega⟩, ?_⟩⟩⟩⟩
    rw [show q + 2 = e - 1 by omega]
    exact ⟨fun c5 => ⟨⟨by omega, by omega⟩, fun c6 => fin (by omega) (by omega) (by omega) _ (if_neg c6).symm, fun c6 => fin (by omega) (by omega) (by omega) _ (if_pos c6).symm⟩, fun c5 => no (by omega)⟩
  exact ⟨fun c1 => mid (Or.inl c1), fun c1 => ⟨fun c2 => no (by omega), fun c2 => mid (Or.inr c2)⟩⟩
end M13
