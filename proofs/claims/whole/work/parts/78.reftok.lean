/-! the reference's tokens -/
theorem nv_ok {T : Int → Int} {b : Int} (hb : b = 10 ∨ b = 16) : ∀ (j : Nat) (i : Int) (a : Int64) (k : Nat), k + j ≤ 9 → 0 ≤ a.toInt → a.toInt < ((16 ^ k : Nat) : Int) → (∀ z : Int, i ≤ z → z < i + j → 0 ≤ dg (T z) ∧ dg (T z) < b) → 0 ≤ (nvF T b j i a).toInt
  | 0, _, _, _, _, h0, _, _ => h0
  | j + 1, i, a, k, hk, h0, h1, hd => by
    have d0 := hd i (by omega) (by omega)
    unfold nvF
    rw [if_pos d0.2]
    have p1 : 16 ^ (k + 1) = 16 ^ k * 16 := by rw [Nat.pow_succ]
    have p2 : 16 ^ (k + 1) ≤ 16 ^ 9 := Nat.pow_le_pow_right (by decide) (by omega)
    have p3 : 16 ^ 9 = 68719476736 := by decide
    have e : (a * i2j b + i2j (dg (T i))).toInt = a.toInt * b + dg (T i) := by
      rw [Int64.toInt_add, Int64.toInt_mul, i2j_toInt, i2j_toInt, w32_id (by omega) (by omega), w32_id (by omega) (by omega), bmod64, bmod64]
      rcases hb with rfl | rfl <;> omega
    refine nv_ok hb j (i + 1) _ (k + 1) (by omega) ?_ ?_ (fun z z0 z1 => hd z (by omega) (by omega))
    · rw [e]; rcases hb with rfl | rfl <;> omega
    · rw [e]; rcases hb with rfl | rfl <;> omega
theorem nv_bad {T : Int → Int} {b : Int} : ∀ (j : Nat) (i : Int) (a : Int64) (z : Int), i ≤ z → z < i + j → ¬ dg (T z) < b → nvF T b j i a = -1
  | 0, _, _, _, h0, h1, _ => absurd h1 (by omega)
  | j + 1, i, a, z, h0, h1, hd => by
    unfold nvF
    by_cases e : dg (T i) < b
    · rw [if_pos e]
      have : z ≠ i := fun q => hd (q ▸ e)
      exact nv_bad j (i + 1) _ z (by omega) (by omega) hd
    · rw [if_neg e]
section M10
variable {g : GP} {l : Launch} {d : Nat} {σ : St} {m : Nat}
theorem m_digit {c : Int} {P : Int → St → Prop} (h : P (if 48 ≤ c ∧ c ≤ 57 then 1 else 0) σ) : ACi g l d MX12_digit [vR 12 (some m), vI c] σ P := by
  refine AC.of mo_X12_digit (Nat.le_of_ble_eq_true rfl) (bk_X12_digit_0 ⟨fun q => ⟨_, rfl, ?_⟩, fun q => ⟨fun q2 => ⟨_, rfl, ?_⟩, fun q2 => ⟨_, rfl, ?_⟩⟩⟩)
  · rw [if_neg (by omega)] at h; exact h
  · rw [if_neg (by omega)] at h; exact h
  · rw [if_pos (by omega)] at h; exact h
theorem m_letter {c : Int} {P : Int → St → Prop} (h : P (if 97 ≤ c ∧ c ≤ 122 then 1 else 0) σ) : ACi g l d MX12_letter [vR 12 (some m), vI c] σ P := by
  refine AC.of mo_X12_letter (Nat.le_of_ble_eq_true rfl) (bk_X12_letter_0 ⟨fun q => ⟨_, rfl, ?_⟩, fun q => ⟨fun q2 => ⟨_, rfl, ?_⟩, fun q2 => ⟨_, rfl, ?_⟩⟩⟩)
  · rw [if_neg (by omega)] at h; exact h
  · rw [if_neg (by omega)] at h; exact h
  · rw [if_pos (by omega)] at h; exact h
theorem m_tapeAt {k : Int} {P : Int → St → Prop} (hL : LC 12 σ m) (h0 : 0 ≤ k) (h1 : gI σ 1211 m 0 ≤ 3000) (h : P (if k < gI σ 1211 m 0 then gI σ 1210 m k.toNat else 0) σ) : ACi g l d MX12_tapeAt [vR 12 (some m), vI k] σ P := by
  refine AC.of mo_X12_tapeAt (Nat.le_of_ble_eq_true rfl) (bk_X12_tapeAt_0 ⟨fun q => ⟨_, rfl, ?_⟩, fun q => ⟨hL, ⟨by omega, by omega⟩, _, rfl, ?_⟩⟩)
  · rw [if_neg (by omega)] at h; exact h
  · rw [if_pos (by omega)] at h; exact h
set_option maxRecDepth 100000 in
theorem sg_ix : ∀ c : Nat, c < 256 → ((0 ≤ ixN SGB (if (c : Int) < 128 then (c : Int) else (c : Int) - 256) 18 0) ↔ (c = 123 ∨ c = 125 ∨ c = 40 ∨ c = 41 ∨ c = 91 ∨ c = 93 ∨ c = 59 ∨ c = 58 ∨ c = 44 ∨ c = 61 ∨ c = 60 ∨ c = 62 ∨ c = 43 ∨ c = 45 ∨ c = 42 ∨ c = 47 ∨ c = 37 ∨ c = 38)) := by decide
theorem sg_ixI {c : Int} (h0 : 0 ≤ c) (h1 : c ≤ 255) : (0 ≤ ixN SGB (if c < 128 then c else c - 256) 18 0) ↔ (c = 123 ∨ c = 125 ∨ c = 40 ∨ c = 41 ∨ c = 91 ∨ c = 93 ∨ c = 59 ∨ c = 58 ∨ c = 44 ∨ c = 61 ∨ c = 60 ∨ c = 62 ∨ c = 43 ∨ c = 45 ∨ c = 42 ∨ c = 47 ∨ c = 37 ∨ c = 38) := by
  have := sg_ix c.toNat (by omega)
  rw [Int.toNat_of_nonneg h0] at this
  rw [this]
  omega
theorem m_sign {c : Int} {P : Int → St → Prop} (h0 : 0 ≤ c) (h1 : c ≤ 255) (h : P (if 0 ≤ ixN SGB (if c < 128 then c else c - 256) 18 0 then 1 else 0) σ) : ACi g l d MX12_sign [vR 12 (some m), vI c] σ P := by
  have key : ∀ v : Int, (v = 1 ∧ (c = 123 ∨ c = 125 ∨ c = 40 ∨ c = 41 ∨ c = 91 ∨ c = 93 ∨ c = 59 ∨ c = 58 ∨ c = 44 ∨ c = 61 ∨ c = 60 ∨ c = 62 ∨ c = 43 ∨ c = 45 ∨ c = 42 ∨ c = 47 ∨ c = 37 ∨ c = 38) ∨ v = 0 ∧ ¬ (c = 123 ∨ c = 125 ∨ c = 40 ∨ c = 41 ∨ c = 91 ∨ c = 93 ∨ c = 59 ∨ c = 58 ∨ c = 44 ∨ c = 61 ∨ c = 60 ∨ c = 62 ∨ c = 43 ∨ c = 45 ∨ c = 42 ∨ c = 47 ∨ c = 37 ∨ c = 38)) → ∃ r, some (vI v) = some (vI r) ∧ P r σ := by
    intro v hv
    refine ⟨v, rfl, ?_⟩
    rcases hv with ⟨rfl, q⟩ | ⟨rfl, q⟩
    · rw [if_pos ((sg_ixI h0 h1).mpr q)] at h; exact h
    · rw [if_neg (fun z => q ((sg_ixI h0 h1).mp z))] at h; exact h
  exact AC.of mo_X12_sign (Nat.le_of_ble_eq_true rfl) (bk_X12_sign_0 ⟨fun _ => key 1 (Or.inl ⟨rfl, by omega⟩), fun q0 => ⟨fun _ => key 1 (Or.inl ⟨rfl, by omega⟩), fun q1 => ⟨fun _ => key 1 (Or.inl ⟨rfl, by omega⟩), fun q2 => ⟨fun _ => key 1 (Or.inl ⟨rfl, by omega⟩), fun q3 => ⟨fun _ => key 1 (Or.inl ⟨rfl, by omega⟩), fun q4 => ⟨fun _ => key 1 (Or.inl ⟨rfl, by omega⟩), fun q5 => ⟨fun _ => key 1 (Or.inl ⟨rfl, by omega⟩), fun q6 => ⟨fun _ => key 1 (Or.inl ⟨rfl, by omega⟩), fun q7 => ⟨fun _ => key 1 (Or.inl ⟨rfl, by omega⟩), fun q8 => ⟨fun _ => key 1 (Or.inl ⟨rfl, by omega⟩), fun q9 => ⟨fun _ => key 1 (Or.inl ⟨rfl, by omega⟩), fun q10 => ⟨fun _ => key 1 (Or.inl ⟨rfl, by omega⟩), fun q11 => ⟨fun _ => key 1 (Or.inl ⟨rfl, by omega⟩), fun q12 => ⟨fun _ => key 1 (Or.inl ⟨rfl, by omega⟩), fun q13 => ⟨fun _ => key 1 (Or.inl ⟨rfl, by omega⟩), fun q14 => ⟨fun _ => key 1 (Or.inl ⟨rfl, by omega⟩), fun q15 => ⟨fun _ => key 1 (Or.inl ⟨rfl, by omega⟩), fun q16 => ⟨fun q17 => key 0 (Or.inr ⟨rfl, by omega⟩), fun _ => key 1 (Or.inl ⟨rfl, by omega⟩)⟩⟩⟩⟩⟩⟩⟩⟩⟩⟩⟩⟩⟩⟩⟩⟩⟩⟩)
end M10
