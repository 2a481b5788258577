/-! the reference's keywords and names -/
def KR : List Int64 := [1701737837, 126943973696372, 26982, 26995, 1651078259, 1952807028, 504364296556, 504363577198, 25209, 1701606245, 29807, 1718775661, 1751478885, 499984983411, 7364964, 469785602403, 7566701, 6382692, 7892850, 1869505907, 1919904876, 28518, 1818584692, 422608071022, 6385252, 28530, 7237492]
theorem ty_pos {T : Int → Int} {q e : Int} (h : ¬ tyV T q e = -1) : 1 ≤ tyV T q e := by
  unfold tyV at h ⊢
  by_cases c : (T q = 117 ∨ T q = 115) ∧ (e - q = 2 ∨ (e - q = 3 ∧ T (e - 1) = 98)) ∧ 1 ≤ T (q + 1) - 48 ∧ T (q + 1) - 48 ≤ 8
  · rw [if_pos c]
    have := c.2.2.1
    split <;> split <;> omega
  · rw [if_neg c] at h
    exact absurd rfl h
section M14
variable {g : GP} {l : Launch} {d : Nat} {σ : St} {m : Nat}
theorem m_isKeyword {q e : Int} {T : Int → Int} {P : Int → St → Prop} (hL : LC 12 σ m) (hq : gI σ 1214 m 0 = q) (he : gI σ 1215 m 0 = e) (hT : ∀ i : Int, gI σ 1210 m i.toNat = T i) (k0 : 0 ≤ q) (k1 : q ≤ e) (k2 : e ≤ 3000) (hb : ∀ i : Int, q ≤ i → i < e → 0 ≤ T i ∧ T i ≤ 255)
    (h : P (if gI σ 1213 m 0 = 1 ∧ (gJ σ 1216 m 0 ∈ KR ∨ ¬ tyV T q e = -1) then 1 else 0) σ) : ACi g l (d + 1) MX12_isKeyword [vR 12 (some m)] σ P := by
  have yes : ∀ w : Int64, w ∈ KR → gI σ 1213 m 0 = 1 → gJ σ 1216 m 0 = w → P 1 σ := fun w hw a b => by
    rw [if_pos ⟨a, Or.inl (by rw [b]; exact hw)⟩] at h; exact h
  refine AC.of mo_X12_isKeyword (Nat.le_of_ble_eq_true rfl) (bk_X12_isKeyword_0 (m_isWord (fun a b => ⟨fun _ => ⟨_, rfl, yes 1701737837 (by decide) a b⟩, fun q => absurd q (by decide)⟩) (fun c0 => ⟨fun q => absurd rfl q, fun _ => m_isWord (fun a b => ⟨fun _ => ⟨_, rfl, yes 126943973696372 (by decide) a b⟩, fun q => absurd q (by decide)⟩) (fun c1 => ⟨fun q => absurd rfl q, fun _ => m_isWord (fun a b => ⟨fun _ => ⟨_, rfl, yes 26982 (by decide) a b⟩, fun q => absurd q (by decide)⟩) (fun c2 => ⟨fun q => absurd rfl q, fun _ => m_isWord (fun a b => ⟨fun _ => ⟨_, rfl, yes 26995 (by decide) a b⟩, fun q => absurd q (by decide)⟩) (fun c3 => ⟨fun q => absurd rfl q, fun _ => m_isWord (fun a b => ⟨fun _ => ⟨_, rfl, yes 1651078259 (by decide) a b⟩, fun q => absurd q (by decide)⟩) (fun c4 => ⟨fun q => absurd rfl q, fun _ => m_isWord (fun a b => ⟨fun _ => ⟨_, rfl, yes 1952807028 (by decide) a b⟩, fun q => absurd q (by decide)⟩) (fun c5 => ⟨fun q => absurd rfl q, fun _ => m_isWord (fun a b => ⟨fun _ => ⟨_, rfl, yes 504364296556 (by decide) a b⟩, fun q => absurd q (by decide)⟩) (fun c6 => ⟨fun q => absurd rfl q, fun _ => m_isWord (fun a b => ⟨fun _ => ⟨_, rfl, yes 504363577198 (by decide) a b⟩, fun q => absurd q (by decide)⟩) (fun c7 => ⟨fun q => absurd rfl q, fun _ => m_isWord (fun a b => ⟨fun _ => ⟨_, rfl, yes 25209 (by decide) a b⟩, fun q => absurd q (by decide)⟩) (fun c8 => ⟨fun q => absurd rfl q, fun _ => m_isWord (fun a b => ⟨fun _ => ⟨_, rfl, yes 1701606245 (by decide) a b⟩, fun q => absurd q (by decide)⟩) (fun c9 => ⟨fun q => absurd rfl q, fun _ => m_isWord (fun a b => ⟨fun _ => ⟨_, rfl, yes 29807 (by decide) a b⟩, fun q => absurd q (by decide)⟩) (fun c10 => ⟨fun q => absurd rfl q, fun _ => m_isWord (fun a b => ⟨fun _ => ⟨_, rfl, yes 1718775661 (by decide) a b⟩, fun q => absurd q (by decide)⟩) (fun c11 => ⟨fun q => absurd rfl q, fun _ => m_isWord (fun a b => ⟨fun _ => ⟨_, rfl, yes 1751478885 (by decide) a b⟩, fun q => absurd q (by decide)⟩) (fun c12 => ⟨fun q => absurd rfl q, fun _ => m_isWord (fun a b => ⟨fun _ => ⟨_, rfl, yes 499984983411 (by decide) a b⟩, fun q => absurd q (by decide)⟩) (fun c13 => ⟨fun q => absurd rfl q, fun _ => m_isWord (fun a b => ⟨fun _ => ⟨_, rfl, yes 7364964 (by decide) a b⟩, fun q => absurd q (by decide)⟩) (fun c14 => ⟨fun q => absurd rfl q, fun _ => m_isWord (fun a b => ⟨fun _ => ⟨_, rfl, yes 469785602403 (by decide) a b⟩, fun q => absurd q (by decide)⟩) (fun c15 => ⟨fun q => absurd rfl q, fun _ => m_isWord (fun a b => ⟨fun _ => ⟨_, rfl, yes 7566701 (by decide) a b⟩, fun q => absurd q (by decide)⟩) (fun c16 => ⟨fun q => absurd rfl q, fun _ => m_isWord (fun a b => ⟨fun _ => ⟨_, rfl, yes 6382692 (by decide) a b⟩, fun q => absurd q (by decide)⟩) (fun c17 => ⟨fun q => absurd rfl q, fun _ => m_isWord (fun a b => ⟨fun _ => ⟨_, rfl, yes 7892850 (by decide) a b⟩, fun q => absurd q (by decide)⟩) (fun c18 => ⟨fun q => absurd rfl q, fun _ => m_isWord (fun a b => ⟨fun _ => ⟨_, rfl, yes 1869505907 (by decide) a b⟩, fun q => absurd q (by decide)⟩) (fun c19 => ⟨fun q => absurd rfl q, fun _ => m_isWord (fun a b => ⟨fun _ => ⟨_, rfl, yes 1919904876 (by decide) a b⟩, fun q => absurd q (by decide)⟩) (fun c20 => ⟨fun q => absurd rfl q, fun _ => m_isWord (fun a b => ⟨fun _ => ⟨_, rfl, yes 28518 (by decide) a b⟩, fun q => absurd q (by decide)⟩) (fun c21 => ⟨fun q => absurd rfl q, fun _ => m_isWord (fun a b => ⟨fun _ => ⟨_, rfl, yes 1818584692 (by decide) a b⟩, fun q => absurd q (by decide)⟩) (fun c22 => ⟨fun q => absurd rfl q, fun _ => m_isWord (fun a b => ⟨fun _ => ⟨_, rfl, yes 422608071022 (by decide) a b⟩, fun q => absurd q (by decide)⟩) (fun c23 => ⟨fun q => absurd rfl q, fun _ => m_isWord (fun a b => ⟨fun _ => ⟨_, rfl, yes 6385252 (by decide) a b⟩, fun q => absurd q (by decide)⟩) (fun c24 => ⟨fun q => absurd rfl q, fun _ => m_isWord (fun a b => ⟨fun _ => ⟨_, rfl, yes 28530 (by decide) a b⟩, fun q => absurd q (by decide)⟩) (fun c25 => ⟨fun q => absurd rfl q, fun _ => m_isWord (fun a b => ⟨fun _ => ⟨_, rfl, yes 7237492 (by decide) a b⟩, fun q => absurd q (by decide)⟩) (fun c26 => ⟨fun q => absurd rfl q, fun _ => m_whole hL hq he hT k0 k1 k2 hb ?_⟩)⟩)⟩)⟩)⟩)⟩)⟩)⟩)⟩)⟩)⟩)⟩)⟩)⟩)⟩)⟩)⟩)⟩)⟩)⟩)⟩)⟩)⟩)⟩)⟩)⟩)⟩)))
  have hall : ∀ w : Int64, w ∈ KR → ¬ (gI σ 1213 m 0 = 1 ∧ gJ σ 1216 m 0 = w) := by
    intro w hw
    simp only [KR, List.mem_cons, List.not_mem_nil, or_false] at hw
    rcases hw with rfl | rfl | rfl | rfl | rfl | rfl | rfl | rfl | rfl | rfl | rfl | rfl | rfl | rfl | rfl | rfl | rfl | rfl | rfl | rfl | rfl | rfl | rfl | rfl | rfl | rfl | rfl <;> assumption
  by_cases a : gI σ 1213 m 0 = 1
  · rw [if_pos a]
    by_cases t : tyV T q e = -1
    · rw [if_pos t]
      rw [if_neg (fun z => z.2.elim (fun y => hall _ y ⟨a, rfl⟩) (fun y => y t))] at h
      exact ⟨fun _ => ⟨_, rfl, h⟩, fun y => absurd (by decide) y⟩
    · rw [if_neg t]
      have := ty_pos t
      rw [if_pos ⟨a, Or.inr t⟩] at h
      exact ⟨fun y => absurd y (by omega), fun _ => ⟨_, rfl, h⟩⟩
  · rw [if_neg a]
    rw [if_neg (fun z => a z.1)] at h
    exact ⟨fun _ => ⟨_, rfl, h⟩, fun y => absurd (by decide) y⟩
theorem m_isName {q e : Int} {T : Int → Int} {P : Int → St → Prop} (hL : LC 12 σ m) (hq : gI σ 1214 m 0 = q) (he : gI σ 1215 m 0 = e) (hT : ∀ i : Int, gI σ 1210 m i.toNat = T i) (k0 : 0 ≤ q) (k1 : q ≤ e) (k2 : e ≤ 3000) (hb : ∀ i : Int, q ≤ i → i < e → 0 ≤ T i ∧ T i ≤ 255)
    (h : P (if gI σ 1213 m 0 = 1 ∧ ¬ gJ σ 1216 m 0 ∈ KR ∧ tyV T q e = -1 then 1 else 0) σ) : ACi g l (d + 2) MX12_isName [vR 12 (some m)] σ P := by
  refine AC.of mo_X12_isName (Nat.le_of_ble_eq_true rfl) (bk_X12_isName_0 ⟨fun z => ⟨_, rfl, by rw [if_neg (fun y => z y.1)] at h; exact h⟩, fun z => m_isKeyword hL hq he hT k0 k1 k2 hb ?_⟩)
  by_cases c : gJ σ 1216 m 0 ∈ KR ∨ ¬ tyV T q e = -1
  · rw [if_pos ⟨z, c⟩]
    rw [if_neg (fun y => c.elim y.2.1 (fun w => w y.2.2))] at h
    exact ⟨fun _ => ⟨_, rfl, h⟩, fun y => absurd y (by decide)⟩
  · rw [if_neg (fun y => c y.2)]
    rw [if_pos ⟨z, fun w => c (Or.inl w), Decidable.byContradiction (fun w => c (Or.inr w))⟩] at h
    exact ⟨fun y => absurd rfl y, fun _ => ⟨_, rfl, h⟩⟩
end M14
