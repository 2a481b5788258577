/-! the calls hex, masked, differ -/
section OP9
theorem i_and15 (x : Int) : i_and x 15 = x % 16 := by
  have h : ∀ y : Int32, (y &&& 15).toInt = y.toInt % 16 := fun y => by
    have e : (y &&& 15).toBitVec = BitVec.ofNat 32 (y.toBitVec.toNat % 16) := by
      apply BitVec.eq_of_toNat_eq
      rw [show (y &&& 15).toBitVec = y.toBitVec &&& (15 : BitVec 32) from rfl, BitVec.toNat_and, show (15 : BitVec 32).toNat = 2 ^ 4 - 1 from rfl, Nat.and_two_pow_sub_one_eq_mod, BitVec.toNat_ofNat]
      omega
    have e2 : (y &&& 15).toInt = ((y.toBitVec.toNat % 16 : Nat) : Int) := by
      show (y &&& 15).toBitVec.toInt = _
      rw [e, BitVec.toInt_eq_toNat_cond, BitVec.toNat_ofNat, if_pos (by omega)]
      omega
    rw [e2]
    show _ = y.toBitVec.toInt % 16
    rw [BitVec.toInt_eq_toNat_cond]
    split <;> omega
  unfold i_and
  rw [show Int32.ofInt 15 = 15 from rfl, h, show (Int32.ofInt x).toInt = x.bmod (2 ^ 32) from Int32.toInt_ofInt, Int.bmod_def]
  split <;> omega
theorem i_rem_pos {x y : Int} (h0 : 0 ≤ x) (h1 : x < 2147483648) (h2 : 0 < y) (h3 : y < 2147483648) : i_rem x y = x % y := by
  have e := i_div_pos h0 h1 h2 h3
  unfold i_div at e
  unfold i_rem
  have hx : (Int32.ofInt x).toInt = x := by rw [Int32.toInt_ofInt]; exact Int.bmod_eq_of_le (by simp only [Int32.size]; omega) (by simp only [Int32.size]; omega)
  have hy : (Int32.ofInt y).toInt = y := by rw [Int32.toInt_ofInt]; exact Int.bmod_eq_of_le (by simp only [Int32.size]; omega) (by simp only [Int32.size]; omega)
  have d1 : 0 ≤ x / y * y := Int.mul_nonneg (Int.ediv_nonneg h0 (by omega)) (by omega)
  have d2 := Int.emod_add_mul_ediv x y
  have d3 := Int.emod_nonneg x (b := y) (by omega)
  have d4 : x / y * y = y * (x / y) := Int.mul_comm _ _
  rw [Int32.toInt_sub, Int32.toInt_mul, e, hx, hy, Int.bmod_eq_of_le (n := x / y * y) (by omega) (by omega), Int.bmod_eq_of_le (by omega) (by omega)]
  omega
set_option maxRecDepth 20000 in
theorem i_shr4 : ∀ n : Nat, n < 256 → i_shr (n : Int) 4 = ((n / 16 : Nat) : Int) := by decide
def fg (n : Int) : Int := if 10 ≤ n then 97 + n - 10 else 48 + n
def pr (b : Int) : Int := if b < 32 then 46 else if 126 < b then 46 else b
variable {g : GP} {l : Launch} {d : Nat} {σ : St} {x m : Nat}
theorem j_max {a b : Int} {P : Int → St → Prop} (h : P (max a b) σ) : ACi g l d MJ9_max_7cf53 [vI a, vI b] σ P :=
  AC.of mo_J9_max_7cf53 (Nat.le_of_ble_eq_true rfl) (bk_J9_max_7cf53_0 ⟨fun q => ⟨_, rfl, by rw [show max a b = b by omega] at h; exact h⟩, fun q => ⟨_, rfl, by rw [show max a b = a by omega] at h; exact h⟩⟩)
theorem j_min {a b : Int} {P : Int → St → Prop} (h : P (min a b) σ) : ACi g l d MJ9_min_7cf53 [vI a, vI b] σ P :=
  AC.of mo_J9_min_7cf53 (Nat.le_of_ble_eq_true rfl) (bk_J9_min_7cf53_0 ⟨fun q => ⟨_, rfl, by rw [show min a b = b by omega] at h; exact h⟩, fun q => ⟨_, rfl, by rw [show min a b = a by omega] at h; exact h⟩⟩)
theorem x_figureOf {n : Int} {P : Int → St → Prop} (h : P (fg (n % 16)) σ) : ACi g l d MX11_figureOf [vI n] σ P := by
  refine AC.of mo_X11_figureOf (Nat.le_of_ble_eq_true rfl) (bk_X11_figureOf_0 ?_)
  rw [i_and15]
  unfold fg at h
  refine ⟨fun q => ⟨⟨by omega, by omega⟩, ⟨by omega, by omega⟩, _, rfl, by rw [if_pos q] at h; exact h⟩, fun q => ⟨⟨by omega, by omega⟩, _, rfl, by rw [if_neg q] at h; exact h⟩⟩
theorem m_figure {n : Int} {P : Int → St → Prop} (h0 : 0 ≤ n) (h1 : n ≤ 15) (h : P (fg n) σ) : ACi g l d MX12_figure [vR 12 (some m), vI n] σ P := by
  refine AC.of mo_X12_figure (Nat.le_of_ble_eq_true rfl) (bk_X12_figure_0 ?_)
  unfold fg at h
  refine ⟨fun q => ⟨⟨by omega, by omega⟩, ⟨by omega, by omega⟩, _, rfl, by rw [if_pos q] at h; exact h⟩, fun q => ⟨⟨by omega, by omega⟩, _, rfl, by rw [if_neg q] at h; exact h⟩⟩
def hx (n row i : Int) (b : Int → Int) : Int :=
  if i < 4 then fg (i_shr (16 * row) (4 * (3 - i)) % 16) else if i = 4 then 58 else if i < 53 then (if n ≤ (i - 5) / 3 then 32 else if (i - 5) % 3 = 0 then 32 else if (i - 5) % 3 = 1 then fg (b (16 * row + (i - 5) / 3) / 16) else fg (b (16 * row + (i - 5) / 3) % 16))
  else if i = 53 then 32 else if i = 54 then 124 else if i = 55 + n then 124 else if 55 + n < i then -1 else pr (b (16 * row + i - 55))
theorem m_hex {im row i n : Int} {P : Int → St → Prop} (hm : LC 12 σ m) (h1 : 0 ≤ im) (h2 : im < 6) (h3 : 0 ≤ gI σ 1202 m im.toNat) (h4 : gI σ 1202 m im.toNat ≤ 4) (hl : gI σ 1201 m im.toNat ≤ 2000) (hi : i < 2147483648)
    (hb : ∀ p, 0 ≤ p → p < gI σ 1201 m im.toNat → 0 ≤ hasM σ m im p ∧ hasM σ m im p ≤ 255) (hr0 : 0 ≤ row) (hr1 : 16 * row + n ≤ gI σ 1201 m im.toNat) (hn0 : 1 ≤ n) (hn1 : n ≤ 16) (hi0 : 0 ≤ i) (h : P (hx n row i (hasM σ m im)) σ) :
    AW g l (d + 2) MX12_hex 69 [some (vR 12 (some m)), some (vI im), some (vI row), some (vI i), none, none, none, none] [vI n] σ (fun v σ' => ∃ r, v = some (vI r) ∧ P r σ') := by
  unfold hx at h
  refine bk_X12_hex_69 ⟨fun q4 => ?_, fun q4 => ⟨⟨by omega, by omega⟩, ⟨by omega, by omega⟩, ⟨by omega, by omega⟩, ?_⟩⟩
  · rw [if_neg (by omega)] at h
    refine ⟨fun q => ?_, fun q => by rw [if_pos q] at h; exact ⟨_, rfl, h⟩⟩
    rw [if_neg q] at h
    refine ⟨fun q53 => ?_, fun q53 => ⟨⟨by omega, by omega⟩, ?_⟩⟩
    · rw [if_neg (by omega)] at h
      refine ⟨fun q1 => ?_, fun q1 => by rw [if_pos q1] at h; exact ⟨_, rfl, h⟩⟩
      rw [if_neg q1] at h
      refine ⟨fun q2 => by rw [if_pos q2] at h; exact ⟨_, rfl, h⟩, fun q2 => ⟨⟨by omega, by omega⟩, ?_⟩⟩
      rw [if_neg q2] at h
      refine ⟨fun q3 => ?_, fun q3 => by rw [if_pos q3] at h; exact ⟨_, rfl, h⟩⟩
      rw [if_neg q3] at h
      refine ⟨fun q5 => ⟨⟨by omega, by omega⟩, ⟨by omega, by omega⟩, ⟨by omega, by omega⟩, m_has hm h1 h2 h3 h4 (by omega) (by omega) ?_⟩, fun q5 => by rw [if_pos (by omega)] at h; exact ⟨_, rfl, h⟩⟩
      rw [if_neg (by omega)] at h
      unfold pr at h
      refine ⟨fun z => by rw [if_pos z] at h; exact ⟨_, rfl, h⟩, fun z => ⟨fun z2 => by rw [if_neg z, if_pos z2] at h; exact ⟨_, rfl, h⟩, fun z2 => by rw [if_neg z, if_neg z2] at h; exact ⟨_, rfl, h⟩⟩⟩
    · rw [if_pos (by omega)] at h
      rw [i_div_pos (by omega) (by omega) (by omega) (by omega), i_rem_pos (by omega) (by omega) (by omega) (by omega)]
      refine ⟨fun q1 => by rw [if_pos q1] at h; exact ⟨_, rfl, h⟩, fun q1 => ?_⟩
      rw [if_neg q1] at h
      refine ⟨fun q2 => ?_, fun q2 => by rw [if_pos q2] at h; exact ⟨_, rfl, h⟩⟩
      rw [if_neg q2] at h
      have hbb := hb (16 * row + (i - 5) / 3) (by omega) (by omega)
      refine ⟨⟨by omega, by omega⟩, ⟨by omega, by omega⟩, m_has hm h1 h2 h3 h4 (by omega) (by omega) ⟨fun q3 => ?_, fun q3 => ?_⟩⟩
      · rw [if_neg q3] at h
        rw [i_and15]
        exact m_figure (by omega) (by omega) ⟨_, rfl, h⟩
      · rw [if_pos q3] at h
        obtain ⟨k, hk⟩ : ∃ k : Nat, hasM σ m im (16 * row + (i - 5) / 3) = k := ⟨_, (Int.toNat_of_nonneg hbb.1).symm⟩
        rw [hk] at h hbb ⊢
        rw [i_shr4 k (by omega)]
        exact m_figure (by omega) (by omega) ⟨_, rfl, h⟩
  · rw [if_pos (by omega)] at h
    rw [i_and15]
    exact m_figure (by omega) (by omega) ⟨_, rfl, h⟩
theorem op_hex {im row i : Int} (hI : ImgI σ x m) (hi : i < 2147483648) : ACi g l (d + 6) MX11_hex [vR 11 (some x), vI im, vI row, vI i] σ (fun a σ1 => ACi g l (d + 6) MX12_hex [vR 12 (some m), vI im, vI row, vI i] σ1 (fun b σ2 => a = b ∧ σ2 = σ)) := by
  have h6 := hI.2.2.2.2.1
  have he := hI.2.2.2.2.2.1
  refine AC.of mo_X11_hex (Nat.le_of_ble_eq_true rfl) (bk_X11_hex_0 (x_imageOf hI.1 h6.2 (fun hn => ⟨fun _ => ⟨_, rfl, ?_⟩, (fun _ q => nomatch q)⟩) (fun h0 h1 => ?_)))
  · refine AC.of mo_X12_hex (Nat.le_of_ble_eq_true rfl) (bk_X12_hex_0 (m_isImage ?_))
    rw [if_neg (by omega)]
    exact ⟨fun _ => ⟨_, rfl, rfl, rfl⟩, fun q => absurd rfl q⟩
  obtain ⟨e1, hc, hr, hi6, hi2⟩ := hI.im h0 h1
  have hlen := hc.2.1
  have hlc := hc.2.2.1
  have r1 := hr.1
  have r2 := hr.2.1
  rw [e1]
  refine ⟨(fun q => nomatch q), fun r q => ?_⟩
  obtain rfl : img σ x im = r := by simpa using q
  generalize ha : img σ x im = a at *
  have hb : ∀ p, 0 ≤ p → p < gI σ 304 a 0 → 0 ≤ hasM σ m im p ∧ hasM σ m im p ≤ 255 := fun p p0 p1 => by
    rw [← hr.has hc p0 p1]; exact hc.now p0 p1
  have ref : ∀ (v : Int), ((row < 0 ∨ 125 ≤ row ∨ gI σ 304 a 0 ≤ 16 * row ∨ i < 0) → v = -1) → (0 ≤ row → row < 125 → 16 * row < gI σ 304 a 0 → 0 ≤ i → v = hx (min 16 (gI σ 304 a 0 - 16 * row)) row i (hasM σ m im)) → ACi g l (d + 6) MX12_hex [vR 12 (some m), vI im, vI row, vI i] σ (fun b σ2 => v = b ∧ σ2 = σ) := by
    intro v hA hB
    refine AC.of mo_X12_hex (Nat.le_of_ble_eq_true rfl) (bk_X12_hex_0 (m_isImage ?_))
    rw [if_pos ⟨h0, hi2⟩]
    refine ⟨fun q => absurd q (by decide), fun _ => ⟨fun q => ⟨_, rfl, hA (by omega), rfl⟩, fun q => ⟨fun q2 => ⟨_, rfl, hA (by omega), rfl⟩, fun q2 => ⟨⟨by omega, by omega⟩, hI.2.1, ⟨by omega, by omega⟩, ?_⟩⟩⟩⟩
    rw [← r1]
    refine ⟨fun q3 => ⟨_, rfl, hA (by omega), rfl⟩, fun q3 => ⟨fun q4 => ⟨⟨by omega, by omega⟩, fun q5 => ?_, fun q5 => ?_⟩, fun q4 => ⟨_, rfl, hA (by omega), rfl⟩⟩⟩
    · have hB := hB (by omega) (by omega) (by omega) q4
      rw [show min 16 (gI σ 304 a 0 - 16 * row) = 16 by omega] at hB
      exact m_hex hI.2.1 h0 hi6 (by omega) (by omega) (by omega) hi (by rw [← r1]; exact hb) (by omega) (by omega) (by omega) (by omega) q4 ⟨hB, rfl⟩
    · have hB := hB (by omega) (by omega) (by omega) q4
      rw [show min 16 (gI σ 304 a 0 - 16 * row) = gI σ 304 a 0 - 16 * row by omega] at hB
      exact m_hex hI.2.1 h0 hi6 (by omega) (by omega) (by omega) hi (by rw [← r1]; exact hb) (by omega) (by omega) (by omega) (by omega) q4 ⟨hB, rfl⟩
  refine ⟨fun q => ⟨_, rfl, ref _ (fun _ => rfl) (fun _ => by omega)⟩, fun q => ⟨fun q2 => ⟨_, rfl, ref _ (fun _ => rfl) (fun _ => by omega)⟩, fun q2 => ⟨⟨by omega, by omega⟩, fun q3 => ⟨⟨by omega, by omega⟩, j_min ?_⟩, fun q3 => ⟨_, rfl, ref _ (fun _ => rfl) (fun _ _ => by omega)⟩⟩⟩⟩
  generalize hn : min 16 (gI σ 304 a 0 - 16 * row) = n at *
  refine ⟨fun q4 => ⟨fun q53 => ⟨fun q55 => ⟨⟨by omega, by omega⟩, fun q6 => ⟨fun q7 => ⟨_, rfl, ref _ (by omega) (fun _ _ _ _ => ?_)⟩, fun q7 => ⟨_, rfl, ref _ (by omega) (fun _ _ _ _ => ?_)⟩⟩, fun q6 => ⟨⟨by omega, by omega⟩, ⟨by omega, by omega⟩, x_has hc.1 (by omega) (fun z => absurd ⟨by omega, by omega⟩ z) (fun z0 z1 => ?_)⟩⟩, fun q55 => ⟨fun q6 => ⟨_, rfl, ref _ (by omega) (fun _ _ _ _ => ?_)⟩, fun q6 => ⟨_, rfl, ref _ (by omega) (fun _ _ _ _ => ?_)⟩⟩⟩, fun q53 => ⟨fun q6 => ⟨⟨by omega, by omega⟩, ?_⟩, fun q6 => ⟨_, rfl, ref _ (by omega) (fun _ _ _ _ => ?_)⟩⟩⟩, fun q4 => ⟨fun q6 => ⟨⟨by omega, by omega⟩, ⟨by omega, by omega⟩, x_figureOf ⟨_, rfl, ref _ (by omega) (fun _ _ _ _ => ?_)⟩⟩, fun q6 => ⟨_, rfl, ref _ (fun _ => rfl) (fun _ _ _ _ => by omega)⟩⟩⟩
  · unfold hx; rw [if_neg (by omega), if_neg (by omega), if_neg (by omega), if_neg (by omega), if_neg (by omega), if_neg (by omega), if_pos (by omega)]
  · unfold hx; rw [if_neg (by omega), if_neg (by omega), if_neg (by omega), if_neg (by omega), if_neg (by omega), if_pos (by omega)]
  · have e : hx n row i (hasM σ m im) = pr (gI σ 301 a (16 * row + i - 55).toNat) := by
      unfold hx; rw [if_neg (by omega), if_neg (by omega), if_neg (by omega), if_neg (by omega), if_neg (by omega), if_neg (by omega), if_neg (by omega), hr.has hc z0 z1]
    unfold pr at e
    refine ⟨fun z => ⟨_, rfl, ref _ (by omega) (fun _ _ _ _ => by rw [e, if_pos z])⟩, fun z => ⟨fun z2 => ⟨_, rfl, ref _ (by omega) (fun _ _ _ _ => by rw [e, if_neg z, if_pos z2])⟩, fun z2 => ⟨_, rfl, ref _ (by omega) (fun _ _ _ _ => by rw [e, if_neg z, if_neg z2])⟩⟩⟩
  · unfold hx; rw [if_neg (by omega), if_neg (by omega), if_neg (by omega), if_neg (by omega), if_pos (by omega)]
  · unfold hx; rw [if_neg (by omega), if_neg (by omega), if_neg (by omega), if_pos (by omega)]
  · have e : hx n row i (hasM σ m im) = (if n ≤ (i - 5) / 3 then 32 else if (i - 5) % 3 = 0 then 32 else if (i - 5) % 3 = 1 then fg (hasM σ m im (16 * row + (i - 5) / 3) / 16) else fg (hasM σ m im (16 * row + (i - 5) / 3) % 16)) := by
      unfold hx; rw [if_neg (by omega), if_neg (by omega), if_pos (by omega)]
    refine AC.of mo_X11_cellByte (Nat.le_of_ble_eq_true rfl) (bk_X11_cellByte_0 ?_)
    rw [i_div_pos (by omega) (by omega) (by omega) (by omega), i_rem_pos (by omega) (by omega) (by omega) (by omega)]
    refine ⟨⟨by omega, by omega⟩, a, rfl, x_has hc.1 (by omega) (fun z => ⟨fun _ => ⟨_, rfl, _, rfl, ref _ (by omega) (fun _ _ _ _ => ?_)⟩, fun q => absurd rfl q⟩) (fun z0 z1 => ?_)⟩
    · rw [e, if_pos (by omega)]
    have hbb := hb _ z0 z1
    rw [hr.has hc z0 z1]
    rw [if_neg (by omega)] at e
    refine ⟨fun z => absurd z (by omega), fun _ => ⟨fun z => ⟨fun z2 => x_figureOf ⟨_, rfl, _, rfl, ref _ (by omega) (fun _ _ _ _ => ?_)⟩, fun z2 => ?_⟩, fun z => ⟨_, rfl, _, rfl, ref _ (by omega) (fun _ _ _ _ => ?_)⟩⟩⟩
    · rw [e, if_neg z, if_neg z2]
    · obtain ⟨k, hk⟩ : ∃ k : Nat, hasM σ m im (16 * row + (i - 5) / 3) = k := ⟨_, (Int.toNat_of_nonneg hbb.1).symm⟩
      rw [hk] at e hbb ⊢
      rw [i_shr4 k (by omega)]
      refine x_figureOf ⟨_, rfl, _, rfl, ref _ (by omega) (fun _ _ _ _ => ?_)⟩
      rw [e, if_neg z, if_pos z2]
      congr 1
      omega
    · rw [e, if_pos z]
  · unfold hx; rw [if_neg (by omega), if_pos (by omega)]
  · unfold hx; rw [if_pos (by omega), show 12 - 4 * i = 4 * (3 - i) by omega]
end OP9
