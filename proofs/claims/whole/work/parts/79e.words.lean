/-! words: the class's (first letter lowest) and the reference's (first letter highest) -/
theorem wdR_rv {T : Int → Int} {q : Int} : ∀ k : Nat, wdR T q k = rv (fun i => T (q + i)) k
  | 0 => rfl
  | k + 1 => by unfold wdR rv; rw [wdR_rv k]
theorem U64_i2j {b : Int} (h0 : 0 ≤ b) (h1 : b ≤ 255) : U64 (i2j b) = b.toNat := by
  have := U64_toInt (i2j b)
  rw [i2j_toInt, w32_id (by omega) (by omega)] at this
  have := U64_lt (i2j b)
  omega
theorem U64_put {x : Int64} {b : Int} {k : Nat} (hk : k < 8) (hx : U64 x < 2 ^ (8 * k)) (h0 : 0 ≤ b) (h1 : b ≤ 255) : U64 (x ||| j_shl (i2j b) (8 * (k : Int))) = b.toNat * 2 ^ (8 * k) + U64 x := by
  have e1 : U64 (x ||| j_shl (i2j b) (8 * (k : Int))) = U64 x ||| U64 (j_shl (i2j b) (8 * (k : Int))) := rfl
  have e2 : U64 (j_shl (i2j b) (8 * (k : Int))) = (U64 (i2j b) <<< (8 * k)) % 2 ^ 64 := by
    rcases c8n hk with rfl | rfl | rfl | rfl | rfl | rfl | rfl | rfl <;> rfl
  have e3 : (b.toNat <<< (8 * k)) % 2 ^ 64 = b.toNat <<< (8 * k) := by
    rw [Nat.shiftLeft_eq]
    rcases c8n hk with rfl | rfl | rfl | rfl | rfl | rfl | rfl | rfl <;> omega
  rw [e1, e2, U64_i2j h0 h1, e3, Nat.or_comm, ← Nat.shiftLeft_add_eq_or_of_lt hx, Nat.shiftLeft_eq]
theorem byt_put {x : Int64} {b i : Int} {k : Nat} (hk : k < 8) (hx : U64 x < 2 ^ (8 * k)) (h0 : 0 ≤ b) (h1 : b ≤ 255) (hi : 0 ≤ i) (hi7 : i ≤ 7) : byt (x ||| j_shl (i2j b) (8 * (k : Int))) i = if i < k then byt x i else if i = k then b else 0 := by
  rw [byt_U _ hi hi7, U64_put hk hx h0 h1, byt_U x hi hi7]
  generalize U64 x = X at *
  obtain ⟨j, rfl⟩ : ∃ j : Nat, i = j := ⟨i.toNat, by omega⟩
  rw [Int.toNat_natCast]
  have hj : j < 8 := by omega
  rcases c8n hk with rfl | rfl | rfl | rfl | rfl | rfl | rfl | rfl <;> rcases c8n hj with rfl | rfl | rfl | rfl | rfl | rfl | rfl | rfl <;> simp only [Nat.reducePow, Nat.reduceMul] at * <;> first | (rw [if_pos (by decide)]; omega) | (rw [if_neg (by decide), if_pos (by decide)]; omega) | (rw [if_neg (by decide), if_neg (by decide)]; omega)
theorem byt_wdF {T : Int → Int} {q : Int} : ∀ k : Nat, k ≤ 8 → (∀ i : Int, 0 ≤ i → i < k → 0 ≤ T (q + i) ∧ T (q + i) ≤ 255) → U64 (wdF T q k) < 2 ^ (8 * k) ∧ ∀ i : Int, 0 ≤ i → i ≤ 7 → byt (wdF T q k) i = if i < k then T (q + i) else 0
  | 0, _, _ => ⟨by show U64 0 < 1; decide, fun i h0 h7 => by
    rw [if_neg (by omega)]
    show byt 0 i = 0
    unfold byt
    rw [show (0 : Int64).toInt = 0 from rfl, Int.zero_ediv]
    rfl⟩
  | k + 1, hk, h => by
    obtain ⟨a, b⟩ := byt_wdF (T := T) (q := q) k (by omega) (fun i h0 h1 => h i h0 (by omega))
    have hb := h k (by omega) (by omega)
    unfold wdF
    refine ⟨?_, fun i h0 h7 => ?_⟩
    · rw [U64_put (by omega) a hb.1 hb.2, show 8 * (k + 1) = 8 * k + 8 by omega, Nat.pow_add]
      have : (T (q + k)).toNat * 2 ^ (8 * k) ≤ 255 * 2 ^ (8 * k) := Nat.mul_le_mul_right _ (by omega)
      omega
    · rw [byt_put (by omega) a hb.1 hb.2 h0 h7, b i h0 h7]
      by_cases e : i < k
      · rw [if_pos e, if_pos e, if_pos (by omega)]
      · rw [if_neg e]
        by_cases e2 : i = k
        · rw [if_pos e2, if_pos (by omega), e2]
        · rw [if_neg e2, if_neg (by omega)]
theorem wdF_iff {T T' : Int → Int} {q q' : Int} {k k' : Nat} (h8 : k ≤ 8) (h8' : k' ≤ 8) (h : ∀ i : Int, 0 ≤ i → i < k → 1 ≤ T (q + i) ∧ T (q + i) ≤ 255) (h' : ∀ i : Int, 0 ≤ i → i < k' → 1 ≤ T' (q' + i) ∧ T' (q' + i) ≤ 255) :
    wdF T q k = wdF T' q' k' ↔ k = k' ∧ ∀ i : Int, 0 ≤ i → i < k → T (q + i) = T' (q' + i) := by
  have b1 := (byt_wdF (T := T) (q := q) k h8 (fun i z0 z1 => by have := h i z0 z1; omega)).2
  have b2 := (byt_wdF (T := T') (q := q') k' h8' (fun i z0 z1 => by have := h' i z0 z1; omega)).2
  constructor
  · intro e
    rw [e] at b1
    have c : ∀ i : Int, 0 ≤ i → i ≤ 7 → (if i < (k : Int) then T (q + i) else 0) = (if i < (k' : Int) then T' (q' + i) else 0) := fun i z0 z1 => by rw [← b1 i z0 z1, b2 i z0 z1]
    have ek : k = k' := by
      rcases Nat.lt_trichotomy k k' with z | z | z
      · have := c k (by omega) (by omega)
        rw [if_neg (by omega), if_pos (by omega)] at this
        have := h' k (by omega) (by omega)
        omega
      · exact z
      · have := c k' (by omega) (by omega)
        rw [if_pos (by omega), if_neg (by omega)] at this
        have := h k' (by omega) (by omega)
        omega
    refine ⟨ek, fun i z0 z1 => ?_⟩
    have := c i z0 (by omega)
    rw [if_pos z1, if_pos (by omega)] at this
    exact this
  · rintro ⟨rfl, e⟩
    refine byt_ext (fun i z0 z1 => ?_)
    rw [b1 i z0 z1, b2 i z0 z1]
    by_cases z : i < (k : Int)
    · rw [if_pos z, if_pos z, e i z0 z]
    · rw [if_neg z, if_neg z]
theorem wdR_iff {T T' : Int → Int} {q q' : Int} {k k' : Nat} (h8 : k ≤ 8) (h8' : k' ≤ 8) (h : ∀ i : Int, 0 ≤ i → i < k → 1 ≤ T (q + i) ∧ T (q + i) ≤ 255) (h' : ∀ i : Int, 0 ≤ i → i < k' → 1 ≤ T' (q' + i) ∧ T' (q' + i) ≤ 255) :
    wdR T q k = wdR T' q' k' ↔ k = k' ∧ ∀ i : Int, 0 ≤ i → i < k → T (q + i) = T' (q' + i) := by
  have b1 : ∀ i : Int, 0 ≤ i → i ≤ 7 → byt (wdR T q k) i = if i < (k : Int) then T (q + (k - 1 - i)) else 0 := by rw [wdR_rv]; exact byt_rv k (fun i z0 z1 => by have := h i z0 z1; omega)
  have b2 : ∀ i : Int, 0 ≤ i → i ≤ 7 → byt (wdR T' q' k') i = if i < (k' : Int) then T' (q' + (k' - 1 - i)) else 0 := by rw [wdR_rv]; exact byt_rv k' (fun i z0 z1 => by have := h' i z0 z1; omega)
  constructor
  · intro e
    rw [e] at b1
    have c : ∀ i : Int, 0 ≤ i → i ≤ 7 → (if i < (k : Int) then T (q + (k - 1 - i)) else 0) = (if i < (k' : Int) then T' (q' + (k' - 1 - i)) else 0) := fun i z0 z1 => by rw [← b1 i z0 z1, b2 i z0 z1]
    have ek : k = k' := by
      rcases Nat.lt_trichotomy k k' with z | z | z
      · have := c k (by omega) (by omega)
        rw [if_neg (by omega), if_pos (by omega)] at this
        have := h' (k' - 1 - k) (by omega) (by omega)
        omega
      · exact z
      · have := c k' (by omega) (by omega)
        rw [if_pos (by omega), if_neg (by omega)] at this
        have := h (k - 1 - k') (by omega) (by omega)
        omega
    refine ⟨ek, fun i z0 z1 => ?_⟩
    have := c (k - 1 - i) (by omega) (by omega)
    rw [if_pos (by omega), if_pos (by omega), ← ek, show (k : Int) - 1 - (k - 1 - i) = i by omega] at this
    exact this
  · rintro ⟨rfl, e⟩
    refine byt_ext (fun i z0 z1 => ?_)
    rw [b1 i z0 z1, b2 i z0 z1]
    by_cases z : i < (k : Int)
    · rw [if_pos z, if_pos z, e _ (by omega) (by omega)]
    · rw [if_neg z, if_neg z]
/-- two words are one in the class just if they are one in the reference -/
theorem wd_iff {T T' : Int → Int} {q q' : Int} {k k' : Nat} (h8 : k ≤ 8) (h8' : k' ≤ 8) (h : ∀ i : Int, 0 ≤ i → i < k → 1 ≤ T (q + i) ∧ T (q + i) ≤ 255) (h' : ∀ i : Int, 0 ≤ i → i < k' → 1 ≤ T' (q' + i) ∧ T' (q' + i) ≤ 255) : wdF T q k = wdF T' q' k' ↔ wdR T q k = wdR T' q' k' := by
  rw [wdF_iff h8 h8' h h', wdR_iff h8 h8' h h']
