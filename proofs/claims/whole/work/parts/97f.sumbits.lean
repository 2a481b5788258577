/-! sums: a long by its low bytes -/
theorem xm_iff (a b m : Int64) : ((a ^^^ b) &&& m) = 0 ↔ a &&& m = b &&& m := by
  rw [← Int64.toBitVec_inj, ← Int64.toBitVec_inj, Int64.toBitVec_and, Int64.toBitVec_and, Int64.toBitVec_and, Int64.toBitVec_xor]
  generalize a.toBitVec = A
  generalize b.toBitVec = B
  generalize m.toBitVec = M
  constructor
  · intro e
    apply BitVec.eq_of_getLsbD_eq
    intro i hi
    have := congrArg (fun v => v.getLsbD i) e
    simp only [BitVec.getLsbD_and, BitVec.getLsbD_xor] at this ⊢
    have z : (Int64.toBitVec 0).getLsbD i = false := by show (BitVec.getLsbD 0#64 i) = false; simp
    rw [z] at this
    revert this
    cases A.getLsbD i <;> cases B.getLsbD i <;> cases M.getLsbD i <;> decide
  · intro e
    apply BitVec.eq_of_getLsbD_eq
    intro i hi
    have := congrArg (fun v => v.getLsbD i) e
    simp only [BitVec.getLsbD_and, BitVec.getLsbD_xor] at this ⊢
    have z : (Int64.toBitVec 0).getLsbD i = false := by show (BitVec.getLsbD 0#64 i) = false; simp
    rw [z]
    revert this
    cases A.getLsbD i <;> cases B.getLsbD i <;> cases M.getLsbD i <;> decide
theorem sg_1 (x : Int64) : (((j_shr (j_shl x 56) 56).toInt - (U64 x : Int)) % 256 = 0) := by
  have e0 : U64 (j_shl x 56) = (U64 x <<< 56) % 2 ^ 64 := rfl
  rw [Nat.shiftLeft_eq] at e0
  have e1 := shr8 (j_shl x 56) (i := 7) (by decide) (by decide)
  rw [show (8 * 7 : Int) = 56 from rfl, show ((7 : Int).toNat) = 7 from rfl, show (256 : Int) ^ 7 = 72057594037927936 from rfl, U64_toInt (j_shl x 56), e0] at e1
  rw [e1]
  have := U64_lt x
  generalize U64 x = X at *
  clear e0 e1
  omega
theorem sg_2 (x : Int64) : (((j_shr (j_shl x 48) 48).toInt - (U64 x : Int)) % 65536 = 0) := by
  have e0 : U64 (j_shl x 48) = (U64 x <<< 48) % 2 ^ 64 := rfl
  rw [Nat.shiftLeft_eq] at e0
  have e1 := shr8 (j_shl x 48) (i := 6) (by decide) (by decide)
  rw [show (8 * 6 : Int) = 48 from rfl, show ((6 : Int).toNat) = 6 from rfl, show (256 : Int) ^ 6 = 281474976710656 from rfl, U64_toInt (j_shl x 48), e0] at e1
  rw [e1]
  have := U64_lt x
  generalize U64 x = X at *
  clear e0 e1
  omega
theorem sg_3 (x : Int64) : (((j_shr (j_shl x 40) 40).toInt - (U64 x : Int)) % 16777216 = 0) := by
  have e0 : U64 (j_shl x 40) = (U64 x <<< 40) % 2 ^ 64 := rfl
  rw [Nat.shiftLeft_eq] at e0
  have e1 := shr8 (j_shl x 40) (i := 5) (by decide) (by decide)
  rw [show (8 * 5 : Int) = 40 from rfl, show ((5 : Int).toNat) = 5 from rfl, show (256 : Int) ^ 5 = 1099511627776 from rfl, U64_toInt (j_shl x 40), e0] at e1
  rw [e1]
  have := U64_lt x
  generalize U64 x = X at *
  clear e0 e1
  omega
theorem sg_4 (x : Int64) : (((j_shr (j_shl x 32) 32).toInt - (U64 x : Int)) % 4294967296 = 0) := by
  have e0 : U64 (j_shl x 32) = (U64 x <<< 32) % 2 ^ 64 := rfl
  rw [Nat.shiftLeft_eq] at e0
  have e1 := shr8 (j_shl x 32) (i := 4) (by decide) (by decide)
  rw [show (8 * 4 : Int) = 32 from rfl, show ((4 : Int).toNat) = 4 from rfl, show (256 : Int) ^ 4 = 4294967296 from rfl, U64_toInt (j_shl x 32), e0] at e1
  rw [e1]
  have := U64_lt x
  generalize U64 x = X at *
  clear e0 e1
  omega
theorem sg_5 (x : Int64) : (((j_shr (j_shl x 24) 24).toInt - (U64 x : Int)) % 1099511627776 = 0) := by
  have e0 : U64 (j_shl x 24) = (U64 x <<< 24) % 2 ^ 64 := rfl
  rw [Nat.shiftLeft_eq] at e0
  have e1 := shr8 (j_shl x 24) (i := 3) (by decide) (by decide)
  rw [show (8 * 3 : Int) = 24 from rfl, show ((3 : Int).toNat) = 3 from rfl, show (256 : Int) ^ 3 = 16777216 from rfl, U64_toInt (j_shl x 24), e0] at e1
  rw [e1]
  have := U64_lt x
  generalize U64 x = X at *
  clear e0 e1
  omega
theorem sg_6 (x : Int64) : (((j_shr (j_shl x 16) 16).toInt - (U64 x : Int)) % 281474976710656 = 0) := by
  have e0 : U64 (j_shl x 16) = (U64 x <<< 16) % 2 ^ 64 := rfl
  rw [Nat.shiftLeft_eq] at e0
  have e1 := shr8 (j_shl x 16) (i := 2) (by decide) (by decide)
  rw [show (8 * 2 : Int) = 16 from rfl, show ((2 : Int).toNat) = 2 from rfl, show (256 : Int) ^ 2 = 65536 from rfl, U64_toInt (j_shl x 16), e0] at e1
  rw [e1]
  have := U64_lt x
  generalize U64 x = X at *
  clear e0 e1
  omega
theorem sg_7 (x : Int64) : (((j_shr (j_shl x 8) 8).toInt - (U64 x : Int)) % 72057594037927936 = 0) := by
  have e0 : U64 (j_shl x 8) = (U64 x <<< 8) % 2 ^ 64 := rfl
  rw [Nat.shiftLeft_eq] at e0
  have e1 := shr8 (j_shl x 8) (i := 1) (by decide) (by decide)
  rw [show (8 * 1 : Int) = 8 from rfl, show ((1 : Int).toNat) = 1 from rfl, show (256 : Int) ^ 1 = 256 from rfl, U64_toInt (j_shl x 8), e0] at e1
  rw [e1]
  have := U64_lt x
  generalize U64 x = X at *
  clear e0 e1
  omega
theorem sg_8 (x : Int64) : (((j_shr (j_shl x 0) 0).toInt - (U64 x : Int)) % 18446744073709551616 = 0) := by
  have e0 : U64 (j_shl x 0) = (U64 x <<< 0) % 2 ^ 64 := rfl
  rw [Nat.shiftLeft_eq] at e0
  have e1 := shr8 (j_shl x 0) (i := 0) (by decide) (by decide)
  rw [show (8 * 0 : Int) = 0 from rfl, show ((0 : Int).toNat) = 0 from rfl, show (256 : Int) ^ 0 = 1 from rfl, U64_toInt (j_shl x 0), e0] at e1
  rw [e1]
  have := U64_lt x
  generalize U64 x = X at *
  clear e0 e1
  omega
theorem byt_md {x y : Int64} {w i : Int} (h1 : 1 ≤ w) (h8 : w ≤ 8) (hm : (y.toInt - (U64 x : Int)) % 256 ^ w.toNat = 0) (h0 : 0 ≤ i) (hi : i < w) : byt y i = byt x i := by
  rw [byt_U x h0 (by omega)]
  unfold byt
  have := U64_lt x
  generalize U64 x = X at *
  generalize y.toInt = Y at *
  have hw : w = 1 ∨ w = 2 ∨ w = 3 ∨ w = 4 ∨ w = 5 ∨ w = 6 ∨ w = 7 ∨ w = 8 := by omega
  have hi8 : i = 0 ∨ i = 1 ∨ i = 2 ∨ i = 3 ∨ i = 4 ∨ i = 5 ∨ i = 6 ∨ i = 7 := by omega
  rcases hw with rfl | rfl | rfl | rfl | rfl | rfl | rfl | rfl
  · rw [show (1 : Int).toNat = 1 from rfl, show (256 : Int) ^ 1 = 256 from rfl] at hm
    rcases hi8 with rfl | rfl | rfl | rfl | rfl | rfl | rfl | rfl
    · rw [show (0 : Int).toNat = 0 from rfl, show (256 : Int) ^ 0 = 1 from rfl, show (256 : Nat) ^ 0 = 1 from rfl]; omega
    · omega
    · omega
    · omega
    · omega
    · omega
    · omega
    · omega
  · rw [show (2 : Int).toNat = 2 from rfl, show (256 : Int) ^ 2 = 65536 from rfl] at hm
    rcases hi8 with rfl | rfl | rfl | rfl | rfl | rfl | rfl | rfl
    · rw [show (0 : Int).toNat = 0 from rfl, show (256 : Int) ^ 0 = 1 from rfl, show (256 : Nat) ^ 0 = 1 from rfl]; omega
    · rw [show (1 : Int).toNat = 1 from rfl, show (256 : Int) ^ 1 = 256 from rfl, show (256 : Nat) ^ 1 = 256 from rfl]; omega
    · omega
    · omega
    · omega
    · omega
    · omega
    · omega
  · rw [show (3 : Int).toNat = 3 from rfl, show (256 : Int) ^ 3 = 16777216 from rfl] at hm
    rcases hi8 with rfl | rfl | rfl | rfl | rfl | rfl | rfl | rfl
    · rw [show (0 : Int).toNat = 0 from rfl, show (256 : Int) ^ 0 = 1 from rfl, show (256 : Nat) ^ 0 = 1 from rfl]; omega
    · rw [show (1 : Int).toNat = 1 from rfl, show (256 : Int) ^ 1 = 256 from rfl, show (256 : Nat) ^ 1 = 256 from rfl]; omega
    · rw [show (2 : Int).toNat = 2 from rfl, show (256 : Int) ^ 2 = 65536 from rfl, show (256 : Nat) ^ 2 = 65536 from rfl]; omega
    · omega
    · omega
    · omega
    · omega
    · omega
  · rw [show (4 : Int).toNat = 4 from rfl, show (256 : Int) ^ 4 = 4294967296 from rfl] at hm
    rcases hi8 with rfl | rfl | rfl | rfl | rfl | rfl | rfl | rfl
    · rw [show (0 : Int).toNat = 0 from rfl, show (256 : Int) ^ 0 = 1 from rfl, show (256 : Nat) ^ 0 = 1 from rfl]; omega
    · rw [show (1 : Int).toNat = 1 from rfl, show (256 : Int) ^ 1 = 256 from rfl, show (256 : Nat) ^ 1 = 256 from rfl]; omega
    · rw [show (2 : Int).toNat = 2 from rfl, show (256 : Int) ^ 2 = 65536 from rfl, show (256 : Nat) ^ 2 = 65536 from rfl]; omega
    · rw [show (3 : Int).toNat = 3 from rfl, show (256 : Int) ^ 3 = 16777216 from rfl, show (256 : Nat) ^ 3 = 16777216 from rfl]; omega
    · omega
    · omega
    · omega
    · omega
  · rw [show (5 : Int).toNat = 5 from rfl, show (256 : Int) ^ 5 = 1099511627776 from rfl] at hm
    rcases hi8 with rfl | rfl | rfl | rfl | rfl | rfl | rfl | rfl
    · rw [show (0 : Int).toNat = 0 from rfl, show (256 : Int) ^ 0 = 1 from rfl, show (256 : Nat) ^ 0 = 1 from rfl]; omega
    · rw [show (1 : Int).toNat = 1 from rfl, show (256 : Int) ^ 1 = 256 from rfl, show (256 : Nat) ^ 1 = 256 from rfl]; omega
    · rw [show (2 : Int).toNat = 2 from rfl, show (256 : Int) ^ 2 = 65536 from rfl, show (256 : Nat) ^ 2 = 65536 from rfl]; omega
    · rw [show (3 : Int).toNat = 3 from rfl, show (256 : Int) ^ 3 = 16777216 from rfl, show (256 : Nat) ^ 3 = 16777216 from rfl]; omega
    · rw [show (4 : Int).toNat = 4 from rfl, show (256 : Int) ^ 4 = 4294967296 from rfl, show (256 : Nat) ^ 4 = 4294967296 from rfl]; omega
    · omega
    · omega
    · omega
  · rw [show (6 : Int).toNat = 6 from rfl, show (256 : Int) ^ 6 = 281474976710656 from rfl] at hm
    rcases hi8 with rfl | rfl | rfl | rfl | rfl | rfl | rfl | rfl
    · rw [show (0 : Int).toNat = 0 from rfl, show (256 : Int) ^ 0 = 1 from rfl, show (256 : Nat) ^ 0 = 1 from rfl]; omega
    · rw [show (1 : Int).toNat = 1 from rfl, show (256 : Int) ^ 1 = 256 from rfl, show (256 : Nat) ^ 1 = 256 from rfl]; omega
    · rw [show (2 : Int).toNat = 2 from rfl, show (256 : Int) ^ 2 = 65536 from rfl, show (256 : Nat) ^ 2 = 65536 from rfl]; omega
    · rw [show (3 : Int).toNat = 3 from rfl, show (256 : Int) ^ 3 = 16777216 from rfl, show (256 : Nat) ^ 3 = 16777216 from rfl]; omega
    · rw [show (4 : Int).toNat = 4 from rfl, show (256 : Int) ^ 4 = 4294967296 from rfl, show (256 : Nat) ^ 4 = 4294967296 from rfl]; omega
    · rw [show (5 : Int).toNat = 5 from rfl, show (256 : Int) ^ 5 = 1099511627776 from rfl, show (256 : Nat) ^ 5 = 1099511627776 from rfl]; omega
    · omega
    · omega
  · rw [show (7 : Int).toNat = 7 from rfl, show (256 : Int) ^ 7 = 72057594037927936 from rfl] at hm
    rcases hi8 with rfl | rfl | rfl | rfl | rfl | rfl | rfl | rfl
    · rw [show (0 : Int).toNat = 0 from rfl, show (256 : Int) ^ 0 = 1 from rfl, show (256 : Nat) ^ 0 = 1 from rfl]; omega
    · rw [show (1 : Int).toNat = 1 from rfl, show (256 : Int) ^ 1 = 256 from rfl, show (256 : Nat) ^ 1 = 256 from rfl]; omega
    · rw [show (2 : Int).toNat = 2 from rfl, show (256 : Int) ^ 2 = 65536 from rfl, show (256 : Nat) ^ 2 = 65536 from rfl]; omega
    · rw [show (3 : Int).toNat = 3 from rfl, show (256 : Int) ^ 3 = 16777216 from rfl, show (256 : Nat) ^ 3 = 16777216 from rfl]; omega
    · rw [show (4 : Int).toNat = 4 from rfl, show (256 : Int) ^ 4 = 4294967296 from rfl, show (256 : Nat) ^ 4 = 4294967296 from rfl]; omega
    · rw [show (5 : Int).toNat = 5 from rfl, show (256 : Int) ^ 5 = 1099511627776 from rfl, show (256 : Nat) ^ 5 = 1099511627776 from rfl]; omega
    · rw [show (6 : Int).toNat = 6 from rfl, show (256 : Int) ^ 6 = 281474976710656 from rfl, show (256 : Nat) ^ 6 = 281474976710656 from rfl]; omega
    · omega
  · rw [show (8 : Int).toNat = 8 from rfl, show (256 : Int) ^ 8 = 18446744073709551616 from rfl] at hm
    rcases hi8 with rfl | rfl | rfl | rfl | rfl | rfl | rfl | rfl
    · rw [show (0 : Int).toNat = 0 from rfl, show (256 : Int) ^ 0 = 1 from rfl, show (256 : Nat) ^ 0 = 1 from rfl]; omega
    · rw [show (1 : Int).toNat = 1 from rfl, show (256 : Int) ^ 1 = 256 from rfl, show (256 : Nat) ^ 1 = 256 from rfl]; omega
    · rw [show (2 : Int).toNat = 2 from rfl, show (256 : Int) ^ 2 = 65536 from rfl, show (256 : Nat) ^ 2 = 65536 from rfl]; omega
    · rw [show (3 : Int).toNat = 3 from rfl, show (256 : Int) ^ 3 = 16777216 from rfl, show (256 : Nat) ^ 3 = 16777216 from rfl]; omega
    · rw [show (4 : Int).toNat = 4 from rfl, show (256 : Int) ^ 4 = 4294967296 from rfl, show (256 : Nat) ^ 4 = 4294967296 from rfl]; omega
    · rw [show (5 : Int).toNat = 5 from rfl, show (256 : Int) ^ 5 = 1099511627776 from rfl, show (256 : Nat) ^ 5 = 1099511627776 from rfl]; omega
    · rw [show (6 : Int).toNat = 6 from rfl, show (256 : Int) ^ 6 = 281474976710656 from rfl, show (256 : Nat) ^ 6 = 281474976710656 from rfl]; omega
    · rw [show (7 : Int).toNat = 7 from rfl, show (256 : Int) ^ 7 = 72057594037927936 from rfl, show (256 : Nat) ^ 7 = 72057594037927936 from rfl]; omega
theorem byt_sgn {t x : Int64} {i : Int} (ty : TyR t) (h0 : 0 ≤ i) (hi : i < tw t) : byt (sgn t x) i = byt x i := by
  unfold sgn
  by_cases q : tsg t = 0
  · rw [if_pos q]
  · rw [if_neg q]
    obtain ⟨t1, t8, _⟩ := ty
    refine byt_md t1 t8 ?_ h0 hi
    have hw : tw t = 1 ∨ tw t = 2 ∨ tw t = 3 ∨ tw t = 4 ∨ tw t = 5 ∨ tw t = 6 ∨ tw t = 7 ∨ tw t = 8 := by omega
    rcases hw with e | e | e | e | e | e | e | e
    · rw [e]; exact sg_1 x
    · rw [e]; exact sg_2 x
    · rw [e]; exact sg_3 x
    · rw [e]; exact sg_4 x
    · rw [e]; exact sg_5 x
    · rw [e]; exact sg_6 x
    · rw [e]; exact sg_7 x
    · rw [e]; exact sg_8 x
theorem sgn_low {t : Int64} {h : Int → Int} {p : Int} (ty : TyR t) (hb : ∀ i : Int, 0 ≤ i → i < tw t → 0 ≤ h (p + i) ∧ h (p + i) ≤ 255) : sgn t (rdP h t p) &&& mkv (8 * tw t) = rdP h t p := by
  obtain ⟨t1, t8, _⟩ := id ty
  have hrb : ∀ n : Int, 0 ≤ n → n < ((tw t).toNat : Nat) → 0 ≤ h (if tbg t = 0 then p + tw t - 1 - n else p + n) ∧ h (if tbg t = 0 then p + tw t - 1 - n else p + n) ≤ 255 := fun n n0 n1 => by
    by_cases z : tbg t = 0
    · rw [if_pos z, show p + tw t - 1 - n = p + (tw t - 1 - n) by omega]; exact hb _ (by omega) (by omega)
    · rw [if_neg z]; exact hb _ n0 (by omega)
  refine byt_ext (fun n n0 n7 => ?_)
  rw [byt_low _ _ t1 t8 (mkv_low t1 t8) n0 n7]
  by_cases z : n < tw t
  · rw [if_pos z, byt_sgn ty n0 z]
  · rw [if_neg z]
    unfold rdP
    rw [byt_rv _ hrb n n0 n7, if_neg (by omega)]
theorem sum_eq {t due : Int64} {h : Int → Int} {p : Int} (ty : TyR t) (hb : ∀ i : Int, 0 ≤ i → i < tw t → 0 ≤ h (p + i) ∧ h (p + i) ≤ 255) : ((sgn t (rdP h t p) ^^^ due) &&& mkv (8 * tw t)) = 0 ↔ rdP h t p = due &&& mkv (8 * tw t) := by
  rw [xm_iff, sgn_low ty hb]
