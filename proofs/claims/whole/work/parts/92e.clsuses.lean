/-! uses: which structs each one uses -/
def dUse (F : Fld) (b : Int) : Prop := F.st = b ∨ (F.ki = 6 ∧ (F.ot = b ∨ ∃ e ∈ F.es, e.2.2 = b))
def dU (Ss : List Stc) (a b : Nat) : Prop := ∃ S, Ss[a]? = some S ∧ ∃ F ∈ S.2.1, dUse F b
/-- by way of structs below w -/
def Wr (Ss : List Stc) : Nat → Nat → Nat → Prop
  | 0, a, b => dU Ss a b
  | w + 1, a, b => Wr Ss w a b ∨ (Wr Ss w a w ∧ Wr Ss w w b)
theorem Wr_dU {Ss : List Stc} : ∀ {w a b : Nat}, dU Ss a b → Wr Ss w a b
  | 0, _, _, h => h
  | w + 1, _, _, h => Or.inl (Wr_dU h)
theorem Wr_tr {Ss : List Stc} {c : Nat} : ∀ {w a b : Nat}, c < w → Wr Ss w a c → Wr Ss w c b → Wr Ss w a b
  | w + 1, a, b, hc, h1, h2 => by
    by_cases e : c = w
    · rw [e] at h1 h2
      have x1 : Wr Ss w a w := by rcases h1 with h | h; exact h; exact h.1
      have x2 : Wr Ss w w b := by rcases h2 with h | h; exact h; exact h.2
      exact Or.inr ⟨x1, x2⟩
    · have hw : c < w := by omega
      rcases h1 with h1 | ⟨h1, h1'⟩
      · rcases h2 with h2 | ⟨h2, h2'⟩
        · exact Or.inl (Wr_tr hw h1 h2)
        · exact Or.inr ⟨Wr_tr hw h1 h2, h2'⟩
      · rcases h2 with h2 | ⟨h2, h2'⟩
        · exact Or.inr ⟨h1, Wr_tr hw h1' h2⟩
        · exact Or.inr ⟨h1, h2'⟩
/-- a set that holds what a uses and what those use holds all that a uses in the end -/
theorem Wr_cl {Ss : List Stc} {a : Nat} {R : Nat → Prop} (h0 : ∀ b, dU Ss a b → R b) (h1 : ∀ c b, R c → dU Ss c b → R b) : ∀ (w : Nat), (∀ b, Wr Ss w a b → R b) ∧ ∀ c b, R c → Wr Ss w c b → R b
  | 0 => ⟨h0, h1⟩
  | w + 1 => by
    obtain ⟨i0, i1⟩ := Wr_cl h0 h1 w
    refine ⟨fun b h => ?_, fun c b hc h => ?_⟩
    · rcases h with h | ⟨h, h'⟩
      · exact i0 b h
      · exact i1 w b (i0 w h) h'
    · rcases h with h | ⟨h, h'⟩
      · exact i1 c b hc h
      · exact i1 w b (i1 c w hc h) h'
/-! bits -/
theorem i32_nat {x : Nat} (h : x < 2147483648) : (Int32.ofInt (x : Int)).toBitVec.toNat = x := by
  have : (Int32.ofInt (x : Int)).toBitVec = BitVec.ofInt 32 (x : Int) := rfl
  rw [this, BitVec.toNat_ofInt]
  omega
theorem i32_of {y : Int32} {n : Nat} (h : y.toBitVec.toNat = n) (hn : n < 2147483648) : y.toInt = (n : Int) := by
  show y.toBitVec.toInt = n
  rw [BitVec.toInt_eq_toNat_of_lt (by rw [h]; omega), h]
theorem i_or_nat {x y : Nat} (hx : x < 1048576) (hy : y < 1048576) : i_or (x : Int) (y : Int) = ((x ||| y : Nat) : Int) := by
  have hxy : x ||| y < 1048576 := Nat.or_lt_two_pow (n := 20) hx hy
  unfold i_or
  refine i32_of ?_ (by omega)
  show (Int32.ofInt (x : Int)).toBitVec.toNat ||| (Int32.ofInt (y : Int)).toBitVec.toNat = _
  rw [i32_nat (by omega), i32_nat (by omega)]
theorem i_shl_nat : ∀ b : Nat, b < 20 → i_shl 1 (b : Int) = ((2 ^ b : Nat) : Int) := by decide
theorem tb_nat {x b : Nat} (hx : x < 1048576) (hb : b < 20) : i_and (i_shr (x : Int) (b : Int)) 1 = if x.testBit b then 1 else 0 := by
  have e1 : i_shr (x : Int) (b : Int) = ((x / 2 ^ b : Nat) : Int) := by
    have c : b = 0 ∨ b = 1 ∨ b = 2 ∨ b = 3 ∨ b = 4 ∨ b = 5 ∨ b = 6 ∨ b = 7 ∨ b = 8 ∨ b = 9 ∨ b = 10 ∨ b = 11 ∨ b = 12 ∨ b = 13 ∨ b = 14 ∨ b = 15 ∨ b = 16 ∨ b = 17 ∨ b = 18 ∨ b = 19 := by omega
    have key : ∀ y : Int32, y.toBitVec.toNat = x → ∀ k : Nat, k < 20 → (y.toBitVec.sshiftRight k).toNat = x / 2 ^ k := by
      intro y hy k hk
      have ms : y.toBitVec.msb = false := by
        rw [BitVec.msb_eq_decide]
        simp only [hy]
        simp
        omega
      rw [BitVec.sshiftRight_eq_of_msb_false ms, BitVec.toNat_ushiftRight, hy, Nat.shiftRight_eq_div_pow]
    unfold i_shr
    have z := key (Int32.ofInt (x : Int)) (i32_nat (by omega)) b hb
    have lt : x / 2 ^ b < 2147483648 := Nat.lt_of_le_of_lt (Nat.div_le_self _ _) (by omega)
    refine i32_of ?_ lt
    rcases c with rfl | rfl | rfl | rfl | rfl | rfl | rfl | rfl | rfl | rfl | rfl | rfl | rfl | rfl | rfl | rfl | rfl | rfl | rfl | rfl <;> exact z
  rw [e1]
  have e2 : ∀ y : Nat, y < 1048576 → i_and (y : Int) 1 = ((y % 2 : Nat) : Int) := fun y hy => by
    unfold i_and
    refine i32_of ?_ (by omega)
    show (Int32.ofInt (y : Int)).toBitVec.toNat &&& (1 : Nat) = _
    rw [i32_nat (by omega), Nat.and_one_is_mod]
  rw [e2 _ (Nat.lt_of_le_of_lt (Nat.div_le_self _ _) hx), Nat.testBit_eq_decide_div_mod_eq]
  have := Nat.mod_two_eq_zero_or_one (x / 2 ^ b)
  rcases this with q | q
  · rw [q]; simp
  · rw [q]; simp
