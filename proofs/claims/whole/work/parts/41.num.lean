/-! level 2: numbers, lengths of arrays, frames by fields -/
def byt (w : Int64) (i : Int) : Int := w.toInt / (256 : Int) ^ i.toNat % 256
theorem byt_ge (w : Int64) (i : Int) : 0 ≤ byt w i := Int.emod_nonneg _ (by decide)
theorem byt_lt (w : Int64) (i : Int) : byt w i < 256 := Int.emod_lt_of_pos _ (by decide)
theorem p64 : ((2 ^ 64 : Nat) : Int) = 18446744073709551616 := by decide
theorem p32 : ((2 ^ 32 : Nat) : Int) = 4294967296 := by decide
theorem bmod64 (x : Int) : x.bmod (2 ^ 64) = (x + 9223372036854775808) % 18446744073709551616 - 9223372036854775808 := by
  rw [Int.bmod_def, p64]
  split <;> omega
theorem toInt64_eq (x : Int64) : x.toInt = ((x.toBitVec.toNat : Int) + 9223372036854775808) % 18446744073709551616 - 9223372036854775808 := by
  have h : x.toInt = x.toBitVec.toInt := rfl
  rw [h, BitVec.toInt_eq_toNat_bmod, bmod64]
theorem and255 (y : Int64) : (y &&& 255).toInt = y.toInt % 256 := by
  rw [toInt64_eq (y &&& 255), toInt64_eq y]
  have h : (y &&& 255).toBitVec.toNat = y.toBitVec.toNat % 256 := by
    have e : (y &&& 255).toBitVec.toNat = y.toBitVec.toNat &&& (2 ^ 8 - 1) := rfl
    rw [e, Nat.and_two_pow_sub_one_eq_mod]
  rw [h]
  have := y.toBitVec.isLt
  omega
theorem i_and255 (x : Int) : i_and x 255 = x % 256 := by
  unfold i_and
  have h : (Int32.ofInt x &&& Int32.ofInt 255).toBitVec.toNat = (Int32.ofInt x).toBitVec.toNat % 256 := by
    have e : (Int32.ofInt x &&& Int32.ofInt 255).toBitVec.toNat = (Int32.ofInt x).toBitVec.toNat &&& (2 ^ 8 - 1) := rfl
    rw [e, Nat.and_two_pow_sub_one_eq_mod]
  have h1 : (Int32.ofInt x &&& Int32.ofInt 255).toInt = (((Int32.ofInt x &&& Int32.ofInt 255).toBitVec.toNat : Nat) : Int).bmod (2 ^ 32) := BitVec.toInt_eq_toNat_bmod _
  have h2 : (Int32.ofInt x).toInt = (((Int32.ofInt x).toBitVec.toNat : Nat) : Int).bmod (2 ^ 32) := BitVec.toInt_eq_toNat_bmod _
  rw [toInt_ofInt, w32_bmod] at h2
  rw [h1, h, w32_bmod]
  have := (Int32.ofInt x).toBitVec.isLt
  unfold w32 at *
  omega
theorem j2i_eq (y : Int64) : j2i y = w32 y.toInt := by
  unfold j2i
  rw [Int64.toInt_toInt32, w32_bmod]
theorem i2j_toInt (n : Int) : (i2j n).toInt = w32 n := by
  unfold i2j
  rw [Int32.toInt_toInt64, toInt_ofInt]
theorem c8 {i : Int} (h0 : 0 ≤ i) (h7 : i ≤ 7) : i = 0 ∨ i = 1 ∨ i = 2 ∨ i = 3 ∨ i = 4 ∨ i = 5 ∨ i = 6 ∨ i = 7 := by omega
theorem shr8 (x : Int64) {i : Int} (h0 : 0 ≤ i) (h7 : i ≤ 7) : (j_shr x (8 * i)).toInt = x.toInt / (256 : Int) ^ i.toNat := by
  have e : ∀ n : Int, (j_shr x n).toInt = x.toInt / ((2 ^ (((Int32.ofInt n).toInt64 &&& 63).toBitVec.smod 64).toNat : Nat) : Int) := by
    intro n
    have h : (j_shr x n).toInt = (x.toBitVec.sshiftRight' (((Int32.ofInt n).toInt64 &&& 63).toBitVec.smod 64)).toInt := rfl
    rw [h, BitVec.toInt_sshiftRight', Int.shiftRight_eq_div_pow]
    rfl
  rw [e]
  rcases c8 h0 h7 with rfl | rfl | rfl | rfl | rfl | rfl | rfl | rfl <;> exact congrArg (x.toInt / ·) (by decide)
theorem byt_shr (x : Int64) {i : Int} (h0 : 0 ≤ i) (h7 : i ≤ 7) : j2i ((j_shr x (8 * i)) &&& (255 : Int64)) = byt x i := by
  rw [j2i_eq, and255, shr8 x h0 h7]
  have h1 := byt_ge x i
  have h2 := byt_lt x i
  exact w32_id (by unfold byt at *; omega) (by unfold byt at *; omega)
theorem ushr_nat (x : Int64) (n : Int) : (j_ushr x n).toBitVec.toNat = x.toBitVec.toNat / 2 ^ (((Int32.ofInt n).toInt64.toUInt64 &&& Int64.toUInt64 63).toBitVec % 64).toNat := by
  have h : (j_ushr x n).toBitVec.toNat = x.toBitVec.toNat >>> (((Int32.ofInt n).toInt64.toUInt64 &&& Int64.toUInt64 63).toBitVec % 64).toNat := rfl
  rw [h, Nat.shiftRight_eq_div_pow]
theorem byt_ushr (x : Int64) {i : Int} (h0 : 0 ≤ i) (h7 : i ≤ 7) : i_and (j2i (j_ushr x (8 * i))) 255 = byt x i := by
  rw [i_and255, j2i_eq, toInt64_eq (j_ushr x (8 * i)), ushr_nat]
  unfold byt
  rw [toInt64_eq x]
  have := x.toBitVec.isLt
  generalize x.toBitVec.toNat = X at *
  unfold w32
  rcases c8 h0 h7 with rfl | rfl | rfl | rfl | rfl | rfl | rfl | rfl
  · rw [show (2 : Nat) ^ (((Int32.ofInt (8 * 0)).toInt64.toUInt64 &&& Int64.toUInt64 63).toBitVec % 64).toNat = 1 from by decide, show (256 : Int) ^ (0 : Int).toNat = 1 from by decide]; omega
  · rw [show (2 : Nat) ^ (((Int32.ofInt (8 * 1)).toInt64.toUInt64 &&& Int64.toUInt64 63).toBitVec % 64).toNat = 256 from by decide, show (256 : Int) ^ (1 : Int).toNat = 256 from by decide]; omega
  · rw [show (2 : Nat) ^ (((Int32.ofInt (8 * 2)).toInt64.toUInt64 &&& Int64.toUInt64 63).toBitVec % 64).toNat = 65536 from by decide, show (256 : Int) ^ (2 : Int).toNat = 65536 from by decide]; omega
  · rw [show (2 : Nat) ^ (((Int32.ofInt (8 * 3)).toInt64.toUInt64 &&& Int64.toUInt64 63).toBitVec % 64).toNat = 16777216 from by decide, show (256 : Int) ^ (3 : Int).toNat = 16777216 from by decide]; omega
  · rw [show (2 : Nat) ^ (((Int32.ofInt (8 * 4)).toInt64.toUInt64 &&& Int64.toUInt64 63).toBitVec % 64).toNat = 4294967296 from by decide, show (256 : Int) ^ (4 : Int).toNat = 4294967296 from by decide]; omega
  · rw [show (2 : Nat) ^ (((Int32.ofInt (8 * 5)).toInt64.toUInt64 &&& Int64.toUInt64 63).toBitVec % 64).toNat = 1099511627776 from by decide, show (256 : Int) ^ (5 : Int).toNat = 1099511627776 from by decide]; omega
  · rw [show (2 : Nat) ^ (((Int32.ofInt (8 * 6)).toInt64.toUInt64 &&& Int64.toUInt64 63).toBitVec % 64).toNat = 281474976710656 from by decide, show (256 : Int) ^ (6 : Int).toNat = 281474976710656 from by decide]; omega
  · rw [show (2 : Nat) ^ (((Int32.ofInt (8 * 7)).toInt64.toUInt64 &&& Int64.toUInt64 63).toBitVec % 64).toNat = 72057594037927936 from by decide, show (256 : Int) ^ (7 : Int).toNat = 72057594037927936 from by decide]; omega
theorem Frm.lc {P : Nat → Nat → Prop} {σ σ' : St} (h : Frm P σ σ') {c a : Nat} (k : LC c σ a) : LC c σ' a := fun f e => (h.1 f a).trans (k f e)
theorem Frm.I {P : Nat → Nat → Prop} {σ σ' : St} (h : Frm P σ σ') {f r : Nat} (n : ¬ P f r) (i : Nat) : gI σ' f r i = gI σ f r i := (h.2.2.2 f r n i).1
theorem Frm.J {P : Nat → Nat → Prop} {σ σ' : St} (h : Frm P σ σ') {f r : Nat} (n : ¬ P f r) (i : Nat) : gJ σ' f r i = gJ σ f r i := (h.2.2.2 f r n i).2.1
theorem Frm.R {P : Nat → Nat → Prop} {σ σ' : St} (h : Frm P σ σ') {f r : Nat} (n : ¬ P f r) (i : Nat) : gR σ' f r i = gR σ f r i := (h.2.2.2 f r n i).2.2
/-- what an image has: the uppermost of k layers, else its own -/
def hv (f : Int → Int) (o : Int) : Nat → Int
  | 0 => o
  | k + 1 => if 0 ≤ f k then f k else hv f o k
theorem hv_congr {f f' : Int → Int} {o o' : Int} : ∀ {k : Nat}, (∀ i : Nat, i < k → f i = f' i) → o = o' → hv f o k = hv f' o' k
  | 0, _, h => h
  | k + 1, h, ho => by
    unfold hv
    rw [h k (Nat.lt_succ_self k), hv_congr (fun i hi => h i (Nat.lt_succ_of_lt hi)) ho]
def hasM (σ : St) (m : Nat) (im p : Int) : Int := hv (fun li => gI σ 1204 m ((4 * im + li) * 2000 + p).toNat) (gI σ 1203 m (2000 * im + p).toNat) (gI σ 1202 m im.toNat).toNat
/-- how many of the first n are at least 0 -/
def cnt (f : Int → Int) : Nat → Int
  | 0 => 0
  | n + 1 => cnt f n + if 0 ≤ f n then 1 else 0
theorem cnt_congr {f f' : Int → Int} : ∀ {n : Nat}, (∀ i : Nat, i < n → f i = f' i) → cnt f n = cnt f' n
  | 0, _ => rfl
  | n + 1, h => by
    unfold cnt
    rw [h n (Nat.lt_succ_self n), cnt_congr (fun i hi => h i (Nat.lt_succ_of_lt hi))]
theorem cnt_le {f : Int → Int} : ∀ {n : Nat}, 0 ≤ cnt f n ∧ cnt f n ≤ n
  | 0 => by unfold cnt; omega
  | n + 1 => by
    have := cnt_le (f := f) (n := n)
    unfold cnt
    split <;> omega
theorem cnt_set {f f' : Int → Int} (p : Nat) : ∀ {n : Nat}, p < n → (∀ i : Nat, i < n → i ≠ p → f' i = f i) → cnt f' n = cnt f n - (if 0 ≤ f p then 1 else 0) + (if 0 ≤ f' p then 1 else 0)
  | 0, hp, _ => absurd hp (Nat.not_lt_zero p)
  | n + 1, hp, h => by
    unfold cnt
    by_cases e : n = p
    · subst e
      rw [cnt_congr (f := f') (f' := f) (fun i hi => h i (Nat.lt_succ_of_lt hi) (by omega))]
      omega
    · rw [cnt_set p (n := n) (by omega) (fun i hi hn => h i (Nat.lt_succ_of_lt hi) hn), h n (Nat.lt_succ_self n) e]
      omega
/-- the k-th place from p on, of n, at which f is at least 0 -/
def kth (f : Int → Int) : Nat → Int → Int → Int
  | 0, _, _ => -1
  | n + 1, p, k => if 0 ≤ f p then (if k = 0 then p else kth f n (p + 1) (k - 1)) else kth f n (p + 1) k
