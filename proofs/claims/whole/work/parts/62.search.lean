/-! search, masked -/
theorem i_div_pos {x y : Int} (h0 : 0 ≤ x) (h1 : x < 2147483648) (h2 : 0 < y) (h3 : y < 2147483648) : i_div x y = x / y := by
  unfold i_div
  rw [Int32.toInt_div, toInt_ofInt, toInt_ofInt, w32_id (by omega) h1, w32_id (by omega) h3, w32_bmod, Int.tdiv_eq_ediv_of_nonneg h0]
  have a1 : 0 ≤ x / y := Int.ediv_nonneg h0 (by omega)
  have a2 : x / y ≤ x := Int.ediv_le_self y h0
  exact w32_id (by omega) (by omega)
theorem i_xor_and {a b : Int} (h0 : 0 ≤ a) (h1 : a ≤ 255) (h2 : 0 ≤ b) (h3 : b ≤ 255) : i_and (i_xor a b) 255 = 0 ↔ a = b := by
  rw [i_and255]
  have hx : i_xor a b = ((a.toNat ^^^ b.toNat : Nat) : Int) := by
    unfold i_xor
    have e1 : ∀ z : Int, 0 ≤ z → z ≤ 255 → (Int32.ofInt z).toBitVec.toNat = z.toNat := fun z z0 z1 => by
      have e2 : (Int32.ofInt z).toInt = (((Int32.ofInt z).toBitVec.toNat : Nat) : Int).bmod (2 ^ 32) := BitVec.toInt_eq_toNat_bmod _
      rw [toInt_ofInt, w32_id (by omega) (by omega), w32_bmod] at e2
      have := (Int32.ofInt z).toBitVec.isLt
      unfold w32 at e2
      omega
    have e3 : (Int32.ofInt a ^^^ Int32.ofInt b).toInt = (((Int32.ofInt a).toBitVec.toNat ^^^ (Int32.ofInt b).toBitVec.toNat : Nat) : Int).bmod (2 ^ 32) := BitVec.toInt_eq_toNat_bmod _
    rw [e3, e1 a h0 h1, e1 b h2 h3, w32_bmod]
    have := Nat.xor_lt_two_pow (x := a.toNat) (y := b.toNat) (n := 8) (by omega) (by omega)
    exact w32_id (by omega) (by omega)
  rw [hx]
  have hlt := Nat.xor_lt_two_pow (x := a.toNat) (y := b.toNat) (n := 8) (by omega) (by omega)
  constructor
  · intro h
    have hz : a.toNat ^^^ b.toNat = 0 := by omega
    have hc : a.toNat = b.toNat := by
      have := congrArg (· ^^^ b.toNat) hz
      simp only [Nat.xor_assoc, Nat.xor_self, Nat.xor_zero, Nat.zero_xor] at this
      exact this
    omega
  · intro h
    rw [h, Nat.xor_self]
    rfl
/-- all of the first n are 0: 0, else -1 -/
def al (e : Int → Int) : Nat → Int
  | 0 => 0
  | n + 1 => if e n = 0 then al e n else -1
theorem al_iff {e : Int → Int} : ∀ {n : Nat}, 0 ≤ al e n ↔ ∀ i : Int, 0 ≤ i → i < n → e i = 0
  | 0 => ⟨fun _ i h0 h1 => absurd h1 (by omega), fun _ => by unfold al; decide⟩
  | n + 1 => by
    unfold al
    by_cases h : e n = 0
    · rw [if_pos h, al_iff (n := n)]
      refine ⟨fun k i h0 h1 => ?_, fun k i h0 h1 => k i h0 (by omega)⟩
      by_cases e2 : i = n
      · rw [e2]; exact h
      · exact k i h0 (by omega)
    · rw [if_neg h]
      exact ⟨fun q => absurd q (by decide), fun k => absurd (k n (by omega) (by omega)) h⟩
theorem kth_sign {f f' : Int → Int} : ∀ (n : Nat) (p k : Int), (∀ i : Int, p ≤ i → i < p + n → (0 ≤ f i ↔ 0 ≤ f' i)) → kth f n p k = kth f' n p k
  | 0, _, _, _ => rfl
  | n + 1, p, k, h => by
    unfold kth
    have hp := h p (by omega) (by omega)
    rw [kth_sign n (p + 1) (k - 1) (fun i a b => h i (by omega) (by omega)), kth_sign n (p + 1) k (fun i a b => h i (by omega) (by omega))]
    by_cases e : 0 ≤ f p
    · rw [if_pos e, if_pos (hp.mp e)]
    · rw [if_neg e, if_neg (fun q => e (hp.mpr q))]
def mkv (n : Int) : Int64 := if n < 64 then j_shl 1 n - 1 else -1
theorem mkv_low {w : Int} (h1 : 1 ≤ w) (h8 : w ≤ 8) : (mkv (8 * w)).toInt = if w = 8 then -1 else 256 ^ w.toNat - 1 := by
  have hw : w = 1 ∨ w = 2 ∨ w = 3 ∨ w = 4 ∨ w = 5 ∨ w = 6 ∨ w = 7 ∨ w = 8 := by omega
  rcases hw with rfl | rfl | rfl | rfl | rfl | rfl | rfl | rfl <;> decide
def ScFr (σ σ' : St) : Prop := Frm (fun f _ => f = 1113 ∨ f = 1114 ∨ f = 1115 ∨ f = 1253 ∨ f = 1280 ∨ f = 1281) σ σ'
section OP7
variable {g : GP} {l : Launch} {d : Nat} {σ : St} {x m : Nat}
theorem m_mask {n : Int} {P : Int64 → St → Prop} (h0 : 0 ≤ n) (h1 : n < 2147483648) (h : P (mkv n) σ) : ACj g l d MX12_mask [vR 12 (some m), vJ (i2j n)] σ P := by
  have e : (i2j n).toInt = n := by rw [i2j_toInt, w32_id (by omega) h1]
  have e2 : j2i (i2j n) = n := by rw [j2i_eq, e, w32_id (by omega) h1]
  have e3 : (64 : Int64).toInt = 64 := by decide
  unfold mkv at h
  refine AC.of mo_X12_mask (Nat.le_of_ble_eq_true rfl) (bk_X12_mask_0 ?_)
  rw [e, e2, e3]
  refine ⟨fun q => ⟨_, rfl, ?_⟩, fun q => ⟨_, rfl, ?_⟩⟩
  · rw [if_pos q] at h; exact h
  · rw [if_neg q] at h; exact h
theorem x_lowBits {n : Int} {P : Int64 → St → Prop} (h : P (mkv n) σ) : ACj g l d MX11_lowBits [vI n] σ P := by
  unfold mkv at h
  refine AC.of mo_X11_lowBits (Nat.le_of_ble_eq_true rfl) (bk_X11_lowBits_0 ⟨fun q => ⟨_, rfl, ?_⟩, fun q => ⟨_, rfl, ?_⟩⟩)
  · rw [if_pos q] at h; exact h
  · rw [if_neg q] at h; exact h
/-- the reference's raw, of w bytes at p of the image im, the highest first if bg -/
theorem m_raw {p c w bg im : Int} {P : Int64 → St → Prop} (hm : LC 12 σ m) (him : gI σ 1281 m 0 = im) (h1 : 0 ≤ im) (h2 : im < 6) (h3 : 0 ≤ gI σ 1202 m im.toNat) (h4 : gI σ 1202 m im.toNat ≤ 4) (hc : i_and c 15 = w) (hb : i_and c 32 ≤ 0 ↔ bg = 0) (h5 : 0 ≤ p) (h6 : p + w ≤ 2000) (h7 : 0 ≤ w)
    (h : P (rv (fun i => hasM σ m im (if bg = 0 then p + w - 1 - i else p + i)) w.toNat) σ) : ACj g l (d + 2) MX12_raw [vR 12 (some m), vI p, vI c] σ P := by
  have loop : ∀ (j : Nat) (v : Int64) (k : Int), k = w - j → 0 ≤ k → v = rv (fun i => hasM σ m im (if bg = 0 then p + w - 1 - i else p + i)) k.toNat →
      AW g l (d + 2) MX12_raw 11 [some (vR 12 (some m)), some (vI p), some (vI c), some (vI w), some (vJ v), none, some (vI k)] [] σ (fun v σ' => ∃ r, v = some (vJ r) ∧ P r σ') := by
    intro j
    induction j with
    | zero =>
      intro v k hk hk0 hv'
      obtain rfl : k = w := by omega
      refine bk_X12_raw_11 ⟨fun _ => ⟨_, rfl, ?_⟩, fun q => absurd (Int.le_refl _) q⟩
      rw [hv']; exact h
    | succ j ih =>
      intro v k hk hk0 hv'
      have es : rv (fun i => hasM σ m im (if bg = 0 then p + w - 1 - i else p + i)) (k + 1).toNat = j_shl v 8 ||| i2j (hasM σ m im (if bg = 0 then p + w - 1 - k else p + k)) := by
        rw [show (k + 1).toNat = k.toNat + 1 by omega, hv']
        show j_shl (rv _ k.toNat) 8 ||| i2j (hasM σ m im (if bg = 0 then p + w - 1 - (k.toNat : Int) else p + (k.toNat : Int))) = _
        rw [show ((k.toNat : Nat) : Int) = k by omega]
      refine bk_X12_raw_11 ⟨fun q => absurd q (by omega), fun _ => ⟨fun q => ⟨⟨by omega, by omega⟩, ⟨by omega, by omega⟩, ⟨by omega, by omega⟩, ?_⟩, fun q => ⟨⟨by omega, by omega⟩, ?_⟩⟩⟩
      · rw [him]
        refine m_has hm h1 h2 h3 h4 (by omega) (by omega) ⟨⟨by omega, by omega⟩, ih _ _ (by omega) (by omega) ?_⟩
        rw [es, if_pos (hb.mp q)]
      · rw [him]
        refine m_has hm h1 h2 h3 h4 (by omega) (by omega) ⟨⟨by omega, by omega⟩, ih _ _ (by omega) (by omega) ?_⟩
        rw [es, if_neg (fun z => q (hb.mpr z))]
  refine AC.of mo_X12_raw (Nat.le_of_ble_eq_true rfl) (bk_X12_raw_0 ?_)
  rw [hc]
  exact loop w.toNat 0 0 (by omega) (by omega) rfl
theorem x_matches {a : Nat} {p n : Int} {P : Int → St → Prop} (hx : LC 11 σ x) (ha : LC 3 σ a) (hl : gI σ 304 a 0 ≤ 2000) (h0 : 0 ≤ p) (h1 : 0 ≤ n) (h2 : p + n ≤ gI σ 304 a 0)
    (h : P (if 0 ≤ al (fun i => i_and (i_xor (gI σ 301 a (p + i).toNat) (gI σ 1113 x i.toNat)) (gI σ 1114 x i.toNat)) n.toNat then 1 else 0) σ) : ACi g l (d + 1) MX11_matches [vR 11 (some x), vR 3 (some a), vI p, vI n] σ P := by
  have loop : ∀ (j : Nat) (k : Int), k = n - j → 0 ≤ k → (∀ i : Int, 0 ≤ i → i < k → i_and (i_xor (gI σ 301 a (p + i).toNat) (gI σ 1113 x i.toNat)) (gI σ 1114 x i.toNat) = 0) →
      AW g l (d + 1) MX11_matches 3 [some (vR 11 (some x)), some (vR 3 (some a)), some (vI p), some (vI n), some (vI k)] [] σ (fun v σ' => ∃ r, v = some (vI r) ∧ P r σ') := by
    intro j
    induction j with
    | zero =>
      intro k hk hk0 hal
      obtain rfl : k = n := by omega
      refine bk_X11_matches_3 ⟨fun _ => ⟨_, rfl, ?_⟩, fun q => absurd (Int.le_refl _) q⟩
      rw [if_pos (al_iff.mpr (fun i z0 z1 => hal i z0 (by omega)))] at h
      exact h
    | succ j ih =>
      intro k hk hk0 hal
      refine bk_X11_matches_3 ⟨fun q => absurd q (by omega), fun _ => ⟨⟨by omega, by omega⟩, a, rfl, x_has ha hl (fun q => absurd ⟨by omega, by omega⟩ q) (fun _ _ => ⟨hx, ⟨by omega, by omega⟩, fun q => ⟨⟨by omega, by omega⟩, ih _ (by omega) (by omega) (fun i z0 z1 => ?_)⟩, fun q => ⟨_, rfl, ?_⟩⟩)⟩⟩
      · by_cases e : i = k
        · rw [e]; exact q
        · exact hal i z0 (by omega)
      · rw [if_neg (fun z => q (al_iff.mp z k hk0 (by omega)))] at h
        exact h
  exact AC.of mo_X11_matches (Nat.le_of_ble_eq_true rfl) (bk_X11_matches_0 (loop n.toNat 0 (by omega) (by omega) (fun i z0 z1 => absurd z1 (by omega))))
theorem x_matchOf {a : Nat} {n k : Int} {P : Int → St → Prop} (hx : LC 11 σ x) (ha : LC 3 σ a) (hl : gI σ 304 a 0 ≤ 2000) (h1 : 0 ≤ n) (h2 : n ≤ 3000) (hk2 : k < 2147483648)
    (h : P (if k < 0 then -1 else kth (fun p => al (fun i => i_and (i_xor (gI σ 301 a (p + i).toNat) (gI σ 1113 x i.toNat)) (gI σ 1114 x i.toNat)) n.toNat) (gI σ 304 a 0 - n + 1).toNat 0 k) σ) : ACi g l (d + 2) MX11_matchOf [vR 11 (some x), vR 3 (some a), vI n, vI k] σ P := by
  have loop : ∀ (j : Nat) (p v : Int), (j : Int) = max 0 (gI σ 304 a 0 - n + 1 - p) → 0 ≤ p → p ≤ 2001 → 0 ≤ v → v ≤ k → 0 ≤ k → P (kth (fun p => al (fun i => i_and (i_xor (gI σ 301 a (p + i).toNat) (gI σ 1113 x i.toNat)) (gI σ 1114 x i.toNat)) n.toNat) j p v) σ →
      AW g l (d + 2) MX11_matchOf 6 [some (vR 11 (some x)), some (vR 3 (some a)), some (vI n), some (vI k), some (vI v), some (vI p)] [] σ (fun v σ' => ∃ r, v = some (vI r) ∧ P r σ') := by
    intro j
    induction j with
    | zero =>
      intro p v hj hp hp2 hv0 hvk hk hP
      exact bk_X11_matchOf_6 ⟨fun q => absurd q (by omega), fun _ => ⟨⟨by omega, by omega⟩, a, rfl, fun _ => ⟨_, rfl, hP⟩, fun q => absurd (by omega) q⟩⟩
    | succ j ih =>
      intro p v hj hp hp2 hv0 hvk hk hP
      refine bk_X11_matchOf_6 ⟨fun q => absurd q (by omega), fun _ => ⟨⟨by omega, by omega⟩, a, rfl, fun q => absurd q (by omega), fun _ => x_matches hx ha hl hp h1 (by omega) ?_⟩⟩
      simp only [kth] at hP
      by_cases e : 0 ≤ al (fun i => i_and (i_xor (gI σ 301 a (p + i).toNat) (gI σ 1113 x i.toNat)) (gI σ 1114 x i.toNat)) n.toNat
      · rw [if_pos e] at hP ⊢
        refine ⟨fun q => absurd q (by decide), fun _ => ⟨fun qv => ?_, fun qv => ?_⟩⟩
        · rw [if_neg qv] at hP
          exact ⟨⟨by omega, by omega⟩, ⟨by omega, by omega⟩, ih _ _ (by omega) (by omega) (by omega) (by omega) (by omega) hk hP⟩
        · rw [if_pos qv] at hP
          exact ⟨_, rfl, hP⟩
      · rw [if_neg e] at hP ⊢
        exact ⟨fun _ => ⟨⟨by omega, by omega⟩, ih _ _ (by omega) (by omega) (by omega) hv0 hvk hk hP⟩, fun q => absurd rfl q⟩
  refine AC.of mo_X11_matchOf (Nat.le_of_ble_eq_true rfl) (bk_X11_matchOf_0 ?_)
  by_cases e : k < 0
  · rw [if_pos e] at h
    exact bk_X11_matchOf_6 ⟨fun _ => ⟨_, rfl, h⟩, fun q => absurd e q⟩
  · rw [if_neg e] at h
    exact loop _ 0 k (by omega) (by omega) (by omega) (by omega) (by omega) (by omega) h
end OP7
