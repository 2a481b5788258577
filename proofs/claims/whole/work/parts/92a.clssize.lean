/-! the class's sizes -/
theorem skr_o {B : Nat} : ∀ (N : List Nd) (j : Nat) (s s' : List Nat), skr B N j s = some s' → ∀ x ∈ N, ¬ x.o = 0
  | [], _, _, _, _, x, hx => absurd hx (by simp)
  | y :: N, j, s, s', h, x, hx => by
    have h : (sk1 B j y s).bind (skr B N (j + 1)) = some s' := h
    cases e : sk1 B j y s with
    | none => rw [e] at h; exact absurd h (by simp)
    | some s1 =>
      rw [e] at h
      rcases List.mem_cons.mp hx with rfl | hx
      · intro z
        unfold sk1 at e
        rw [z] at e
        rw [if_neg (by decide), if_neg (by decide), if_neg (by decide)] at e
        exact absurd e (by simp)
      · exact skr_o N (j + 1) s1 s' h x hx
section X24
variable {g : GP} {l : Launch} {d : Nat} {σ : St} {dd c r : Nat} {so : Nat → Nat} {fo : Nat → Nat → Nat} {En : List Enm} {Ss : List Stc} {F : Fld}
theorem x_stepAt {x : Int} {P : Int → St → Prop} (hL : LC 0 σ c) (h3 : gI σ 2 c 0 ≤ 3002) (h : P (if x < 0 then 0 else if x < gI σ 2 c 0 then gI σ 0 c x.toNat else 0) σ) : ACi g l d MX0_stepAt [vR 0 (some c), vI x] σ P := by
  refine AC.of mo_X0_stepAt (Nat.le_of_ble_eq_true rfl) (bk_X0_stepAt_0 ⟨fun q => ⟨_, rfl, by rw [if_pos q] at h; exact h⟩, fun q => ⟨fun q2 => ⟨hL, ⟨by omega, by omega⟩, _, rfl, by rw [if_neg q, if_pos q2] at h; exact h⟩, fun q2 => ⟨_, rfl, by rw [if_neg q, if_neg q2] at h; exact h⟩⟩⟩)
theorem x_alone {a most : Int} {e : Exr} {P : Int64 → St → Prop} (hL : LC 0 σ c) (h3 : gI σ 2 c 0 ≤ 3002) (hm : 0 ≤ most ∧ most ≤ 5000) (hx : XC σ c a e) (hw : WFx e) (h : ∀ v : Int64, v.toInt = alone e most → P v σ) : ACj g l (d + 1) MX0_alone [vR 0 (some c), vI a, vI most] σ P := by
  have no : alone e most = -1 → AW g l (d + 1) MX0_alone 24 [some (vR 0 (some c)), some (vI a), some (vI most), none] [vI 0] σ (fun v σ' => ∃ r, v = some (vJ r) ∧ P r σ') := fun q =>
    bk_X0_alone_24 ⟨fun _ => ⟨_, rfl, h (-1) (by rw [q]; decide)⟩, fun z => absurd rfl z⟩
  refine AC.of mo_X0_alone (Nat.le_of_ble_eq_true rfl) (bk_X0_alone_0 (x_stepAt hL h3 ?_))
  match e, hx, hw, h, no with
  | none, hx, hw, h, no =>
    have hx : a = -1 := hx
    rw [if_pos (by omega)]
    exact ⟨fun _ => no rfl, fun z => absurd z (by decide)⟩
  | some N, hx, hw, h, no =>
    obtain ⟨b, rfl, b1, b2, b3⟩ := hx
    obtain ⟨w1, w2, w3⟩ := hw N rfl
    match N, b1, b2, b3, w1, w2, w3, h, no with
    | x :: M, b1, b2, b3, w1, w2, w3, h, no =>
      have el : (x :: M).length = M.length + 1 := rfl
      rw [if_neg (by omega), if_pos (by omega), show ((b : Int)).toNat = b by omega]
      have e0 := b2 0 x rfl
      rw [Nat.add_zero] at e0
      rw [e0.1]
      refine ⟨fun q => no ?_, fun q => ⟨⟨by omega, by omega⟩, x_stepAt hL h3 ?_⟩⟩
      · match M with
        | [] => show (if x.o = 3 ∧ x.v.toInt ≤ most then x.v.toInt else -1) = -1; rw [if_neg (fun z => q z.1)]
        | y :: M => rfl
      · rw [if_neg (by omega)]
        match M, b1, b2, b3, w1, w2, w3, h, no, el with
        | [], b1, b2, b3, w1, w2, w3, h, no, el =>
          have b3 : gI σ 0 c (b + 1) = 0 := b3
          have b1 : ((b + 1 : Nat) : Int) < gI σ 2 c 0 := b1
          rw [if_pos (by omega), show ((b : Int) + 1).toNat = b + 1 by omega, b3]
          refine ⟨fun z => absurd rfl z, fun _ => bk_X0_alone_24 ⟨fun z => absurd z (by decide), fun _ => ⟨hL, ⟨by omega, by omega⟩, ?_⟩⟩⟩
          rw [show ((b : Int)).toNat = b by omega, e0.2, i2j_toInt, w32_id (by omega) (by omega)]
          have ea : alone (some [x]) most = if x.o = 3 ∧ x.v.toInt ≤ most then x.v.toInt else -1 := rfl
          refine ⟨fun z => ⟨_, rfl, h (-1) ?_⟩, fun z => ⟨_, rfl, h x.v ?_⟩⟩
          · rw [ea, if_neg (by omega)]; decide
          · rw [ea, if_pos ⟨q, by omega⟩]
        | y :: M, b1, b2, b3, w1, w2, w3, h, no, el =>
          have e1 := b2 1 y rfl
          have hy : ¬ y.o = 0 := skr_o _ _ _ _ w2 y (by simp)
          have el2 : (x :: y :: M).length = M.length + 2 := rfl
          rw [if_pos (by omega), show ((b : Int) + 1).toNat = b + 1 by omega, e1.1]
          exact ⟨fun _ => no rfl, fun z => absurd z hy⟩
theorem szS_le {s : Int} (hW : ∀ (s : Nat) (S : Stc), Ss[s]? = some S → -1 ≤ S.2.2 ∧ S.2.2 ≤ 1000000) : -1 ≤ szS Ss s ∧ szS Ss s ≤ 1000000 := by
  unfold szS
  split
  · omega
  · cases e : Ss[s.toNat]? with
    | none => exact ⟨by decide, by decide⟩
    | some S => exact hW _ S e
theorem x_arraySize {P : Int64 → St → Prop} (hL1 : LC 1 σ dd) (hS : DSh σ dd so fo) (hD : DCo σ dd c so fo En Ss) (h110 : gR σ 110 dd 0 = some c) (hL : LC 0 σ c) (h3 : gI σ 2 c 0 ≤ 3002) (hW : ∀ (s : Nat) (S : Stc), Ss[s]? = some S → -1 ≤ S.2.2 ∧ S.2.2 ≤ 1000000) (hF : FC σ dd c r F) (hw : WFx F.e1) (ht : 0 ≤ tw F.ty ∧ tw F.ty ≤ 15)
    (h : ∀ v : Int64, v.toInt = (if alone F.e1 200 = -1 ∨ (if F.st = -1 then tw F.ty else szS Ss F.st) = -1 then -1 else alone F.e1 200 * (if F.st = -1 then tw F.ty else szS Ss F.st)) → P v σ) : ACj g l (d + 2) MX1_arraySize [vR 1 (some dd), vR 2 (some r)] σ P := by
  have zs := szS_le (Ss := Ss) (s := F.st) hW
  have a1 : -1 ≤ alone F.e1 200 ∧ alone F.e1 200 ≤ 200 := by
    unfold alone
    split
    · rename_i x e
      split
      · rename_i c
        have := (hw _ e).2.2 x (by simp) c.1
        omega
      · omega
    · omega
  have fin : ∀ (v : Int64) (y : Int), v.toInt = alone F.e1 200 → y = (if F.st = -1 then tw F.ty else szS Ss F.st) → AW g l (d + 2) MX1_arraySize 38 [none, none, some (vJ v), none, none] [vI y] σ (fun v σ' => ∃ r, v = some (vJ r) ∧ P r σ') := by
    intro v y hv hy
    rw [← hy, ← hv] at h
    have yb : -1 ≤ y ∧ y ≤ 1000000 := by rw [hy]; split <;> omega
    have vm : v = (-1 : Int64) ↔ v.toInt = -1 := ⟨fun e => by rw [e]; decide, fun e => Int64.toInt_inj.mp (by rw [e]; decide)⟩
    refine bk_X1_arraySize_38 ⟨fun q => ⟨_, rfl, h (-1) ?_⟩, fun q => ⟨fun q2 => ⟨_, rfl, h (v * i2j y) ?_⟩, fun q2 => ⟨_, rfl, h (-1) ?_⟩⟩⟩
    · rw [if_pos (Or.inl (vm.mp q))]; decide
    · rw [if_neg (fun z => z.elim (fun z => q (vm.mpr z)) q2), Int64.toInt_mul, i2j_toInt, w32_id (by omega) (by omega)]
      have hv2 : -1 ≤ v.toInt ∧ v.toInt ≤ 200 := by omega
      have b1 : v.toInt * y ≤ 200 * 1000000 := by
        have v0 : 0 ≤ v.toInt := by have : ¬ v.toInt = -1 := fun z => q (vm.mpr z); omega
        have y0 : 0 ≤ y := by omega
        exact Int.mul_le_mul hv2.2 yb.2 y0 (by decide)
      have b0 : 0 ≤ v.toInt * y := by
        have v0 : 0 ≤ v.toInt := by have : ¬ v.toInt = -1 := fun z => q (vm.mpr z); omega
        exact Int.mul_nonneg v0 (by omega)
      rw [bmod64]
      omega
    · rw [if_pos (Or.inr q2)]; decide
  refine AC.of mo_X1_arraySize (Nat.le_of_ble_eq_true rfl) (bk_X1_arraySize_0 ⟨r, rfl, c, h110, x_alone hL h3 (by decide) hF.e1 hw (fun v hv => ?_)⟩)
  rw [hF.st, hF.xtw]
  exact ⟨fun q => x_sizeOf hL1 hS hD (fin v _ hv (by rw [if_neg q])), fun q => fin v _ hv (by rw [if_pos q])⟩
theorem x_unionSize {P : Int → St → Prop} (hL1 : LC 1 σ dd) (hS : DSh σ dd so fo) (hD : DCo σ dd c so fo En Ss) (h3 : gI σ 109 dd 0 ≤ 3000) (hF : FC σ dd c r F) (h : P (if F.es.all (fun e => szS Ss e.2.2 == szS Ss F.ot) = true then szS Ss F.ot else -1) σ) : ACi g l (d + 1) MX1_unionSize [vR 1 (some dd), vR 2 (some r)] σ P := by
  obtain ⟨b, b1, b2, b3, b4⟩ := hF.es
  have loop : ∀ (L : List Ent) (j : Nat), (∀ k e, L[k]? = some e → gI σ 108 dd (b + j + k) = e.2.2) → j + L.length = F.es.length → P (if L.all (fun e => szS Ss e.2.2 == szS Ss F.ot) = true then szS Ss F.ot else -1) σ → AW g l (d + 1) MX1_unionSize 14 [some (vR 1 (some dd)), some (vR 2 (some r)), some (vI (szS Ss F.ot)), some (vI ((b + j : Nat) : Int))] [] σ (fun v σ' => ∃ r, v = some (vI r) ∧ P r σ') := by
    intro L
    induction L with
    | nil =>
      intro j _ hj hP
      have hj : j + 0 = F.es.length := hj
      refine bk_X1_unionSize_14 ⟨r, rfl, ?_⟩
      rw [b1, b2]
      exact ⟨⟨by omega, by omega⟩, fun _ => ⟨_, rfl, hP⟩, fun q => absurd (by omega) q⟩
    | cons e L ih =>
      intro j hn hj hP
      have hj : j + (L.length + 1) = F.es.length := hj
      have e0 := hn 0 e rfl
      rw [Nat.add_zero] at e0
      refine bk_X1_unionSize_14 ⟨r, rfl, ?_⟩
      rw [b1, b2]
      refine ⟨⟨by omega, by omega⟩, fun q => absurd q (by omega), fun _ => ⟨hL1, ⟨by omega, by omega⟩, ?_⟩⟩
      rw [show (((b + j : Nat) : Int)).toNat = b + j by omega, e0]
      rw [List.all_cons] at hP
      refine x_sizeOf hL1 hS hD ⟨fun q => ⟨⟨by omega, by omega⟩, ?_⟩, fun q => ⟨_, rfl, ?_⟩⟩
      · rw [q, beq_self_eq_true, Bool.true_and] at hP
        exact ih (j + 1) (fun k e' he => by rw [show b + (j + 1) + k = b + j + (k + 1) by omega]; exact hn (k + 1) e' he) (by omega) hP
      · have : (szS Ss e.2.2 == szS Ss F.ot) = false := by simpa using q
        rw [this, Bool.false_and] at hP
        exact hP
  refine AC.of mo_X1_unionSize (Nat.le_of_ble_eq_true rfl) (bk_X1_unionSize_0 ⟨r, rfl, ?_⟩)
  rw [hF.ot]
  refine x_sizeOf hL1 hS hD ?_
  rw [b1]
  exact loop F.es 0 (fun k e he => by rw [Nat.add_zero]; exact (b4 k e he).2.2) (by omega) h
theorem sgn_xor (x y : Int64) : (0 ≤ (x ^^^ y).toInt) ↔ ((0 ≤ x.toInt) ↔ (0 ≤ y.toInt)) := by
  have e : ∀ z : Int64, (0 ≤ z.toInt) ↔ z.toBitVec.msb = false := fun z => by
    have : z.toBitVec.msb = decide (z.toBitVec.toInt < 0) := BitVec.msb_eq_toInt
    rw [this]
    show 0 ≤ z.toBitVec.toInt ↔ _
    simp
  rw [e, e, e]
  show (x.toBitVec ^^^ y.toBitVec).msb = false ↔ _
  rw [BitVec.msb_xor]
  cases x.toBitVec.msb <;> cases y.toBitVec.msb <;> decide
theorem j_floorMod {x n : Int64} {P : Int64 → St → Prop} (hn : 1 ≤ n.toInt) (hn2 : n.toInt ≤ 64) (hx : -1000000000000 ≤ x.toInt) (hx2 : x.toInt ≤ 0) (h : ∀ v : Int64, v.toInt = x.toInt % n.toInt → P v σ) : ACj g l d MJ9_floorMod_f86c9 [vJ x, vJ n] σ P := by
  have n0 : ¬ n = 0 := fun e => by rw [e] at hn; exact absurd hn (by decide)
  have dv : (x / n).toInt = x.toInt.tdiv n.toInt := by
    rw [Int64.toInt_div, Int.bmod_eq_of_le]
    · have := Int.tdiv_le_self (a := x.toInt) n.toInt
      have h1 : -(1000000000000 : Int) ≤ x.toInt.tdiv n.toInt := by
        obtain ⟨y, hy⟩ : ∃ y, x.toInt = -y := ⟨-x.toInt, by omega⟩
        rw [hy, Int.neg_tdiv, Int.tdiv_eq_ediv_of_nonneg (by omega)]
        have := Int.ediv_le_self (a := y) n.toInt (by omega)
        omega
      omega
    · obtain ⟨y, hy⟩ : ∃ y, x.toInt = -y := ⟨-x.toInt, by omega⟩
      rw [hy, Int.neg_tdiv, Int.tdiv_eq_ediv_of_nonneg (by omega)]
      have := Int.ediv_nonneg (a := y) (b := n.toInt) (by omega) (by omega)
      omega
  obtain ⟨y, hy⟩ : ∃ y, x.toInt = -y := ⟨-x.toInt, by omega⟩
  have qd : x.toInt.tdiv n.toInt = -(y / n.toInt) := by rw [hy, Int.neg_tdiv, Int.tdiv_eq_ediv_of_nonneg (by omega)]
  have mm := Int.emod_add_mul_ediv y n.toInt
  have m0 := Int.emod_nonneg y (show n.toInt ≠ 0 by omega)
  have m1 := Int.emod_lt_of_pos y (show 0 < n.toInt by omega)
  have rm : (j_rem x n).toInt = -(y % n.toInt) := by
    unfold j_rem
    have e1 : (x / n * n).toInt = -(n.toInt * (y / n.toInt)) := by
      rw [Int64.toInt_mul, dv, qd, bmod64, Int.neg_mul, Int.mul_comm (y / n.toInt) n.toInt]
      generalize n.toInt * (y / n.toInt) = k at *
      omega
    rw [Int64.toInt_sub, e1, bmod64]
    generalize n.toInt * (y / n.toInt) = k at *
    omega
  have em : x.toInt % n.toInt = if y % n.toInt = 0 then 0 else n.toInt - y % n.toInt := by
    rw [hy]
    by_cases z : y % n.toInt = 0
    · rw [if_pos z]
      exact Int.emod_eq_zero_of_dvd ((Int.dvd_neg).mpr (Int.dvd_of_emod_eq_zero z))
    · rw [if_neg z]
      have e3 : -y = (n.toInt - y % n.toInt) + n.toInt * (-(y / n.toInt) - 1) := by
        rw [Int.mul_sub, Int.mul_neg, Int.mul_one]
        generalize n.toInt * (y / n.toInt) = k at *
        omega
      rw [e3, Int.add_mul_emod_self_left, Int.emod_eq_of_lt (by omega) (by omega)]
  have rz : j_rem x n = (0 : Int64) ↔ y % n.toInt = 0 := by
    constructor
    · intro e
      rw [e] at rm
      have : (0 : Int64).toInt = 0 := rfl
      omega
    · intro e
      refine Int64.toInt_inj.mp ?_
      rw [rm, e]; rfl
  have sx := sgn_xor x n
  refine AC.of mo_J9_floorMod_f86c9 (Nat.le_of_ble_eq_true rfl) (bk_J9_floorMod_f86c9_0 ⟨n0, fun q => ⟨_, rfl, h _ ?_⟩, fun q => ⟨fun q2 => ⟨_, rfl, h _ ?_⟩, fun q2 => ⟨_, rfl, h _ ?_⟩⟩⟩)
  · have q : 0 ≤ (x ^^^ n).toInt := q
    have x0 : 0 ≤ x.toInt := (sx.mp q).mpr (by omega)
    have y0 : y = 0 := by omega
    rw [rm, em, y0, Int.zero_emod, if_pos rfl]; rfl
  · rw [rm, em, if_pos (rz.mp q2), rz.mp q2]; rfl
  · have q3 : ¬ y % n.toInt = 0 := fun e => q2 (rz.mpr e)
    rw [Int64.toInt_add, rm, em, if_neg q3, bmod64]
    omega
theorem x_padding {x : Int64} {P : Int64 → St → Prop} (hF : FC σ dd c r F) (hn : F.nu.toInt ≤ 64) (hx : 0 ≤ x.toInt) (hx2 : x.toInt ≤ 1000000000000) (h : ∀ v : Int64, v.toInt = (if F.nu.toInt < 1 then 0 else (-x.toInt) % F.nu.toInt) → P v σ) : ACj g l (d + 1) MX2_padding [vR 2 (some r), vJ x] σ P := by
  have en : (-x).toInt = -x.toInt := by rw [Int64.toInt_neg, bmod64]; omega
  refine AC.of mo_X2_padding (Nat.le_of_ble_eq_true rfl) (bk_X2_padding_0 ?_)
  rw [hF.nu]
  have one : (1 : Int64).toInt = 1 := rfl
  rw [one]
  refine ⟨fun q => j_floorMod q hn (by rw [en]; omega) (by rw [en]; omega) (fun v hv => ⟨_, rfl, h v ?_⟩), fun q => ⟨_, rfl, h 0 ?_⟩⟩
  · rw [hv, en, if_neg (by omega)]
  · rw [if_pos (by omega)]; rfl
end X24
