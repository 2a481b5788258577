/-! set -/
def okS (y : Int) (sg : Bool) (v : Int64) : Prop := ¬ y < 64 ∨ (sg = true ∧ ¬ v.toInt < (-(j_shl 1 (y - 1))).toInt ∧ ¬ (j_shl 1 (y - 1)).toInt ≤ v.toInt) ∨ (sg = false ∧ ¬ v.toInt < 0 ∧ ¬ (mkv y).toInt < v.toInt)
theorem U64_mkv : ∀ n : Fin 64, U64 (mkv (n.val : Int)) = 2 ^ n.val - 1 := by decide +kernel
theorem okS_part {n : Int} {v : Int64} (h0 : 1 ≤ n) (h1 : n ≤ 64) : okS n false v ↔ (v &&& mkv n) = v := by
  unfold okS
  by_cases c : n < 64
  · obtain ⟨j, rfl⟩ : ∃ j : Nat, n = j := ⟨n.toNat, by omega⟩
    have hj : j < 64 := by omega
    have um := U64_mkv ⟨j, hj⟩
    have um : U64 (mkv (j : Int)) = 2 ^ j - 1 := um
    have ua : U64 (v &&& mkv (j : Int)) = U64 v % 2 ^ j := by
      have : U64 (v &&& mkv (j : Int)) = U64 v &&& U64 (mkv (j : Int)) := rfl
      rw [this, um, Nat.and_two_pow_sub_one_eq_mod]
    have tm := U64_toInt (mkv (j : Int))
    have tv := U64_toInt v
    have lv := U64_lt v
    have pw : 2 ^ j ≤ 2 ^ 63 := Nat.pow_le_pow_right (by decide) (by omega)
    have p1 : 1 ≤ 2 ^ j := Nat.one_le_two_pow
    have p63 : (2 : Nat) ^ 63 = 9223372036854775808 := by decide
    rw [um] at tm
    constructor
    · intro q
      refine U64_inj ?_
      rw [ua]
      refine Nat.mod_eq_of_lt ?_
      rcases q with q | q | q
      · omega
      · exact absurd q.1 (by decide)
      · have q1 := q.2.1
        have q2 := q.2.2
        omega
    · intro q
      have e : U64 v % 2 ^ j = U64 v := by rw [← ua, q]
      have lt : U64 v < 2 ^ j := by
        have := Nat.mod_lt (U64 v) (show 0 < 2 ^ j by omega)
        omega
      refine Or.inr (Or.inr ⟨rfl, ?_, ?_⟩)
      · omega
      · omega
  · have : n = 64 := by omega
    subst this
    refine ⟨fun _ => ?_, fun _ => Or.inl c⟩
    show v &&& (-1) = v
    exact Int64.and_neg_one
theorem half2 {w : Int} (h1 : 1 ≤ w) (h7 : w ≤ 7) : ((2 : Int64) * (j_shl 1 ((8 * w) - 1))).toInt = (mkv (8 * w)).toInt + 1 := by
  have hw : w = 1 ∨ w = 2 ∨ w = 3 ∨ w = 4 ∨ w = 5 ∨ w = 6 ∨ w = 7 := by omega
  rcases hw with rfl | rfl | rfl | rfl | rfl | rfl | rfl <;> decide +kernel
section E2
variable {g : GP} {l : Launch} {d e : Nat} {σ σ1 σ2 : St} {x m p b a : Nat} {A B : DPa} {En : List Enm} {Ss : List Stc} {T : Nat → TS} {I : Nat → Int} {t k i im fr n bg : Int} {w v : Int64} {fo : Nat → Nat → Nat} {s : TS}
theorem m_has_ {sg : Bool} {y : Int} {P : Int → St → Prop} (hn : 1 ≤ n ∧ n ≤ 8) (hs : y = 0 ↔ sg = false) (h1 : okS (8 * n) sg v → P 1 σ) (h0 : ¬ okS (8 * n) sg v → P 0 σ) : ACi g l d MX12_has_ [vR 12 (some m), vJ v, vI n, vI y] σ P := by
  have z0 : (0 : Int64).toInt = 0 := by decide
  unfold okS at h1 h0
  refine AC.of mo_X12_has_ (Nat.le_of_ble_eq_true rfl) (bk_X12_has__0 ⟨fun c => ⟨⟨by omega, by omega⟩, ⟨by omega, by omega⟩, fun q => ?_, fun q => ?_⟩, fun c => ⟨_, rfl, h1 (Or.inl (by omega))⟩⟩)
  · have sf := hs.mp q
    rw [z0, half2 hn.1 (by omega)]
    refine ⟨fun u => ⟨_, rfl, h0 (fun z => ?_)⟩, fun u => ⟨fun u2 => ⟨_, rfl, h0 (fun z => ?_)⟩, fun u2 => ⟨_, rfl, h1 (Or.inr (Or.inr ⟨sf, u, by omega⟩))⟩⟩⟩
    · rcases z with z | z | z
      · omega
      · rw [sf] at z; exact absurd z.1 (by decide)
      · exact z.2.1 u
    · rcases z with z | z | z
      · omega
      · rw [sf] at z; exact absurd z.1 (by decide)
      · exact z.2.2 (by omega)
  · have sf : sg = true := by
      cases sg with
      | true => rfl
      | false => exact absurd (hs.mpr rfl) q
    refine ⟨fun u => ⟨_, rfl, h0 (fun z => ?_)⟩, fun u => ⟨fun u2 => ⟨_, rfl, h0 (fun z => ?_)⟩, fun u2 => ⟨_, rfl, h1 (Or.inr (Or.inl ⟨sf, u, u2⟩))⟩⟩⟩
    · rcases z with z | z | z
      · omega
      · exact z.2.1 u
      · rw [sf] at z; exact absurd z.1 (by decide)
    · rcases z with z | z | z
      · omega
      · exact z.2.2 u2
      · rw [sf] at z; exact absurd z.1 (by decide)
/-- may a node have a value: in the class -/
theorem x_canHave {r r2 : Nat} {kd y sgn' : Int} {P : Int → St → Prop} (h501 : gI σ 501 r 0 = kd) (h513 : gR σ 513 r 0 = some r2) (h204 : gI σ 204 r2 0 = sgn') (hy : (kd = 4 → y = gI σ 516 r 0) ∧ (¬ kd = 4 → y = 8 * gI σ 203 r2 0 ∧ 1 ≤ gI σ 203 r2 0 ∧ gI σ 203 r2 0 ≤ 8)) (hy1 : 1 ≤ y) (h1 : okS y (decide (¬ sgn' = 0 ∧ ¬ kd = 4 ∧ ¬ kd = 3)) v → P 1 σ) (h0 : ¬ okS y (decide (¬ sgn' = 0 ∧ ¬ kd = 4 ∧ ¬ kd = 3)) v → P 0 σ) : ACi g l (d + 1) MX5_canHave [vR 5 (some r), vJ v] σ P := by
  have z0 : (0 : Int64).toInt = 0 := by decide
  have s88 : y < 64 → ¬ (¬ sgn' = 0 ∧ ¬ kd = 4 ∧ ¬ kd = 3) → AW g l (d + 1) MX5_canHave 88 [none, some (vJ v), none, some (vI y), none, none] [] σ (fun v σ' => ∃ r, v = some (vI r) ∧ P r σ') := fun y64 ns => by
    have sf : decide (¬ sgn' = 0 ∧ ¬ kd = 4 ∧ ¬ kd = 3) = false := decide_eq_false ns
    rw [sf] at h1 h0
    unfold okS at h1 h0
    refine bk_X5_canHave_88 ?_
    rw [z0]
    refine ⟨fun u => ⟨_, rfl, h0 (fun z => ?_)⟩, fun u => x_lowBits ⟨fun u2 => ⟨_, rfl, h0 (fun z => ?_)⟩, fun u2 => ⟨_, rfl, h1 (Or.inr (Or.inr ⟨rfl, u, u2⟩))⟩⟩⟩
    · rcases z with z | z | z
      · omega
      · exact absurd z.1 (by decide)
      · exact z.2.1 u
    · rcases z with z | z | z
      · omega
      · exact absurd z.1 (by decide)
      · exact z.2.2 u2
  have s25 : AW g l (d + 1) MX5_canHave 25 [some (vR 5 (some r)), some (vJ v), none, none, none, none] [vI y] σ (fun v σ' => ∃ r, v = some (vI r) ∧ P r σ') := by
    refine bk_X5_canHave_25 ?_
    rw [h501, h513]
    refine ⟨fun y64 => ⟨r2, rfl, ?_⟩, fun y64 => ⟨_, rfl, h1 (Or.inl y64)⟩⟩
    rw [h204]
    refine ⟨fun q => s88 y64 (fun z => z.1 q), fun q => ⟨fun q2 => s88 y64 (fun z => z.2.1 q2), fun q2 => ⟨fun q3 => s88 y64 (fun z => z.2.2 q3), fun q3 => ⟨⟨by omega, by omega⟩, ?_⟩⟩⟩⟩
    have sf : decide (¬ sgn' = 0 ∧ ¬ kd = 4 ∧ ¬ kd = 3) = true := decide_eq_true ⟨q, q2, q3⟩
    rw [sf] at h1 h0
    unfold okS at h1 h0
    refine ⟨fun u => ⟨_, rfl, h0 (fun z => ?_)⟩, fun u => ⟨fun u2 => ⟨_, rfl, h0 (fun z => ?_)⟩, fun u2 => ⟨_, rfl, h1 (Or.inr (Or.inl ⟨rfl, u, u2⟩))⟩⟩⟩
    · rcases z with z | z | z
      · omega
      · exact z.2.1 u
      · exact absurd z.1 (by decide)
    · rcases z with z | z | z
      · omega
      · exact z.2.2 u2
      · exact absurd z.1 (by decide)
  refine AC.of mo_X5_canHave (Nat.le_of_ble_eq_true rfl) (bk_X5_canHave_0 ?_)
  rw [h501, h513]
  refine ⟨fun q => ⟨r2, rfl, ?_⟩, fun q => ?_⟩
  · obtain ⟨e1, e2, e3⟩ := hy.2 q
    rw [← e1]
    exact ⟨⟨by omega, by omega⟩, s25⟩
  · rw [← hy.1 q]; exact s25
/-- where a part lies, in the reference -/
theorem m_shiftN {t i : Nat} {F : Fld} {e : Ent} {P : Int → St → Prop} (hL : LC 12 σ m) (ht : t < 7) (hi : i < 400) (hF : FdR σ m b Ss) (hN : NdR σ m t b s i) (q1 : gF Ss (s.d 6 i) = some F) (bo : BiO F.es 0 (8 * tw F.ty)) (t8 : tw F.ty ≤ 8) (l12 : F.es.length ≤ 12) (h8 : 1 ≤ s.d 8 i ∧ s.d 8 i ≤ F.es.length) (he : F.es[(s.d 8 i - 1).toNat]? = some e) (hP : P e.2.2 σ) : ACi g l d MX12_shift [vR 12 (some m), vI ((400 * t + i : Nat) : Int)] σ P := by
  have b2 := hF.1
  have q0 := (gF_some q1).1
  obtain ⟨f280, fr⟩ := hF.2 _ F q1
  obtain ⟨_, _, _, _, _, _, n7, _, n9, _⟩ := hN
  have pv := fr.1.2.2.2.2.2.2.2.2.2
  obtain ⟨o1, o2, o3, o4, o5⟩ := BiO_at _ _ _ bo _ e he
  have shf : ∀ (A : List Ent) (j : Nat) (acc : Int), (∀ k x, A[k]? = some x → F.es[j + k]? = some x) → ((j : Int) + A.length = s.d 8 i - 1) → 0 ≤ acc → acc + smE A = e.2.2 → (∀ x ∈ A, 1 ≤ x.2.1.toInt ∧ x.2.1.toInt ≤ 64) → AW g l d MX12_shift 4 [some (vR 12 (some m)), some (vI ((400 * t + i : Nat) : Int)), some (vI acc), some (vI (j : Int))] [] σ (fun v σ' => ∃ r, v = some (vI r) ∧ P r σ') := by
    intro A
    induction A with
    | nil =>
      intro j acc _ hj a0 ha _
      have hj : (j : Int) + ((0 : Nat) : Int) = s.d 8 i - 1 := hj
      have ha : acc + 0 = e.2.2 := ha
      refine bk_X12_shift_4 ⟨hL, ⟨by omega, by omega⟩, ?_⟩
      rw [Int.toNat_natCast, n9]
      exact ⟨⟨by omega, by omega⟩, fun _ => ⟨_, rfl, by rw [show acc = e.2.2 by omega]; exact hP⟩, fun w => absurd (by omega) w⟩
    | cons x A ih =>
      intro j acc hA hj a0 ha hx
      have hj : (j : Int) + ((A.length + 1 : Nat) : Int) = s.d 8 i - 1 := hj
      have ha : acc + (x.2.1.toInt + smE A) = e.2.2 := ha
      have x64 := hx x List.mem_cons_self
      have nnA := smE_nn A (fun y hy => (hx y (List.mem_cons_of_mem _ hy)).1)
      have c0 := hA 0 x rfl
      rw [Nat.add_zero] at c0
      have pvx := (pv j x c0).2.1
      refine bk_X12_shift_4 ⟨hL, ⟨by omega, by omega⟩, ?_⟩
      rw [Int.toNat_natCast, n9, n7, if_neg (show ¬ s.d 6 i < 0 by omega), show (16 * (((280 * b : Nat) : Int) + s.d 6 i) + (j : Int)).toNat = 16 * (280 * b + (s.d 6 i).toNat) + j by omega, pvx, j2i_eq, w32_id (by omega) (by omega)]
      exact ⟨⟨by omega, by omega⟩, fun w => absurd w (by omega), fun _ => ⟨⟨by omega, by omega⟩, ⟨by omega, by omega⟩, ⟨by omega, by omega⟩, ⟨by omega, by omega⟩, fun z9 hz => ⟨⟨by omega, by omega⟩, ih (j + 1) z9 (fun k y hy => by rw [show j + 1 + k = j + (k + 1) by omega]; exact hA (k + 1) y hy) (by omega) (by omega) (by omega) (fun y hy => hx y (List.mem_cons_of_mem _ hy))⟩⟩⟩
  have tkl : ((F.es.take (s.d 8 i - 1).toNat).length : Int) = s.d 8 i - 1 := by rw [List.length_take]; omega
  exact AC.of mo_X12_shift (Nat.le_of_ble_eq_true rfl) (bk_X12_shift_0 (shf (F.es.take (s.d 8 i - 1).toNat) 0 0 (fun k x hx => by
    rw [Nat.zero_add]
    rw [List.getElem?_take] at hx
    split at hx
    · exact hx
    · cases hx) (by omega) (by omega) (by omega) (fun x hx => by
    obtain ⟨k, hk⟩ := List.getElem?_of_mem (List.mem_of_mem_take hx)
    have := BiO_at _ _ _ bo k x hk
    exact ⟨this.2.1, this.2.2.1⟩)))
/-- the reference puts a number -/
theorem m_putB {c : Int} {P : St → Prop} (hI : ImgI σ x m) (h0 : 0 ≤ im) (h1 : im < gI σ 1101 x 0) (p0 : 0 ≤ fr) (n1 : 1 ≤ n) (n8 : n ≤ 8) (h3 : fr + n ≤ gI σ 304 (img σ x im) 0) (hX : WrX σ σ1 (img σ x im) w n bg fr) (f2 : Frm (fun f r => r = m ∧ 1208 < f) σ1 σ2) (h81 : gI σ2 1281 m 0 = im) (hc : i_and c 15 = n) (hb : i_and c 32 ≤ 0 ↔ bg = 0) (hP : ∀ σ3, Frm (fun f r => r = m ∧ 1203 ≤ f ∧ f ≤ 1209) σ2 σ3 → ImgI σ3 x m → P σ3) : ACv g l (d + 2) MX12_put [vR 12 (some m), vI fr, vJ w, vI c] σ2 P := by
  have L1 := f2.lc ((hX.frm (hI.im h0 h1).2.1).1.lc hI.2.1)
  have loop : ∀ (r j : Nat) (τ : St), ((j + r : Nat) : Int) = n → Frm (fun f r => r = m ∧ f = 1209) σ2 τ → (∀ q : Nat, q < j → gI τ 1209 m (if bg = 0 then (q : Int) else n - 1 - q).toNat = byt w q) → AW g l (d + 2) MX12_put 10 [some (vR 12 (some m)), some (vI fr), some (vJ w), none, some (vI c), some (vI n), some (vI (j : Int))] [] τ (fun v σ' => v = none ∧ P σ') := by
    intro r
    induction r with
    | zero =>
      intro j τ hj F hr
      refine bk_X12_put_10 ⟨fun _ => ?_, fun z => absurd (by omega) z⟩
      rw [F.I (fun q => by omega), h81]
      refine m_writeB hI h0 h1 p0 n1 n8 h3 hX (f2.trans (F.mono (fun f r q => ⟨q.1, by have := q.2; omega⟩))) (fun k k0 k1 => ?_) (fun σ3 F3 I3 => ⟨rfl, hP σ3 ((F.mono (fun f r q => ⟨q.1, by have := q.2; omega⟩)).trans (F3.mono (fun f r q => ⟨q.1, by have := q.2; omega⟩))) I3⟩)
      unfold bvx
      by_cases z : bg = 0
      · have := hr k.toNat (by omega)
        rw [if_pos z, show ((k.toNat : Nat) : Int) = k by omega] at this
        rw [if_pos z]; exact this
      · have := hr (n - 1 - k).toNat (by omega)
        rw [if_neg z, show (((n - 1 - k).toNat : Nat) : Int) = n - 1 - k by omega, show n - 1 - (n - 1 - k) = k by omega] at this
        rw [if_neg z]; exact this
    | succ r ih =>
      intro j τ hj F hr
      have step : ∀ at_ : Nat, (if bg = 0 then (j : Int) else n - 1 - j).toNat = at_ → AW g l (d + 2) MX12_put 10 [some (vR 12 (some m)), some (vI fr), some (vJ w), none, some (vI c), some (vI n), some (vI ((j : Int) + 1))] [] (sI τ 1209 m at_ (byt w j)) (fun v σ' => v = none ∧ P σ') := fun at_ hat => by
        refine ih (j + 1) _ (by omega) (F.trans (Frm.sI ⟨rfl, rfl⟩)) (fun q hq => ?_)
        by_cases e : q = j
        · rw [e, hat, gI_slf]
        · have ne : ¬ (if bg = 0 then (q : Int) else n - 1 - q).toNat = at_ := by
            rw [← hat]
            by_cases z : bg = 0
            · rw [if_pos z, if_pos z]; omega
            · rw [if_neg z, if_neg z]; omega
          rw [gI_sI, if_neg (fun z => ne z.2.2)]
          exact hr q (by omega)
      refine bk_X12_put_10 ⟨fun z => absurd z (by omega), fun _ => ⟨F.lc L1, fun z => ?_, fun z => ?_⟩⟩
      · rw [byt_shr w (by omega) (by omega)]
        exact ⟨⟨by omega, by omega⟩, ⟨by omega, by omega⟩, ⟨by omega, by omega⟩, step _ (by rw [if_pos (hb.mp z)])⟩
      · rw [byt_shr w (by omega) (by omega)]
        exact ⟨⟨by omega, by omega⟩, ⟨by omega, by omega⟩, ⟨by omega, by omega⟩, ⟨by omega, by omega⟩, ⟨by omega, by omega⟩, step _ (by rw [if_neg (fun q => z (hb.mpr q))])⟩
  refine AC.of mo_X12_put (Nat.le_of_ble_eq_true rfl) (bk_X12_put_0 ?_)
  rw [hc]
  exact loop n.toNat 0 σ2 (by omega) Frm.rfl (fun q hq => absurd hq (by omega))
end E2
