/-! gap -/
abbrev leaf (s : TS) (j : Nat) : Prop := ¬ s.d 0 j = 0 ∧ ¬ s.d 0 j = 2 ∧ ¬ s.d 0 j = 6

def b01 (p : Prop) [Decidable p] : Int := if p then 1 else 0
/-- how many begin, less those that end, at a place -/
def dmN (s : TS) : Nat → Int → Int
  | 0, _ => 0
  | n + 1, q => dmN s n q + (if leaf s n then b01 (q = s.d 1 n) - b01 (q = s.d 2 n) else 0)
/-- how many are over a place -/
def cvN (s : TS) : Nat → Int → Int
  | 0, _ => 0
  | n + 1, p => cvN s n p + (if leaf s n ∧ s.d 1 n ≤ p ∧ p < s.d 2 n then 1 else 0)
def smD (s : TS) (n : Nat) : Nat → Int
  | 0 => 0
  | k + 1 => smD s n k + dmN s n k
theorem dmN_b {s : TS} {q : Int} : ∀ n : Nat, -(n : Int) ≤ dmN s n q ∧ dmN s n q ≤ n
  | 0 => by show -((0 : Nat) : Int) ≤ 0 ∧ (0 : Int) ≤ ((0 : Nat) : Int); omega
  | n + 1 => by
    have := dmN_b (s := s) (q := q) n
    unfold dmN b01
    by_cases c : leaf s n
    · rw [if_pos c]; split <;> split <;> omega
    · rw [if_neg c]; omega
theorem cvN_b {s : TS} {q : Int} : ∀ n : Nat, 0 ≤ cvN s n q ∧ cvN s n q ≤ n
  | 0 => by show (0 : Int) ≤ 0 ∧ (0 : Int) ≤ ((0 : Nat) : Int); omega
  | n + 1 => by
    have := cvN_b (s := s) (q := q) n
    unfold cvN
    split <;> omega
theorem cvN_m {s : TS} {q : Int} {n : Nat} : ∀ k : Nat, cvN s n q ≤ cvN s (n + k) q
  | 0 => Int.le_refl _
  | k + 1 => by
    have := cvN_m (s := s) (q := q) (n := n) k
    show cvN s n q ≤ cvN s (n + k) q + _
    split <;> omega
theorem smD_0 {s : TS} : ∀ k : Nat, smD s 0 k = 0
  | 0 => rfl
  | k + 1 => by show smD s 0 k + 0 = 0; rw [smD_0 k]; rfl
theorem b01_s {a : Int} {k : Nat} : b01 (a < (k : Int)) + b01 ((k : Int) = a) = b01 (a < ((k + 1 : Nat) : Int)) := by
  unfold b01
  by_cases c : a < (k : Int)
  · rw [if_pos c, if_neg (show ¬ (k : Int) = a by omega), if_pos (show a < ((k + 1 : Nat) : Int) by omega)]; rfl
  · rw [if_neg c]
    by_cases c2 : (k : Int) = a
    · rw [if_pos c2, if_pos (show a < ((k + 1 : Nat) : Int) by omega)]; rfl
    · rw [if_neg c2, if_neg (show ¬ a < ((k + 1 : Nat) : Int) by omega)]; rfl
theorem b01_n {a : Int} (h : 0 ≤ a) : b01 (a < ((0 : Nat) : Int)) = 0 := if_neg (by omega)
theorem smD_s {s : TS} {n : Nat} (h1 : 0 ≤ s.d 1 n) (h2 : 0 ≤ s.d 2 n) : ∀ k : Nat, smD s (n + 1) k = smD s n k + (if leaf s n then b01 (s.d 1 n < (k : Int)) - b01 (s.d 2 n < (k : Int)) else 0)
  | 0 => by
    show (0 : Int) = 0 + _
    rw [b01_n h1, b01_n h2]
    split <;> rfl
  | k + 1 => by
    have ih := smD_s h1 h2 k
    show smD s (n + 1) k + dmN s (n + 1) k = smD s n k + dmN s n k + _
    have e : dmN s (n + 1) k = dmN s n k + (if leaf s n then b01 ((k : Int) = s.d 1 n) - b01 ((k : Int) = s.d 2 n) else 0) := rfl
    have s1 := b01_s (a := s.d 1 n) (k := k)
    have s2 := b01_s (a := s.d 2 n) (k := k)
    rw [ih, e]
    by_cases c : leaf s n
    · rw [if_pos c, if_pos c, if_pos c]; clear c; omega
    · rw [if_neg c, if_neg c, if_neg c]; clear c; omega
theorem smD_cv {s : TS} {k : Nat} : ∀ n : Nat, (∀ j, j < n → 0 ≤ s.d 1 j ∧ s.d 1 j ≤ s.d 2 j) → smD s n (k + 1) = cvN s n k
  | 0, _ => smD_0 _
  | n + 1, h => by
    have hn := h n (by omega)
    rw [smD_s hn.1 (by omega), smD_cv n (fun j hj => h j (by omega))]
    show _ = cvN s n k + (if leaf s n ∧ s.d 1 n ≤ (k : Int) ∧ (k : Int) < s.d 2 n then 1 else 0)
    unfold b01
    by_cases c : leaf s n
    · rw [if_pos c]
      by_cases a1 : s.d 1 n ≤ (k : Int)
      · rw [if_pos (show s.d 1 n < ((k + 1 : Nat) : Int) by omega)]
        by_cases a2 : (k : Int) < s.d 2 n
        · rw [if_neg (show ¬ s.d 2 n < ((k + 1 : Nat) : Int) by omega), if_pos ⟨c, a1, a2⟩]; omega
        · rw [if_pos (show s.d 2 n < ((k + 1 : Nat) : Int) by omega), if_neg (fun q => a2 q.2.2)]; omega
      · rw [if_neg (show ¬ s.d 1 n < ((k + 1 : Nat) : Int) by omega), if_neg (show ¬ s.d 2 n < ((k + 1 : Nat) : Int) by omega), if_neg (fun q => a1 q.2.1)]; omega
    · rw [if_neg c, if_neg (fun q => c q.1)]
section N4
variable {g : GP} {l : Launch} {d e : Nat} {σ σ' σ2 : St} {x m p b dd c tr a : Nat} {A B : DPa} {En : List Enm} {Ss : List Stc} {len im k w : Int} {h : Int → Int} {s : TS} {T : Nat → TS} {I : Nat → Int} {no : Nat → Nat} {fo : Nat → Nat → Nat}
/-- is a place in a gap -/
def gpF (s : TS) (p : Int) : Int := if cvN s s.c p = 0 then 1 else 0
theorem x_markGaps {P : St → Prop} (hx : LC 11 σ x) (hL : LC 10 σ tr) (h4 : gI σ 1004 tr 0 = (s.c : Int)) (hc : s.c ≤ 400) (hno : ∀ j, j < s.c → gR σ 1003 tr j = some (no j)) (hN : ∀ i, i < s.c → NdC σ no fo Ss s i) (hr : gR σ 1000 tr 0 = some a) (hl : gI σ 304 a 0 = len) (hlen : 0 ≤ len ∧ len ≤ 2000) (hv : ∀ j, j < s.c → 0 ≤ s.d 1 j ∧ s.d 1 j ≤ s.d 2 j ∧ s.d 2 j ≤ len) (hP : ∀ σ', Frm (fun f r => r = x ∧ f = 1115) σ σ' → (∀ q : Nat, (q : Int) < len → gI σ' 1115 x q = gpF s q) → P σ') : ACv g l (d + 1) MX10_markGaps [vR 10 (some tr), vA 1115 x] σ P := by
  have second : ∀ (n j : Nat) (τ : St), ((j + n : Nat) : Int) = len → Frm (fun f r => r = x ∧ f = 1115) σ τ → (∀ q : Nat, q < j → gI τ 1115 x q = gpF s q) → (∀ q : Nat, j ≤ q → q < 2001 → gI τ 1115 x q = dmN s s.c q) → AW g l (d + 1) MX10_markGaps 67 [some (vR 10 (some tr)), some (vA 1115 x), some (vI (smD s s.c j)), some (vI (j : Int))] [] τ (fun v σ' => v = none ∧ P σ') := by
    intro n
    induction n with
    | zero =>
      intro j τ hj F m1 m2
      refine bk_X10_markGaps_67 ⟨a, by rw [F.R (fun q => by omega)]; exact hr, ?_⟩
      rw [F.I (fun q => by omega), hl]
      exact ⟨fun _ => ⟨rfl, hP τ F (fun q hq => m1 q (by omega))⟩, fun z => absurd (by omega) z⟩
    | succ n ih =>
      intro j τ hj F m1 m2
      have cv : smD s s.c j + dmN s s.c j = cvN s s.c j := smD_cv s.c (fun i hi => ⟨(hv i hi).1, (hv i hi).2.1⟩)
      have cb := cvN_b (s := s) (q := (j : Int)) s.c
      refine bk_X10_markGaps_67 ⟨a, by rw [F.R (fun q => by omega)]; exact hr, ?_⟩
      rw [F.I (fun q => by omega), hl, Int.toNat_natCast, m2 j (by omega) (by omega), cv]
      refine ⟨fun z => absurd z (by omega), fun _ => ⟨F.lc hx, ⟨by omega, by omega⟩, ⟨by omega, by omega⟩, fun z7 hz => ?_⟩⟩
      subst hz
      have step : ∀ v : Int, gpF s j = v → AW g l (d + 1) MX10_markGaps 67 [some (vR 10 (some tr)), some (vA 1115 x), some (vI (cvN s s.c j)), some (vI ((j : Int) + 1))] [] (sI τ 1115 x j v) (fun v σ' => v = none ∧ P σ') := fun v hv => by
        have := ih (j + 1) (sI τ 1115 x j v) (by omega) (F.trans (Frm.sI ⟨rfl, rfl⟩)) (fun q hq => ?_) (fun q q0 q1 => ?_)
        · rw [show smD s s.c (j + 1) = cvN s s.c j from cv] at this
          exact this
        · by_cases e : q = j
          · rw [e, gI_slf, hv]
          · rw [gI_sI, if_neg (by omega)]; exact m1 q (by omega)
        · rw [gI_sI, if_neg (by omega)]; exact m2 q (by omega) q1
      exact ⟨fun z => ⟨⟨by omega, by omega⟩, step 0 (by unfold gpF; rw [if_neg z])⟩, fun z => ⟨⟨by omega, by omega⟩, step 1 (by unfold gpF; rw [if_pos z])⟩⟩
  have first : ∀ (n j : Nat) (τ : St), j + n = s.c → Frm (fun f r => r = x ∧ f = 1115) σ τ → (∀ q : Nat, q < 2001 → gI τ 1115 x q = dmN s j q) → AW g l (d + 1) MX10_markGaps 7 [some (vR 10 (some tr)), some (vA 1115 x), some (vI (j : Int)), none] [] τ (fun v σ' => v = none ∧ P σ') := by
    intro n
    induction n with
    | zero =>
      intro j τ hj F m1
      refine bk_X10_markGaps_7 ?_
      rw [F.I (fun q => by omega), h4]
      refine ⟨fun _ => ?_, fun z => absurd (by omega) z⟩
      exact second len.toNat 0 τ (by omega) F (fun q hq => absurd hq (by omega)) (fun q _ q1 => by rw [m1 q q1, show j = s.c by omega])
    | succ n ih =>
      intro j τ hj F m1
      have hjc : j < s.c := by omega
      obtain ⟨n1, n2, n3, _⟩ := hN j hjc
      obtain ⟨v1, v2, v3⟩ := hv j hjc
      have t3 : gR τ 1003 tr j = some (no j) := by rw [F.R (fun q => by omega)]; exact hno j hjc
      refine bk_X10_markGaps_7 ?_
      rw [F.I (fun q => by omega), h4, Int.toNat_natCast, t3, show (j : Int) + 1 = ((j + 1 : Nat) : Int) by omega]
      refine ⟨fun z => absurd z (by omega), fun _ => ⟨F.lc hL, ⟨by omega, by omega⟩, no j, rfl, AC.of mo_X5_holdsOthers (Nat.le_of_ble_eq_true rfl) (bk_X5_holdsOthers_0 ?_)⟩⟩
      rw [F.I (fun q => by omega), n1]
      have skip : ¬ leaf s j → AW g l (d + 1) MX10_markGaps 7 [some (vR 10 (some tr)), some (vA 1115 x), some (vI ((j + 1 : Nat) : Int)), none] [] τ (fun v σ' => v = none ∧ P σ') := fun nl => ih (j + 1) τ (by omega) F (fun q hq => by
        rw [m1 q hq]
        show dmN s j q = dmN s j q + _
        rw [if_neg nl]; omega)
      refine ⟨fun z => ⟨_, rfl, fun _ => ⟨⟨by omega, by omega⟩, skip (fun q => q.1 z)⟩, fun q => absurd q (by decide)⟩, fun z => ⟨fun z2 => ⟨_, rfl, fun _ => ⟨⟨by omega, by omega⟩, skip (fun q => q.2.1 z2)⟩, fun q => absurd q (by decide)⟩, fun z2 => ⟨fun z3 => ⟨_, rfl, fun q => absurd rfl q, fun _ => ?_⟩, fun z3 => ⟨_, rfl, fun _ => ⟨⟨by omega, by omega⟩, skip (fun q => q.2.2 z3)⟩, fun q => absurd q (by decide)⟩⟩⟩⟩
      have lf : leaf s j := ⟨z, z2, z3⟩
      refine ⟨F.lc hL, no j, t3, F.lc hx, ?_⟩
      rw [F.I (f := 502) (fun q => by omega), F.I (f := 503) (fun q => by omega), n2, n3]
      have db1 := dmN_b (s := s) (q := s.d 1 j) j
      have db2 := dmN_b (s := s) (q := s.d 2 j) j
      have g1 : gI τ 1115 x (s.d 1 j).toNat = dmN s j (s.d 1 j) := by
        have := m1 (s.d 1 j).toNat (by omega)
        rw [show (((s.d 1 j).toNat : Nat) : Int) = s.d 1 j by omega] at this
        exact this
      have g2 : gI τ 1115 x (s.d 2 j).toNat = dmN s j (s.d 2 j) := by
        have := m1 (s.d 2 j).toNat (by omega)
        rw [show (((s.d 2 j).toNat : Nat) : Int) = s.d 2 j by omega] at this
        exact this
      rw [g1]
      have g2' : gI (sI τ 1115 x (s.d 1 j).toNat (dmN s j (s.d 1 j) + 1)) 1115 x (s.d 2 j).toNat = dmN s j (s.d 2 j) + b01 (s.d 2 j = s.d 1 j) := by
        unfold b01
        rw [gI_sI]
        by_cases e : s.d 2 j = s.d 1 j
        · rw [if_pos ⟨rfl, rfl, by rw [e]⟩, if_pos e, e]
        · rw [if_neg (fun q => e (by omega)), if_neg e, g2]; omega
      rw [g2']
      have b01b : 0 ≤ b01 (s.d 2 j = s.d 1 j) ∧ b01 (s.d 2 j = s.d 1 j) ≤ 1 := by unfold b01; split <;> omega
      refine ⟨⟨by omega, by omega⟩, ⟨by omega, by omega⟩, ⟨by omega, by omega⟩, ⟨by omega, by omega⟩, ⟨by omega, by omega⟩, ih (j + 1) _ (by omega) (F.trans ((Frm.sI ⟨rfl, rfl⟩).trans (Frm.sI ⟨rfl, rfl⟩))) (fun q hq => ?_)⟩
      show _ = dmN s j q + _
      rw [if_pos lf]
      unfold b01
      rw [gI_sI]
      by_cases e2 : q = (s.d 2 j).toNat
      · rw [if_pos ⟨rfl, rfl, e2⟩, if_pos (show (q : Int) = s.d 2 j by omega), show (q : Int) = s.d 2 j by omega]
        omega
      · rw [if_neg (fun z => e2 z.2.2), gI_sI, if_neg (show ¬ (q : Int) = s.d 2 j by omega)]
        by_cases e1 : q = (s.d 1 j).toNat
        · rw [if_pos ⟨rfl, rfl, e1⟩, if_pos (show (q : Int) = s.d 1 j by omega), show (q : Int) = s.d 1 j by omega]
          omega
        · rw [if_neg (fun z => e1 z.2.2), if_neg (show ¬ (q : Int) = s.d 1 j by omega), m1 q hq]
          omega
  refine AC.of mo_X10_markGaps (Nat.le_of_ble_eq_true rfl) (bk_X10_markGaps_0 ?_)
  have l15 : gL σ 1115 x = 2001 := hx 1115 (by decide)
  refine x_fill (by decide) (by decide) (by rw [l15]; decide) (fun σ1 F1 hz => ?_)
  exact first s.c 0 σ1 (by omega) F1 (fun q hq => by rw [hz q (by rw [l15]; exact hq)]; rfl)
theorem m_isIn {P : Int → St → Prop} {t : Nat} {q : Int} (hL : LC 12 σ m) (ht : t < 7) (hc : s.c ≤ 400) (h66 : gI σ 1266 m t = (s.c : Int)) (hN : ∀ i, i < s.c → NdR σ m t b s i) (hP : P (if cvN s s.c q = 0 then 0 else 1) σ) : ACi g l d MX12_isIn [vR 12 (some m), vI (t : Int), vI q] σ P := by
  have loop : ∀ (n j : Nat), j + n = s.c → cvN s j q = 0 → AW g l d MX12_isIn 6 [some (vR 12 (some m)), some (vI (t : Int)), some (vI q), some (vI ((400 * t + j : Nat) : Int)), none] [] σ (fun v σ' => ∃ r, v = some (vI r) ∧ P r σ') := by
    intro n
    induction n with
    | zero =>
      intro j hj h0
      refine bk_X12_isIn_6 ?_
      rw [Int.toNat_natCast, h66]
      refine ⟨⟨by omega, by omega⟩, hL, ⟨by omega, by omega⟩, ⟨by omega, by omega⟩, fun _ => ⟨_, rfl, ?_⟩, fun z => absurd (by omega) z⟩
      rw [show s.c = j by omega, if_pos h0] at hP; exact hP
    | succ n ih =>
      intro j hj h0
      have hjc : j < s.c := by omega
      obtain ⟨n1, n2, n3, _⟩ := hN j hjc
      have e1 : ((400 * t + j : Nat) : Int) + 1 = ((400 * t + (j + 1) : Nat) : Int) := by omega
      have skip : ¬ (leaf s j ∧ s.d 1 j ≤ q ∧ q < s.d 2 j) → AW g l d MX12_isIn 6 [some (vR 12 (some m)), some (vI (t : Int)), some (vI q), some (vI (((400 * t + j : Nat) : Int) + 1)), none] [] σ (fun v σ' => ∃ r, v = some (vI r) ∧ P r σ') := fun z => by
        rw [e1]
        refine ih (j + 1) (by omega) ?_
        show cvN s j q + _ = 0
        rw [if_neg z, h0]; rfl
      refine bk_X12_isIn_6 ?_
      rw [Int.toNat_natCast, h66, Int.toNat_natCast, n1]
      have no0 : ¬ leaf s j → AW g l d MX12_isIn 57 [some (vR 12 (some m)), some (vI (t : Int)), some (vI q), some (vI ((400 * t + j : Nat) : Int)), none] [vI 0] σ (fun v σ' => ∃ r, v = some (vI r) ∧ P r σ') := fun nl => bk_X12_isIn_57 ⟨fun _ => ⟨⟨by omega, by omega⟩, skip (fun z => nl z.1)⟩, fun z => absurd rfl z⟩
      refine ⟨⟨by omega, by omega⟩, hL, ⟨by omega, by omega⟩, ⟨by omega, by omega⟩, fun z => absurd z (by omega), fun _ => ⟨⟨by omega, by omega⟩, fun z => no0 (fun y => y.1 z), fun z => ⟨fun z2 => no0 (fun y => y.2.1 z2), fun z2 => ⟨fun z3 => no0 (fun y => y.2.2 z3), fun z3 => bk_X12_isIn_57 ⟨fun y => absurd y (by decide), fun _ => ?_⟩⟩⟩⟩⟩
      rw [Int.toNat_natCast, n2, n3]
      refine ⟨hL, ⟨by omega, by omega⟩, fun y => ⟨⟨by omega, by omega⟩, skip (by omega)⟩, fun y => ⟨fun y2 => ⟨⟨by omega, by omega⟩, skip (by omega)⟩, fun y2 => ⟨_, rfl, ?_⟩⟩⟩
      have up := cvN_m (s := s) (q := q) (n := j + 1) n
      rw [show j + 1 + n = s.c by omega] at up
      have at1 : cvN s (j + 1) q = 1 := by
        show cvN s j q + _ = 1
        rw [if_pos ⟨⟨z, z2, z3⟩, by omega, by omega⟩, h0]; rfl
      rw [if_neg (by omega)] at hP; exact hP
  refine AC.of mo_X12_isIn (Nat.le_of_ble_eq_true rfl) (bk_X12_isIn_0 ⟨⟨by omega, by omega⟩, ?_⟩)
  have := loop s.c 0 (by omega) rfl
  rw [show ((400 * t + 0 : Nat) : Int) = 400 * (t : Int) by omega] at this
  exact this
theorem m_gap {P : Int → St → Prop} {t : Nat} (hL : LC 12 σ m) (ht : t < 7) (hc : s.c ≤ 400) (h66 : gI σ 1266 m t = (s.c : Int)) (hN : ∀ i, i < s.c → NdR σ m t b s i) (h81 : gI σ 1281 m 0 = im) (him : 0 ≤ im ∧ im < 6) (h01 : gI σ 1201 m im.toNat = len) (hlen : 0 ≤ len ∧ len ≤ 2000) (hk : 0 ≤ k) (hk2 : k < 2147483648) (hP : P (sf (gpF s) w len.toNat 0 k (-1)) σ) : AW g l (d + 1) MX12_gap 36 [some (vR 12 (some m)), some (vI (t : Int)), none, some (vI w), some (vI k), some (vI 1), some (vI (-1)), some (vI 0), none] [] σ (fun v σ' => ∃ r, v = some (vI r) ∧ P r σ') := by
  have loop : ∀ (j : Nat) (p t' s' c u e : Int), p = len - j → 0 ≤ p → 0 ≤ t' → t' ≤ k → (s' = -1 → ¬ u = 0 ∧ c = t') → (¬ s' = -1 → u = 0 ∧ e = t' ∧ c = t' - 1 ∧ ¬ (t' = 0 ∧ w = 0)) → P (sf (gpF s) w j p t' s') σ →
      AW g l (d + 1) MX12_gap 36 [some (vR 12 (some m)), some (vI (t : Int)), none, some (vI w), some (vI c), some (vI u), some (vI e), some (vI p), none] [] σ (fun v σ' => ∃ r, v = some (vI r) ∧ P r σ') := by
    intro j
    induction j with
    | zero =>
      intro p t' s' c u e hp hp0 ht htk hs1 hs2 hX
      unfold sf at hX
      refine bk_X12_gap_36 ?_
      rw [h81, h01]
      obtain rfl : p = len := by omega
      refine ⟨hL, ⟨by omega, by omega⟩, fun _ => ⟨fun q => ⟨_, rfl, ?_⟩, fun q => ⟨fun q2 => ⟨_, rfl, ?_⟩, fun q2 => ⟨_, rfl, ?_⟩⟩⟩, fun q => absurd (Int.le_refl _) q⟩
      · rw [if_pos (Decidable.byContradiction (fun z => q (hs2 z).1))] at hX; exact hX
      · have hsn : ¬ s' = -1 := fun z => (hs1 z).1 q
        have := hs2 hsn
        rw [if_neg hsn, if_neg (by omega)] at hX; exact hX
      · have hsn : ¬ s' = -1 := fun z => (hs1 z).1 q
        have := hs2 hsn
        rw [if_neg hsn, if_pos (by omega), if_neg (by omega)] at hX; exact hX
    | succ j ih =>
      intro p t' s' c u e hp hp0 ht' htk hs1 hs2 hP
      unfold sf at hP
      refine bk_X12_gap_36 ?_
      rw [h81, h01]
      refine ⟨hL, ⟨by omega, by omega⟩, fun q => absurd q (by omega), fun _ => m_isIn hL ht hc h66 hN ?_⟩
      by_cases cz : cvN s s.c p = 0
      · rw [if_pos cz]
        have hd : gpF s p = 1 := by unfold gpF; rw [if_pos cz]
        rw [if_neg (by omega)] at hP
        refine ⟨fun q => absurd rfl q, fun _ => ⟨fun q => ?_, fun q => ?_⟩⟩
        · have hsn : ¬ s' = -1 := fun z => (hs1 z).1 q
          rw [if_neg hsn] at hP
          exact bk_X12_gap_88 ⟨fun _ => ⟨⟨by omega, by omega⟩, ih _ t' s' c 0 e (by omega) (by omega) ht' htk (fun z => absurd z hsn) (fun z => ⟨rfl, (hs2 z).2⟩) hP⟩, fun q => absurd rfl q⟩
        · have hsn : s' = -1 := Decidable.byContradiction (fun z => q (hs2 z).1)
          have := hs1 hsn
          rw [if_pos hsn] at hP
          refine ⟨fun q2 => ⟨⟨by omega, by omega⟩, bk_X12_gap_88 ⟨fun _ => ⟨⟨by omega, by omega⟩, ih _ t' p (c + -1) 0 c (by omega) (by omega) ht' htk (fun z => by omega) (fun z => by omega) hP⟩, fun q => absurd rfl q⟩⟩, fun q2 => ⟨fun q3 => ⟨⟨by omega, by omega⟩, bk_X12_gap_88 ⟨fun _ => ⟨⟨by omega, by omega⟩, ih _ t' p (c + -1) 0 c (by omega) (by omega) ht' htk (fun z => by omega) (fun z => by omega) hP⟩, fun q => absurd rfl q⟩⟩, fun q3 => ⟨_, rfl, ?_⟩⟩⟩
          rw [q3, show t' = 0 by omega, sf_start (by omega)] at hP
          exact hP
      · rw [if_neg cz]
        have hd : gpF s p = 0 := by unfold gpF; rw [if_neg cz]
        rw [if_pos hd] at hP
        refine ⟨fun _ => bk_X12_gap_88 ⟨fun q => absurd q (by decide), fun _ => ⟨fun q => ?_, fun q => ?_⟩⟩, fun q => absurd q (by decide)⟩
        · have hsn : s' = -1 := Decidable.byContradiction (fun z => q (hs2 z).1)
          rw [if_pos hsn] at hP
          exact ⟨⟨by omega, by omega⟩, ih _ t' s' c 1 e (by omega) (by omega) ht' htk (fun z => ⟨by decide, (hs1 z).2⟩) (fun z => absurd hsn z) hP⟩
        · have hsn : ¬ s' = -1 := fun z => (hs1 z).1 q
          have := hs2 hsn
          rw [if_neg hsn] at hP
          refine ⟨fun q2 => ⟨⟨by omega, by omega⟩, ?_⟩, fun q2 => ⟨_, rfl, ?_⟩⟩
          · rw [if_neg (by omega)] at hP
            exact ih _ (t' + -1) (-1) c 1 e (by omega) (by omega) (by omega) (by omega) (fun z => ⟨by decide, by omega⟩) (fun z => absurd rfl z) hP
          · rw [if_pos (by omega), if_neg (by omega)] at hP
            exact hP
  exact loop len.toNat 0 k (-1) k 1 (-1) (by omega) (by omega) (by omega) (by omega) (fun _ => ⟨by decide, rfl⟩) (fun z => absurd rfl z) hP
theorem op_gap {t : Int} (hI : ImgI σ x m) (hb : gI σ 1218 m 0 = (b : Int)) (hT : TreI σ x m fo Ss b T I) (hk2 : k < 2147483648) : ACi g l (d + 2) MX11_gap [vR 11 (some x), vI t, vI k, vI w] σ (fun a σ1 => ACi g l (d + 2) MX12_gap [vR 12 (some m), vI t, vI k, vI w] σ1 (fun r σ2 => a = r ∧ ScFr σ σ2)) := by
  obtain ⟨i1, i2, i3, i4, i5, i6, i7, i8, i9⟩ := id hI
  refine AC.of mo_X11_gap (Nat.le_of_ble_eq_true rfl) (bk_X11_gap_0 (x_treeOf i1 hT (fun q => ⟨fun _ => ⟨_, rfl, AC.of mo_X12_gap (Nat.le_of_ble_eq_true rfl) (bk_X12_gap_0 (m_isNode i2 hb hT (fun _ => ⟨fun _ => ⟨_, rfl, rfl, Frm.rfl⟩, fun z => absurd rfl z⟩) (fun t0 t1 => absurd ⟨t0, t1⟩ q)))⟩, (fun r w => nomatch w)⟩) (fun t0 t1 tr f1 o1 v1 => ⟨(fun w => nomatch w), fun r er => ⟨i1, ?_⟩⟩)))
  cases er
  obtain ⟨n, rfl⟩ : ∃ n : Nat, t = (n : Int) := ⟨t.toNat, by omega⟩
  rw [Int.toNat_natCast] at f1 v1
  have a2 := hT.1.2.1
  have c0 := v1.2.1.2.2.1
  have c4 := v1.2.1.2.2.2.1
  have him := v1.1.1
  obtain ⟨q1, q2, q3⟩ := i7 (I n) him.1 him.2
  have l304 : gI σ 304 (img σ x (I n)) 0 = gI σ 1201 m (I n).toNat := q3.1
  have c304 := q2.2.1
  have ti := v1.2.2.2.2.2.2.1.1
  refine x_markGaps i1 o1.1 v1.2.1.2.2.2.2.1 c4 v1.2.2.1 (fun i hi => (v1.2.2.2.1 i hi).1) v1.1.2.1 l304 ⟨by omega, by omega⟩ (fun j hj => (ti.2 j hj).1.1) (fun σ1 F1 mk => ⟨img σ x (I n), by rw [F1.R (fun q => by omega)]; exact v1.1.2.1, ?_⟩)
  have e1 : ∀ f r j, ¬ f = 1115 → gI σ1 f r j = gI σ f r j := fun f r j z => F1.I (fun q => z q.2) j
  have I1 : ImgI σ1 x m := hI.fr F1.fr (fun f r z q => by omega)
  have R8 : ∀ f r j, gR σ1 f r j = gR σ f r j ∨ f = 1115 := fun f r j => by
    by_cases z : f = 1115
    · exact Or.inr z
    · exact Or.inl (F1.R (fun q => z q.2) j)
  have T1 : TreI σ1 x m fo Ss b T I := hT.fr ⟨i3, i4⟩ F1.fr (fun f r z q => by omega) (by rw [e1 _ _ _ (by decide)]; exact Int.le_refl _) (fun im _ _ => ⟨by unfold img; rw [F1.R (fun q => by omega)], by rw [e1 _ _ _ (by decide)]; exact Int.le_refl _⟩)
  have ref : ∀ a : Int, ((k < 0 ∨ w < 0 ∨ 1 < w) → a = -1) → (0 ≤ k → 0 ≤ w → w ≤ 1 → a = sf (gpF (T n)) w (gI σ 1201 m (I n).toNat).toNat 0 k (-1)) → ACi g l (d + 2) MX12_gap [vR 12 (some m), vI (n : Int), vI k, vI w] σ1 (fun r σ2 => a = r ∧ ScFr σ σ2) := by
    intro a hA hB
    refine AC.of mo_X12_gap (Nat.le_of_ble_eq_true rfl) (bk_X12_gap_0 (m_isNode I1.2.1 (by rw [e1 _ _ _ (by decide)]; exact hb) T1 (fun q => absurd ⟨⟨t0, by rw [e1 _ _ _ (by decide)]; exact t1⟩, by omega, by rw [Int.toNat_natCast]; omega⟩ q) (fun _ _ _ _ σ2 F2 h80 h81 h53 => ?_)))
    have S2 : ScFr σ σ2 := (F1.mono (fun f r q => by omega)).trans (F2.mono (fun f r q => by omega))
    have e2 : ∀ f j, 1264 ≤ f → f ≤ 1279 ∨ f = 1201 → gI σ2 f m j = gI σ f m j := fun f j z0 z1 => by rw [F2.I (fun q => by omega), e1 _ _ _ (by omega)]
    refine ⟨fun z => absurd z (by decide), fun _ => ⟨fun z => ⟨_, rfl, hA (by omega), S2⟩, fun z => ⟨fun z2 => ⟨_, rfl, hA (by omega), S2⟩, fun z2 => ⟨fun z3 => ?_, fun z3 => ⟨_, rfl, hA (by omega), S2⟩⟩⟩⟩⟩
    have e201 : gI σ2 1201 m (I n).toNat = gI σ 1201 m (I n).toNat := by rw [F2.I (fun q => by omega), e1 _ _ _ (by decide)]
    rw [Int.toNat_natCast] at h81
    exact m_gap (F2.lc I1.2.1) (by omega) c4 (by rw [e2 _ _ (by decide) (by decide)]; exact v1.2.1.2.2.2.2.2) (fun i hi => (v1.2.2.2.2.1 i hi).ag (fun f j z0 z1 => e2 f _ (by omega) (by omega))) h81 ⟨him.1, by omega⟩ e201 ⟨by omega, by omega⟩ (by omega) hk2 ⟨hB (by omega) (by omega) z3, S2⟩
  rw [e1 _ _ _ (by decide), l304]
  refine x_stretchOf I1.1 (by omega) (by omega) hk2 (fun z => ⟨_, rfl, ref _ (fun _ => rfl) (fun _ _ _ => by omega)⟩) (fun k0 w0 w1 => ⟨_, rfl, ref _ (fun z => by omega) (fun _ _ _ => ?_)⟩)
  exact sf_congr _ _ _ _ (fun i z0 z1 => by
    have := mk i.toNat (by omega)
    rw [show ((i.toNat : Nat) : Int) = i by omega] at this
    exact this)
end N4
