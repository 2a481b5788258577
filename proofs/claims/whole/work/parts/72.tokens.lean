/-! TOKENS: the text T of n bytes -/
def skN (T : Int → Int) (n : Int) : Nat → Int → Int
  | 0, e => e
  | k + 1, e => if e < n ∧ (T e = 32 ∨ T e = 10) then skN T n k (e + 1) else e
def reN (T : Int → Int) (n : Int) : Nat → Int → Int
  | 0, e => e
  | k + 1, e => if e < n ∧ ((97 ≤ T e ∧ T e ≤ 122) ∨ (48 ≤ T e ∧ T e ≤ 57)) then reN T n k (e + 1) else e
/-- behind the blanks, behind a row of letters and digits -/
def sk (T : Int → Int) (n e : Int) : Int := skN T n (n - e).toNat e
def re (T : Int → Int) (n e : Int) : Int := reN T n (n - e).toNat e
theorem sk_end {T : Int → Int} {n e : Int} (h : n ≤ e) : sk T n e = e := by
  unfold sk
  rw [show (n - e).toNat = 0 by omega]
  rfl
theorem sk_blank {T : Int → Int} {n e : Int} (h : e < n) (hb : T e = 32 ∨ T e = 10) : sk T n e = sk T n (e + 1) := by
  unfold sk
  rw [show (n - e).toNat = (n - (e + 1)).toNat + 1 by omega]
  exact if_pos ⟨h, hb⟩
theorem sk_non {T : Int → Int} {n e : Int} (h : e < n) (hb : ¬ (T e = 32 ∨ T e = 10)) : sk T n e = e := by
  unfold sk
  rw [show (n - e).toNat = (n - (e + 1)).toNat + 1 by omega]
  exact if_neg (fun q => hb q.2)
theorem re_end {T : Int → Int} {n e : Int} (h : n ≤ e) : re T n e = e := by
  unfold re
  rw [show (n - e).toNat = 0 by omega]
  rfl
theorem re_in {T : Int → Int} {n e : Int} (h : e < n) (hb : (97 ≤ T e ∧ T e ≤ 122) ∨ (48 ≤ T e ∧ T e ≤ 57)) : re T n e = re T n (e + 1) := by
  unfold re
  rw [show (n - e).toNat = (n - (e + 1)).toNat + 1 by omega]
  exact if_pos ⟨h, hb⟩
theorem re_out {T : Int → Int} {n e : Int} (h : e < n) (hb : ¬ ((97 ≤ T e ∧ T e ≤ 122) ∨ (48 ≤ T e ∧ T e ≤ 57))) : re T n e = e := by
  unfold re
  rw [show (n - e).toNat = (n - (e + 1)).toNat + 1 by omega]
  exact if_neg (fun q => hb q.2)
theorem re_le {T : Int → Int} {n : Int} : ∀ (k : Nat) (e : Int), e + k = n → e ≤ re T n e ∧ re T n e ≤ n ∧ ∀ i : Int, e ≤ i → i < re T n e → (97 ≤ T i ∧ T i ≤ 122) ∨ (48 ≤ T i ∧ T i ≤ 57)
  | 0, e, h => by
    rw [re_end (by omega)]
    exact ⟨by omega, by omega, fun i a b => absurd b (by omega)⟩
  | k + 1, e, h => by
    by_cases hb : (97 ≤ T e ∧ T e ≤ 122) ∨ (48 ≤ T e ∧ T e ≤ 57)
    · rw [re_in (by omega) hb]
      obtain ⟨a, b, c⟩ := re_le (T := T) (n := n) k (e + 1) (by omega)
      refine ⟨by omega, b, fun i h1 h2 => ?_⟩
      by_cases z : i = e
      · rw [z]; exact hb
      · exact c i (by omega) h2
    · rw [re_out (by omega) hb]
      exact ⟨by omega, by omega, fun i a b => absurd b (by omega)⟩
theorem sk_le {T : Int → Int} {n : Int} : ∀ (k : Nat) (e : Int), e + k = n → e ≤ sk T n e ∧ sk T n e ≤ n ∧ (sk T n e < n → ¬ (T (sk T n e) = 32 ∨ T (sk T n e) = 10))
  | 0, e, h => by
    rw [sk_end (by omega)]
    exact ⟨by omega, by omega, fun q => absurd q (by omega)⟩
  | k + 1, e, h => by
    by_cases hb : T e = 32 ∨ T e = 10
    · rw [sk_blank (by omega) hb]
      obtain ⟨a, b, c⟩ := sk_le (T := T) (n := n) k (e + 1) (by omega)
      exact ⟨by omega, b, c⟩
    · rw [sk_non (by omega) hb]
      exact ⟨by omega, by omega, fun _ => hb⟩
/-- behind the token at q -/
def nxt (T : Int → Int) (n q : Int) : Int := if (97 ≤ T q ∧ T q ≤ 122) ∨ (48 ≤ T q ∧ T q ≤ 57) then re T n q else q + 1
/-- where the i-th token begins; n: none is left -/
def qs (T : Int → Int) (n : Int) : Nat → Int
  | 0 => sk T n 0
  | i + 1 => if qs T n i < n then sk T n (nxt T n (qs T n i)) else qs T n i
def dg (c : Int) : Int := if 48 ≤ c ∧ c ≤ 57 then c - 48 else c - 87
def nvF (T : Int → Int) (b : Int) : Nat → Int → Int64 → Int64
  | 0, _, a => a
  | k + 1, i, a => if dg (T i) < b then nvF T b k (i + 1) (a * i2j b + i2j (dg (T i))) else -1
/-- the number of a row; -1: it is none -/
def numV (T : Int → Int) (q e : Int) : Int64 :=
  if 2 < e - q ∧ T q = 48 ∧ T (q + 1) = 120 then (if e - (q + 2) ≤ 8 then nvF T 16 (e - (q + 2)).toNat (q + 2) 0 else -1)
  else (if e - q ≤ 9 then nvF T 10 (e - q).toNat q 0 else -1)
/-- a word, its first letter lowest -/
def wdF (T : Int → Int) (q : Int) : Nat → Int64
  | 0 => 0
  | k + 1 => wdF T q k ||| j_shl (i2j (T (q + k))) (8 * k)
/-- a WHOLE: its code; -1: none -/
def tyV (T : Int → Int) (q e : Int) : Int :=
  if (T q = 117 ∨ T q = 115) ∧ (e - q = 2 ∨ (e - q = 3 ∧ T (e - 1) = 98)) ∧ 1 ≤ T (q + 1) - 48 ∧ T (q + 1) - 48 ≤ 8 then (T (q + 1) - 48) + (if T q = 115 then 16 else 0) + (if e - q = 3 then 32 else 0) else -1
def kwF (kw : Int → Int64) (w : Int64) : Nat → Int → Int
  | 0, _ => 2
  | k + 1, i => if kw i = w then 200 + i else kwF kw w k (i + 1)
/-- the kind and the value of the token at q -/
def kd (kw : Int → Int64) (T : Int → Int) (n q : Int) : Int :=
  if n ≤ q then 0
  else if 97 ≤ T q ∧ T q ≤ 122 then (if 8 < re T n q - q then 1 else if tyV T q (re T n q) = -1 then kwF kw (wdF T q (re T n q - q).toNat) 27 0 else 4)
  else if 48 ≤ T q ∧ T q ≤ 57 then (if numV T q (re T n q) = -1 then 1 else 3)
  else if 0 ≤ ixN SGB (if T q < 128 then T q else T q - 256) 18 0 then T q else 1
def vl (T : Int → Int) (n q : Int) : Int64 :=
  if n ≤ q then 0
  else if 97 ≤ T q ∧ T q ≤ 122 then (if 8 < re T n q - q then 0 else if tyV T q (re T n q) = -1 then wdF T q (re T n q - q).toNat else i2j (tyV T q (re T n q)))
  else if 48 ≤ T q ∧ T q ≤ 57 then numV T q (re T n q)
  else 0
/-- the class's rows of tokens hold the first k of the text -/
def TokC (kw : Int → Int64) (σ : St) (t : Nat) (T : Int → Int) (n : Int) (k : Int) : Prop :=
  gI σ 905 t 0 = k ∧ ∀ i : Nat, (i : Int) < k → gI σ 902 t i = kd kw T n (qs T n i) ∧ gI σ 903 t i = qs T n i ∧ gJ σ 904 t i = vl T n (qs T n i)
section X10
variable {g : GP} {l : Launch} {d : Nat} {σ : St} {t : Nat}
theorem x_isSmall {c : Int} {P : Int → St → Prop} (h : P (if 97 ≤ c ∧ c ≤ 122 then 1 else 0) σ) : ACi g l d MX9_isSmall [vI c] σ P := by
  refine AC.of mo_X9_isSmall (Nat.le_of_ble_eq_true rfl) (bk_X9_isSmall_0 ⟨fun q => ⟨_, rfl, ?_⟩, fun q => ⟨fun q2 => ⟨_, rfl, ?_⟩, fun q2 => ⟨_, rfl, ?_⟩⟩⟩)
  · rw [if_neg (by omega)] at h; exact h
  · rw [if_neg (by omega)] at h; exact h
  · rw [if_pos (by omega)] at h; exact h
theorem x_isDigit {c : Int} {P : Int → St → Prop} (h : P (if 48 ≤ c ∧ c ≤ 57 then 1 else 0) σ) : ACi g l d MX9_isDigit [vI c] σ P := by
  refine AC.of mo_X9_isDigit (Nat.le_of_ble_eq_true rfl) (bk_X9_isDigit_0 ⟨fun q => ⟨_, rfl, ?_⟩, fun q => ⟨fun q2 => ⟨_, rfl, ?_⟩, fun q2 => ⟨_, rfl, ?_⟩⟩⟩)
  · rw [if_neg (by omega)] at h; exact h
  · rw [if_neg (by omega)] at h; exact h
  · rw [if_pos (by omega)] at h; exact h
theorem x_rowEnd {p : Int} {P : Int → St → Prop} (hL : LC 9 σ t) (h0 : 0 ≤ p) (h1 : p ≤ gI σ 901 t 0) (h2 : gI σ 901 t 0 ≤ 3000) (h : P (re (fun i => gI σ 900 t i.toNat) (gI σ 901 t 0) p) σ) : ACi g l (d + 1) MX9_rowEnd [vR 9 (some t), vI p] σ P := by
  have loop : ∀ (j : Nat) (e : Int), e = gI σ 901 t 0 - j → 0 ≤ e → P (re (fun i => gI σ 900 t i.toNat) (gI σ 901 t 0) e) σ →
      AW g l (d + 1) MX9_rowEnd 2 [some (vR 9 (some t)), none, some (vI e)] [] σ (fun v σ' => ∃ r, v = some (vI r) ∧ P r σ') := by
    intro j
    induction j with
    | zero =>
      intro e he he0 hP
      rw [re_end (by omega)] at hP
      exact bk_X9_rowEnd_2 ⟨fun _ => ⟨_, rfl, hP⟩, fun q => absurd (by omega) q⟩
    | succ j ih =>
      intro e he he0 hP
      refine bk_X9_rowEnd_2 ⟨fun q => absurd q (by omega), fun _ => ⟨hL, ⟨by omega, by omega⟩, x_isSmall ?_⟩⟩
      by_cases z : 97 ≤ gI σ 900 t e.toNat ∧ gI σ 900 t e.toNat ≤ 122
      · rw [if_pos z]
        rw [re_in (by omega) (Or.inl z)] at hP
        exact ⟨fun _ => ⟨⟨by omega, by omega⟩, ih _ (by omega) (by omega) hP⟩, fun q => absurd q (by decide)⟩
      · rw [if_neg z]
        refine ⟨fun q => absurd rfl q, fun _ => ⟨hL, x_isDigit ?_⟩⟩
        by_cases z2 : 48 ≤ gI σ 900 t e.toNat ∧ gI σ 900 t e.toNat ≤ 57
        · rw [if_pos z2]
          rw [re_in (by omega) (Or.inr z2)] at hP
          exact ⟨fun q => absurd q (by decide), fun _ => ⟨⟨by omega, by omega⟩, ih _ (by omega) (by omega) hP⟩⟩
        · rw [if_neg z2]
          rw [re_out (by omega) (fun q => q.elim z z2)] at hP
          exact ⟨fun _ => ⟨_, rfl, hP⟩, fun q => absurd rfl q⟩
  exact AC.of mo_X9_rowEnd (Nat.le_of_ble_eq_true rfl) (bk_X9_rowEnd_0 (loop (gI σ 901 t 0 - p).toNat p (by omega) h0 h))
theorem x_numberIn {q e : Int} {P : Int64 → St → Prop} (hL : LC 9 σ t) (h0 : 0 ≤ q) (h1 : q < e) (h2 : e ≤ 3000) (hb : ∀ i : Int, q ≤ i → i < e → 0 ≤ gI σ 900 t i.toNat ∧ gI σ 900 t i.toNat ≤ 255) (h : P (numV (fun i => gI σ 900 t i.toNat) q e) σ) : ACj g l (d + 1) MX9_numberIn [vR 9 (some t), vI q, vI e] σ P := by
  have loop : ∀ (j : Nat) (i b : Int) (a : Int64), i = e - j → q ≤ i → P (nvF (fun i => gI σ 900 t i.toNat) b j i a) σ →
      AW g l (d + 1) MX9_numberIn 92 [some (vR 9 (some t)), none, some (vI e), none, none, some (vI b), some (vJ a), none, some (vI i), none] [] σ (fun v σ' => ∃ r, v = some (vJ r) ∧ P r σ') := by
    intro j
    induction j with
    | zero =>
      intro i b a hi hi0 hP
      exact bk_X9_numberIn_92 ⟨fun _ => ⟨_, rfl, hP⟩, fun z => absurd (by omega) z⟩
    | succ j ih =>
      intro i b a hi hi0 hP
      have hbi := hb i hi0 (by omega)
      simp only [nvF] at hP
      have step : AW g l (d + 1) MX9_numberIn 137 [some (vR 9 (some t)), none, some (vI e), none, none, some (vI b), some (vJ a), none, some (vI i), none] [vI (dg (gI σ 900 t i.toNat))] σ (fun v σ' => ∃ r, v = some (vJ r) ∧ P r σ') := by
        refine bk_X9_numberIn_137 ⟨fun z => ⟨⟨by omega, by omega⟩, ih _ _ _ (by omega) (by omega) ?_⟩, fun z => ⟨_, rfl, ?_⟩⟩
        · rw [if_pos z] at hP; exact hP
        · rw [if_neg z] at hP; exact hP
      refine bk_X9_numberIn_92 ⟨fun z => absurd z (by omega), fun _ => ⟨hL, ⟨by omega, by omega⟩, x_isDigit ?_⟩⟩
      unfold dg at step
      by_cases z : 48 ≤ gI σ 900 t i.toNat ∧ gI σ 900 t i.toNat ≤ 57
      · rw [if_pos z] at step ⊢
        exact ⟨fun y => absurd y (by decide), fun _ => ⟨hL, ⟨by omega, by omega⟩, step⟩⟩
      · rw [if_neg z] at step ⊢
        refine ⟨fun _ => ⟨hL, ⟨by omega, by omega⟩, ⟨by omega, by omega⟩, ?_⟩, fun y => absurd rfl y⟩
        rw [show gI σ 900 t i.toNat - 97 + 10 = gI σ 900 t i.toNat - 87 by omega]
        exact step
  have dec : (¬ (2 < e - q ∧ gI σ 900 t q.toNat = 48 ∧ gI σ 900 t (q + 1).toNat = 120)) → AW g l (d + 1) MX9_numberIn 36 [some (vR 9 (some t)), some (vI q), some (vI e), none, none, none, none, none, none, none] [vI 0] σ (fun v σ' => ∃ r, v = some (vJ r) ∧ P r σ') := by
    intro hn
    unfold numV at h
    rw [if_neg hn] at h
    refine bk_X9_numberIn_36 ⟨fun _ => bk_X9_numberIn_61 ⟨⟨by omega, by omega⟩, fun _ => ⟨fun z => ?_, fun z => ⟨_, rfl, ?_⟩⟩, fun z => absurd rfl z⟩, fun z => absurd rfl z⟩
    · rw [if_pos z] at h
      exact loop _ q 10 0 (by omega) (by omega) h
    · rw [if_neg z] at h; exact h
  have hex : (2 < e - q ∧ gI σ 900 t q.toNat = 48 ∧ gI σ 900 t (q + 1).toNat = 120) → AW g l (d + 1) MX9_numberIn 36 [some (vR 9 (some t)), some (vI q), some (vI e), none, none, none, none, none, none, none] [vI 1] σ (fun v σ' => ∃ r, v = some (vJ r) ∧ P r σ') := by
    intro hn
    unfold numV at h
    rw [if_pos hn] at h
    refine bk_X9_numberIn_36 ⟨fun z => absurd z (by decide), fun _ => ⟨⟨by omega, by omega⟩, bk_X9_numberIn_61 ⟨⟨by omega, by omega⟩, fun z => absurd z (by decide), fun _ => ⟨fun z => ?_, fun z => ⟨_, rfl, ?_⟩⟩⟩⟩⟩
    · rw [if_pos z] at h
      exact loop _ (q + 2) 16 0 (by omega) (by omega) h
    · rw [if_neg z] at h; exact h
  refine AC.of mo_X9_numberIn (Nat.le_of_ble_eq_true rfl) (bk_X9_numberIn_0 ⟨⟨by omega, by omega⟩, fun z => dec (by omega), fun z => ⟨hL, ⟨by omega, by omega⟩, fun z2 => dec (fun y => z2 y.2.1), fun z2 => ⟨⟨by omega, by omega⟩, ⟨by omega, by omega⟩, fun z3 => dec (fun y => z3 y.2.2), fun z3 => hex ⟨by omega, z2, z3⟩⟩⟩⟩)
end X10
