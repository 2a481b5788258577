/-! tokens: two texts that agree on their bytes -/
section C1
variable {T T' : Int → Int} {n : Int}
theorem skN_c (h : ∀ z : Int, 0 ≤ z → z < n → T z = T' z) : ∀ (k : Nat) (e : Int), 0 ≤ e → skN T n k e = skN T' n k e
  | 0, _, _ => rfl
  | k + 1, e, h0 => by
    unfold skN
    by_cases c : e < n
    · rw [h e h0 c]
      split
      · exact skN_c h k (e + 1) (by omega)
      · rfl
    · rw [if_neg (fun q => c q.1), if_neg (fun q => c q.1)]
theorem reN_c (h : ∀ z : Int, 0 ≤ z → z < n → T z = T' z) : ∀ (k : Nat) (e : Int), 0 ≤ e → reN T n k e = reN T' n k e
  | 0, _, _ => rfl
  | k + 1, e, h0 => by
    unfold reN
    by_cases c : e < n
    · rw [h e h0 c]
      split
      · exact reN_c h k (e + 1) (by omega)
      · rfl
    · rw [if_neg (fun q => c q.1), if_neg (fun q => c q.1)]
theorem sk_c (h : ∀ z : Int, 0 ≤ z → z < n → T z = T' z) {e : Int} (h0 : 0 ≤ e) : sk T n e = sk T' n e := skN_c h _ e h0
theorem re_c (h : ∀ z : Int, 0 ≤ z → z < n → T z = T' z) {e : Int} (h0 : 0 ≤ e) : re T n e = re T' n e := reN_c h _ e h0
theorem nxt_c (h : ∀ z : Int, 0 ≤ z → z < n → T z = T' z) {q : Int} (h0 : 0 ≤ q) (h1 : q < n) : nxt T n q = nxt T' n q := by
  unfold nxt
  rw [h q h0 h1, re_c h h0]
theorem nxt_ge {q : Int} (h1 : q < n) : q ≤ nxt T n q := by
  unfold nxt
  have := re_le (T := T) (n := n) (n - q).toNat q (by omega)
  split <;> omega
theorem qs_c (h0 : 0 ≤ n) (h : ∀ z : Int, 0 ≤ z → z < n → T z = T' z) : ∀ i : Nat, qs T n i = qs T' n i
  | 0 => sk_c h (by decide)
  | i + 1 => by
    have e := qs_c h0 h i
    have g := qs_ge (T := T) (n := n) h0 i
    unfold qs
    by_cases c : qs T n i < n
    · have nn := nxt_ge (T := T) (n := n) c
      rw [if_pos c, if_pos (by rw [← e]; exact c), sk_c h (by omega), nxt_c h g.1 c, ← e]
    · rw [if_neg c, if_neg (by rw [← e]; exact c), e]
theorem nvF_c (h : ∀ z : Int, 0 ≤ z → z < n → T z = T' z) {b : Int} : ∀ (k : Nat) (i : Int) (a : Int64), 0 ≤ i → i + k ≤ n → nvF T b k i a = nvF T' b k i a
  | 0, _, _, _, _ => rfl
  | k + 1, i, a, h0, h1 => by
    unfold nvF
    rw [h i h0 (by omega)]
    split
    · exact nvF_c h k (i + 1) _ (by omega) (by omega)
    · rfl
theorem wdF_c (h : ∀ z : Int, 0 ≤ z → z < n → T z = T' z) {q : Int} (h0 : 0 ≤ q) : ∀ k : Nat, q + k ≤ n → wdF T q k = wdF T' q k
  | 0, _ => rfl
  | k + 1, h1 => by
    unfold wdF
    rw [wdF_c h h0 k (by omega), h (q + k) (by omega) (by omega)]
theorem numV_c (h : ∀ z : Int, 0 ≤ z → z < n → T z = T' z) {q e : Int} (h0 : 0 ≤ q) (h1 : q < e) (h2 : e ≤ n) : numV T q e = numV T' q e := by
  unfold numV
  rw [h q h0 (by omega)]
  by_cases c : 2 < e - q
  · rw [h (q + 1) (by omega) (by omega), nvF_c h _ (q + 2) 0 (by omega) (by omega), nvF_c h _ q 0 (by omega) (by omega)]
  · have c1 : ¬ (2 < e - q ∧ T' q = 48 ∧ T (q + 1) = 120) := fun z => c z.1
    have c2 : ¬ (2 < e - q ∧ T' q = 48 ∧ T' (q + 1) = 120) := fun z => c z.1
    rw [if_neg c1, if_neg c2, nvF_c h _ q 0 (by omega) (by omega)]
theorem tyV_c (h : ∀ z : Int, 0 ≤ z → z < n → T z = T' z) {q e : Int} (h0 : 0 ≤ q) (h1 : q < e) (h2 : e ≤ n) : tyV T q e = tyV T' q e := by
  unfold tyV
  by_cases c : e - q = 2 ∨ e - q = 3
  · rw [h q h0 (by omega), h (q + 1) (by omega) (by omega), h (e - 1) (by omega) (by omega)]
  · rw [if_neg (fun z => c (z.2.1.elim Or.inl (fun y => Or.inr y.1))), if_neg (fun z => c (z.2.1.elim Or.inl (fun y => Or.inr y.1)))]
theorem kd_c (h : ∀ z : Int, 0 ≤ z → z < n → T z = T' z) {kw : Int → Int64} {q : Int} (h0 : 0 ≤ q) : kd kw T n q = kd kw T' n q ∧ vl T n q = vl T' n q := by
  unfold kd vl
  by_cases c : n ≤ q
  · rw [if_pos c, if_pos c, if_pos c, if_pos c]; exact ⟨rfl, rfl⟩
  rw [if_neg c, if_neg c, if_neg c, if_neg c, ← h q h0 (by omega), ← re_c h h0]
  have r := re_le (T := T) (n := n) (n - q).toNat q (by omega)
  by_cases a : 97 ≤ T q ∧ T q ≤ 122
  · have lt : q < re T n q := by
      rw [re_in (by omega) (Or.inl a)]
      have := re_le (T := T) (n := n) (n - (q + 1)).toNat (q + 1) (by omega)
      omega
    rw [if_pos a, if_pos a, if_pos a, if_pos a, ← tyV_c h h0 lt r.2.1, ← wdF_c h h0 (re T n q - q).toNat (by omega)]
    exact ⟨rfl, rfl⟩
  rw [if_neg a, if_neg a, if_neg a, if_neg a]
  by_cases b : 48 ≤ T q ∧ T q ≤ 57
  · have lt : q < re T n q := by
      rw [re_in (by omega) (Or.inr b)]
      have := re_le (T := T) (n := n) (n - (q + 1)).toNat (q + 1) (by omega)
      omega
    rw [if_pos b, if_pos b, if_pos b, if_pos b, ← numV_c h h0 lt r.2.1]
    exact ⟨rfl, rfl⟩
  rw [if_neg b, if_neg b, if_neg b, if_neg b]
  exact ⟨rfl, rfl⟩
theorem TokC_c (h0 : 0 ≤ n) (h : ∀ z : Int, 0 ≤ z → z < n → T z = T' z) {kw : Int → Int64} {σ : St} {t : Nat} {k : Int} (hT : TokC kw σ t T n k) : TokC kw σ t T' n k := by
  refine ⟨hT.1, fun i hi => ?_⟩
  obtain ⟨a, b, c⟩ := hT.2 i hi
  have g := qs_ge (T := T) (n := n) h0 i
  have e := kd_c h (kw := kw) g.1
  rw [← qs_c h0 h i, ← e.1, ← e.2]
  exact ⟨a, b, c⟩
end C1
