/-! the class's tokens -/
section X11
variable {g : GP} {l : Launch} {d : Nat} {σ : St} {t : Nat}
def TKF (t : Nat) (f r : Nat) : Prop := r = t ∧ (f = 902 ∨ f = 903 ∨ f = 904 ∨ f = 905)
/-- one token more -/
def TA (σ σ' : St) (t : Nat) (k p : Int) (v : Int64) : Prop :=
  Frm (TKF t) σ σ' ∧ gI σ' 905 t 0 = gI σ 905 t 0 + 1 ∧ ∀ i : Nat, (gI σ' 902 t i = if i = (gI σ 905 t 0).toNat then k else gI σ 902 t i) ∧ (gI σ' 903 t i = if i = (gI σ 905 t 0).toNat then p else gI σ 903 t i) ∧ (gJ σ' 904 t i = if i = (gI σ 905 t 0).toNat then v else gJ σ 904 t i)
theorem x_addToken {k p : Int} {v : Int64} {P : St → Prop} (hL : LC 9 σ t) (h0 : 0 ≤ gI σ 905 t 0) (h1 : gI σ 905 t 0 ≤ 3000) (h : ∀ σ', TA σ σ' t k p v → P σ') : ACv g l d MX9_addToken [vR 9 (some t), vI k, vI p, vJ v] σ P := by
  refine AC.of mo_X9_addToken (Nat.le_of_ble_eq_true rfl) (bk_X9_addToken_0 ⟨fun q => absurd q (by omega), fun _ => ⟨hL, ⟨by omega, by omega⟩, ⟨by omega, by omega⟩, rfl, h _ ⟨?_, ?_, fun i => ⟨?_, ?_, ?_⟩⟩⟩⟩)
  · exact (Frm.sI (by simp [TKF])).trans ((Frm.sI (by simp [TKF])).trans ((Frm.sJ (by simp [TKF])).trans (Frm.sI (by simp [TKF]))))
  · exact gI_slf _ _ _ _ _
  · simp only [gI_sI, gI_sJ, true_and, false_and, if_false, Nat.reduceEqDiff]
  · simp only [gI_sI, gI_sJ, true_and, false_and, if_false, Nat.reduceEqDiff]
  · simp only [gJ_sI, gJ_sJ, true_and, false_and, if_false, Nat.reduceEqDiff]
theorem TokC.add {kw : Int → Int64} {σ' : St} {T : Int → Int} {n : Int} {K : Nat} (h : TokC kw σ t T n K) (hA : TA σ σ' t (kd kw T n (qs T n K)) (qs T n K) (vl T n (qs T n K))) : TokC kw σ' t T n ((K : Int) + 1) := by
  obtain ⟨a0, a1, a2⟩ := hA
  refine ⟨by rw [a1, h.1], fun i hi => ?_⟩
  obtain ⟨b1, b2, b3⟩ := a2 i
  rw [h.1] at b1 b2 b3
  rw [b1, b2, b3]
  by_cases e : i = K
  · rw [e, if_pos (by omega), if_pos (by omega), if_pos (by omega)]
    exact ⟨rfl, rfl, rfl⟩
  · rw [if_neg (by omega), if_neg (by omega), if_neg (by omega)]
    exact h.2 i (by omega)
theorem ty_or {z : Int} (h0 : 1 ≤ z) (h1 : z ≤ 8) : i_or (i_or z 0) 0 = z + 0 + 0 ∧ i_or (i_or z 0) 32 = z + 0 + 32 ∧ i_or (i_or z 16) 0 = z + 16 + 0 ∧ i_or (i_or z 16) 32 = z + 16 + 32 := by
  have hz : z = 1 ∨ z = 2 ∨ z = 3 ∨ z = 4 ∨ z = 5 ∨ z = 6 ∨ z = 7 ∨ z = 8 := by omega
  rcases hz with rfl | rfl | rfl | rfl | rfl | rfl | rfl | rfl <;> exact ⟨by decide, by decide, by decide, by decide⟩
theorem x_typeIn {q e : Int} {P : Int → St → Prop} (hL : LC 9 σ t) (h0 : 0 ≤ q) (h1 : q < e) (h2 : e ≤ 3000) (hb : ∀ i : Int, q ≤ i → i < e → 0 ≤ gI σ 900 t i.toNat ∧ gI σ 900 t i.toNat ≤ 255) (h : P (tyV (fun i => gI σ 900 t i.toNat) q e) σ) : ACi g l d MX9_typeIn [vR 9 (some t), vI q, vI e] σ P := by
  have fin : ∀ b : Int, (gI σ 900 t q.toNat = 117 ∨ gI σ 900 t q.toNat = 115) → (e - q = 2 ∧ b = 0 ∨ e - q = 3 ∧ gI σ 900 t (e - 1).toNat = 98 ∧ ¬ b = 0) →
      AW g l d MX9_typeIn 60 [some (vR 9 (some t)), some (vI q), none, some (vI (gI σ 900 t q.toNat)), some (vI b), none] [] σ (fun v σ' => ∃ r, v = some (vI r) ∧ P r σ') := by
    intro b c1 c2
    have hb1 := hb (q + 1) (by omega) (by omega)
    dsimp only [tyV] at h
    refine bk_X9_typeIn_60 ⟨hL, ⟨by omega, by omega⟩, ⟨by omega, by omega⟩, ⟨by omega, by omega⟩, fun z5 hz => ⟨fun z => ⟨_, rfl, ?_⟩, fun z => ⟨fun z2 => ?_, fun z2 => ⟨_, rfl, ?_⟩⟩⟩⟩
    · rw [if_neg (fun y => by have := y.2.2; omega)] at h; exact h
    · rw [if_pos ⟨c1, by rcases c2 with c | c; exact Or.inl c.1; exact Or.inr ⟨c.1, c.2.1⟩, by omega, by omega⟩, ← hz] at h
      obtain ⟨o1, o2, o3, o4⟩ := ty_or (z := z5) (by omega) z2
      rw [o1, o2, o3, o4]
      refine ⟨fun y => ⟨fun y2 => ⟨_, rfl, ?_⟩, fun y2 => ⟨_, rfl, ?_⟩⟩, fun y => ⟨fun y2 => ⟨_, rfl, ?_⟩, fun y2 => ⟨_, rfl, ?_⟩⟩⟩
      · rw [if_neg y, if_neg (by omega)] at h; exact h
      · rw [if_neg y, if_pos (by omega)] at h; exact h
      · rw [if_pos y, if_neg (by omega)] at h; exact h
      · rw [if_pos y, if_pos (by omega)] at h; exact h
    · rw [if_neg (fun y => by have := y.2.2; omega)] at h; exact h
  have mid : ∀ b : Int, (b = 0 ∧ ¬ (e - q = 3 ∧ gI σ 900 t (e - 1).toNat = 98) ∨ ¬ b = 0 ∧ e - q = 3 ∧ gI σ 900 t (e - 1).toNat = 98) →
      AW g l d MX9_typeIn 32 [some (vR 9 (some t)), some (vI q), some (vI e), some (vI (gI σ 900 t q.toNat)), none, none] [vI b] σ (fun v σ' => ∃ r, v = some (vI r) ∧ P r σ') := by
    intro b c
    have no : b = 0 → ¬ e - q = 2 → P (-1) σ := fun y y2 => by
      dsimp only [tyV] at h
      rw [if_neg (fun z => by rcases z.2.1 with w | w; exact y2 w; rcases c with c | c; exact c.2 w; exact c.1 y)] at h; exact h
    have go : (gI σ 900 t q.toNat = 117 ∨ gI σ 900 t q.toNat = 115) → R32 (e - q) ∧ ((e - q = 2 → AW g l d MX9_typeIn 60 [some (vR 9 (some t)), some (vI q), none, some (vI (gI σ 900 t q.toNat)), some (vI b), none] [] σ (fun v σ' => ∃ r, v = some (vI r) ∧ P r σ')) ∧ (¬ e - q = 2 → ((¬ b = 0 → AW g l d MX9_typeIn 60 [some (vR 9 (some t)), some (vI q), none, some (vI (gI σ 900 t q.toNat)), some (vI b), none] [] σ (fun v σ' => ∃ r, v = some (vI r) ∧ P r σ')) ∧ (b = 0 → ∃ r, some (vI (-1)) = some (vI r) ∧ P r σ)))) := fun c1 =>
      ⟨⟨by omega, by omega⟩, fun y => fin b c1 (Or.inl ⟨y, by omega⟩), fun y => ⟨fun y2 => fin b c1 (Or.inr (by omega)), fun y2 => ⟨_, rfl, no y2 y⟩⟩⟩
    refine bk_X9_typeIn_32 ⟨fun y => go (Or.inl y), fun y => ⟨fun y2 => ⟨_, rfl, ?_⟩, fun y2 => go (Or.inr y2)⟩⟩
    dsimp only [tyV] at h
    rw [if_neg (fun z => z.1.elim y y2)] at h; exact h
  exact AC.of mo_X9_typeIn (Nat.le_of_ble_eq_true rfl) (bk_X9_typeIn_0 ⟨hL, ⟨by omega, by omega⟩, ⟨by omega, by omega⟩, fun y => mid 0 (by omega), fun y => ⟨⟨by omega, by omega⟩, ⟨by omega, by omega⟩, fun y2 => mid 0 (by omega), fun y2 => mid 1 (by omega)⟩⟩)
theorem x_keywordOf {w : Int64} {P : Int → St → Prop} (hL : LC 9 σ t) (h : P (kwF (fun i => gJ σ 906 t i.toNat) w 27 0) σ) : ACi g l d MX9_keywordOf [vR 9 (some t), vJ w] σ P := by
  have loop : ∀ (j : Nat) (i : Int), i = 27 - j → 0 ≤ i → P (kwF (fun i => gJ σ 906 t i.toNat) w j i) σ → AW g l d MX9_keywordOf 2 [some (vR 9 (some t)), some (vJ w), none, some (vI i)] [] σ (fun v σ' => ∃ r, v = some (vI r) ∧ P r σ') := by
    intro j
    induction j with
    | zero =>
      intro i hi h0 hP
      exact bk_X9_keywordOf_2 ⟨fun _ => ⟨_, rfl, hP⟩, fun q => absurd (by omega) q⟩
    | succ j ih =>
      intro i hi h0 hP
      simp only [kwF] at hP
      refine bk_X9_keywordOf_2 ⟨fun q => absurd q (by omega), fun _ => ⟨hL, ⟨by omega, by omega⟩, fun q => ⟨⟨by omega, by omega⟩, ih _ (by omega) (by omega) ?_⟩, fun q => ⟨⟨by omega, by omega⟩, _, rfl, ?_⟩⟩⟩
      · rw [if_neg q] at hP; exact hP
      · rw [if_pos q] at hP; exact hP
  exact AC.of mo_X9_keywordOf (Nat.le_of_ble_eq_true rfl) (bk_X9_keywordOf_0 (loop 27 0 (by omega) (by omega) h))
theorem x_addWord {q e : Int} {P : St → Prop} (hL : LC 9 σ t) (h0 : 0 ≤ q) (h1 : q < e) (h2 : e ≤ 3000) (hb : ∀ i : Int, q ≤ i → i < e → 0 ≤ gI σ 900 t i.toNat ∧ gI σ 900 t i.toNat ≤ 255) (hc0 : 0 ≤ gI σ 905 t 0) (hc1 : gI σ 905 t 0 ≤ 3000)
    (h : ∀ σ', TA σ σ' t (if 8 < e - q then 1 else if tyV (fun i => gI σ 900 t i.toNat) q e = -1 then kwF (fun i => gJ σ 906 t i.toNat) (wdF (fun i => gI σ 900 t i.toNat) q (e - q).toNat) 27 0 else 4) q
      (if 8 < e - q then 0 else if tyV (fun i => gI σ 900 t i.toNat) q e = -1 then wdF (fun i => gI σ 900 t i.toNat) q (e - q).toNat else i2j (tyV (fun i => gI σ 900 t i.toNat) q e)) → P σ') : ACv g l (d + 1) MX9_addWord [vR 9 (some t), vI q, vI e] σ P := by
  refine AC.of mo_X9_addWord (Nat.le_of_ble_eq_true rfl) (bk_X9_addWord_0 ⟨⟨by omega, by omega⟩, fun z => ?_, fun z => x_addToken hL hc0 hc1 (fun σ' hA => ⟨rfl, h σ' ?_⟩)⟩)
  · have z8 : ¬ 8 < e - q := by omega
    rw [if_neg z8, if_neg z8] at h
    have loop : ∀ (j : Nat) (i : Int), i = e - j → q ≤ i → AW g l (d + 1) MX9_addWord 21 [some (vR 9 (some t)), some (vI q), some (vI e), some (vJ (wdF (fun i => gI σ 900 t i.toNat) q (i - q).toNat)), none, some (vI i)] [] σ (fun v σ' => v = none ∧ P σ') := by
      intro j
      induction j with
      | zero =>
        intro i hi hq
        obtain rfl : i = e := by omega
        refine bk_X9_addWord_21 ⟨fun _ => x_typeIn hL h0 h1 h2 hb ⟨fun y => ?_, fun y => ?_⟩, fun y => absurd (Int.le_refl _) y⟩
        · rw [if_pos y, if_pos y] at h
          exact x_keywordOf hL (x_addToken hL hc0 hc1 (fun σ' hA => ⟨rfl, h σ' hA⟩))
        · rw [if_neg y, if_neg y] at h
          exact x_addToken hL hc0 hc1 (fun σ' hA => ⟨rfl, h σ' hA⟩)
      | succ j ih =>
        intro i hi hq
        refine bk_X9_addWord_21 ⟨fun y => absurd y (by omega), fun _ => ⟨hL, ⟨by omega, by omega⟩, ⟨by omega, by omega⟩, ⟨by omega, by omega⟩, ⟨by omega, by omega⟩, ?_⟩⟩
        have := ih (i + 1) (by omega) (by omega)
        rw [show (i + 1 - q).toNat = (i - q).toNat + 1 by omega, wdF, show q + ((i - q).toNat : Int) = i by omega, show ((i - q).toNat : Int) = i - q by omega] at this
        exact this
    have := loop (e - q).toNat q (by omega) (by omega)
    rw [show (q - q).toNat = 0 by omega] at this
    exact this
  · rw [if_pos (by omega), if_pos (by omega)]; exact hA
/-- behind split: the tokens of the text, END behind them, the tape empty -/
def SPL (σ σ' : St) (t : Nat) (T : Int → Int) (n : Int) (kw : Int → Int64) : Prop :=
  Frm (fun f r => r = t ∧ (f = 901 ∨ f = 902 ∨ f = 903 ∨ f = 904 ∨ f = 905)) σ σ' ∧ gI σ' 901 t 0 = 0 ∧ ∃ K : Nat, TokC kw σ' t T n ((K : Int) + 1) ∧ qs T n K = n ∧ (∀ i : Nat, i < K → qs T n i < n) ∧ (K : Int) ≤ n
theorem x_split {P : St → Prop} {T : Int → Int} {n : Int} {kw : Int → Int64} (hS : SOK g) (hL : LC 9 σ t) (hn0 : 0 ≤ n) (hn : n ≤ 3000) (hN : gI σ 901 t 0 = n) (hT : ∀ i : Int, gI σ 900 t i.toNat = T i) (hK : ∀ i : Int, gJ σ 906 t i.toNat = kw i)
    (hb : ∀ i : Int, 0 ≤ i → i < n → 0 ≤ T i ∧ T i ≤ 255) (h : ∀ σ', SPL σ σ' t T n kw → P σ') : ACv g l (d + 4) MX9_split [vR 9 (some t)] σ P := by
  have loop : ∀ (j : Nat) (p : Int) (τ : St) (K : Nat), n - p ≤ j → (K : Int) ≤ p → p ≤ n → Frm (fun f r => r = t ∧ (f = 901 ∨ f = 902 ∨ f = 903 ∨ f = 904 ∨ f = 905)) σ τ → gI τ 901 t 0 = n → TokC kw τ t T n K → (∀ i : Nat, i < K → qs T n i < n) → sk T n p = qs T n K →
      AW g l (d + 4) MX9_split 9 [some (vR 9 (some t)), none, some (vI p), none, none] [] τ (fun v σ' => v = none ∧ P σ') := by
    intro j
    induction j with
    | zero =>
      intro p τ K hj hKp hpn hF eN hC hq hsk
      have hLt := hF.lc hL
      refine bk_X9_split_9 hS ⟨fun _ => x_addToken hLt (by rw [hC.1]; omega) (by rw [hC.1]; omega) (fun σ' hA => ⟨rfl, h _ ?_⟩), fun z => absurd (by omega) z⟩
      have eq : qs T n K = n := by rw [← hsk, sk_end (by omega)]; omega
      have hA' : TA τ σ' t (kd kw T n (qs T n K)) (qs T n K) (vl T n (qs T n K)) := by
        unfold kd vl
        rw [eq, if_pos (Int.le_refl _), if_pos (Int.le_refl _), ← eN]
        exact hA
      have hC' := hC.add hA'
      refine ⟨hF.trans ((hA.1.mono (fun f r z => ⟨z.1, by have := z.2; omega⟩)).trans (Frm.sI (by simp))), gI_slf _ _ _ _ _, K, ⟨?_, fun i hi => ?_⟩, eq, hq, by omega⟩
      · rw [gI_sI, if_neg (by simp)]; exact hC'.1
      · simp only [gI_sI, gJ_sI, false_and, if_false, Nat.reduceEqDiff]
        exact hC'.2 i hi
    | succ j ih =>
      intro p τ K hj hKp hpn hF eN hC hq hsk
      by_cases hpe : p = n
      · exact ih p τ K (by omega) hKp hpn hF eN hC hq hsk
      have hLt := hF.lc hL
      have eT : ∀ i : Int, gI τ 900 t i.toNat = T i := fun i => by rw [hF.I (by simp)]; exact hT i
      have eTf : (fun i : Int => gI τ 900 t i.toNat) = T := funext eT
      have eKf : (fun i : Int => gJ τ 906 t i.toNat) = kw := funext (fun i => by rw [hF.J (by simp)]; exact hK i)
      have hbp := hb p (by omega) (by omega)
      have np : ¬ n ≤ p := by omega
      have c0 : 0 ≤ gI τ 905 t 0 := by rw [hC.1]; omega
      have c1 : gI τ 905 t 0 ≤ 3000 := by rw [hC.1]; omega
      have go : ∀ (τ' : St) (e : Int), ¬ (T p = 32 ∨ T p = 10) → e = nxt T n p → p < e → e ≤ n → TA τ τ' t (kd kw T n p) p (vl T n p) → AW g l (d + 4) MX9_split 9 [some (vR 9 (some t)), none, some (vI e), none, none] [] τ' (fun v σ' => v = none ∧ P σ') := by
        intro τ' e hnb he he1 he2 hA
        have eq : qs T n K = p := by rw [← hsk, sk_non (by omega) hnb]
        refine ih e τ' (K + 1) (by omega) (by omega) he2 (hF.trans (hA.1.mono (fun f r z => ⟨z.1, by have := z.2; omega⟩))) ?_ ?_ (fun i hi => ?_) ?_
        · rw [hA.1.I (by simp [TKF])]; exact eN
        · rw [← eq] at hA
          exact hC.add hA
        · by_cases y : i = K
          · rw [y, eq]; omega
          · exact hq i (by omega)
        · rw [qs, if_pos (by omega), eq, he]
      refine bk_X9_split_9 hS ⟨fun z => absurd z (by omega), fun _ => ⟨⟨by omega, by omega⟩, hLt, ⟨by omega, by omega⟩, x_isSmall ?_⟩⟩
      rw [eT p]
      by_cases sm : 97 ≤ T p ∧ T p ≤ 122
      · rw [if_pos sm]
        refine ⟨fun y => absurd y (by decide), fun _ => x_rowEnd hLt (by omega) (by omega) (by omega) ?_⟩
        rw [eTf, eN]
        have r0 : re T n p = re T n (p + 1) := re_in (by omega) (Or.inl sm)
        have r1 := re_le (T := T) (n := n) (n - (p + 1)).toNat (p + 1) (by omega)
        have r2 : nxt T n p = re T n p := if_pos (Or.inl sm)
        refine x_addWord hLt (by omega) (by omega) (by omega) (fun i i0 i1 => by rw [eT]; exact hb i (by omega) (by omega)) c0 c1 (fun τ' hA => j_max ?_)
        rw [eTf, eKf] at hA
        rw [show max (p + 1) (re T n p) = re T n p by omega]
        refine go τ' _ (by omega) r2.symm (by omega) (by omega) ?_
        unfold kd vl
        rw [if_neg np, if_pos sm, if_neg np, if_pos sm]
        exact hA
      · rw [if_neg sm]
        refine ⟨fun _ => ⟨hLt, x_isDigit ?_⟩, fun y => absurd rfl y⟩
        rw [eT p]
        by_cases sd : 48 ≤ T p ∧ T p ≤ 57
        · rw [if_pos sd]
          refine ⟨fun y => absurd y (by decide), fun _ => x_rowEnd hLt (by omega) (by omega) (by omega) ?_⟩
          rw [eTf, eN]
          have r0 : re T n p = re T n (p + 1) := re_in (by omega) (Or.inr sd)
          have r1 := re_le (T := T) (n := n) (n - (p + 1)).toNat (p + 1) (by omega)
          have r2 : nxt T n p = re T n p := if_pos (Or.inr sd)
          have fin : ∀ k : Int, k = (if numV T p (re T n p) = -1 then 1 else 3) → AW g l (d + 4) MX9_split 87 [some (vR 9 (some t)), some (vI (re T n p)), some (vI p), some (vJ (numV T p (re T n p))), none] [vI k, vR 9 (some t)] τ (fun v σ' => v = none ∧ P σ') := by
            intro k hk
            refine bk_X9_split_87 hS ⟨t, rfl, x_addToken hLt c0 c1 (fun τ' hA => ⟨⟨by omega, by omega⟩, j_max ?_⟩)⟩
            rw [show max (p + 1) (re T n p) = re T n p by omega]
            refine go τ' _ (by omega) r2.symm (by omega) (by omega) ?_
            unfold kd vl
            rw [if_neg np, if_neg sm, if_pos sd, if_neg np, if_neg sm, if_pos sd, ← hk]
            exact hA
          refine x_numberIn hLt (by omega) (by omega) (by omega) (fun i i0 i1 => by rw [eT]; exact hb i (by omega) (by omega)) ?_
          rw [eTf]
          exact ⟨fun y => fin 3 (by rw [if_neg y]), fun y => fin 1 (by rw [if_pos y])⟩
        · rw [if_neg sd]
          refine ⟨fun _ => ⟨hLt, ?_⟩, fun y => absurd rfl y⟩
          have bl : (T p = 32 ∨ T p = 10) → AW g l (d + 4) MX9_split 9 [some (vR 9 (some t)), none, some (vI (max (p + 1) (p + 1))), none, none] [] τ (fun v σ' => v = none ∧ P σ') := fun y => by
            rw [show max (p + 1) (p + 1) = p + 1 by omega]
            exact ih (p + 1) τ K (by omega) (by omega) (by omega) hF eN hC hq (by rw [← sk_blank (by omega) y]; exact hsk)
          refine ⟨fun y => j_max (bl (Or.inl y)), fun y => ⟨fun y2 => j_max (bl (Or.inr y2)), fun y2 => ?_⟩⟩
          rw [i_2c_id (by omega) (by omega)]
          have fin : ∀ k : Int, k = (if 0 ≤ ixN SGB (if T p < 128 then T p else T p - 256) 18 0 then T p else 1) → AW g l (d + 4) MX9_split 143 [some (vR 9 (some t)), some (vI (p + 1)), some (vI p), none, none] [vI k, vR 9 (some t)] τ (fun v σ' => v = none ∧ P σ') := by
            intro k hk
            refine bk_X9_split_143 hS ⟨t, rfl, x_addToken hLt c0 c1 (fun τ' hA => ⟨⟨by omega, by omega⟩, j_max ?_⟩)⟩
            rw [show max (p + 1) (p + 1) = p + 1 by omega]
            refine go τ' _ (by omega) ?_ (by omega) (by omega) ?_
            · unfold nxt; rw [if_neg (by omega)]
            · unfold kd vl
              rw [if_neg np, if_neg sm, if_neg sd, if_neg np, if_neg sm, if_neg sd, ← hk]
              exact hA
          refine j_indexOf (e := 76) (bs := SGB) (by decide) hS.2.1 hS.2.2 (by decide) (by decide) hbp.1 hbp.2 ?_
          refine ⟨fun z => ⟨hLt, ?_⟩, fun z => fin 1 (if_neg z).symm⟩
          rw [eT p]
          exact fin _ (if_pos z).symm
  refine AC.of mo_X9_split (Nat.le_of_ble_eq_true rfl) (bk_X9_split_0 hS (loop n.toNat 0 _ 0 (by omega) (by omega) hn0 (Frm.sI (by simp)) (by rw [gI_sI, if_neg (by simp)]; exact hN) ⟨gI_slf _ _ _ _ _, fun i hi => absurd hi (by omega)⟩ (fun i hi => absurd hi (by omega)) rfl))
end X11
