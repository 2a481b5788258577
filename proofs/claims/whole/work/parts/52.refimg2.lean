/-! the reference: loops of undo, push, layer, changed -/
section M4
variable {g : GP} {l : Launch} {d : Nat} {m : Nat} {Q : Option AV → St → Prop}
def MU (σ σ' : St) (m : Nat) (c w x : Int) : Prop := Frm (fun f r => r = m ∧ f = 1204) σ σ' ∧ ∀ k : Nat, gI σ' 1204 m k = if c ≤ k ∧ (k : Int) < c + x then gI σ 1208 m (8 * w + (k - c)).toNat else gI σ 1204 m k
theorem m_undo_71 {σ : St} {im li fr n w : Int} (hm : LC 12 σ m) (h1 : 0 ≤ im) (h2 : im < 6) (hli : gI σ 1202 m im.toNat = li + 1) (h3 : 0 ≤ li) (h4 : li < 4) (h5 : 0 ≤ fr) (h6 : fr + n ≤ 2000) (h8 : n ≤ 8) (h9 : 0 ≤ w) (h10 : w < 480) (hn : gI σ 1206 m w.toNat = n) (hp : ∀ k : Int, 0 ≤ k → k < n → gI σ 1207 m (8 * w + k).toNat = fr + k)
    (h : ∀ σ', MU σ σ' m ((4 * im + li) * 2000 + fr) w n → Q (some (vI n)) σ') :
    ∀ (j : Nat) (x : Int) (τ : St), x = n - j → 0 ≤ x → MU σ τ m ((4 * im + li) * 2000 + fr) w x →
    AW g l (d + 1) MX12_undo 71 [some (vR 12 (some m)), some (vI im), none, some (vI w), some (vI x)] [] τ Q
  | 0, x, τ, hx, hx0, ht => by
    have e6 : gI τ 1206 m w.toNat = n := by rw [ht.1.I (by simp), hn]
    obtain rfl : x = n := by omega
    refine bk_X12_undo_71 ⟨ht.1.lc hm, ⟨h9, h10⟩, fun _ => ?_, fun q => absurd (by omega) q⟩
    rw [e6]
    exact h τ ht
  | j + 1, x, τ, hx, hx0, ht => by
    have e6 : gI τ 1206 m w.toNat = n := by rw [ht.1.I (by simp), hn]
    have e2 : gI τ 1202 m im.toNat - 1 = li := by rw [ht.1.I (by simp), hli]; omega
    have e7 : gI τ 1207 m (8 * w + x).toNat = fr + x := by rw [ht.1.I (by simp), hp x hx0 (by omega)]
    have hL := ht.1.lc hm
    refine bk_X12_undo_71 ⟨hL, ⟨h9, h10⟩, fun q => absurd q (by omega), fun _ => ⟨⟨h1, h2⟩, ⟨by omega, by omega⟩, ⟨by omega, by omega⟩, ⟨by omega, by omega⟩, ⟨by omega, by omega⟩, ?_⟩⟩
    rw [e2, e7]
    refine m_cell h1 h2 h3 h4 (by omega) (by omega) ⟨hL, ⟨by omega, by omega⟩, ⟨by omega, by omega⟩, m_undo_71 hm h1 h2 hli h3 h4 h5 h6 h8 h9 h10 hn hp h j _ _ (by omega) (by omega) ⟨ht.1.trans (Frm.sI (by simp)), fun k => ?_⟩⟩
    rw [gI_sI, ht.2, ht.1.I (f := 1208) (by simp)]
    by_cases e : k = ((4 * im + li) * 2000 + (fr + x)).toNat
    · rw [if_pos ⟨rfl, rfl, e⟩, if_pos (by omega)]
      congr 1
      omega
    · rw [if_neg (fun z => e z.2.2)]
      by_cases e3 : (4 * im + li) * 2000 + fr ≤ k ∧ (k : Int) < (4 * im + li) * 2000 + fr + x
      · rw [if_pos e3, if_pos (by omega)]
      · rw [if_neg e3, if_neg (by omega)]
def MP (σ σ' : St) (m : Nat) (im : Int) (w : Int64) (n c : Int) : Prop :=
  Frm (fun f r => r = m ∧ (f = 1201 ∨ f = 1203)) σ σ' ∧ (∀ k : Nat, gI σ' 1201 m k = if k = im.toNat then gI σ 1201 m im.toNat + c else gI σ 1201 m k) ∧
  (∀ k : Nat, gI σ' 1203 m k = if 2000 * im + gI σ 1201 m im.toNat ≤ k ∧ (k : Int) < 2000 * im + gI σ 1201 m im.toNat + c then byt w (n - 1 - (k - (2000 * im + gI σ 1201 m im.toNat))) else gI σ 1203 m k)
theorem m_push_62 {σ : St} {im n : Int} {w : Int64} (hm : LC 12 σ m) (h1 : 0 ≤ im) (h2 : im < 6) (h5 : 0 ≤ gI σ 1201 m im.toNat) (h6 : gI σ 1201 m im.toNat + n ≤ 2000) (h8 : n ≤ 8) (h : ∀ σ', MP σ σ' m im w n n → Q (some (vI (gI σ 1201 m im.toNat + n))) σ') :
    ∀ (j : Nat) (x : Int) (τ : St), x = j - 1 → j ≤ n → MP σ τ m im w n (n - j) →
    AW g l (d + 1) MX12_push 62 [some (vR 12 (some m)), some (vI im), some (vJ w), none, none, some (vI x)] [] τ Q
  | 0, x, τ, hx, hj, ht => by
    have e1 : gI τ 1201 m im.toNat = gI σ 1201 m im.toNat + n := by rw [ht.2.1, if_pos rfl]; omega
    refine bk_X12_push_62 ⟨fun _ => ⟨ht.1.lc hm, ⟨h1, h2⟩, ?_⟩, fun q => absurd (by omega) q⟩
    rw [e1]
    rw [show n - ((0 : Nat) : Int) = n by omega] at ht
    exact h τ ht
  | j + 1, x, τ, hx, hj, ht => by
    have e1 : gI τ 1201 m im.toNat = gI σ 1201 m im.toNat + (n - ((j + 1 : Nat) : Int)) := by rw [ht.2.1, if_pos rfl]
    refine bk_X12_push_62 ⟨fun q => absurd q (by omega), fun _ => ⟨ht.1.lc hm, ⟨by omega, by omega⟩, ⟨h1, h2⟩, ⟨by omega, by omega⟩, ⟨by omega, by omega⟩, ⟨by omega, by omega⟩, ⟨by omega, by omega⟩, ⟨by omega, by omega⟩, m_push_62 hm h1 h2 h5 h6 h8 h j _ _ (by omega) (by omega) ⟨ht.1.trans ((Frm.sI (by simp)).trans (Frm.sI (by simp))), fun k => ?_, fun k => ?_⟩⟩⟩
    · simp only [gI_sI, true_and, false_and, if_false, Nat.reduceEqDiff]
      rw [e1, ht.2.1]
      by_cases e : k = im.toNat
      · rw [if_pos e, if_pos e]; omega
      · rw [if_neg e, if_neg e, if_neg e]
    · simp only [gI_sI, true_and, false_and, if_false, Nat.reduceEqDiff]
      rw [e1, ht.2.2, byt_shr w (by omega) (by omega)]
      by_cases e : k = (2000 * im + (gI σ 1201 m im.toNat + (n - ((j + 1 : Nat) : Int)))).toNat
      · rw [if_pos e, if_pos (by omega), show n - 1 - ((k : Int) - (2000 * im + gI σ 1201 m im.toNat)) = x by omega]
      · rw [if_neg e]
        by_cases e3 : 2000 * im + gI σ 1201 m im.toNat ≤ k ∧ (k : Int) < 2000 * im + gI σ 1201 m im.toNat + (n - ((j + 1 : Nat) : Int))
        · rw [if_pos e3, if_pos (by omega)]
        · rw [if_neg e3, if_neg (by omega)]
def ML1 (σ σ' : St) (m : Nat) (c x : Int) : Prop := Frm (fun f r => r = m ∧ f = 1204) σ σ' ∧ ∀ k : Nat, gI σ' 1204 m k = if c ≤ k ∧ (k : Int) < c + x then -1 else gI σ 1204 m k
theorem m_layer_25 {σ : St} {im li : Int} (hm : LC 12 σ m) (h1 : 0 ≤ im) (h2 : im < 6) (hli : gI σ 1202 m im.toNat = li) (h3 : 0 ≤ li) (h4 : li < 4)
    (h : ∀ σ', ML1 σ σ' m ((4 * im + li) * 2000) 2000 → Q (some (vI (li + 1))) (sI (sI σ' 1205 m (4 * im + li).toNat 0) 1202 m im.toNat (li + 1))) :
    ∀ (j : Nat) (x : Int) (τ : St), x = 2000 - j → 0 ≤ x → ML1 σ τ m ((4 * im + li) * 2000) x →
    AW g l (d + 1) MX12_layer 25 [some (vR 12 (some m)), some (vI im), some (vI x)] [] τ Q
  | 0, x, τ, hx, hx0, ht => by
    have e2 : gI τ 1202 m im.toNat = li := by rw [ht.1.I (by simp), hli]
    obtain rfl : x = 2000 := by omega
    refine bk_X12_layer_25 ⟨fun _ => ⟨ht.1.lc hm, ⟨by omega, by omega⟩, ⟨h1, h2⟩, ⟨by omega, by omega⟩, ⟨by omega, by omega⟩, ⟨by omega, by omega⟩, ?_⟩, fun q => absurd (by omega) q⟩
    rw [e2]
    exact h τ ht
  | j + 1, x, τ, hx, hx0, ht => by
    have e2 : gI τ 1202 m im.toNat = li := by rw [ht.1.I (by simp), hli]
    have hL := ht.1.lc hm
    refine bk_X12_layer_25 ⟨fun q => absurd q (by omega), fun _ => ⟨hL, ⟨h1, h2⟩, ?_⟩⟩
    rw [e2]
    refine m_cell h1 h2 h3 h4 hx0 (by omega) ⟨hL, ⟨by omega, by omega⟩, ⟨by omega, by omega⟩, m_layer_25 hm h1 h2 hli h3 h4 h j _ _ (by omega) (by omega) ⟨ht.1.trans (Frm.sI (by simp)), fun k => ?_⟩⟩
    rw [gI_sI, ht.2]
    by_cases e : k = ((4 * im + li) * 2000 + x).toNat
    · rw [if_pos ⟨rfl, rfl, e⟩, if_pos (by omega)]
    · rw [if_neg (fun z => e z.2.2)]
      by_cases e3 : (4 * im + li) * 2000 ≤ k ∧ (k : Int) < (4 * im + li) * 2000 + x
      · rw [if_pos e3, if_pos (by omega)]
      · rw [if_neg e3, if_neg (by omega)]
theorem m_changed_28 {σ : St} {im li len : Int} (hm : LC 12 σ m) (h1 : 0 ≤ im) (h2 : im < 6) (hli : gI σ 1202 m im.toNat = li + 1) (h3 : 0 ≤ li) (h4 : li < 4) (hl : gI σ 1201 m im.toNat = len) (h6 : len ≤ 2000) :
    ∀ (j : Nat) (x k : Int), x = len - j → 0 ≤ x → 0 ≤ k → k < 2147483648 → Q (some (vI (kth (fun p => gI σ 1204 m ((4 * im + li) * 2000 + p).toNat) j x k))) σ →
    AW g l (d + 1) MX12_changed 28 [some (vR 12 (some m)), some (vI im), none, some (vI k), some (vI x)] [] σ Q
  | 0, x, k, hx, hx0, hk, hk2, h => by
    exact bk_X12_changed_28 ⟨hm, ⟨h1, h2⟩, fun _ => h, fun q => absurd (by omega) q⟩
  | j + 1, x, k, hx, hx0, hk, hk2, h => by
    have e2 : gI σ 1202 m im.toNat - 1 = li := by omega
    refine bk_X12_changed_28 ⟨hm, ⟨h1, h2⟩, fun q => absurd q (by omega), fun _ => ⟨⟨by omega, by omega⟩, ?_⟩⟩
    rw [e2]
    refine m_cell h1 h2 h3 h4 hx0 (by omega) ⟨hm, ⟨by omega, by omega⟩, fun q => ⟨fun qk => ⟨⟨by omega, by omega⟩, ⟨by omega, by omega⟩, m_changed_28 hm h1 h2 hli h3 h4 hl h6 j _ _ (by omega) (by omega) (by omega) (by omega) ?_⟩, fun qk => ?_⟩, fun q => ⟨⟨by omega, by omega⟩, m_changed_28 hm h1 h2 hli h3 h4 hl h6 j _ _ (by omega) (by omega) hk hk2 ?_⟩⟩
    · simp only [kth] at h
      rw [if_pos q, if_neg qk] at h
      exact h
    · simp only [kth] at h
      rw [if_pos q, if_pos qk] at h
      exact h
    · simp only [kth] at h
      rw [if_neg q] at h
      exact h
end M4
section X8
variable {g : GP} {l : Launch} {d : Nat} {Q : Option AV → St → Prop}
theorem kth_neg {f : Int → Int} : ∀ (n : Nat) (p k : Int), (∀ i : Int, p ≤ i → i < p + n → f i < 0) → kth f n p k = -1
  | 0, _, _, _ => rfl
  | n + 1, p, k, h => by
    unfold kth
    rw [if_neg (by have := h p (by omega) (by omega); omega), kth_neg n (p + 1) k (fun i h1 h2 => h i (by omega) (by omega))]
theorem kth_app {f f' : Int → Int} (n2 : Nat) : ∀ (n : Nat) (p k : Int), (∀ i : Int, p ≤ i → i < p + n → f i = f' i) → (∀ i : Int, p + n ≤ i → i < p + n + n2 → f i < 0) → kth f (n + n2) p k = kth f' n p k
  | 0, p, k, _, h => by
    rw [Nat.zero_add]
    exact kth_neg n2 p k (fun i h1 h2 => h i (by omega) (by omega))
  | n + 1, p, k, h1, h => by
    rw [show n + 1 + n2 = (n + n2) + 1 by omega]
    unfold kth
    rw [h1 p (by omega) (by omega), kth_app n2 n (p + 1) (k - 1) (fun i a b => h1 i (by omega) (by omega)) (fun i a b => h i (by omega) (by omega)), kth_app n2 n (p + 1) k (fun i a b => h1 i (by omega) (by omega)) (fun i a b => h i (by omega) (by omega))]
/-- fewer than k + 1 of them: none is the k-th -/
theorem kth_none {f : Int → Int} : ∀ (n : Nat) (q k : Int), 0 ≤ q → cnt (fun i => f (q + i)) n ≤ k → kth f n q k = -1
  | 0, _, _, _, _ => rfl
  | n + 1, q, k, hq, h => by
    have sh : ∀ (n : Nat), cnt (fun i => f (q + i)) (n + 1) = (if 0 ≤ f q then 1 else 0) + cnt (fun i => f (q + 1 + i)) n := by
      intro n
      induction n with
      | zero => simp [cnt]
      | succ n ih =>
        have e : cnt (fun i => f (q + i)) (n + 1 + 1) = cnt (fun i => f (q + i)) (n + 1) + if 0 ≤ f (q + ((n + 1 : Nat) : Int)) then 1 else 0 := rfl
        have e2 : cnt (fun i => f (q + 1 + i)) (n + 1) = cnt (fun i => f (q + 1 + i)) n + if 0 ≤ f (q + 1 + (n : Int)) then 1 else 0 := rfl
        rw [e, e2, ih, show q + ((n + 1 : Nat) : Int) = q + 1 + (n : Int) by omega]
        omega
    rw [sh n] at h
    have := cnt_le (f := fun i => f (q + 1 + i)) (n := n)
    unfold kth
    by_cases e : 0 ≤ f q
    · rw [if_pos e] at h ⊢
      rw [if_neg (by omega), kth_none n (q + 1) (k - 1) (by omega) (by omega)]
    · rw [if_neg e] at h ⊢
      exact kth_none n (q + 1) k (by omega) (by omega)
theorem x_placeOf {σ : St} {b : Nat} {k : Int} {P : Int → St → Prop} (hb : LC 4 σ b) (hc : BC σ b) (hk2 : k < 2147483648) (hge : ∀ p : Int, 0 ≤ p → p < 2000 → -1 ≤ gI σ 400 b p.toNat) (h : P (if k < 0 then -1 else kth (fun p => gI σ 400 b p.toNat) 2000 0 k) σ) : ACi g l d MX4_placeOf [vR 4 (some b), vI k] σ P := by
  have hcl := cnt_le (f := fun p => gI σ 400 b p.toNat) (n := 2000)
  have hb' : gI σ 401 b 0 = cnt (fun p => gI σ 400 b p.toNat) 2000 := hc
  have loop : ∀ (j : Nat) (x v : Int), x = 2000 - j → 0 ≤ x → 0 ≤ v → v ≤ k → 0 ≤ k → k < gI σ 401 b 0 → P (kth (fun p => gI σ 400 b p.toNat) j x v) σ →
      AW g l d MX4_placeOf 4 [some (vR 4 (some b)), some (vI k), some (vI v), some (vI x)] [] σ (fun v σ' => ∃ r, v = some (vI r) ∧ P r σ') := by
    intro j
    induction j with
    | zero =>
      intro x v hx hx0 hv0 hvk hk hkc hP
      exact bk_X4_placeOf_4 ⟨fun _ => ⟨_, rfl, hP⟩, fun q => absurd (by omega) q⟩
    | succ j ih =>
      intro x v hx hx0 hv0 hvk hk hkc hP
      have hg := hge x hx0 (by omega)
      refine bk_X4_placeOf_4 ⟨fun q => absurd q (by omega), fun _ => ⟨fun q => absurd q (by omega), fun _ => ⟨fun q => absurd q (by omega), fun _ => ⟨hb, ⟨by omega, by omega⟩, fun q => ⟨⟨by omega, by omega⟩, ih _ _ (by omega) (by omega) hv0 hvk hk hkc ?_⟩, fun q => ⟨fun qv => ⟨⟨by omega, by omega⟩, ⟨by omega, by omega⟩, ih _ _ (by omega) (by omega) (by omega) (by omega) hk hkc ?_⟩, fun qv => ⟨_, rfl, ?_⟩⟩⟩⟩⟩⟩
      · simp only [kth] at hP; rw [if_neg (by omega)] at hP; exact hP
      · simp only [kth] at hP; rw [if_pos (by omega), if_neg qv] at hP; exact hP
      · simp only [kth] at hP; rw [if_pos (by omega), if_pos qv] at hP; exact hP
  refine AC.of mo_X4_placeOf (Nat.le_of_ble_eq_true rfl) (bk_X4_placeOf_0 ?_)
  by_cases e : k < 0
  · rw [if_pos e] at h
    exact bk_X4_placeOf_4 ⟨fun q => absurd q (by omega), fun _ => ⟨fun _ => ⟨_, rfl, h⟩, fun q => absurd e q⟩⟩
  · rw [if_neg e] at h
    by_cases e2 : gI σ 401 b 0 ≤ k
    · rw [kth_none 2000 0 k (by omega) (by simp only [Int.zero_add]; rw [← hb']; exact e2)] at h
      exact bk_X4_placeOf_4 ⟨fun q => absurd q (by omega), fun _ => ⟨fun q => absurd q e, fun _ => ⟨fun _ => ⟨_, rfl, h⟩, fun q => absurd e2 q⟩⟩⟩
    · exact loop 2000 0 k (by omega) (by omega) (by omega) (by omega) (by omega) (by omega) h
end X8
