/-! the reference: write -/
/-- the shift of the kept writes: counts up to a, places up to t -/
def ShS (σ τ : St) (m : Nat) (q a t : Int) : Prop :=
  Frm (fun f r => r = m ∧ (f = 1206 ∨ f = 1207 ∨ f = 1208)) σ τ ∧
  (∀ k : Nat, gI τ 1206 m k = if 20 * q ≤ k ∧ (k : Int) < a then gI σ 1206 m (k + 1) else gI σ 1206 m k) ∧
  (∀ k : Nat, gI τ 1207 m k = if 160 * q ≤ k ∧ (k : Int) < t then gI σ 1207 m (k + 8) else gI σ 1207 m k) ∧
  (∀ k : Nat, gI τ 1208 m k = if 160 * q ≤ k ∧ (k : Int) < t then gI σ 1208 m (k + 8) else gI σ 1208 m k)
/-- the writing of n bytes from the cell c on, kept at w -/
def WrS (σ τ : St) (m : Nat) (c w place x : Int) : Prop :=
  Frm (fun f r => r = m ∧ (f = 1204 ∨ f = 1207 ∨ f = 1208)) σ τ ∧
  (∀ k : Nat, gI τ 1204 m k = if c ≤ k ∧ (k : Int) < c + x then gI σ 1209 m (k - c).toNat else gI σ 1204 m k) ∧
  (∀ k : Nat, gI τ 1207 m k = if 8 * w ≤ k ∧ (k : Int) < 8 * w + x then place + (k - 8 * w) else gI σ 1207 m k) ∧
  (∀ k : Nat, gI τ 1208 m k = if 8 * w ≤ k ∧ (k : Int) < 8 * w + x then gI σ 1204 m (c + (k - 8 * w)).toNat else gI σ 1208 m k)
def MWr (σ σ' : St) (m : Nat) (q k0 s place n : Int) : Prop :=
  Frm (fun f r => r = m ∧ (f = 1204 ∨ f = 1205 ∨ f = 1206 ∨ f = 1207 ∨ f = 1208)) σ σ' ∧
  (∀ k : Nat, gI σ' 1204 m k = if q * 2000 + place ≤ k ∧ (k : Int) < q * 2000 + place + n then gI σ 1209 m (k - (q * 2000 + place)).toNat else gI σ 1204 m k) ∧
  (∀ k : Nat, gI σ' 1205 m k = if (k : Int) = q then k0 + 1 else gI σ 1205 m k) ∧
  (∀ k : Nat, ((k : Int) < 20 * q ∨ 20 * q + 20 ≤ k) → gI σ' 1206 m k = gI σ 1206 m k) ∧
  (∀ k : Nat, ((k : Int) < 160 * q ∨ 160 * q + 160 ≤ k) → gI σ' 1207 m k = gI σ 1207 m k ∧ gI σ' 1208 m k = gI σ 1208 m k) ∧
  (∀ w : Int, 0 ≤ w → w < k0 → gI σ' 1206 m (20 * q + w).toNat = gI σ 1206 m (20 * q + w + s).toNat) ∧
  (∀ j : Int, 160 * q ≤ j → j < 160 * q + 8 * k0 → gI σ' 1207 m j.toNat = gI σ 1207 m (j + 8 * s).toNat ∧ gI σ' 1208 m j.toNat = gI σ 1208 m (j + 8 * s).toNat) ∧
  gI σ' 1206 m (20 * q + k0).toNat = n ∧
  (∀ k : Int, 0 ≤ k → k < n → gI σ' 1207 m (8 * (20 * q + k0) + k).toNat = place + k ∧ gI σ' 1208 m (8 * (20 * q + k0) + k).toNat = gI σ 1204 m (q * 2000 + place + k).toNat)
/-- without layers -/
def MW0 (σ σ' : St) (m : Nat) (im place n : Int) : Prop :=
  Frm (fun f r => r = m ∧ f = 1203) σ σ' ∧
  (∀ k : Nat, gI σ' 1203 m k = if 2000 * im + place ≤ k ∧ (k : Int) < 2000 * im + place + n then gI σ 1209 m (k - (2000 * im + place)).toNat else gI σ 1203 m k)
section M3
variable {g : GP} {l : Launch} {d : Nat} {m : Nat} {Q : Option AV → St → Prop}
theorem m_write_12 {σ : St} {im place n : Int} (hm : LC 12 σ m) (h1 : 0 ≤ im) (h2 : im < 6) (h5 : 0 ≤ place) (h6 : place + n ≤ 2000) (h8 : n ≤ 8) (h : ∀ σ', MW0 σ σ' m im place n → Q none σ') :
    ∀ (j : Nat) (x : Int) (τ : St), x = n - j → 0 ≤ x → MW0 σ τ m im place x →
    AW g l (d + 1) MX12_write 12 [some (vR 12 (some m)), some (vI im), some (vI place), some (vI n), some (vI x), none, none, none] [] τ Q
  | 0, x, τ, hx, h0, ht => by
    obtain rfl : x = n := by omega
    exact bk_X12_write_12 ⟨fun _ => h τ ht, fun q => absurd (Int.le_refl _) q⟩
  | j + 1, x, τ, hx, h0, ht => by
    refine bk_X12_write_12 ⟨fun q => absurd q (by omega), fun _ => ⟨ht.1.lc hm, ⟨by omega, by omega⟩, ⟨by omega, by omega⟩, ⟨by omega, by omega⟩, ⟨by omega, by omega⟩, ⟨by omega, by omega⟩, ⟨by omega, by omega⟩, m_write_12 hm h1 h2 h5 h6 h8 h j _ _ (by omega) (by omega) ⟨ht.1.trans (Frm.sI ⟨rfl, rfl⟩), fun k => ?_⟩⟩⟩
    rw [gI_sI, ht.2, ht.1.I (by simp)]
    by_cases e : k = (2000 * im + place + x).toNat
    · rw [if_pos ⟨rfl, rfl, e⟩, if_pos (by omega)]
      congr 1
      omega
    · rw [if_neg (fun q => e q.2.2)]
      by_cases e2 : 2000 * im + place ≤ k ∧ (k : Int) < 2000 * im + place + x
      · rw [if_pos e2, if_pos (by omega)]
      · rw [if_neg e2, if_neg (by omega)]
theorem m_write_112 {σ : St} {im place n q x5 : Int} (hm : LC 12 σ m) (h3 : 0 ≤ q) (h4 : q < 24) (h5 : 20 * q ≤ x5) (h6 : x5 < 20 * q + 19)
    (hk : ∀ τ, ShS σ τ m q (x5 + 1) (8 * x5 + 8) → AW g l (d + 1) MX12_write 80 [some (vR 12 (some m)), some (vI im), some (vI place), some (vI n), some (vI q), some (vI (x5 + 1)), none, none] [] τ Q) :
    ∀ (j : Nat) (x : Int) (τ : St), x = 8 - j → 0 ≤ x → ShS σ τ m q (x5 + 1) (8 * x5 + x) →
    AW g l (d + 1) MX12_write 112 [some (vR 12 (some m)), some (vI im), some (vI place), some (vI n), some (vI q), some (vI x5), some (vI x), none] [] τ Q
  | 0, x, τ, hx, h0, ht => by
    obtain rfl : x = 8 := by omega
    exact bk_X12_write_112 ⟨fun _ => ⟨⟨by omega, by omega⟩, hk τ ht⟩, fun q => absurd (Int.le_refl _) q⟩
  | j + 1, x, τ, hx, h0, ht => by
    refine bk_X12_write_112 ⟨fun q => absurd q (by omega), fun _ => ⟨ht.1.lc hm, ⟨by omega, by omega⟩, ⟨by omega, by omega⟩, ⟨by omega, by omega⟩, ⟨by omega, by omega⟩, ⟨by omega, by omega⟩, ⟨by omega, by omega⟩, ⟨by omega, by omega⟩, m_write_112 hm h3 h4 h5 h6 hk j _ _ (by omega) (by omega) ⟨ht.1.trans ((Frm.sI ⟨rfl, by simp⟩).trans (Frm.sI ⟨rfl, by simp⟩)), fun k => ?_, fun k => ?_, fun k => ?_⟩⟩⟩
    · rw [gI_sI, if_neg (by simp), gI_sI, if_neg (by simp), ht.2.1]
    · rw [gI_sI, if_neg (by simp), gI_sI, ht.2.2.1, ht.2.2.1]
      by_cases e : k = (8 * x5 + x).toNat
      · rw [if_pos ⟨rfl, rfl, e⟩, if_neg (by omega), if_pos (by omega)]
        congr 1
        omega
      · rw [if_neg (fun q => e q.2.2)]
        by_cases e2 : 160 * q ≤ k ∧ (k : Int) < 8 * x5 + x
        · rw [if_pos e2, if_pos (by omega)]
        · rw [if_neg e2, if_neg (by omega)]
    · simp only [gI_sI, eq_self_iff_true, true_and, false_and, if_false, Nat.reduceEqDiff]
      rw [ht.2.2.2, ht.2.2.2]
      by_cases e : k = (8 * x5 + x).toNat
      · rw [if_pos e, if_neg (by omega), if_pos (by omega)]
        congr 1
        omega
      · rw [if_neg e]
        by_cases e2 : 160 * q ≤ k ∧ (k : Int) < 8 * x5 + x
        · rw [if_pos e2, if_pos (by omega)]
        · rw [if_neg e2, if_neg (by omega)]
theorem m_write_80 {σ : St} {im place n q : Int} (hm : LC 12 σ m) (h3 : 0 ≤ q) (h4 : q < 24) (hq : gI σ 1205 m q.toNat = 20)
    (hk : ∀ τ, ShS σ τ m q (20 * q + 19) (160 * q + 152) → AW g l (d + 1) MX12_write 200 [some (vR 12 (some m)), some (vI im), some (vI place), some (vI n), some (vI q), none, none, none] [] (sI τ 1205 m q.toNat 19) Q) :
    ∀ (j : Nat) (x : Int) (τ : St), x = 20 * q + 19 - j → 20 * q ≤ x → ShS σ τ m q x (8 * x) →
    AW g l (d + 1) MX12_write 80 [some (vR 12 (some m)), some (vI im), some (vI place), some (vI n), some (vI q), some (vI x), none, none] [] τ Q
  | 0, x, τ, hx, h0, ht => by
    have e : gI τ 1205 m q.toNat = 20 := by rw [ht.1.I (by simp), hq]
    obtain rfl : x = 20 * q + 19 := by omega
    refine bk_X12_write_80 ⟨⟨by omega, by omega⟩, ⟨by omega, by omega⟩, fun _ => ⟨ht.1.lc hm, ⟨by omega, by omega⟩, ⟨by omega, by omega⟩, ?_⟩, fun q => absurd (Int.le_refl _) q⟩
    rw [e]
    exact hk τ (by rw [show 160 * q + 152 = 8 * (20 * q + 19) by omega]; exact ht)
  | j + 1, x, τ, hx, h0, ht => by
    refine bk_X12_write_80 ⟨⟨by omega, by omega⟩, ⟨by omega, by omega⟩, fun q => absurd q (by omega), fun _ => ⟨ht.1.lc hm, ⟨by omega, by omega⟩, ⟨by omega, by omega⟩, ⟨by omega, by omega⟩, m_write_112 hm h3 h4 h0 (by omega) (fun τ' ht' => m_write_80 hm h3 h4 hq hk j _ _ (by omega) (by omega) (by rw [show 8 * (x + 1) = 8 * x + 8 by omega]; exact ht')) 8 0 _ (by omega) (by omega) ⟨ht.1.trans (Frm.sI ⟨rfl, by simp⟩), fun k => ?_, fun k => ?_, fun k => ?_⟩⟩⟩
    · rw [gI_sI, ht.2.1, ht.2.1]
      by_cases e : k = x.toNat
      · rw [if_pos ⟨rfl, rfl, e⟩, if_neg (by omega), if_pos (by omega)]
        congr 1
        omega
      · rw [if_neg (fun q => e q.2.2)]
        by_cases e2 : 20 * q ≤ k ∧ (k : Int) < x
        · rw [if_pos e2, if_pos (by omega)]
        · rw [if_neg e2, if_neg (by omega)]
    · rw [gI_sI, if_neg (by simp), ht.2.2.1, Int.add_zero]
    · rw [gI_sI, if_neg (by simp), ht.2.2.2, Int.add_zero]
theorem m_write_237 {σ : St} {im place n w li : Int} (hm : LC 12 σ m) (h1 : 0 ≤ im) (h2 : im < 6) (hli : gI σ 1202 m im.toNat = li + 1) (h3 : 0 ≤ li) (h4 : li < 4) (h5 : 0 ≤ place) (h6 : place + n ≤ 2000) (h8 : n ≤ 8) (h9 : 0 ≤ w) (h10 : w < 480)
    (h : ∀ σ', WrS σ σ' m ((4 * im + li) * 2000 + place) w place n → Q none σ') :
    ∀ (j : Nat) (x : Int) (τ : St), x = n - j → 0 ≤ x → WrS σ τ m ((4 * im + li) * 2000 + place) w place x →
    AW g l (d + 1) MX12_write 237 [some (vR 12 (some m)), some (vI im), some (vI place), some (vI n), none, some (vI w), some (vI x), none] [] τ Q
  | 0, x, τ, hx, h0, ht => by
    obtain rfl : x = n := by omega
    exact bk_X12_write_237 ⟨fun _ => h τ ht, fun q => absurd (Int.le_refl _) q⟩
  | j + 1, x, τ, hx, h0, ht => by
    have e : gI τ 1202 m im.toNat = li + 1 := by rw [ht.1.I (by simp), hli]
    have hmt := ht.1.lc hm
    have e1 : gI τ 1202 m im.toNat - 1 = li := by omega
    refine bk_X12_write_237 ⟨fun q => absurd q (by omega), fun _ => ⟨hmt, ⟨h1, h2⟩, ⟨by omega, by omega⟩, ⟨by omega, by omega⟩, ?_⟩⟩
    rw [e1]
    refine m_cell h1 h2 h3 h4 (by omega) (by omega) ⟨hmt, ⟨by omega, by omega⟩, ⟨by omega, by omega⟩, ⟨by omega, by omega⟩, ⟨by omega, by omega⟩, ⟨by omega, by omega⟩, ⟨by omega, by omega⟩, m_write_237 hm h1 h2 hli h3 h4 h5 h6 h8 h9 h10 h j _ _ (by omega) (by omega) ⟨ht.1.trans ((Frm.sI ⟨rfl, by simp⟩).trans ((Frm.sI ⟨rfl, by simp⟩).trans (Frm.sI ⟨rfl, by simp⟩))), fun k => ?_, fun k => ?_, fun k => ?_⟩⟩
    · simp only [gI_sI, eq_self_iff_true, true_and, false_and, if_false, Nat.reduceEqDiff]
      rw [ht.2.1, ht.1.I (f := 1209) (by simp)]
      by_cases e : k = ((4 * im + li) * 2000 + (place + x)).toNat
      · rw [if_pos e, if_pos (by omega)]
        congr 1
        omega
      · rw [if_neg e]
        by_cases e2 : (4 * im + li) * 2000 + place ≤ k ∧ (k : Int) < (4 * im + li) * 2000 + place + x
        · rw [if_pos e2, if_pos (by omega)]
        · rw [if_neg e2, if_neg (by omega)]
    · rw [gI_sI, if_neg (by simp), gI_sI, if_neg (by simp), gI_sI, ht.2.2.1]
      by_cases e : k = (8 * w + x).toNat
      · rw [if_pos ⟨rfl, rfl, e⟩, if_pos (by omega)]
        omega
      · rw [if_neg (fun q => e q.2.2)]
        by_cases e2 : 8 * w ≤ k ∧ (k : Int) < 8 * w + x
        · rw [if_pos e2, if_pos (by omega)]
        · rw [if_neg e2, if_neg (by omega)]
    · simp only [gI_sI, eq_self_iff_true, true_and, false_and, if_false, Nat.reduceEqDiff]
      rw [ht.2.2.2, ht.2.1]
      by_cases e : k = (8 * w + x).toNat
      · rw [if_pos e, if_neg (by omega), if_pos (by omega)]
        congr 1
        omega
      · rw [if_neg e]
        by_cases e2 : 8 * w ≤ k ∧ (k : Int) < 8 * w + x
        · rw [if_pos e2, if_pos (by omega)]
        · rw [if_neg e2, if_neg (by omega)]
/-- from the block that counts the write up on: behind a shift by s -/
theorem m_write_200 {σ τ : St} {im place n li q k0 s : Int} (hm : LC 12 σ m) (h1 : 0 ≤ im) (h2 : im < 6) (hli : gI σ 1202 m im.toNat = li + 1) (h3 : 0 ≤ li) (h4 : li < 4) (hq : q = 4 * im + li) (h5 : 0 ≤ place) (h6 : place + n ≤ 2000) (h7 : 0 ≤ n) (h8 : n ≤ 8) (hk0 : 0 ≤ k0) (hk1 : k0 < 20)
    (ht : Frm (fun f r => r = m ∧ (f = 1205 ∨ f = 1206 ∨ f = 1207 ∨ f = 1208)) σ τ) (hs : (s = 0 ∧ ShS σ τ m q 0 0) ∨ (s = 1 ∧ k0 = 19 ∧ ∃ τ', ShS σ τ' m q (20 * q + 19) (160 * q + 152) ∧ τ = sI τ' 1205 m q.toNat 19)) (hk : gI τ 1205 m q.toNat = k0) (hko : ∀ k : Nat, (k : Int) ≠ q → gI τ 1205 m k = gI σ 1205 m k)
    (h : ∀ σ', MWr σ σ' m q k0 s place n → Q none σ') : AW g l (d + 1) MX12_write 200 [some (vR 12 (some m)), some (vI im), some (vI place), some (vI n), some (vI q), none, none, none] [] τ Q := by
  have hmt := ht.lc hm
  refine bk_X12_write_200 ⟨⟨by omega, by omega⟩, hmt, ⟨by omega, by omega⟩, ⟨by omega, by omega⟩, fun z hz => ⟨⟨by omega, by omega⟩, ⟨by omega, by omega⟩, ?_⟩⟩
  obtain rfl : z = 20 * q + k0 := by omega
  rw [hk]
  have f2 : Frm (fun f r => r = m ∧ (f = 1205 ∨ f = 1206 ∨ f = 1207 ∨ f = 1208)) τ (sI (sI τ 1205 m q.toNat (k0 + 1)) 1206 m (20 * q + k0).toNat n) := (Frm.sI ⟨rfl, by simp⟩).trans (Frm.sI ⟨rfl, by simp⟩)
  have f3 := ht.trans f2
  refine m_write_237 (σ := sI (sI τ 1205 m q.toNat (k0 + 1)) 1206 m (20 * q + k0).toNat n) (li := li) (f3.lc hm) h1 h2 (by rw [f3.I (by simp), hli]) h3 h4 h5 h6 h8 (by omega) (by omega) (fun σ' hw => h σ' ?_) n.toNat 0 _ (by omega) (by omega) ⟨Frm.rfl, fun k => by rw [if_neg (by omega)], fun k => by rw [if_neg (by omega)], fun k => by rw [if_neg (by omega)]⟩
  obtain ⟨w1, w2, w3, w4⟩ := hw
  -- what the shift left
  have r6 : ∀ k : Nat, gI τ 1206 m k = if 20 * q ≤ k ∧ (k : Int) < 20 * q + 19 ∧ s = 1 then gI σ 1206 m (k + 1) else gI σ 1206 m k := by
    rcases hs with ⟨e, a⟩ | ⟨e, e', τ', a, rfl⟩
    · intro k; rw [a.2.1, if_neg (by omega), if_neg (by omega)]
    · intro k; rw [gI_sI, if_neg (by simp), a.2.1]
      by_cases e2 : 20 * q ≤ k ∧ (k : Int) < 20 * q + 19
      · rw [if_pos e2, if_pos ⟨e2.1, e2.2, e⟩]
      · rw [if_neg e2, if_neg (by omega)]
  have r7 : ∀ k : Nat, gI τ 1207 m k = if 160 * q ≤ k ∧ (k : Int) < 160 * q + 152 ∧ s = 1 then gI σ 1207 m (k + 8) else gI σ 1207 m k := by
    rcases hs with ⟨e, a⟩ | ⟨e, e', τ', a, rfl⟩
    · intro k; rw [a.2.2.1, if_neg (by omega), if_neg (by omega)]
    · intro k; rw [gI_sI, if_neg (by simp), a.2.2.1]
      by_cases e2 : 160 * q ≤ k ∧ (k : Int) < 160 * q + 152
      · rw [if_pos e2, if_pos ⟨e2.1, e2.2, e⟩]
      · rw [if_neg e2, if_neg (by omega)]
  have r8 : ∀ k : Nat, gI τ 1208 m k = if 160 * q ≤ k ∧ (k : Int) < 160 * q + 152 ∧ s = 1 then gI σ 1208 m (k + 8) else gI σ 1208 m k := by
    rcases hs with ⟨e, a⟩ | ⟨e, e', τ', a, rfl⟩
    · intro k; rw [a.2.2.2, if_neg (by omega), if_neg (by omega)]
    · intro k; rw [gI_sI, if_neg (by simp), a.2.2.2]
      by_cases e2 : 160 * q ≤ k ∧ (k : Int) < 160 * q + 152
      · rw [if_pos e2, if_pos ⟨e2.1, e2.2, e⟩]
      · rw [if_neg e2, if_neg (by omega)]
  have hs01 : s = 0 ∨ (s = 1 ∧ k0 = 19) := by
    rcases hs with ⟨e, -⟩ | ⟨e, e', -⟩
    · exact Or.inl e
    · exact Or.inr ⟨e, e'⟩
  have s6 : ∀ k : Nat, gI σ' 1206 m k = if k = (20 * q + k0).toNat then n else gI τ 1206 m k := by
    intro k
    rw [w1.I (by simp), gI_sI]
    by_cases e : k = (20 * q + k0).toNat
    · rw [if_pos ⟨rfl, rfl, e⟩, if_pos e]
    · rw [if_neg (fun z => e z.2.2), if_neg e, gI_sI, if_neg (by simp)]
  have s4 : ∀ k : Nat, gI (sI (sI τ 1205 m q.toNat (k0 + 1)) 1206 m (20 * q + k0).toNat n) 1204 m k = gI σ 1204 m k := fun k => by rw [f3.I (by simp)]
  have s7 : ∀ k : Nat, gI (sI (sI τ 1205 m q.toNat (k0 + 1)) 1206 m (20 * q + k0).toNat n) 1207 m k = gI τ 1207 m k := fun k => by rw [gI_sI, if_neg (by simp), gI_sI, if_neg (by simp)]
  have s8 : ∀ k : Nat, gI (sI (sI τ 1205 m q.toNat (k0 + 1)) 1206 m (20 * q + k0).toNat n) 1208 m k = gI τ 1208 m k := fun k => by rw [gI_sI, if_neg (by simp), gI_sI, if_neg (by simp)]
  refine ⟨(f3.mono (fun f r z => ⟨z.1, Or.inr z.2⟩)).trans (w1.mono (fun f r z => ⟨z.1, by have := z.2; omega⟩)), fun k => ?_, fun k => ?_, fun k hk' => ?_, fun k hk' => ?_, fun w hw0 hw1 => ?_, fun j hj0 hj1 => ?_, ?_, fun k hk0' hk1' => ?_⟩
  · rw [w2, s4, f3.I (f := 1209) (by simp), hq]
  · rw [w1.I (by simp), gI_sI, if_neg (by simp), gI_sI]
    by_cases e : k = q.toNat
    · rw [if_pos ⟨rfl, rfl, e⟩, if_pos (by omega)]
    · rw [if_neg (fun z => e z.2.2), if_neg (by omega), hko k (by omega)]
  · rw [s6, if_neg (by omega), r6, if_neg (by omega)]
  · constructor
    · rw [w3, if_neg (by omega), s7, r7, if_neg (by omega)]
    · rw [w4, if_neg (by omega), s8, r8, if_neg (by omega)]
  · rw [s6, if_neg (by omega), r6]
    rcases hs01 with e | ⟨e, e'⟩
    · rw [if_neg (by omega)]; congr 1; omega
    · rw [if_pos (by omega)]; congr 1; omega
  · constructor
    · rw [w3, if_neg (by omega), s7, r7]
      rcases hs01 with e | ⟨e, e'⟩
      · rw [if_neg (by omega)]; congr 1; omega
      · rw [if_pos (by omega)]; congr 1; omega
    · rw [w4, if_neg (by omega), s8, r8]
      rcases hs01 with e | ⟨e, e'⟩
      · rw [if_neg (by omega)]; congr 1; omega
      · rw [if_pos (by omega)]; congr 1; omega
  · rw [s6, if_pos rfl]
  · constructor
    · rw [w3, if_pos (by omega)]; omega
    · rw [w4, if_pos (by omega), s4]; congr 1; omega
theorem m_write {σ : St} {im place n : Int} {P : St → Prop} (hm : LC 12 σ m) (h1 : 0 ≤ im) (h2 : im < 6) (h3 : 0 ≤ gI σ 1202 m im.toNat) (h4 : gI σ 1202 m im.toNat ≤ 4) (h5 : 0 ≤ place) (h6 : place + n ≤ 2000) (h7 : 0 ≤ n) (h8 : n ≤ 8)
    (hk : 0 < gI σ 1202 m im.toNat → 0 ≤ gI σ 1205 m (4 * im + gI σ 1202 m im.toNat - 1).toNat ∧ gI σ 1205 m (4 * im + gI σ 1202 m im.toNat - 1).toNat ≤ 20)
    (h : ∀ σ', (gI σ 1202 m im.toNat = 0 → MW0 σ σ' m im place n) → (0 < gI σ 1202 m im.toNat → MWr σ σ' m (4 * im + gI σ 1202 m im.toNat - 1) (if gI σ 1205 m (4 * im + gI σ 1202 m im.toNat - 1).toNat = 20 then 19 else gI σ 1205 m (4 * im + gI σ 1202 m im.toNat - 1).toNat) (if gI σ 1205 m (4 * im + gI σ 1202 m im.toNat - 1).toNat = 20 then 1 else 0) place n) → P σ') :
    ACv g l (d + 1) MX12_write [vR 12 (some m), vI im, vI place, vI n] σ P := by
  refine AC.of mo_X12_write (Nat.le_of_ble_eq_true rfl) (bk_X12_write_0 ⟨hm, ⟨h1, h2⟩, fun hz => ?_, fun hz => ?_⟩)
  · obtain ⟨hk0, hk1⟩ := hk (by omega)
    refine ⟨⟨by omega, by omega⟩, ⟨by omega, by omega⟩, ⟨by omega, by omega⟩, fun z hz' => ?_⟩
    subst hz'
    refine ⟨⟨by omega, by omega⟩, fun hn => ?_, fun he => ?_⟩
    · refine m_write_200 (li := gI σ 1202 m im.toNat - 1) (k0 := gI σ 1205 m (4 * im + gI σ 1202 m im.toNat - 1).toNat) (s := 0) hm h1 h2 (by omega) (by omega) (by omega) (by omega) h5 h6 h7 h8 hk0 (by omega) Frm.rfl (Or.inl ⟨rfl, Frm.rfl, fun k => by rw [if_neg (by omega)], fun k => by rw [if_neg (by omega)], fun k => by rw [if_neg (by omega)]⟩) rfl (fun k _ => rfl) (fun σ' hw => ?_)
      refine ⟨rfl, h σ' (fun q => absurd q hz) (fun _ => ?_)⟩
      rw [if_neg hn, if_neg hn]
      exact hw
    · refine ⟨⟨by omega, by omega⟩, m_write_80 hm (by omega) (by omega) he (fun τ ht => ?_) 19 _ σ (by omega) (by omega) ⟨Frm.rfl, fun k => by rw [if_neg (by omega)], fun k => by rw [if_neg (by omega)], fun k => by rw [if_neg (by omega)]⟩⟩
      refine m_write_200 (li := gI σ 1202 m im.toNat - 1) (k0 := 19) (s := 1) hm h1 h2 (by omega) (by omega) (by omega) (by omega) h5 h6 h7 h8 (by omega) (by omega) ((ht.1.mono (fun f r z => ⟨z.1, by have := z.2; omega⟩)).trans (Frm.sI ⟨rfl, by simp⟩)) (Or.inr ⟨rfl, rfl, τ, ht, rfl⟩) (gI_slf _ _ _ _ _) (fun k hk' => ?_) (fun σ' hw => ?_)
      · rw [gI_sI, if_neg (by omega), ht.1.I (by simp)]
      · refine ⟨rfl, h σ' (fun q => absurd q hz) (fun _ => ?_)⟩
        rw [if_pos he, if_pos he]
        exact hw
  · exact m_write_12 hm h1 h2 h5 h6 h8 (fun σ' hw => ⟨rfl, h σ' (fun _ => hw) (fun q => by omega)⟩) n.toNat 0 σ (by omega) (by omega) ⟨Frm.rfl, fun k => by rw [if_neg (by omega)]⟩
end M3
