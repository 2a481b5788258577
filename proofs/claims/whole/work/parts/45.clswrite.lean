/-! the class: kept writes, write -/
theorem gI_sCp (σ : St) (f r sp dp n f' r' i : Nat) : gI (sCp σ f r sp dp n) f' r' i = if f' = f ∧ r' = r then (if dp ≤ i ∧ i < dp + n then gI σ f r (sp + (i - dp)) else gI σ f r i) else gI σ f' r' i := rfl
theorem Frm.sCp {P : Nat → Nat → Prop} {σ : St} {f r sp dp n : Nat} (h : P f r) : Frm P σ (sCp σ f r sp dp n) := ⟨fun _ _ => Eq.refl _, Eq.refl _, Eq.refl _, fun f' r' hn i' => ⟨by rw [gI_sCp, if_neg (fun q => hn (by rw [q.1, q.2]; exact h))], Eq.refl _, Eq.refl _⟩⟩
theorem CLay.congr {σ σ' : St} {b : Nat} {len : Int} (e : ∀ f, f / 100 = 4 → ∀ i, gI σ' f b i = gI σ f b i) (h : CLay σ b len) : CLay σ' b len := by
  have e0 := e 400 rfl; have e1 := e 401 rfl; have e2 := e 402 rfl; have e3 := e 403 rfl; have e4 := e 404 rfl; have e5 := e 405 rfl
  unfold CLay BC CKw at *
  simp only [e0, e1, e2, e3, e4, e5]
  exact h
theorem CIm.upd {σ σ' : St} {a : Nat} {t : Int} (h : CIm σ a) (h0 : 0 ≤ t) (h1 : t < gI σ 303 a 0) (hF : Frm (fun f r => (r = a ∧ f = 301) ∨ (r = lay σ a t ∧ f / 100 = 4)) σ σ') (hb : CLay σ' (lay σ a t) (gI σ 304 a 0)) (hn : ∀ p : Int, 0 ≤ p → p < gI σ 304 a 0 → gI σ' 301 a p.toNat = hasX σ' a p) : CIm σ' a := by
  obtain ⟨c1, c2, c3, c4, c5, c6, c7, c8⟩ := id h
  have e4 : gI σ' 304 a 0 = gI σ 304 a 0 := hF.I (by simp) 0
  have e3 : gI σ' 303 a 0 = gI σ 303 a 0 := hF.I (by simp) 0
  have eR : ∀ i, gR σ' 302 a i = gR σ 302 a i := hF.R (by simp)
  have eO : ∀ i, gI σ' 300 a i = gI σ 300 a i := hF.I (by simp)
  have eL : ∀ li, lay σ' a li = lay σ a li := fun li => by unfold lay; rw [eR]
  refine ⟨hF.lc c1, by rw [e4]; exact c2, by rw [e3]; exact c3, fun li q0 q1 => ?_, fun i j b => by rw [eR, eR]; exact c5 i j b, fun i b q0 q1 => ?_, fun p q0 q1 => ?_, by rw [hF.2.1]; exact c8⟩
  · rw [e3] at q1
    rw [eR, eL, e4]
    refine ⟨(c4 li q0 q1).1, ?_⟩
    by_cases e : li = t
    · rw [e]; exact hb
    · refine CLay.congr (fun f hf i => hF.I (fun z => ?_) i) (c4 li q0 q1).2
      rcases z with z | z
      · have := z.2; omega
      · exact e (h.inj q0 q1 h0 h1 z.1)
  · rw [eR] at q1
    have := c6 i b q0 q1
    exact ⟨hF.lc this.1, by rw [hF.2.1]; exact this.2⟩
  · rw [e4] at q1
    rw [eO]
    exact ⟨(c7 p q0 q1).1, (c7 p q0 q1).2.1, hn p q0 q1⟩
/-- a write is kept: s older ones are forgotten -/
def KpS (σ σ' : St) (b : Nat) (k0 s from_ n : Int) : Prop :=
  Frm (fun f r => r = b ∧ (f = 402 ∨ f = 403 ∨ f = 404 ∨ f = 405)) σ σ' ∧ gI σ' 405 b 0 = k0 + 1 ∧
  (∀ w : Int, 0 ≤ w → w < k0 → gI σ' 402 b w.toNat = gI σ 402 b (w + s).toNat ∧ gI σ' 403 b w.toNat = gI σ 403 b (w + s).toNat) ∧
  (∀ j : Int, 0 ≤ j → j < 8 * k0 → gI σ' 404 b j.toNat = gI σ 404 b (j + 8 * s).toNat) ∧
  gI σ' 402 b k0.toNat = from_ ∧ gI σ' 403 b k0.toNat = n ∧ ∀ k : Int, 0 ≤ k → k < n → gI σ' 404 b (k0 * 8 + k).toNat = gI σ 400 b (from_ + k).toNat
section X3
variable {g : GP} {l : Launch} {d : Nat} {Q : Option AV → St → Prop}
theorem x_keep_13 {σ τ : St} {b : Nat} {fr n k0 s : Int} (hL : LC 4 σ b) (h0 : 0 ≤ fr) (h1 : 0 ≤ n) (h2 : n ≤ 8) (h3 : fr + n ≤ 2000) (hk0 : 0 ≤ k0) (hk1 : k0 < 20) (hF : Frm (fun f r => r = b ∧ (f = 402 ∨ f = 403 ∨ f = 404 ∨ f = 405)) σ τ) (hk : gI τ 405 b 0 = k0)
    (r2 : ∀ w : Int, 0 ≤ w → w < k0 → gI τ 402 b w.toNat = gI σ 402 b (w + s).toNat ∧ gI τ 403 b w.toNat = gI σ 403 b (w + s).toNat) (r4 : ∀ j : Int, 0 ≤ j → j < 8 * k0 → gI τ 404 b j.toNat = gI σ 404 b (j + 8 * s).toNat)
    (h : ∀ σ', KpS σ σ' b k0 s fr n → Q none σ') : AW g l (d + 1) MX4_keep 13 [some (vR 4 (some b)), some (vI fr), some (vI n), none] [] τ Q := by
  have loop : ∀ (j : Nat) (x : Int) (u : St), x = n - j → 0 ≤ x → Frm (fun f r => r = b ∧ f = 404) (sI (sI τ 402 b k0.toNat fr) 403 b k0.toNat n) u → (∀ k : Nat, gI u 404 b k = if k0 * 8 ≤ k ∧ (k : Int) < k0 * 8 + x then gI σ 400 b (fr + (k - k0 * 8)).toNat else gI τ 404 b k) →
      AW g l (d + 1) MX4_keep 35 [some (vR 4 (some b)), some (vI fr), some (vI n), some (vI x)] [] u Q := by
    intro j
    induction j with
    | zero =>
      intro x u hx hx0 hu1 hu2
      obtain rfl : x = n := by omega
      have e5 : gI u 405 b 0 = k0 := by rw [hu1.I (by simp), gI_sI, if_neg (by simp), gI_sI, if_neg (by simp), hk]
      refine bk_X4_keep_35 ⟨fun _ => ⟨⟨by omega, by omega⟩, h _ ?_⟩, fun q => absurd (Int.le_refl _) q⟩
      rw [e5]
      refine ⟨hF.trans ((Frm.sI (by simp)).trans ((Frm.sI (by simp)).trans ((hu1.mono (fun f r z => ⟨z.1, by omega⟩)).trans (Frm.sI (by simp))))), gI_slf _ _ _ _ _, fun w w0 w1 => ?_, fun j j0 j1 => ?_, ?_, ?_, fun k q0 q1 => ?_⟩
      · simp only [gI_sI, false_and, if_false, Nat.reduceEqDiff]
        rw [hu1.I (by simp), hu1.I (by simp)]
        simp only [gI_sI, false_and, true_and, if_false, Nat.reduceEqDiff]
        rw [if_neg (by omega), if_neg (by omega)]
        exact r2 w w0 w1
      · simp only [gI_sI, false_and, if_false, Nat.reduceEqDiff]
        rw [hu2, if_neg (by omega)]
        exact r4 j j0 j1
      · simp only [gI_sI, false_and, if_false, Nat.reduceEqDiff]
        rw [hu1.I (by simp)]
        simp only [gI_sI, false_and, true_and, if_false, Nat.reduceEqDiff, if_true]
      · simp only [gI_sI, false_and, if_false, Nat.reduceEqDiff]
        rw [hu1.I (by simp)]
        simp only [gI_sI, false_and, true_and, if_false, Nat.reduceEqDiff, if_true]
      · simp only [gI_sI, false_and, if_false, Nat.reduceEqDiff]
        rw [hu2, if_pos (by omega)]
        congr 1
        omega
    | succ j ih =>
      intro x u hx hx0 hu1 hu2
      have e5 : gI u 405 b 0 = k0 := by rw [hu1.I (by simp), gI_sI, if_neg (by simp), gI_sI, if_neg (by simp), hk]
      have e0 : ∀ i, gI u 400 b i = gI σ 400 b i := fun i => by rw [hu1.I (by simp), gI_sI, if_neg (by simp), gI_sI, if_neg (by simp), hF.I (by simp)]
      have hLu : LC 4 u b := hu1.lc (hF.lc hL)
      refine bk_X4_keep_35 ⟨fun q => absurd q (by omega), fun _ => ⟨hLu, ⟨by omega, by omega⟩, ⟨by omega, by omega⟩, ⟨by omega, by omega⟩, ⟨by omega, by omega⟩, ⟨by omega, by omega⟩, ⟨by omega, by omega⟩, ih _ _ (by omega) (by omega) (hu1.trans (Frm.sI (by simp))) (fun k => ?_)⟩⟩
      rw [gI_sI, e5, e0, hu2]
      by_cases e : k = (k0 * 8 + x).toNat
      · rw [if_pos ⟨rfl, rfl, e⟩, if_pos (by omega)]
        congr 1
        omega
      · rw [if_neg (fun z => e z.2.2)]
        by_cases e2 : k0 * 8 ≤ k ∧ (k : Int) < k0 * 8 + x
        · rw [if_pos e2, if_pos (by omega)]
        · rw [if_neg e2, if_neg (by omega)]
  refine bk_X4_keep_13 ⟨hF.lc hL, ⟨by omega, by omega⟩, ?_⟩
  rw [hk]
  exact loop n.toNat 0 _ (by omega) (by omega) Frm.rfl (fun k => by rw [if_neg (by omega), gI_sI, if_neg (by simp), gI_sI, if_neg (by simp)])
theorem x_keep {σ : St} {b : Nat} {fr n : Int} {P : St → Prop} (hL : LC 4 σ b) (h0 : 0 ≤ fr) (h1 : 0 ≤ n) (h2 : n ≤ 8) (h3 : fr + n ≤ 2000) (hk0 : 0 ≤ gI σ 405 b 0) (hk1 : gI σ 405 b 0 ≤ 20)
    (h : ∀ σ', KpS σ σ' b (if gI σ 405 b 0 = 20 then 19 else gI σ 405 b 0) (if gI σ 405 b 0 = 20 then 1 else 0) fr n → P σ') : ACv g l (d + 2) MX4_keep [vR 4 (some b), vI fr, vI n] σ P := by
  refine AC.of mo_X4_keep (Nat.le_of_ble_eq_true rfl) (bk_X4_keep_0 ⟨fun e => ?_, fun e => ?_⟩)
  · refine x_keep_13 (k0 := gI σ 405 b 0) (s := 0) hL h0 h1 h2 h3 hk0 (by omega) Frm.rfl rfl (fun w _ _ => by simp) (fun j _ _ => by simp) (fun σ' k => ⟨rfl, h σ' ?_⟩)
    rw [if_neg e, if_neg e]
    exact k
  · refine AC.of mo_X4_forgetOldest (Nat.le_of_ble_eq_true rfl) (bk_X4_forgetOldest_0 ⟨hL, ⟨by omega, by omega⟩, rfl, ?_⟩)
    refine x_keep_13 (k0 := 19) (s := 1) hL h0 h1 h2 h3 (by omega) (by omega) ((Frm.sCp (by simp)).trans ((Frm.sCp (by simp)).trans ((Frm.sCp (by simp)).trans (Frm.sI (by simp))))) (by rw [gI_slf]; omega) (fun w w0 w1 => ?_) (fun j j0 j1 => ?_) (fun σ' k => ⟨rfl, h σ' ?_⟩)
    · simp only [gI_sI, gI_sCp, false_and, and_self, if_false, Nat.reduceEqDiff, if_true]
      rw [if_pos (by omega), if_pos (by omega), show 1 + (w.toNat - 0) = (w + 1).toNat by omega]
      exact ⟨rfl, rfl⟩
    · simp only [gI_sI, gI_sCp, false_and, and_self, if_false, Nat.reduceEqDiff, if_true]
      rw [if_pos (by omega)]
      congr 1
      omega
    · rw [if_pos e, if_pos e]
      exact k
/-- the bytes of a long, in this order -/
def bvx (w : Int64) (n bg k : Int) : Int := byt w (if bg = 0 then k else n - 1 - k)
theorem bvx_rng (w : Int64) (n bg k : Int) : 0 ≤ bvx w n bg k ∧ bvx w n bg k ≤ 255 := by
  have h1 := byt_ge w (if bg = 0 then k else n - 1 - k)
  have h2 := byt_lt w (if bg = 0 then k else n - 1 - k)
  unfold bvx
  omega
def XW0 (σ σ' : St) (a : Nat) (w : Int64) (n bg fr x : Int) : Prop :=
  Frm (fun f r => r = a ∧ (f = 300 ∨ f = 301)) σ σ' ∧
  (∀ k : Nat, gI σ' 300 a k = if fr ≤ k ∧ (k : Int) < fr + x then bvx w n bg (k - fr) else gI σ 300 a k) ∧ (∀ k : Nat, gI σ' 301 a k = if fr ≤ k ∧ (k : Int) < fr + x then bvx w n bg (k - fr) else gI σ 301 a k)
def XW1 (σ σ' : St) (a b : Nat) (w : Int64) (n bg fr x : Int) : Prop :=
  Frm (fun f r => (r = a ∧ f = 301) ∨ (r = b ∧ (f = 400 ∨ f = 401))) σ σ' ∧ BC σ' b ∧
  (∀ k : Nat, gI σ' 400 b k = if fr ≤ k ∧ (k : Int) < fr + x then bvx w n bg (k - fr) else gI σ 400 b k) ∧ (∀ k : Nat, gI σ' 301 a k = if fr ≤ k ∧ (k : Int) < fr + x then bvx w n bg (k - fr) else gI σ 301 a k)
/-- one step of the loop of 'write', up to the choice of the byte -/
theorem x_write_42 {σ : St} {a : Nat} {fr n bg x : Int} {w : Int64} {t : Option Nat} (hn : n ≤ 8) (hx : 0 ≤ x)
    (h : (n ≤ x → Q none σ) ∧ (x < n → AW g l (d + 1) MX3_write 65 [some (vR 3 (some a)), some (vI fr), some (vI n), some (vJ w), none, some (vI bg), some (vR 4 t), some (vI x), none] [vI (if bg = 0 then x else n - 1 - x), vJ w] σ Q)) :
    AW g l (d + 1) MX3_write 42 [some (vR 3 (some a)), some (vI fr), some (vI n), some (vJ w), none, some (vI bg), some (vR 4 t), some (vI x), none] [] σ Q := by
  refine bk_X3_write_42 ⟨h.1, fun q => ⟨fun e => ?_, fun e => ⟨⟨by omega, by omega⟩, ⟨by omega, by omega⟩, ?_⟩⟩⟩
  · have := h.2 (by omega)
    rw [if_pos e] at this
    exact this
  · have := h.2 (by omega)
    rw [if_neg e] at this
    exact this
theorem x_write_0 {σ : St} {a : Nat} {fr n bg : Int} {w : Int64} (ha : LC 3 σ a) (h0 : 0 ≤ fr) (hn : n ≤ 8) (h3 : fr + n ≤ 2000) (h : ∀ σ', XW0 σ σ' a w n bg fr n → Q none σ') :
    ∀ (j : Nat) (x : Int) (τ : St), x = n - j → 0 ≤ x → XW0 σ τ a w n bg fr x →
    AW g l (d + 1) MX3_write 42 [some (vR 3 (some a)), some (vI fr), some (vI n), some (vJ w), none, some (vI bg), some (vR 4 none), some (vI x), none] [] τ Q
  | 0, x, τ, hx, hx0, ht => by
    obtain rfl : x = n := by omega
    exact x_write_42 hn hx0 ⟨fun _ => h τ ht, fun q => absurd q (by omega)⟩
  | j + 1, x, τ, hx, hx0, ht => by
    refine x_write_42 hn hx0 ⟨fun q => absurd q (by omega), fun q => bk_X3_write_65 (x_byteOf (by omega) (by omega) ⟨fun _ => ⟨ht.1.lc ha, ⟨by omega, by omega⟩, ⟨by omega, by omega⟩, ⟨by omega, by omega⟩, x_write_0 ha h0 hn h3 h j _ _ (by omega) (by omega) ⟨ht.1.trans ((Frm.sI (by simp)).trans (Frm.sI (by simp))), fun k => ?_, fun k => ?_⟩⟩, (fun r e => nomatch e)⟩)⟩
    · simp only [gI_sI, false_and, true_and, if_false, Nat.reduceEqDiff]
      rw [ht.2.1]
      by_cases e : k = (fr + x).toNat
      · rw [if_pos e, if_pos (c := fr ≤ k ∧ (k : Int) < fr + (x + 1)) (by omega), show (k : Int) - fr = x by omega]; rfl
      · rw [if_neg e]
        by_cases e2 : fr ≤ k ∧ (k : Int) < fr + x
        · rw [if_pos e2, if_pos (by omega)]
        · rw [if_neg e2, if_neg (by omega)]
    · simp only [gI_sI, false_and, true_and, if_false, Nat.reduceEqDiff]
      rw [ht.2.2]
      by_cases e : k = (fr + x).toNat
      · rw [if_pos e, if_pos (c := fr ≤ k ∧ (k : Int) < fr + (x + 1)) (by omega), show (k : Int) - fr = x by omega]; rfl
      · rw [if_neg e]
        by_cases e2 : fr ≤ k ∧ (k : Int) < fr + x
        · rw [if_pos e2, if_pos (by omega)]
        · rw [if_neg e2, if_neg (by omega)]
theorem x_write_1 {σ : St} {a b : Nat} {fr n bg : Int} {w : Int64} (ha : LC 3 σ a) (hb : LC 4 σ b) (hg : ∀ p : Int, 0 ≤ p → p < 2000 → -1 ≤ gI σ 400 b p.toNat) (h0 : 0 ≤ fr) (hn : n ≤ 8) (h3 : fr + n ≤ 2000) (h : ∀ σ', XW1 σ σ' a b w n bg fr n → Q none σ') :
    ∀ (j : Nat) (x : Int) (τ : St), x = n - j → 0 ≤ x → XW1 σ τ a b w n bg fr x →
    AW g l (d + 1) MX3_write 42 [some (vR 3 (some a)), some (vI fr), some (vI n), some (vJ w), none, some (vI bg), some (vR 4 (some b)), some (vI x), none] [] τ Q
  | 0, x, τ, hx, hx0, ht => by
    obtain rfl : x = n := by omega
    exact x_write_42 hn hx0 ⟨fun _ => h τ ht, fun q => absurd q (by omega)⟩
  | j + 1, x, τ, hx, hx0, ht => by
    refine x_write_42 hn hx0 ⟨fun q => absurd q (by omega), fun q => bk_X3_write_65 (x_byteOf (by omega) (by omega) ⟨(fun e => nomatch e), fun r e => ⟨⟨by omega, by omega⟩, ?_⟩⟩)⟩
    obtain rfl : b = r := by simpa using e
    have hv' : 0 ≤ byt w (if bg = 0 then x else n - 1 - x) := byt_ge _ _
    refine x_give (ht.1.lc hb) (by omega) (by omega) (by omega) ?_ ht.2.1 (fun σ' f1 f2 f3 => ⟨f1.lc (ht.1.lc ha), ⟨by omega, by omega⟩, ⟨by omega, by omega⟩, ?_⟩)
    · rw [ht.2.2.1, if_neg (by omega)]
      exact hg _ (by omega) (by omega)
    · have f4 : Frm (fun f r => (r = a ∧ f = 301) ∨ (r = b ∧ (f = 400 ∨ f = 401))) σ' (sI σ' 301 a (fr + x).toNat (byt w (if bg = 0 then x else n - 1 - x))) := Frm.sI (by simp)
      refine x_write_1 ha hb hg h0 hn h3 h j _ _ (by omega) (by omega) ⟨ht.1.trans ((f1.mono (fun f r z => Or.inr z)).trans f4), ?_, fun k => ?_, fun k => ?_⟩
      · unfold BC at f3 ⊢
        simp only [gI_sI, false_and, if_false, Nat.reduceEqDiff]
        exact f3
      · simp only [gI_sI, false_and, if_false, Nat.reduceEqDiff]
        rw [f2, ht.2.2.1]
        by_cases e : k = (fr + x).toNat
        · rw [if_pos e, if_pos (c := fr ≤ k ∧ (k : Int) < fr + (x + 1)) (by omega), show (k : Int) - fr = x by omega]; rfl
        · rw [if_neg e]
          by_cases e2 : fr ≤ k ∧ (k : Int) < fr + x
          · rw [if_pos e2, if_pos (by omega)]
          · rw [if_neg e2, if_neg (by omega)]
      · simp only [gI_sI, true_and]
        rw [f1.I (by simp), ht.2.2.2]
        by_cases e : k = (fr + x).toNat
        · rw [if_pos e, if_pos (c := fr ≤ k ∧ (k : Int) < fr + (x + 1)) (by omega), show (k : Int) - fr = x by omega]; rfl
        · rw [if_neg e]
          by_cases e2 : fr ≤ k ∧ (k : Int) < fr + x
          · rw [if_pos e2, if_pos (by omega)]
          · rw [if_neg e2, if_neg (by omega)]
end X3
