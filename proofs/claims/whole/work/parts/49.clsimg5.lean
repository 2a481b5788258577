/-! the class: drop, push, layer -/
section X7
variable {g : GP} {l : Launch} {d : Nat} {Q : Option AV → St → Prop}
theorem x_shedTop {σ : St} {a : Nat} {P : Int → St → Prop} (hc : CIm σ a) (hl : 0 < gI σ 303 a 0)
    (hA : ∀ σ', Frm (fun f r => r = a ∧ (f = 303 ∨ f = 301)) σ σ' → gI σ' 303 a 0 = gI σ 303 a 0 - 1 → CIm σ' a → P (gI σ 401 (lay σ a (gI σ 303 a 0 - 1)) 0) σ') : ACi g l (d + 1) MX3_shedTop [vR 3 (some a)] σ P := by
  have hlen := hc.2.1
  have hlc := hc.2.2.1
  obtain ⟨e1, e2⟩ := hc.2.2.2.1 (gI σ 303 a 0 - 1) (by omega) (by omega)
  have hg4 := (hc.lay4 (li := gI σ 303 a 0 - 1) (by omega) (by omega)).1
  refine AC.of mo_X3_shedTop (Nat.le_of_ble_eq_true rfl) (bk_X3_shedTop_0 (x_top hc.1 hlc.1 hlc.2 (fun e => absurd e (by omega)) (fun _ => ⟨fun q => ?_, fun r q => ⟨⟨by omega, by omega⟩, ?_⟩⟩)))
  · rw [e1] at q; cases q
  rw [e1]
  have hy : ∀ p : Int, 0 ≤ p → p < gI σ 304 a 0 → gI σ 400 (lay σ a (gI σ 303 a 0 - 1)) p.toNat < 0 → hasX σ a p = hv (fun li => gI σ 400 (lay σ a li) p.toNat) (gI σ 300 a p.toNat) (gI σ 303 a 0 - 1).toNat := fun p p0 p1 z => by
    unfold hasX
    rw [hv_pop hl z]
  have loop : ∀ (j : Nat) (x : Int) (τ : St), x = gI σ 304 a 0 - j → 0 ≤ x → Frm (fun f r => r = a ∧ (f = 303 ∨ f = 301)) σ τ → gI τ 303 a 0 = gI σ 303 a 0 - 1 → (∀ p : Int, 0 ≤ p → p < gI σ 304 a 0 → gI τ 301 a p.toNat = if p < x then hv (fun li => gI σ 400 (lay σ a li) p.toNat) (gI σ 300 a p.toNat) (gI σ 303 a 0 - 1).toNat else gI σ 301 a p.toNat) →
      AW g l (d + 1) MX3_shedTop 23 [some (vR 3 (some a)), some (vR 4 (some (lay σ a (gI σ 303 a 0 - 1)))), some (vI x)] [] τ (fun v σ' => ∃ r, v = some (vI r) ∧ P r σ') := by
    intro j
    induction j with
    | zero =>
      intro x τ hx hx0 ht h3 hno
      have t4 : gI τ 304 a 0 = gI σ 304 a 0 := ht.I (by simp) 0
      have t1 : gI τ 401 (lay σ a (gI σ 303 a 0 - 1)) 0 = gI σ 401 (lay σ a (gI σ 303 a 0 - 1)) 0 := ht.I (by simp) 0
      have tR : ∀ i, gR τ 302 a i = gR σ 302 a i := ht.R (by simp)
      have tL : ∀ li, lay τ a li = lay σ a li := fun li => by unfold lay; rw [tR]
      have tB : ∀ f b i, f / 100 = 4 → gI τ f b i = gI σ f b i := fun f b i hf => ht.I (by omega) i
      refine bk_X3_shedTop_23 ⟨fun _ => ⟨_, rfl, _, rfl, ?_⟩, fun q => absurd (by omega) q⟩
      rw [t1]
      refine hA τ ht h3 ⟨ht.lc hc.1, by rw [t4]; exact hc.2.1, by omega, fun li q0 q1 => ?_, fun i j b => by rw [tR, tR]; exact hc.2.2.2.2.1 i j b, fun i b q0 q1 => ?_, fun p q0 q1 => ?_, by rw [ht.2.1]; exact hc.2.2.2.2.2.2.2⟩
      · rw [h3] at q1
        rw [tR, tL, t4]
        exact ⟨(hc.2.2.2.1 li q0 (by omega)).1, CLay.congr (fun f hf i => tB f _ i hf) (hc.2.2.2.1 li q0 (by omega)).2⟩
      · rw [tR] at q1
        have := hc.2.2.2.2.2.1 i b q0 q1
        exact ⟨ht.lc this.1, by rw [ht.2.1]; exact this.2⟩
      · rw [t4] at q1
        have c7 := hc.2.2.2.2.2.2.1 p q0 q1
        rw [ht.I (f := 300) (by simp)]
        refine ⟨c7.1, c7.2.1, ?_⟩
        rw [hno p q0 q1, if_pos (by omega)]
        unfold hasX
        rw [h3, ht.I (f := 300) (by simp)]
        exact hv_congr (fun i hi => by rw [tL, tB 400 _ _ rfl]) rfl
    | succ j ih =>
      intro x τ hx hx0 ht h3 hno
      have t4 : gI τ 304 a 0 = gI σ 304 a 0 := ht.I (by simp) 0
      have tR : ∀ i, gR τ 302 a i = gR σ 302 a i := ht.R (by simp)
      have tL : ∀ li, lay τ a li = lay σ a li := fun li => by unfold lay; rw [tR]
      have tB : ∀ f b i, f / 100 = 4 → gI τ f b i = gI σ f b i := fun f b i hf => ht.I (by omega) i
      have hg0 := (e2.2.1 x hx0 (by omega)).1
      refine bk_X3_shedTop_23 ⟨fun q => absurd q (by omega), fun _ => ⟨_, rfl, ht.lc hg4, ⟨by omega, by omega⟩, fun e => ⟨⟨by omega, by omega⟩, ih _ _ (by omega) (by omega) ht h3 (fun p p0 p1 => ?_)⟩, fun e => x_refresh (ht.lc hc.1) hx0 (by omega) (by omega) (by omega) (fun li q0 q1 => ?_) ⟨⟨by omega, by omega⟩, ih _ _ (by omega) (by omega) (ht.trans (Frm.sI (by simp))) (by rw [gI_sI, if_neg (by simp)]; exact h3) (fun p p0 p1 => ?_)⟩⟩⟩
      · rw [tB 400 _ _ rfl] at e
        rw [hno p p0 p1]
        by_cases z : p < x
        · rw [if_pos z, if_pos (by omega)]
        · rw [if_neg z]
          by_cases z2 : p = x
          · rw [if_pos (by omega), (hc.2.2.2.2.2.2.1 p p0 p1).2.2, hy p p0 p1 (by rw [z2, e]; decide)]
          · rw [if_neg (by omega)]
      · rw [h3] at q1
        rw [tR, tL, tB 400 _ _ rfl]
        exact ⟨(hc.2.2.2.1 li q0 (by omega)).1, ht.lc (hc.lay4 q0 (by omega)).1, ((hc.2.2.2.1 li q0 (by omega)).2.2.1 x hx0 (by omega)).1⟩
      · rw [gI_sI]
        by_cases z2 : p = x
        · rw [if_pos ⟨rfl, rfl, by omega⟩, if_pos (by omega)]
          unfold hasX
          rw [h3, ht.I (f := 300) (by simp), z2]
          exact hv_congr (fun i hi => by rw [tL, tB 400 _ _ rfl]) rfl
        · rw [if_neg (fun z => z2 (by omega)), hno p p0 p1]
          by_cases z : p < x
          · rw [if_pos z, if_pos (by omega)]
          · rw [if_neg z, if_neg (by omega)]
  exact loop (gI σ 304 a 0).toNat 0 _ (by omega) (by omega) (Frm.sI (by simp)) (gI_slf _ _ _ _ _) (fun p p0 p1 => by rw [if_neg (by omega), gI_sI, if_neg (by simp)])
/-- the bytes of w come behind: those of i from n - 1 down to j -/
def XP (σ σ' : St) (a : Nat) (w : Int64) (n c : Int) : Prop :=
  Frm (fun f r => r = a ∧ (f = 300 ∨ f = 301 ∨ f = 304)) σ σ' ∧ gI σ' 304 a 0 = gI σ 304 a 0 + c ∧
  (∀ k : Nat, gI σ' 300 a k = if gI σ 304 a 0 ≤ k ∧ (k : Int) < gI σ 304 a 0 + c then byt w (n - 1 - (k - gI σ 304 a 0)) else gI σ 300 a k) ∧
  (∀ k : Nat, gI σ' 301 a k = if gI σ 304 a 0 ≤ k ∧ (k : Int) < gI σ 304 a 0 + c then byt w (n - 1 - (k - gI σ 304 a 0)) else gI σ 301 a k)
theorem x_append {σ : St} {a : Nat} {w : Int64} {n : Int} {P : St → Prop} (hc : CIm σ a) (hl : gI σ 303 a 0 = 0) (h1 : 1 ≤ n) (h2 : n ≤ 8) (h3 : gI σ 304 a 0 + n ≤ 2000) (h : ∀ σ', XP σ σ' a w n n → CIm σ' a → P σ') : ACv g l (d + 1) MX3_append [vR 3 (some a), vJ w, vI n] σ P := by
  have hlen := hc.2.1
  have loop : ∀ (j : Nat) (x : Int) (τ : St), x = j - 1 → j ≤ n → XP σ τ a w n (n - j) →
      AW g l (d + 1) MX3_append 5 [some (vR 3 (some a)), some (vJ w), none, none, some (vI x)] [] τ (fun v σ' => v = none ∧ P σ') := by
    intro j
    induction j with
    | zero =>
      intro x τ hx hj ht
      refine bk_X3_append_5 ⟨fun _ => ⟨rfl, ?_⟩, fun q => absurd (by omega) q⟩
      rw [show n - ((0 : Nat) : Int) = n by omega] at ht
      obtain ⟨t1, t2, t3, t4⟩ := id ht
      refine h τ ht ?_
      have eR : ∀ i, gR τ 302 a i = gR σ 302 a i := t1.R (by simp)
      have e3 : gI τ 303 a 0 = 0 := by rw [t1.I (by simp), hl]
      refine ⟨t1.lc hc.1, by rw [t2]; omega, by omega, fun li q0 q1 => absurd q1 (by omega), fun i j b => by rw [eR, eR]; exact hc.2.2.2.2.1 i j b, fun i b q0 q1 => ?_, fun p q0 q1 => ?_, by rw [t1.2.1]; exact hc.2.2.2.2.2.2.2⟩
      · rw [eR] at q1
        have := hc.2.2.2.2.2.1 i b q0 q1
        exact ⟨t1.lc this.1, by rw [t1.2.1]; exact this.2⟩
      · rw [t2] at q1
        have hx' : hasX τ a p = gI τ 300 a p.toNat := by unfold hasX; rw [e3]; rfl
        rw [hx', t3, t4]
        by_cases e : gI σ 304 a 0 ≤ (p.toNat : Int) ∧ (p.toNat : Int) < gI σ 304 a 0 + n
        · rw [if_pos e, if_pos e]
          have b1 := byt_ge w (n - 1 - (p.toNat - gI σ 304 a 0))
          have b2 := byt_lt w (n - 1 - (p.toNat - gI σ 304 a 0))
          omega
        · rw [if_neg e, if_neg e]
          have c7 := hc.2.2.2.2.2.2.1 p q0 (by omega)
          have hy : hasX σ a p = gI σ 300 a p.toNat := by unfold hasX; rw [hl]; rfl
          rw [c7.2.2, hy]
          exact ⟨c7.1, c7.2.1, rfl⟩
    | succ j ih =>
      intro x τ hx hj ht
      obtain ⟨t1, t2, t3, t4⟩ := ht
      have hL := t1.lc hc.1
      refine bk_X3_append_5 ⟨fun q => absurd q (by omega), fun _ => ⟨fun q => absurd q (by omega), fun _ => ⟨hL, x_byteOf (by omega) (by omega) ⟨hL, ⟨by omega, by omega⟩, ⟨by omega, by omega⟩, ⟨by omega, by omega⟩, ⟨by omega, by omega⟩, ih _ _ (by omega) (by omega) ⟨t1.trans ((Frm.sI (by simp)).trans ((Frm.sI (by simp)).trans (Frm.sI (by simp)))), ?_, fun k => ?_, fun k => ?_⟩⟩⟩⟩⟩
      · rw [gI_slf, t2]; omega
      · simp only [gI_sI, false_and, true_and, if_false, Nat.reduceEqDiff, and_self, if_true]
        rw [t3, t2]
        by_cases e : k = (gI σ 304 a 0 + (n - ((j + 1 : Nat) : Int))).toNat
        · rw [if_pos e, if_pos (by omega), show n - 1 - ((k : Int) - gI σ 304 a 0) = x by omega]
        · rw [if_neg e]
          by_cases e2 : gI σ 304 a 0 ≤ k ∧ (k : Int) < gI σ 304 a 0 + (n - ((j + 1 : Nat) : Int))
          · rw [if_pos e2, if_pos (by omega)]
          · rw [if_neg e2, if_neg (by omega)]
      · simp only [gI_sI, false_and, true_and, if_false, Nat.reduceEqDiff, and_self, if_true]
        rw [t4, t2]
        by_cases e : k = (gI σ 304 a 0 + (n - ((j + 1 : Nat) : Int))).toNat
        · rw [if_pos e, if_pos (by omega), show n - 1 - ((k : Int) - gI σ 304 a 0) = x by omega]
        · rw [if_neg e]
          by_cases e2 : gI σ 304 a 0 ≤ k ∧ (k : Int) < gI σ 304 a 0 + (n - ((j + 1 : Nat) : Int))
          · rw [if_pos e2, if_pos (by omega)]
          · rw [if_neg e2, if_neg (by omega)]
  exact AC.of mo_X3_append (Nat.le_of_ble_eq_true rfl) (bk_X3_append_0 ⟨⟨by omega, by omega⟩, loop n.toNat _ σ (by omega) (by omega) ⟨Frm.rfl, by omega, fun k => by rw [if_neg (by omega)], fun k => by rw [if_neg (by omega)]⟩⟩)
/-- Arrays.fill -/
theorem x_fill {σ : St} {f r : Nat} {v : Int} {P : St → Prop} (hf : f < 9000) (ht : TYF f = .array .int) (hn : gL σ f r < 2147483648) (h : ∀ σ', Frm (fun f' r' => r' = r ∧ f' = f) σ σ' → (∀ k : Nat, k < gL σ f r → gI σ' f r k = v) → P σ') : ACv g l d MJ7_fill_53178 [vA f r, vI v] σ P := by
  have loop : ∀ (j : Nat) (x : Int) (τ : St), x = gL σ f r - j → 0 ≤ x → Frm (fun f' r' => r' = r ∧ f' = f) σ τ → (∀ k : Nat, (k : Int) < x → gI τ f r k = v) →
      AW g l d MJ7_fill_53178 5 [some (vA f r), some (vI v), some (vI x), some (vI (gL σ f r : Int))] [] τ (fun v σ' => v = none ∧ P σ') := by
    intro j
    induction j with
    | zero =>
      intro x τ hx hx0 h1 h2
      exact bk_J7_fill_53178_5 hf ht ⟨fun _ => ⟨rfl, h τ h1 (fun k hk => h2 k (by omega))⟩, fun q => absurd (by omega) q⟩
    | succ j ih =>
      intro x τ hx hx0 h1 h2
      refine bk_J7_fill_53178_5 hf ht ⟨fun q => absurd q (by omega), fun _ => ⟨⟨hx0, by rw [h1.1]; omega⟩, ⟨by omega, by omega⟩, ih _ _ (by omega) (by omega) (h1.trans (Frm.sI ⟨rfl, rfl⟩)) (fun k hk => ?_)⟩⟩
      rw [gI_sI]
      by_cases e : k = x.toNat
      · rw [if_pos ⟨rfl, rfl, e⟩]
      · rw [if_neg (fun z => e z.2.2)]
        exact h2 k (by omega)
  exact AC.of mo_J7_fill_53178 (Nat.le_of_ble_eq_true rfl) (bk_J7_fill_53178_0 hf ht ⟨hn, loop (gL σ f r) 0 σ (by omega) (by omega) Frm.rfl (fun k hk => absurd hk (by omega))⟩)
end X7
theorem LMt (c : Nat) (hc : c < 13) : ∀ f, f / 100 = c → LM f = LM (100 * c + f % 100) := fun f hf => by rw [show 100 * c + f % 100 = f by omega]
theorem LM3 (f : Nat) (h : f / 100 = 3) : LM f = if f = 302 then 4 else if f = 301 then 2000 else if f = 300 then 2000 else 0 := by
  have k : ∀ j : Fin 100, LM (300 + j) = if 300 + j.val = 302 then 4 else if 300 + j.val = 301 then 2000 else if 300 + j.val = 300 then 2000 else 0 := by decide
  have := k ⟨f - 300, by omega⟩
  simp only at this
  rw [show 300 + (f - 300) = f by omega] at this
  exact this
theorem LM4 (f : Nat) (h : f / 100 = 4) : LM f = if f = 404 then 160 else if f = 403 then 20 else if f = 402 then 20 else if f = 400 then 2000 else 0 := by
  have k : ∀ j : Fin 100, LM (400 + j) = if 400 + j.val = 404 then 160 else if 400 + j.val = 403 then 20 else if 400 + j.val = 402 then 20 else if 400 + j.val = 400 then 2000 else 0 := by decide
  have := k ⟨f - 400, by omega⟩
  simp only at this
  rw [show 400 + (f - 400) = f by omega] at this
  exact this
section ST2
variable (σ : St) (f r n f' r' i' : Nat)
theorem gI_sNew : gI (sNew σ n) f' r' i' = if r' = hs σ then 0 else gI σ f' r' i' := rfl
theorem gJ_sNew : gJ (sNew σ n) f' r' i' = if r' = hs σ then 0 else gJ σ f' r' i' := rfl
theorem gR_sNew : gR (sNew σ n) f' r' i' = if r' = hs σ then none else gR σ f' r' i' := rfl
theorem gL_sNew : gL (sNew σ n) f' r' = if r' = hs σ then 0 else gL σ f' r' := rfl
theorem hs_sNew : hs (sNew σ n) = hs σ + 1 := rfl
theorem sl_sNew : sl (sNew σ n) = sl σ + n := rfl
theorem gI_sArr : gI (sArr σ f r n) f' r' i' = if f' = f ∧ r' = r then 0 else gI σ f' r' i' := rfl
theorem gJ_sArr : gJ (sArr σ f r n) f' r' i' = if f' = f ∧ r' = r then 0 else gJ σ f' r' i' := rfl
theorem gR_sArr : gR (sArr σ f r n) f' r' i' = if f' = f ∧ r' = r then none else gR σ f' r' i' := rfl
theorem gL_sArr : gL (sArr σ f r n) f' r' = if f' = f ∧ r' = r then n else gL σ f' r' := rfl
theorem hs_sArr : hs (sArr σ f r n) = hs σ + 1 := rfl
theorem sl_sArr : sl (sArr σ f r n) = sl σ + n := rfl
end ST2
theorem Fr.sNew {P : Nat → Nat → Prop} {σ : St} {n : Nat} : Fr P σ (sNew σ n) := ⟨Nat.le_succ _, fun f r hr => ⟨by rw [gL_sNew, if_neg (by omega)], fun _ i => ⟨by rw [gI_sNew, if_neg (by omega)], by rw [gJ_sNew, if_neg (by omega)], by rw [gR_sNew, if_neg (by omega)]⟩⟩⟩
/-- a new array of an object that is new since ρ -/
theorem Fr.sArr {P : Nat → Nat → Prop} {ρ σ : St} {f r n : Nat} (h : Fr P ρ σ) (hr : hs ρ ≤ r) : Fr P ρ (sArr σ f r n) := ⟨Nat.le_trans h.1 (Nat.le_succ _), fun f' r' hr' => by
  obtain ⟨a, b⟩ := h.2 f' r' hr'
  refine ⟨by rw [gL_sArr, if_neg (by omega)]; exact a, fun nP i => ?_⟩
  obtain ⟨b1, b2, b3⟩ := b nP i
  exact ⟨by rw [gI_sArr, if_neg (by omega)]; exact b1, by rw [gJ_sArr, if_neg (by omega)]; exact b2, by rw [gR_sArr, if_neg (by omega)]; exact b3⟩⟩
