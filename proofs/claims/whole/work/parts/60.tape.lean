/-! THE TAPE: feed, cut -/
def tpe (σ : St) (x : Nat) : Nat := (gR σ 1102 x 0).getD 0
def TapI (σ : St) (x m : Nat) : Prop :=
  gR σ 1102 x 0 = some (tpe σ x) ∧ LC 9 σ (tpe σ x) ∧ tpe σ x < hs σ ∧ x < hs σ ∧ m < hs σ ∧ LC 12 σ m ∧ gI σ 901 (tpe σ x) 0 = gI σ 1211 m 0 ∧ (0 ≤ gI σ 1211 m 0 ∧ gI σ 1211 m 0 ≤ 3000) ∧
  ∀ k : Int, 0 ≤ k → k < gI σ 1211 m 0 → gI σ 900 (tpe σ x) k.toNat = gI σ 1210 m k.toNat ∧ 0 ≤ gI σ 1210 m k.toNat ∧ gI σ 1210 m k.toNat ≤ 255
theorem TapI.fr {P : Nat → Nat → Prop} {σ σ' : St} {x m : Nat} (h : TapI σ x m) (hF : Fr P σ σ') (h0 : ∀ f r, f = 1102 ∨ f = 901 ∨ f = 900 ∨ f = 1210 ∨ f = 1211 → ¬ P f r) : TapI σ' x m := by
  obtain ⟨t1, t2, t3, t4, t5, t6, t7, t8, t9⟩ := h
  have eR : gR σ' 1102 x 0 = gR σ 1102 x 0 := hF.R t4 (h0 _ _ (by decide)) 0
  have eT : tpe σ' x = tpe σ x := by unfold tpe; rw [eR]
  have e1 : gI σ' 901 (tpe σ x) 0 = gI σ 901 (tpe σ x) 0 := hF.I t3 (h0 _ _ (by decide)) 0
  have e2 : gI σ' 1211 m 0 = gI σ 1211 m 0 := hF.I t5 (h0 _ _ (by decide)) 0
  have e3 : ∀ i, gI σ' 900 (tpe σ x) i = gI σ 900 (tpe σ x) i := hF.I t3 (h0 _ _ (by decide))
  have e4 : ∀ i, gI σ' 1210 m i = gI σ 1210 m i := hF.I t5 (h0 _ _ (by decide))
  refine ⟨by rw [eT, eR]; exact t1, by rw [eT]; exact hF.lc t3 t2, by rw [eT]; exact Nat.lt_of_lt_of_le t3 hF.1, Nat.lt_of_lt_of_le t4 hF.1, Nat.lt_of_lt_of_le t5 hF.1, hF.lc t5 t6, by rw [eT, e1, e2]; exact t7, by rw [e2]; exact t8, fun k q0 q1 => ?_⟩
  rw [e2] at q1
  rw [eT, e3, e4]
  exact t9 k q0 q1
section OP6
variable {g : GP} {l : Launch} {d : Nat} {σ : St} {x m : Nat}
def TP (σ σ' : St) (f0 f1 r : Nat) (w : Int64) (n c : Int) : Prop :=
  Frm (fun f r' => r' = r ∧ (f = f0 ∨ f = f1)) σ σ' ∧ gI σ' f1 r 0 = gI σ f1 r 0 + c ∧ ∀ k : Nat, gI σ' f0 r k = if gI σ f1 r 0 ≤ k ∧ (k : Int) < gI σ f1 r 0 + c then byt w (n - 1 - (k - gI σ f1 r 0)) else gI σ f0 r k
theorem x_feed {t : Nat} {w : Int64} {n : Int} {P : St → Prop} (hL : LC 9 σ t) (h0 : 0 ≤ gI σ 901 t 0) (h1 : 1 ≤ n) (h2 : n ≤ 8) (h3 : gI σ 901 t 0 + n ≤ 3000) (h : ∀ σ', TP σ σ' 900 901 t w n n → P σ') : ACv g l (d + 1) MX9_append [vR 9 (some t), vJ w, vI n] σ P := by
  have loop : ∀ (j : Nat) (v : Int) (τ : St), v = j - 1 → j ≤ n → TP σ τ 900 901 t w n (n - j) →
      AW g l (d + 1) MX9_append 5 [some (vR 9 (some t)), some (vJ w), none, none, some (vI v)] [] τ (fun v σ' => v = none ∧ P σ') := by
    intro j
    induction j with
    | zero =>
      intro v τ hv' hj ht
      rw [show n - ((0 : Nat) : Int) = n by omega] at ht
      exact bk_X9_append_5 ⟨fun _ => ⟨rfl, h τ ht⟩, fun q => absurd (by omega) q⟩
    | succ j ih =>
      intro v τ hv' hj ht
      obtain ⟨t1, t2, t3⟩ := ht
      have hLt := t1.lc hL
      refine bk_X9_append_5 ⟨fun q => absurd q (by omega), fun _ => ⟨fun q => absurd q (by omega), fun _ => ⟨hLt, x_byteOf (by omega) (by omega) ⟨hLt, ⟨by omega, by omega⟩, ⟨by omega, by omega⟩, ⟨by omega, by omega⟩, ih _ _ (by omega) (by omega) ⟨t1.trans ((Frm.sI (by simp)).trans (Frm.sI (by simp))), ?_, fun k => ?_⟩⟩⟩⟩⟩
      · rw [gI_slf, t2]; omega
      · simp only [gI_sI, false_and, true_and, if_false, Nat.reduceEqDiff]
        rw [t3, t2]
        by_cases e : k = (gI σ 901 t 0 + (n - ((j + 1 : Nat) : Int))).toNat
        · rw [if_pos e, if_pos (by omega), show n - 1 - ((k : Int) - gI σ 901 t 0) = v by omega]
        · rw [if_neg e]
          by_cases e2 : gI σ 901 t 0 ≤ k ∧ (k : Int) < gI σ 901 t 0 + (n - ((j + 1 : Nat) : Int))
          · rw [if_pos e2, if_pos (by omega)]
          · rw [if_neg e2, if_neg (by omega)]
  exact AC.of mo_X9_append (Nat.le_of_ble_eq_true rfl) (bk_X9_append_0 ⟨⟨by omega, by omega⟩, loop n.toNat _ σ (by omega) (by omega) ⟨Frm.rfl, by omega, fun k => by rw [if_neg (by omega)]⟩⟩)
theorem m_feed_34 {Q : Option AV → St → Prop} {w : Int64} {n : Int} (hL : LC 12 σ m) (h0 : 0 ≤ gI σ 1211 m 0) (h2 : n ≤ 8) (h3 : gI σ 1211 m 0 + n ≤ 3000) (h : ∀ σ', TP σ σ' 1210 1211 m w n n → Q (some (vI (gI σ 1211 m 0 + n))) σ') :
    ∀ (j : Nat) (v : Int) (τ : St), v = j - 1 → j ≤ n → TP σ τ 1210 1211 m w n (n - j) →
    AW g l d MX12_feed 34 [some (vR 12 (some m)), some (vJ w), none, none, some (vI v)] [] τ Q
  | 0, v, τ, hv', hj, ht => by
    rw [show n - ((0 : Nat) : Int) = n by omega] at ht
    refine bk_X12_feed_34 ⟨fun _ => ?_, fun q => absurd (by omega) q⟩
    rw [ht.2.1]
    exact h τ ht
  | j + 1, v, τ, hv', hj, ht => by
    obtain ⟨t1, t2, t3⟩ := ht
    refine bk_X12_feed_34 ⟨fun q => absurd q (by omega), fun _ => ⟨t1.lc hL, ⟨by omega, by omega⟩, ⟨by omega, by omega⟩, ⟨by omega, by omega⟩, ⟨by omega, by omega⟩, m_feed_34 hL h0 h2 h3 h j _ _ (by omega) (by omega) ⟨t1.trans ((Frm.sI (by simp)).trans (Frm.sI (by simp))), ?_, fun k => ?_⟩⟩⟩
    · rw [gI_slf, t2]; omega
    · simp only [gI_sI, false_and, true_and, if_false, Nat.reduceEqDiff]
      rw [t3, t2, byt_shr w (by omega) (by omega)]
      by_cases e : k = (gI σ 1211 m 0 + (n - ((j + 1 : Nat) : Int))).toNat
      · rw [if_pos e, if_pos (by omega), show n - 1 - ((k : Int) - gI σ 1211 m 0) = v by omega]
      · rw [if_neg e]
        by_cases e2 : gI σ 1211 m 0 ≤ k ∧ (k : Int) < gI σ 1211 m 0 + (n - ((j + 1 : Nat) : Int))
        · rw [if_pos e2, if_pos (by omega)]
        · rw [if_neg e2, if_neg (by omega)]
/-- only THE TAPE's own is changed -/
def TFr (σ σ' : St) : Prop := Frm (fun f _ => f = 900 ∨ f = 901 ∨ f = 1210 ∨ f = 1211) σ σ'
theorem op_feed {n : Int} {w : Int64} (hT : TapI σ x m) : ACi g l (d + 6) MX11_feed [vR 11 (some x), vJ w, vI n] σ (fun a σ1 => ACi g l (d + 6) MX12_feed [vR 12 (some m), vJ w, vI n] σ1 (fun b σ2 => a = b ∧ TapI σ2 x m ∧ TFr σ σ2)) := by
  obtain ⟨t1, t2, t3, t4, t5, t6, t7, t8, t9⟩ := id hT
  have ref : ∀ (P : Int → St → Prop) (σ1 : St), LC 12 σ1 m → gI σ1 1211 m 0 = gI σ 1211 m 0 → ((n < 1 ∨ 8 < n) → P (-3) σ1) → (1 ≤ n → n ≤ 8 → ¬ gI σ 1211 m 0 + n ≤ 3000 → P (-2) σ1) → (1 ≤ n → n ≤ 8 → gI σ 1211 m 0 + n ≤ 3000 → ∀ σ2, TP σ1 σ2 1210 1211 m w n n → P (gI σ 1211 m 0 + n) σ2) → ACi g l (d + 6) MX12_feed [vR 12 (some m), vJ w, vI n] σ1 P := by
    intro P σ1 hL em hA hB hC
    refine AC.of mo_X12_feed (Nat.le_of_ble_eq_true rfl) (bk_X12_feed_0 ⟨fun z => ⟨_, rfl, hA (Or.inl z)⟩, fun z => ⟨fun z8 => ?_, fun z8 => ⟨_, rfl, hA (by omega)⟩⟩⟩)
    rw [em]
    refine ⟨⟨by omega, by omega⟩, fun zl => ⟨⟨by omega, by omega⟩, m_feed_34 hL (by omega) z8 (by omega) (fun σ2 hM => ⟨_, rfl, ?_⟩) n.toNat _ σ1 (by omega) (by omega) ⟨Frm.rfl, by omega, fun k => by rw [if_neg (by omega)]⟩⟩, fun zl => ⟨_, rfl, hB (by omega) z8 zl⟩⟩
    rw [em]
    exact hC (by omega) z8 zl σ2 hM
  refine AC.of mo_X11_feed (Nat.le_of_ble_eq_true rfl) (bk_X11_feed_0 ⟨fun z => ⟨_, rfl, ref _ σ t6 rfl (fun _ => ⟨rfl, hT, Frm.rfl⟩) (fun q => absurd q (by omega)) (fun q => absurd q (by omega))⟩, fun z => ⟨fun z8 => ⟨tpe σ x, t1, ⟨by omega, by omega⟩, fun zl => x_feed t2 (by omega) (by omega) z8 zl (fun σ1 hX => ⟨tpe σ x, by rw [hX.1.R (by simp)]; exact t1, _, rfl, ?_⟩), fun zl => ⟨_, rfl, ref _ σ t6 rfl (fun q => absurd q (by omega)) (fun _ _ _ => ⟨rfl, hT, Frm.rfl⟩) (fun _ _ q => absurd q (by omega))⟩⟩, fun z8 => ⟨_, rfl, ref _ σ t6 rfl (fun _ => ⟨rfl, hT, Frm.rfl⟩) (fun _ q => absurd q z8) (fun _ q => absurd q z8)⟩⟩⟩)
  obtain ⟨x1, x2, x3⟩ := hX
  refine ref _ σ1 (x1.lc t6) (x1.I (by simp) 0) (fun q => absurd q (by omega)) (fun _ _ q => absurd (by omega) q) (fun _ _ _ σ2 hM => ?_)
  obtain ⟨m1, m2, m3⟩ := hM
  have c11 : gI σ1 1211 m 0 = gI σ 1211 m 0 := x1.I (by simp) 0
  have hF : TFr σ σ2 := (x1.mono (fun f r z => by omega)).trans (m1.mono (fun f r z => by omega))
  have eR : gR σ2 1102 x 0 = gR σ 1102 x 0 := hF.R (by simp) 0
  have eT : tpe σ2 x = tpe σ x := by unfold tpe; rw [eR]
  have s1 : gI σ2 1211 m 0 = gI σ 1211 m 0 + n := by rw [m2, c11]
  have s2 : gI σ2 901 (tpe σ x) 0 = gI σ 901 (tpe σ x) 0 + n := by rw [m1.I (by simp), x2]
  refine ⟨by omega, ⟨by rw [eT, eR]; exact t1, by rw [eT]; exact hF.lc t2, by rw [eT, hF.2.1]; exact t3, by rw [hF.2.1]; exact t4, by rw [hF.2.1]; exact t5, hF.lc t6, by rw [eT, s1, s2, t7], by omega, fun k q0 q1 => ?_⟩, hF⟩
  rw [s1] at q1
  rw [eT, m1.I (f := 900) (by simp), x3, m3, c11, t7]
  by_cases e : gI σ 1211 m 0 ≤ (k.toNat : Int) ∧ (k.toNat : Int) < gI σ 1211 m 0 + n
  · rw [if_pos e, if_pos e]
    have b1 := byt_ge w (n - 1 - (k.toNat - gI σ 1211 m 0))
    have b2 := byt_lt w (n - 1 - (k.toNat - gI σ 1211 m 0))
    omega
  · rw [if_neg e, if_neg e, x1.I (f := 1210) (by simp)]
    exact t9 k q0 (by omega)
theorem op_cut {n : Int} (hT : TapI σ x m) : ACi g l (d + 6) MX11_cut [vR 11 (some x), vI n] σ (fun a σ1 => ACi g l (d + 6) MX12_cut [vR 12 (some m), vI n] σ1 (fun b σ2 => a = b ∧ TapI σ2 x m ∧ TFr σ σ2)) := by
  obtain ⟨t1, t2, t3, t4, t5, t6, t7, t8, t9⟩ := id hT
  refine AC.of mo_X11_cut (Nat.le_of_ble_eq_true rfl) (bk_X11_cut_0 ⟨fun z => ⟨_, rfl, AC.of mo_X12_cut (Nat.le_of_ble_eq_true rfl) (bk_X12_cut_0 ⟨fun _ => ⟨_, rfl, rfl, hT, Frm.rfl⟩, fun q => absurd z q⟩)⟩, fun z => ⟨tpe σ x, t1, fun zl => ⟨_, rfl, AC.of mo_X12_cut (Nat.le_of_ble_eq_true rfl) (bk_X12_cut_0 ⟨fun q => absurd q z, fun _ => ⟨fun _ => ⟨_, rfl, rfl, ?_⟩, fun q => absurd ?_ q⟩⟩)⟩, fun zl => ⟨_, rfl, AC.of mo_X12_cut (Nat.le_of_ble_eq_true rfl) (bk_X12_cut_0 ⟨fun q => absurd q z, fun _ => ⟨fun q => absurd q (by omega), fun _ => ⟨_, rfl, rfl, hT, Frm.rfl⟩⟩⟩)⟩⟩⟩)
  · have hF : TFr σ (sI (sI σ 901 (tpe σ x) 0 n) 1211 m 0 n) := (Frm.sI (by simp)).trans (Frm.sI (by simp))
    have eT : tpe (sI (sI σ 901 (tpe σ x) 0 n) 1211 m 0 n) x = tpe σ x := rfl
    have s1 : gI (sI (sI σ 901 (tpe σ x) 0 n) 1211 m 0 n) 1211 m 0 = n := gI_slf _ _ _ _ _
    refine ⟨⟨by rw [eT]; exact t1, by rw [eT]; exact hF.lc t2, t3, t4, t5, hF.lc t6, by rw [eT, s1, gI_sI, if_neg (by simp), gI_slf], by omega, fun k q0 q1 => ?_⟩, hF⟩
    rw [s1] at q1
    rw [eT]
    simp only [gI_sI, false_and, if_false, Nat.reduceEqDiff]
    exact t9 k q0 (by omega)
  · rw [gI_sI, if_neg (by simp)]; omega
end OP6
