/-! what the constructors make: objects that are new -/
abbrev Fn : Nat → Nat → Prop := fun _ _ => False
def KeO (x : Nat) (σ σ' : St) : Prop := hs σ ≤ hs σ' ∧ ∀ r, r < hs σ → ¬ r = x → ∀ f, gL σ' f r = gL σ f r ∧ ∀ i, Agr σ σ' f r i
def XS (σ : St) (x : Nat) (F : Nat → Option Nat) (A : Nat → Nat) : Prop := x < hs σ ∧ (∀ f i, gI σ f x i = 0) ∧ (∀ f i, gJ σ f x i = 0) ∧ (∀ f i, gR σ f x i = if i = 0 then F f else none) ∧ ∀ f, gL σ f x = A f
section Y1
variable {g : GP} {l : Launch} {d : Nat} {σ σ' σ2 : St} {x r c : Nat} {F : Nat → Option Nat} {A : Nat → Nat} {P : St → Prop}
theorem KeO.trans (h : KeO x σ σ') (k : KeO x σ' σ2) : KeO x σ σ2 := ⟨Nat.le_trans h.1 k.1, fun r hr n f => by
  obtain ⟨a, b⟩ := h.2 r hr n f
  obtain ⟨a', b'⟩ := k.2 r (Nat.lt_of_lt_of_le hr h.1) n f
  exact ⟨a'.trans a, fun i => ⟨(b' i).1.trans (b i).1, (b' i).2.1.trans (b i).2.1, (b' i).2.2.trans (b i).2.2⟩⟩⟩
theorem KeO.fr (h : Fr Fn σ σ') : KeO x σ σ' := ⟨h.1, fun r hr _ f => ⟨(h.2 f r hr).1, fun i => (h.2 f r hr).2 (fun q => q) i⟩⟩
theorem KeO.sR {f i : Nat} {v : Option Nat} : KeO x σ (sR σ f x i v) := ⟨Nat.le_refl _, fun r hr n f' => ⟨rfl, fun j => off_sR σ f x i v f' r j (fun q => n q.2.1)⟩⟩
theorem KeO.sArr {f n : Nat} : KeO x σ (sArr σ f x n) := ⟨Nat.le_succ _, fun r hr ne f' => ⟨by rw [gL_sArr, if_neg (fun q => ne q.2)], fun j => ⟨by rw [gI_sArr, if_neg (fun q => ne q.2)], by rw [gJ_sArr, if_neg (fun q => ne q.2)], by rw [gR_sArr, if_neg (fun q => ne q.2)]⟩⟩⟩
theorem KeO.lc (h : KeO x σ σ') (hr : r < hs σ) (n : ¬ r = x) (k : LC c σ r) : LC c σ' r := fun f e => ((h.2 r hr n f).1).trans (k f e)
theorem KeO.I (h : KeO x σ σ') (hr : r < hs σ) (n : ¬ r = x) (f i : Nat) : gI σ' f r i = gI σ f r i := ((h.2 r hr n f).2 i).1
theorem KeO.J (h : KeO x σ σ') (hr : r < hs σ) (n : ¬ r = x) (f i : Nat) : gJ σ' f r i = gJ σ f r i := ((h.2 r hr n f).2 i).2.1
theorem KeO.R (h : KeO x σ σ') (hr : r < hs σ) (n : ¬ r = x) (f i : Nat) : gR σ' f r i = gR σ f r i := ((h.2 r hr n f).2 i).2.2
theorem KeO.ag (h : KeO x σ σ') (hr : r < hs σ) (n : ¬ r = x) (lo hi : Nat) : AgA σ σ' lo hi r := ⟨fun f => (h.2 r hr n f).1, fun f i _ _ => (h.2 r hr n f).2 i⟩
theorem XS.new {n : Nat} : XS (sNew σ n) (hs σ) (fun _ => none) (fun _ => 0) := ⟨Nat.lt_succ_self _, fun f i => by rw [gI_sNew, if_pos rfl], fun f i => by rw [gJ_sNew, if_pos rfl], fun f i => by rw [gR_sNew, if_pos rfl]; split <;> rfl, fun f => by rw [gL_sNew, if_pos rfl]⟩
theorem XS.fr (h : XS σ x F A) (k : Fr Fn σ σ') : XS σ' x F A := by
  obtain ⟨a1, a2, a3, a4, a5⟩ := h
  exact ⟨Nat.lt_of_lt_of_le a1 k.1, fun f i => (k.I a1 (fun q => q) i).trans (a2 f i), fun f i => (k.J a1 (fun q => q) i).trans (a3 f i), fun f i => (k.R a1 (fun q => q) i).trans (a4 f i), fun f => ((k.2 f x a1).1).trans (a5 f)⟩
theorem XS.put (h : XS σ x F A) (f : Nat) (v : Option Nat) : XS (sR σ f x 0 v) x (fun u => if u = f then v else F u) A := by
  obtain ⟨a1, a2, a3, a4, a5⟩ := h
  refine ⟨a1, a2, a3, fun u i => ?_, a5⟩
  rw [gR_sR, a4]
  show _ = if i = 0 then (if u = f then v else F u) else none
  by_cases q : u = f
  · by_cases z : i = 0
    · rw [if_pos ⟨q, rfl, z⟩, if_pos z, if_pos q]
    · rw [if_neg (fun w => z w.2.2), if_neg z, if_neg z]
  · rw [if_neg (fun w => q w.1), if_neg q]
theorem XS.zero (h : XS σ x F A) (f : Nat) : XS (sI σ f x 0 0) x F A := by
  obtain ⟨a1, a2, a3, a4, a5⟩ := h
  exact ⟨a1, fun u i => by rw [gI_sI, a2]; split <;> rfl, a3, a4, a5⟩
theorem XS.zeroJ (h : XS σ x F A) (f : Nat) : XS (sJ σ f x 0 0) x F A := by
  obtain ⟨a1, a2, a3, a4, a5⟩ := h
  exact ⟨a1, a2, fun u i => by rw [gJ_sJ, a3]; split <;> rfl, a4, a5⟩
theorem XS.arr (h : XS σ x F A) (f n : Nat) (hF : F f = none) : XS (sArr σ f x n) x F (fun u => if u = f then n else A u) := by
  obtain ⟨a1, a2, a3, a4, a5⟩ := h
  refine ⟨Nat.lt_succ_of_lt a1, fun u i => by rw [gI_sArr, a2]; split <;> rfl, fun u i => by rw [gJ_sArr, a3]; split <;> rfl, fun u i => ?_, fun u => ?_⟩
  · rw [gR_sArr, a4]
    by_cases q : u = f
    · rw [if_pos ⟨q, rfl⟩, q, hF]; split <;> rfl
    · rw [if_neg (fun w => q w.1)]
  · rw [gL_sArr, a5]
    show _ = if u = f then n else A u
    by_cases q : u = f
    · rw [if_pos ⟨q, rfl⟩, if_pos q]
    · rw [if_neg (fun w => q w.1), if_neg q]
theorem nx6 (h : ∀ σ', Fr Fn σ σ' → hs σ' = hs σ + 1 → sl σ' ≤ sl σ + 11 → P σ') : ACv g l (d + 1) MX6_init [vR 6 (some (hs σ))] (sNew σ 11) P :=
  AC.of mo_X6_init (Nat.le_of_ble_eq_true rfl) (bk_X6_init_0 ⟨rfl, h _ Fr.sNew (hs_sNew _ _) (by rw [sl_sNew]; omega)⟩)
theorem LM7 (f : Nat) (h : f / 100 = 7) : LM f = if f = 701 then 102 else 0 := by
  have k : ∀ j : Fin 100, LM (700 + j) = if 700 + j.val = 701 then 102 else 0 := by decide
  have := k ⟨f % 100, by omega⟩
  rw [show 700 + f % 100 = f by omega] at this
  exact this
theorem LM8 (f : Nat) (h : f / 100 = 8) : LM f = if f = 801 then 14 else 0 := by
  have k : ∀ j : Fin 100, LM (800 + j) = if 800 + j.val = 801 then 14 else 0 := by decide
  have := k ⟨f % 100, by omega⟩
  rw [show 800 + f % 100 = f by omega] at this
  exact this
theorem LM0 (f : Nat) (h : f / 100 = 0) : LM f = if f = 1 then 3002 else if f = 0 then 3002 else 0 := by
  have k : ∀ j : Fin 100, LM (0 + j) = if 0 + j.val = 1 then 3002 else if 0 + j.val = 0 then 3002 else 0 := by decide
  have := k ⟨f % 100, by omega⟩
  rw [show 0 + f % 100 = f by omega] at this
  exact this
theorem LM1 (f : Nat) (h : f / 100 = 1) : LM f = if f = 108 then 3000 else if f = 107 then 3000 else if f = 106 then 3000 else if f = 104 then 8 else if f = 103 then 8 else if f = 102 then 8 else if f = 100 then 20 else 0 := by
  have k : ∀ j : Fin 100, LM (100 + j) = if 100 + j.val = 108 then 3000 else if 100 + j.val = 107 then 3000 else if 100 + j.val = 106 then 3000 else if 100 + j.val = 104 then 8 else if 100 + j.val = 103 then 8 else if 100 + j.val = 102 then 8 else if 100 + j.val = 100 then 20 else 0 := by decide
  have := k ⟨f % 100, by omega⟩
  rw [show 100 + f % 100 = f by omega] at this
  exact this
theorem nx7 (h1 : hs σ + 2 ≤ gB g + 600000) (h2 : sl σ + 200 ≤ 7302250) (h : ∀ σ', Fr Fn σ σ' → LC 7 σ' (hs σ) → hs σ' = hs σ + 2 → sl σ' ≤ sl σ + 105 → P σ') : ACv g l (d + 1) MX7_init [vR 7 (some (hs σ))] (sNew σ 3) P := by
  have V := (XS.new (σ := σ) (n := 3)).arr 701 102 rfl
  refine AC.of mo_X7_init (Nat.le_of_ble_eq_true rfl) (bk_X7_init_0 ⟨⟨XS.new.2.2.2.2 _, by rw [hs_sNew]; omega, by rw [sl_sNew]; omega⟩, rfl, h _ (Fr.sArr Fr.sNew (Nat.le_refl _)) (fun f hf => ?_) (by rw [hs_sArr, hs_sNew]) (by rw [sl_sArr, sl_sNew]; omega)⟩)
  rw [V.2.2.2.2, LM7 f hf]
theorem nx0 (h1 : hs σ + 3 ≤ gB g + 600000) (h2 : sl σ + 6100 ≤ 7302250) (h : ∀ σ', Fr Fn σ σ' → LC 0 σ' (hs σ) → hs σ' = hs σ + 3 → sl σ' ≤ sl σ + 6007 → (∀ f i, gI σ' f (hs σ) i = 0) → P σ') : ACv g l (d + 1) MX0_init [vR 0 (some (hs σ))] (sNew σ 3) P := by
  have V0 := XS.new (σ := σ) (n := 3)
  have V1 := V0.arr 0 3002 rfl
  have V2 := V1.arr 1 3002 rfl
  refine AC.of mo_X0_init (Nat.le_of_ble_eq_true rfl) (bk_X0_init_0 ⟨⟨V0.2.2.2.2 _, by rw [hs_sNew]; omega, by rw [sl_sNew]; omega⟩, ⟨V1.2.2.2.2 _, by rw [hs_sArr, hs_sNew]; omega, by rw [sl_sArr, sl_sNew]; omega⟩, rfl, h _ (Fr.sArr (Fr.sArr Fr.sNew (Nat.le_refl _)) (Nat.le_refl _)) (fun f hf => ?_) (by rw [hs_sArr, hs_sArr, hs_sNew]) (by rw [sl_sArr, sl_sArr, sl_sNew]; omega) V2.2.1⟩)
  rw [V2.2.2.2.2, LM0 f hf]
/-- what is told of one that is new and has its rows of parts -/
theorem nx8 (h1 : hs σ + 16 ≤ gB g + 600000) (h2 : sl σ + 300 ≤ 7302250) (h : ∀ σ', Fr Fn σ σ' → LC 8 σ' (hs σ) → hs σ' = hs σ + 16 → sl σ' ≤ sl σ + 257 → (∀ k : Nat, k < 14 → gR σ' 801 (hs σ) k = some (hs σ + 2 + k) ∧ gI σ' 200 (hs σ + 2 + k) 0 = k) → P σ') : ACv g l (d + 2) MX8_init [vR 8 (some (hs σ))] (sNew σ 5) P := by
  have V0 := XS.new (σ := σ) (n := 5)
  have V1 := V0.arr 801 14 rfl
  have loop : ∀ (j i : Nat) (τ : St), i + j = 14 → Fr Fn σ τ → LC 8 τ (hs σ) → hs τ = hs σ + 2 + i → sl τ ≤ sl σ + 19 + 17 * i → (∀ k : Nat, k < i → gR τ 801 (hs σ) k = some (hs σ + 2 + k) ∧ gI τ 200 (hs σ + 2 + k) 0 = k) →
      AW g l (d + 2) MX8_init 15 [some (vR 8 (some (hs σ))), some (vI i)] [] τ (fun v σ' => v = none ∧ P σ') := by
    intro j
    induction j with
    | zero =>
      intro i τ hi hF hL hh hz hk
      refine bk_X8_init_15 ⟨fun _ => ⟨rfl, h τ hF hL (by omega) (by omega) (fun k h => hk k (by omega))⟩, fun q => absurd (by omega) q⟩
    | succ j ih =>
      intro i τ hi hF hL hh hz hk
      have lc2 : ∀ v u, LC 8 (sI (sNew τ 17) 200 v 0 u) (hs σ) := fun v u f hf => by rw [gL_sI, gL_sNew, if_neg (by omega)]; exact hL f hf
      refine bk_X8_init_15 ⟨fun q => absurd q (by omega), fun _ => ⟨hL, ⟨by omega, by omega⟩, AC.of mo_X2_init (Nat.le_of_ble_eq_true rfl) (bk_X2_init_0 ⟨rfl, lc2 _ _, ⟨by omega, by omega⟩, ⟨by omega, by omega⟩, ?_⟩)⟩⟩
      rw [Int.toNat_natCast, show (i : Int) + 1 = ((i + 1 : Nat) : Int) by omega]
      refine ih (i + 1) _ (by omega) (((hF.trans Fr.sNew).frm (Frm.sI (P := fun _ r => hs σ ≤ r) (by omega)) (fun f r q => q)).frm (Frm.sR (P := fun _ r => hs σ ≤ r) (Nat.le_refl _)) (fun f r q => q)) (fun f hf => by rw [gL_sR]; exact lc2 (hs τ) (i : Int) f hf) (by rw [hs_sR, hs_sI, hs_sNew]; omega) (by rw [sl_sR, sl_sI, sl_sNew]; omega) (fun k hk1 => ?_)
      rw [gR_sR, gI_sR, gI_sI, gR_sI, gR_sNew, gI_sNew]
      by_cases q : k = i
      · subst q
        rw [if_pos ⟨rfl, rfl, rfl⟩, if_pos ⟨rfl, by omega, rfl⟩, hh]
        exact ⟨rfl, rfl⟩
      · rw [if_neg (fun w => q w.2.2), if_neg (by omega), if_neg (by omega), if_neg (by omega)]
        exact hk k (by omega)
  refine AC.of mo_X8_init (Nat.le_of_ble_eq_true rfl) (bk_X8_init_0 ⟨⟨V0.2.2.2.2 _, by rw [hs_sNew]; omega, by rw [sl_sNew]; omega⟩, loop 14 0 _ rfl (Fr.sArr Fr.sNew (Nat.le_refl _)) (fun f hf => ?_) (by rw [hs_sArr, hs_sNew]) (by rw [sl_sArr, sl_sNew]; omega) (fun k hk => by omega)⟩)
  rw [V1.2.2.2.2, LM8 f hf]
end Y1
