/-! the class: images and layers -/
def BC (σ : St) (b : Nat) : Prop := gI σ 401 b 0 = cnt (fun p => gI σ 400 b p.toNat) 2000
def lay (σ : St) (a : Nat) (li : Int) : Nat := (gR σ 302 a li.toNat).getD 0
def hasX (σ : St) (a : Nat) (p : Int) : Int := hv (fun li => gI σ 400 (lay σ a li) p.toNat) (gI σ 300 a p.toNat) (gI σ 303 a 0).toNat
/-- a kept write of a layer -/
def CKw (σ : St) (b : Nat) (len w : Int) : Prop := 1 ≤ gI σ 403 b w.toNat ∧ gI σ 403 b w.toNat ≤ 8 ∧ 0 ≤ gI σ 402 b w.toNat ∧ gI σ 402 b w.toNat + gI σ 403 b w.toNat ≤ len ∧ ∀ k : Int, 0 ≤ k → k < gI σ 403 b w.toNat → -1 ≤ gI σ 404 b (w * 8 + k).toNat ∧ gI σ 404 b (w * 8 + k).toNat ≤ 255
/-- a layer of an image of this length -/
def CLay (σ : St) (b : Nat) (len : Int) : Prop :=
  BC σ b ∧ (∀ p : Int, 0 ≤ p → p < 2000 → -1 ≤ gI σ 400 b p.toNat ∧ gI σ 400 b p.toNat ≤ 255) ∧ (∀ p : Int, len ≤ p → 0 ≤ p → p < 2000 → gI σ 400 b p.toNat = -1) ∧
  0 ≤ gI σ 405 b 0 ∧ gI σ 405 b 0 ≤ 20 ∧ ∀ w : Int, 0 ≤ w → w < gI σ 405 b 0 → CKw σ b len w
/-- an image of the class -/
def CIm (σ : St) (a : Nat) : Prop :=
  LC 3 σ a ∧ (0 ≤ gI σ 304 a 0 ∧ gI σ 304 a 0 ≤ 2000) ∧ (0 ≤ gI σ 303 a 0 ∧ gI σ 303 a 0 ≤ 4) ∧
  (∀ li : Int, 0 ≤ li → li < gI σ 303 a 0 → gR σ 302 a li.toNat = some (lay σ a li) ∧ CLay σ (lay σ a li) (gI σ 304 a 0)) ∧
  (∀ i j b : Nat, i < 4 → j < 4 → gR σ 302 a i = some b → gR σ 302 a j = some b → i = j) ∧
  (∀ i b : Nat, i < 4 → gR σ 302 a i = some b → LC 4 σ b ∧ b < hs σ) ∧
  (∀ p : Int, 0 ≤ p → p < gI σ 304 a 0 → 0 ≤ gI σ 300 a p.toNat ∧ gI σ 300 a p.toNat ≤ 255 ∧ gI σ 301 a p.toNat = hasX σ a p) ∧ a < hs σ
theorem CIm.lay4 {σ : St} {a : Nat} (h : CIm σ a) {li : Int} (h0 : 0 ≤ li) (h1 : li < gI σ 303 a 0) : LC 4 σ (lay σ a li) ∧ lay σ a li < hs σ := h.2.2.2.2.2.1 li.toNat _ (by have := h.2.2.1; omega) (h.2.2.2.1 li h0 h1).1
theorem CIm.inj {σ : St} {a : Nat} (h : CIm σ a) {i j : Int} (h0 : 0 ≤ i) (h1 : i < gI σ 303 a 0) (h2 : 0 ≤ j) (h3 : j < gI σ 303 a 0) (e : lay σ a i = lay σ a j) : i = j := by
  have := h.2.2.1
  have := h.2.2.2.2.1 i.toNat j.toNat _ (by omega) (by omega) (h.2.2.2.1 i h0 h1).1 (by rw [e]; exact (h.2.2.2.1 j h2 h3).1)
  omega
theorem cnt_neg {f : Int → Int} (n : Nat) : ∀ k : Nat, (∀ i : Nat, n ≤ i → i < n + k → f i < 0) → cnt f (n + k) = cnt f n
  | 0, _ => rfl
  | k + 1, h => by
    have : cnt f (n + (k + 1)) = cnt f (n + k) + if 0 ≤ f ((n + k : Nat) : Int) then 1 else 0 := rfl
    rw [this, cnt_neg n k (fun i h1 h2 => h i h1 (by omega)), if_neg (by have := h (n + k) (by omega) (by omega); omega)]
    omega
section X2
variable {g : GP} {l : Launch} {d : Nat}
theorem x_byteOf {σ : St} {w : Int64} {i : Int} {P : Int → St → Prop} (h0 : 0 ≤ i) (h7 : i ≤ 7) (h : P (byt w i) σ) : ACi g l d MX11_byteOf [vJ w, vI i] σ P := by
  refine AC.of mo_X11_byteOf (Nat.le_of_ble_eq_true rfl) (bk_X11_byteOf_0 ⟨⟨by omega, by omega⟩, _, rfl, ?_⟩)
  rw [byt_ushr w h0 h7]
  exact h
theorem x_imageOf {σ : St} {x : Nat} {im : Int} {P : Option Nat → St → Prop} (hx : LC 11 σ x) (h6 : gI σ 1101 x 0 ≤ 6) (h0 : ¬ (0 ≤ im ∧ im < gI σ 1101 x 0) → P none σ) (h1 : 0 ≤ im → im < gI σ 1101 x 0 → P (gR σ 1100 x im.toNat) σ) : ACr g l d MX11_imageOf 3 [vR 11 (some x), vI im] σ P :=
  AC.of mo_X11_imageOf (Nat.le_of_ble_eq_true rfl) (bk_X11_imageOf_0 ⟨fun _ => ⟨_, rfl, h0 (by omega)⟩, fun _ => ⟨fun _ => ⟨hx, ⟨by omega, by omega⟩, _, rfl, h1 (by omega) (by omega)⟩, fun _ => ⟨_, rfl, h0 (by omega)⟩⟩⟩)
theorem x_has {σ : St} {a : Nat} {p : Int} {P : Int → St → Prop} (ha : LC 3 σ a) (h6 : gI σ 304 a 0 ≤ 2000) (h0 : ¬ (0 ≤ p ∧ p < gI σ 304 a 0) → P (-1) σ) (h1 : 0 ≤ p → p < gI σ 304 a 0 → P (gI σ 301 a p.toNat) σ) : ACi g l d MX3_has [vR 3 (some a), vI p] σ P :=
  AC.of mo_X3_has (Nat.le_of_ble_eq_true rfl) (bk_X3_has_0 ⟨fun _ => ⟨_, rfl, h0 (by omega)⟩, fun _ => ⟨fun _ => ⟨ha, ⟨by omega, by omega⟩, _, rfl, h1 (by omega) (by omega)⟩, fun _ => ⟨_, rfl, h0 (by omega)⟩⟩⟩)
theorem x_top {σ : St} {a : Nat} {P : Option Nat → St → Prop} (ha : LC 3 σ a) (h0 : 0 ≤ gI σ 303 a 0) (h4 : gI σ 303 a 0 ≤ 4) (h1 : gI σ 303 a 0 = 0 → P none σ) (h2 : 0 < gI σ 303 a 0 → P (gR σ 302 a (gI σ 303 a 0 - 1).toNat) σ) : ACr g l d MX3_top 4 [vR 3 (some a)] σ P :=
  AC.of mo_X3_top (Nat.le_of_ble_eq_true rfl) (bk_X3_top_0 ⟨fun _ => ⟨ha, ⟨by omega, by omega⟩, ⟨by omega, by omega⟩, _, rfl, h2 (by omega)⟩, fun _ => ⟨_, rfl, h1 (by omega)⟩⟩)
theorem x_give {σ : St} {b : Nat} {p v : Int} {P : St → Prop} (hL : LC 4 σ b) (h0 : 0 ≤ p) (h1 : p < 2000) (hv' : -1 ≤ v) (hge : -1 ≤ gI σ 400 b p.toNat) (hc : BC σ b)
    (h : ∀ σ', Frm (fun f r => r = b ∧ (f = 400 ∨ f = 401)) σ σ' → (∀ k : Nat, gI σ' 400 b k = if k = p.toNat then v else gI σ 400 b k) → BC σ' b → P σ') : ACv g l d MX4_give [vR 4 (some b), vI p, vI v] σ P := by
  have hcl := cnt_le (f := fun p => gI σ 400 b p.toNat) (n := 2000)
  have hb : gI σ 401 b 0 = cnt (fun p => gI σ 400 b p.toNat) 2000 := hc
  have key : ∀ σ' : St, (∀ k : Nat, gI σ' 400 b k = if k = p.toNat then v else gI σ 400 b k) → gI σ' 401 b 0 = gI σ 401 b 0 - (if 0 ≤ gI σ 400 b p.toNat then 1 else 0) + (if 0 ≤ v then 1 else 0) → BC σ' b := by
    intro σ' a1 a2
    unfold BC
    rw [a2, hb, cnt_set (f := fun p => gI σ 400 b p.toNat) (f' := fun p => gI σ' 400 b p.toNat) p.toNat (n := 2000) (by omega) (fun i _ hn => by
      show gI σ' 400 b _ = gI σ 400 b _
      rw [a1, if_neg (by omega)])]
    show _ = _ - (if 0 ≤ gI σ 400 b (((p.toNat : Nat) : Int)).toNat then _ else _) + (if 0 ≤ gI σ' 400 b (((p.toNat : Nat) : Int)).toNat then _ else _)
    rw [Int.toNat_natCast, a1, if_pos rfl]
  refine AC.of mo_X4_give (Nat.le_of_ble_eq_true rfl) (bk_X4_give_0 ⟨hL, ⟨h0, h1⟩, fun e => bk_X4_give_20 ⟨fun e2 => ⟨hL, ⟨h0, h1⟩, rfl, ?_⟩, fun e2 => ⟨⟨by omega, by omega⟩, hL, ⟨h0, h1⟩, rfl, ?_⟩⟩, fun e => ⟨⟨by omega, by omega⟩, bk_X4_give_20 ⟨fun e2 => ⟨hL, ⟨h0, h1⟩, rfl, ?_⟩, fun e2 => ⟨?_, hL, ⟨h0, h1⟩, rfl, ?_⟩⟩⟩⟩)
  · have q : ∀ k : Nat, gI (sI σ 400 b p.toNat v) 400 b k = if k = p.toNat then v else gI σ 400 b k := fun k => by simp only [gI_sI, true_and]
    exact h _ (Frm.sI (by simp)) q (key _ q (by rw [if_neg (by omega), if_neg (by omega), gI_sI, if_neg (by simp)]; omega))
  · have q : ∀ k : Nat, gI (sI (sI σ 401 b 0 (gI σ 401 b 0 + 1)) 400 b p.toNat v) 400 b k = if k = p.toNat then v else gI σ 400 b k := fun k => by simp only [gI_sI, true_and, false_and, if_false, Nat.reduceEqDiff]
    exact h _ ((Frm.sI (by simp)).trans (Frm.sI (by simp))) q (key _ q (by rw [if_neg (by omega), if_pos (by omega), gI_sI, if_neg (by simp), gI_slf]; omega))
  · have q : ∀ k : Nat, gI (sI (sI σ 401 b 0 (gI σ 401 b 0 - 1)) 400 b p.toNat v) 400 b k = if k = p.toNat then v else gI σ 400 b k := fun k => by simp only [gI_sI, true_and, false_and, if_false, Nat.reduceEqDiff]
    exact h _ ((Frm.sI (by simp)).trans (Frm.sI (by simp))) q (key _ q (by rw [if_pos (by omega), if_neg (by omega), gI_sI, if_neg (by simp), gI_slf]; omega))
  · rw [gI_slf]; constructor <;> omega
  · have q : ∀ k : Nat, gI (sI (sI (sI σ 401 b 0 (gI σ 401 b 0 - 1)) 401 b 0 (gI (sI σ 401 b 0 (gI σ 401 b 0 - 1)) 401 b 0 + 1)) 400 b p.toNat v) 400 b k = if k = p.toNat then v else gI σ 400 b k := fun k => by simp only [gI_sI, true_and, false_and, if_false, Nat.reduceEqDiff]
    exact h _ ((Frm.sI (by simp)).trans ((Frm.sI (by simp)).trans (Frm.sI (by simp)))) q (key _ q (by rw [if_pos (by omega), if_pos (by omega), gI_sI, if_neg (by simp), gI_slf, gI_slf]))
theorem x_refresh {σ : St} {a : Nat} {p : Int} {P : St → Prop} (ha : LC 3 σ a) (h0 : 0 ≤ p) (h1 : p < 2000) (hc0 : 0 ≤ gI σ 303 a 0) (hc : gI σ 303 a 0 ≤ 4) (hl : ∀ li : Int, 0 ≤ li → li < gI σ 303 a 0 → gR σ 302 a li.toNat = some (lay σ a li) ∧ LC 4 σ (lay σ a li) ∧ -1 ≤ gI σ 400 (lay σ a li) p.toNat)
    (h : P (sI σ 301 a p.toNat (hasX σ a p))) : ACv g l d MX3_refresh [vR 3 (some a), vI p] σ P := by
  have loop : ∀ (n : Nat) (x v : Int), x = gI σ 303 a 0 - n → 0 ≤ x → v = hv (fun li => gI σ 400 (lay σ a li) p.toNat) (gI σ 300 a p.toNat) x.toNat → AW g l d MX3_refresh 9 [some (vR 3 (some a)), some (vI p), some (vI v), some (vI x)] [] σ (fun v σ' => v = none ∧ P σ') := by
    intro n
    induction n with
    | zero =>
      intro x v hx hx0 hv'
      refine bk_X3_refresh_9 ⟨fun _ => ⟨ha, ⟨h0, h1⟩, rfl, ?_⟩, fun q => absurd (by omega) q⟩
      obtain rfl : x = gI σ 303 a 0 := by omega
      rw [hv']
      exact h
    | succ n ih =>
      intro x v hx hx0 hv'
      obtain ⟨e1, e2, e3⟩ := hl x hx0 (by omega)
      have e4 : (x + 1).toNat = x.toNat + 1 := by omega
      have e5 : ((x.toNat : Nat) : Int) = x := by omega
      refine bk_X3_refresh_9 ⟨fun q => absurd q (by omega), fun _ => ⟨ha, ⟨by omega, by omega⟩, lay σ a x, e1, e2, ⟨h0, h1⟩, fun q => ⟨⟨by omega, by omega⟩, ih _ _ (by omega) (by omega) ?_⟩, fun q => ⟨⟨by omega, by omega⟩, ih _ _ (by omega) (by omega) ?_⟩⟩⟩
      · rw [e4]; simp only [hv]; rw [e5, if_neg (by omega)]; exact hv'
      · rw [e4]; simp only [hv]; rw [e5, if_pos (by omega)]
  exact AC.of mo_X3_refresh (Nat.le_of_ble_eq_true rfl) (bk_X3_refresh_0 ⟨ha, ⟨h0, h1⟩, loop (gI σ 303 a 0).toNat 0 _ (by omega) (by omega) rfl⟩)
end X2
