/-! level 2: what the changes of the store do, by rfl -/
section ST
variable (σ : St) (f r i : Nat) (v : Int) (w : Int64) (p : Option Nat) (f' r' i' : Nat)
theorem gI_sI : gI (sI σ f r i v) f' r' i' = if f' = f ∧ r' = r ∧ i' = i then v else gI σ f' r' i' := rfl
theorem gJ_sI : gJ (sI σ f r i v) f' r' i' = gJ σ f' r' i' := rfl
theorem gR_sI : gR (sI σ f r i v) f' r' i' = gR σ f' r' i' := rfl
theorem gL_sI : gL (sI σ f r i v) f' r' = gL σ f' r' := rfl
theorem hs_sI : hs (sI σ f r i v) = hs σ := rfl
theorem sl_sI : sl (sI σ f r i v) = sl σ := rfl
theorem gI_sJ : gI (sJ σ f r i w) f' r' i' = gI σ f' r' i' := rfl
theorem gJ_sJ : gJ (sJ σ f r i w) f' r' i' = if f' = f ∧ r' = r ∧ i' = i then w else gJ σ f' r' i' := rfl
theorem gR_sJ : gR (sJ σ f r i w) f' r' i' = gR σ f' r' i' := rfl
theorem gL_sJ : gL (sJ σ f r i w) f' r' = gL σ f' r' := rfl
theorem hs_sJ : hs (sJ σ f r i w) = hs σ := rfl
theorem sl_sJ : sl (sJ σ f r i w) = sl σ := rfl
theorem gI_sR : gI (sR σ f r i p) f' r' i' = gI σ f' r' i' := rfl
theorem gJ_sR : gJ (sR σ f r i p) f' r' i' = gJ σ f' r' i' := rfl
theorem gR_sR : gR (sR σ f r i p) f' r' i' = if f' = f ∧ r' = r ∧ i' = i then p else gR σ f' r' i' := rfl
theorem gL_sR : gL (sR σ f r i p) f' r' = gL σ f' r' := rfl
theorem hs_sR : hs (sR σ f r i p) = hs σ := rfl
theorem sl_sR : sl (sR σ f r i p) = sl σ := rfl
end ST
/-- the stores differ in the places P alone -/
def Frm (P : Nat → Nat → Prop) (σ σ' : St) : Prop := (∀ f r, gL σ' f r = gL σ f r) ∧ hs σ' = hs σ ∧ sl σ' = sl σ ∧ ∀ f r, ¬ P f r → ∀ i, Agr σ σ' f r i
theorem Frm.rfl {P : Nat → Nat → Prop} {σ : St} : Frm P σ σ := ⟨fun _ _ => Eq.refl _, Eq.refl _, Eq.refl _, fun _ _ _ _ => Agr.rfl⟩
theorem Frm.trans {P : Nat → Nat → Prop} {a b c : St} (h : Frm P a b) (k : Frm P b c) : Frm P a c := by
  obtain ⟨h1, h2, h3, h4⟩ := h
  obtain ⟨k1, k2, k3, k4⟩ := k
  refine ⟨fun f r => (k1 f r).trans (h1 f r), k2.trans h2, k3.trans h3, fun f r hn i => ?_⟩
  obtain ⟨a1, a2, a3⟩ := h4 f r hn i
  obtain ⟨b1, b2, b3⟩ := k4 f r hn i
  exact ⟨b1.trans a1, b2.trans a2, b3.trans a3⟩
theorem Frm.mono {P P' : Nat → Nat → Prop} {σ σ' : St} (h : Frm P σ σ') (hp : ∀ f r, P f r → P' f r) : Frm P' σ σ' := ⟨h.1, h.2.1, h.2.2.1, fun f r hn i => h.2.2.2 f r (fun q => hn (hp f r q)) i⟩
theorem Frm.sI {P : Nat → Nat → Prop} {σ : St} {f r i : Nat} {v : Int} (h : P f r) : Frm P σ (sI σ f r i v) := ⟨fun _ _ => Eq.refl _, Eq.refl _, Eq.refl _, fun f' r' hn i' => off_sI σ f r i v f' r' i' (fun q => hn (by rw [q.1, q.2.1]; exact h))⟩
theorem Frm.sJ {P : Nat → Nat → Prop} {σ : St} {f r i : Nat} {v : Int64} (h : P f r) : Frm P σ (sJ σ f r i v) := ⟨fun _ _ => Eq.refl _, Eq.refl _, Eq.refl _, fun f' r' hn i' => off_sJ σ f r i v f' r' i' (fun q => hn (by rw [q.1, q.2.1]; exact h))⟩
theorem Frm.sR {P : Nat → Nat → Prop} {σ : St} {f r i : Nat} {v : Option Nat} (h : P f r) : Frm P σ (sR σ f r i v) := ⟨fun _ _ => Eq.refl _, Eq.refl _, Eq.refl _, fun f' r' hn i' => off_sR σ f r i v f' r' i' (fun q => hn (by rw [q.1, q.2.1]; exact h))⟩
/-! the reference's small methods -/
section M1
variable {g : GP} {l : Launch} {d : Nat} {σ : St} {m : Nat}
theorem m_isImage {im : Int} {P : Int → St → Prop} (h : P (if 0 ≤ im ∧ im < gI σ 1200 m 0 then 1 else 0) σ) : ACi g l d MX12_isImage [vR 12 (some m), vI im] σ P := by
  refine AC.of mo_X12_isImage (Nat.le_of_ble_eq_true rfl) (bk_X12_isImage_0 ⟨fun hc => ?_, fun hc => ⟨fun hc2 => ?_, fun hc2 => ?_⟩⟩)
  · exact ⟨_, rfl, by rw [if_neg (by omega)] at h; exact h⟩
  · exact ⟨_, rfl, by rw [if_neg (by omega)] at h; exact h⟩
  · exact ⟨_, rfl, by rw [if_pos (by omega)] at h; exact h⟩
theorem m_cell {im li p : Int} {P : Int → St → Prop} (h1 : 0 ≤ im) (h2 : im < 6) (h3 : 0 ≤ li) (h4 : li < 4) (h5 : 0 ≤ p) (h6 : p < 2000) (h : P ((4 * im + li) * 2000 + p) σ) : ACi g l d MX12_cell [vR 12 (some m), vI im, vI li, vI p] σ P := by
  refine AC.of mo_X12_cell (Nat.le_of_ble_eq_true rfl) (bk_X12_cell_0 ⟨⟨by omega, by omega⟩, ⟨by omega, by omega⟩, ⟨by omega, by omega⟩, ⟨by omega, by omega⟩, ?_⟩)
  exact ⟨_, rfl, h⟩
end M1
