/-! the class's fields: writes of the field that is told -/
def RQ (σ0 : St) (p t dd c : Nat) (so : Nat → Nat) (fo : Nat → Nat → Nat) (X : Txt) (En : List Enm) (Ss : List Stc) (Fs : List Fld) (r : Rd (Nat × Fld)) (v : Int) (σ : St) : Prop :=
  match r with
  | .ok q => v = 1 ∧ ∃ a ne, FS σ0 σ p t dd c so fo X En Ss Fs q.1 a ne q.2
  | .error e => v = 0 ∧ ER σ0 σ p dd c so fo (fo Ss.length Fs.length) e
section X19
variable {g : GP} {l : Launch} {D : Nat} {σ0 σ : St} {p t dd c : Nat} {so : Nat → Nat} {fo : Nat → Nat → Nat} {X : Txt} {En : List Enm} {Ss : List Stc} {Fs : List Fld} {i a ne : Nat} {F : Fld}
theorem FS.wI {f : Nat} {v : Int} {F' : Fld} (h : FS σ0 σ p t dd c so fo X En Ss Fs i a ne F) (hf : 201 ≤ f ∧ f ≤ 216 ∧ ¬ f = 213) (hC : FC (sI σ f (fo Ss.length Fs.length) 0 v) dd c (fo Ss.length Fs.length) F') (e1 : F'.ki = F.ki) (e2 : F'.es = F.es) : FS σ0 (sI σ f (fo Ss.length Fs.length) 0 v) p t dd c so fo X En Ss Fs i a ne F' :=
  h.r (Frm.sI ⟨rfl, hf.1, hf.2.1⟩) hC (fun q => by
    rw [e1] at q
    rw [e2, gI_sI, if_neg (fun z => hf.2.2 z.1.symm)]; exact h.2.2.2.2.2.2.2.2.2 q)
theorem FS.wJ {f : Nat} {v : Int64} {F' : Fld} (h : FS σ0 σ p t dd c so fo X En Ss Fs i a ne F) (hf : 201 ≤ f ∧ f ≤ 216) (hC : FC (sJ σ f (fo Ss.length Fs.length) 0 v) dd c (fo Ss.length Fs.length) F') (e1 : F'.ki = F.ki) (e2 : F'.es = F.es) : FS σ0 (sJ σ f (fo Ss.length Fs.length) 0 v) p t dd c so fo X En Ss Fs i a ne F' :=
  h.r (Frm.sJ ⟨rfl, hf.1, hf.2⟩) hC (fun q => by
    rw [e1] at q
    rw [e2, gI_sJ]; exact h.2.2.2.2.2.2.2.2.2 q)
theorem FS.wK {v : Int} (h : FS σ0 σ p t dd c so fo X En Ss Fs i a ne F) (hv : ¬ (v = 3 ∨ v = 6 ∨ v = 9)) : FS σ0 (sI σ 201 (fo Ss.length Fs.length) 0 v) p t dd c so fo X En Ss Fs i a ne (F.wKi v) :=
  h.r (Frm.sI (by simp)) h.fc.wKi (fun q => absurd q hv)
theorem FS.wK3 {v w : Int} (h : FS σ0 σ p t dd c so fo X En Ss Fs i a ne F) (he : F.es = []) (hw : w = gI σ 109 dd 0) : FS σ0 (sI (sI σ 201 (fo Ss.length Fs.length) 0 v) 213 (fo Ss.length Fs.length) 0 w) p t dd c so fo X En Ss Fs i a ne (F.wKi v) := by
  have h7 := h.2.2.2.2.2.2.1
  refine h.r ((Frm.sI (by simp)).trans (Frm.sI (by simp))) (FC.e0 (h.fc.wKi (v := v)) (by rw [gI_sI, if_neg (by simp)]; exact hw) he (by omega)) (fun q => ?_)
  rw [gI_slf]
  show w + (F.es.length : Int) = ne
  rw [he, hw, h7]
  show (ne : Int) + 0 = ne
  omega
theorem f_addEntry {x1 x3 : Int64} {x5 : Int} {P : St → Prop} (h : FS σ0 σ p t dd c so fo X En Ss Fs i a ne F) (h3 : ne < 3000) (hp : P (sI (sI (sJ (sJ σ 106 dd ne x1) 107 dd ne x3) 108 dd ne x5) 109 dd 0 ((ne : Int) + 1))) : ACv g l D MX1_addEntry [vR 1 (some dd), vJ x1, vJ x3, vI x5] σ P := by
  have h7 := h.2.2.2.2.2.2.1
  refine AC.of mo_X1_addEntry (Nat.le_of_ble_eq_true rfl) (bk_X1_addEntry_0 ⟨fun q => absurd q (by omega), fun _ => ⟨h.2.1.2.2.2.1, ⟨by omega, by omega⟩, ⟨by omega, by omega⟩, rfl, ?_⟩⟩)
  rw [h7, show ((ne : Int)).toNat = ne by omega]
  exact hp
theorem FS.add {x1 x3 : Int64} {x5 v : Int} (h : FS σ0 σ p t dd c so fo X En Ss Fs i a ne F) (hk : F.ki = 3 ∨ F.ki = 6 ∨ F.ki = 9) (hi : ne + 1 ≤ i) (hv : v = (F.es.length : Int) + 1) : FS σ0 (sI (sI (sI (sJ (sJ σ 106 dd ne x1) 107 dd ne x3) 108 dd ne x5) 109 dd 0 ((ne : Int) + 1)) 214 (fo Ss.length Fs.length) 0 v) p t dd c so fo X En Ss Fs i a (ne + 1) (F.wEs (F.es ++ [(x1, x3, x5)])) := by
  obtain ⟨a1, a2, a3, a4, a5, a6, a7, a8, a9, a10⟩ := h
  obtain ⟨b1, b2, b3, b4, b5, b6, b7⟩ := a2
  have st := a10 hk
  have hF1 : Frm (fun f r => r = dd ∧ 106 ≤ f ∧ f ≤ 109) σ (sI (sI (sJ (sJ σ 106 dd ne x1) 107 dd ne x3) 108 dd ne x5) 109 dd 0 ((ne : Int) + 1)) := (Frm.sJ (by simp)).trans ((Frm.sJ (by simp)).trans ((Frm.sI (by simp)).trans (Frm.sI (by simp))))
  have m1 : Mo σ (sI (sI (sJ (sJ σ 106 dd ne x1) 107 dd ne x3) 108 dd ne x5) 109 dd 0 ((ne : Int) + 1)) dd c := by
    refine ⟨by rw [hF1.I (f := 2) (fun q => by omega)]; omega, fun j _ => ⟨hF1.I (f := 0) (fun q => by omega) j, hF1.J (f := 1) (fun q => by omega) j⟩, by rw [gI_slf]; omega, fun j hj => ?_⟩
    simp only [gI_sI, gI_sJ, gJ_sI, gJ_sJ, true_and, false_and, if_false, Nat.reduceEqDiff]
    have ne' : ¬ j = ne := by omega
    simp only [if_neg ne', and_self]
  have cm1 : CM σ (sI (sI (sJ (sJ σ 106 dd ne x1) 107 dd ne x3) 108 dd ne x5) 109 dd 0 ((ne : Int) + 1)) p dd c (fo Ss.length Fs.length) := ⟨hF1.mono (fun f r q => Or.inr (Or.inr (Or.inl q))), m1⟩
  have hF2 : Frm (fun f r => r = fo Ss.length Fs.length ∧ 201 ≤ f ∧ f ≤ 216) (sI (sI (sJ (sJ σ 106 dd ne x1) 107 dd ne x3) 108 dd ne x5) 109 dd 0 ((ne : Int) + 1)) (sI (sI (sI (sJ (sJ σ 106 dd ne x1) 107 dd ne x3) 108 dd ne x5) 109 dd 0 ((ne : Int) + 1)) 214 (fo Ss.length Fs.length) 0 v) := Frm.sI (by simp)
  have hF3 := (hF1.mono (P' := fun f _ => (106 ≤ f ∧ f ≤ 109) ∨ (201 ≤ f ∧ f ≤ 216)) (fun f r q => Or.inl q.2)).trans (hF2.mono (fun f r q => Or.inr q.2))
  have cm := cm1.trans (CM.r (p := p) (c := c) (dd := dd) hF2)
  have fc1 := a5.frm hF1 (fun f f0 f1 q => by omega) m1
  obtain ⟨f1, f2, f3, f4, f5, f6, f7, f8, f9, f10, f11, f12, f13, f14, f15⟩ := fc1
  have e9 : gI (sI (sI (sI (sJ (sJ σ 106 dd ne x1) 107 dd ne x3) 108 dd ne x5) 109 dd 0 ((ne : Int) + 1)) 214 (fo Ss.length Fs.length) 0 v) 109 dd 0 = (ne : Int) + 1 := by rw [gI_sI, if_neg (by simp), gI_slf]
  have s13 : gI (sI (sI (sI (sJ (sJ σ 106 dd ne x1) 107 dd ne x3) 108 dd ne x5) 109 dd 0 ((ne : Int) + 1)) 214 (fo Ss.length Fs.length) 0 v) 213 (fo Ss.length Fs.length) 0 = gI σ 213 (fo Ss.length Fs.length) 0 := by
    rw [hF2.2.2.2 |> fun _ => gI_sI, if_neg (by simp)]; exact hF1.I (fun q => by omega) 0
  obtain ⟨bb, q1, q2, q3, q4⟩ := a5.es
  refine ⟨a1.trans (cm.1.mono (DFr_c a3.2.2.1 a6)), ⟨b1.frm hF3 (fun f f0 f1 q => by omega) (fun f f0 f1 q => by omega), by rw [cm.1.R (CFr_no (by omega))]; exact b2, by rw [cm.1.R (CFr_no (by omega))]; exact b3, cm.1.lc b4, cm.1.lc b5, ?_, ne + 1, by rw [e9]; omega, by omega⟩, a3.cm a6 cm, by rw [cm.1.R (CFr_no (by omega))]; exact a4, ⟨f1, f2, f3, f4, f5, f6, f7, f8, f9, f10, f11, f12, ?_, f14, f15⟩, a6, by rw [e9]; omega, by omega, a9, fun _ => ?_⟩
  · obtain ⟨nc, c1, c2⟩ := b6
    exact ⟨nc, c1, c2⟩
  · refine ⟨bb, by rw [s13]; exact q1, by rw [gI_slf, app_l, hv]; omega, by rw [e9, app_l]; omega, fun j e he => ?_⟩
    simp only [gI_sI, gI_sJ, gJ_sI, gJ_sJ, true_and, false_and, if_false, Nat.reduceEqDiff]
    rcases app_q he with ⟨z, y⟩ | ⟨z, rfl⟩
    · have n1 : ¬ bb + j = ne := by omega
      simp only [if_neg n1]
      exact q4 j e y
    · have n1 : bb + j = ne := by omega
      simp only [if_pos n1, and_self]
  · rw [s13, app_l]; omega
end X19
