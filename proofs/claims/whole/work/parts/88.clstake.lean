/-! the class's parser within a field: what it takes -/
def DFr (p dd c : Nat) (so : Nat → Nat) (fo : Nat → Nat → Nat) (f r : Nat) : Prop :=
  (r = p ∧ 600 ≤ f ∧ f ≤ 610) ∨ (r = c ∧ f ≤ 2) ∨ (r = dd ∧ 101 ≤ f ∧ f ≤ 109) ∨ (∃ s, s < 20 ∧ r = so s ∧ 802 ≤ f ∧ f ≤ 804) ∨ (∃ s k, s < 20 ∧ k < 14 ∧ r = fo s k ∧ 201 ≤ f ∧ f ≤ 216)
/-- within a field: at token i, ne entries, the field F so far -/
def FS (σ0 σ : St) (p t dd c : Nat) (so : Nat → Nat) (fo : Nat → Nat → Nat) (X : Txt) (En : List Enm) (Ss : List Stc) (Fs : List Fld) (i a ne : Nat) (F : Fld) : Prop :=
  Frm (DFr p dd c so fo) σ0 σ ∧ CS σ p t dd c X i a ∧ ENV σ p dd c so fo En Ss Fs ∧ gR σ 609 p 0 = some (fo Ss.length Fs.length) ∧ FC σ dd c (fo Ss.length Fs.length) F ∧ Fs.length < 14 ∧ gI σ 109 dd 0 = (ne : Int) ∧ ne ≤ i ∧ a ≤ 1 ∧ (F.ki = 3 ∨ F.ki = 6 ∨ F.ki = 9 → gI σ 213 (fo Ss.length Fs.length) 0 + (F.es.length : Int) = (ne : Int))
def ER (σ0 σ : St) (p dd c : Nat) (so : Nat → Nat) (fo : Nat → Nat → Nat) (rr : Nat) (e : Int × Int) : Prop := Frm (DFr p dd c so fo) σ0 σ ∧ FLT σ p e ∧ gR σ 609 p 0 = some rr
section X15
variable {g : GP} {l : Launch} {D : Nat} {σ0 σ : St} {p t dd c : Nat} {so : Nat → Nat} {fo : Nat → Nat → Nat} {X : Txt} {En : List Enm} {Ss : List Stc} {Fs : List Fld} {i a ne : Nat} {F : Fld}
theorem DFr_p (f r : Nat) (h : PFr p f r) : DFr p dd c so fo f r := Or.inl ⟨h.1, by have := h.2; omega, by have := h.2; omega⟩
theorem DFr_r {s k : Nat} (hs : s < 20) (hk : k < 14) (f r : Nat) (h : r = fo s k ∧ 201 ≤ f ∧ f ≤ 216) : DFr p dd c so fo f r := Or.inr (Or.inr (Or.inr (Or.inr ⟨s, k, hs, hk, h⟩)))
theorem DFr_c {s k : Nat} (hs : s < 20) (hk : k < 14) (f r : Nat) (h : CFr p dd c (fo s k) f r) : DFr p dd c so fo f r := by
  rcases h with h | h | h | h
  · exact DFr_p f r h
  · exact Or.inr (Or.inl h)
  · exact Or.inr (Or.inr (Or.inl ⟨h.1, by omega, by omega⟩))
  · exact DFr_r hs hk f r h
theorem FS.T (h : FS σ0 σ p t dd c so fo X En Ss Fs i a ne F) : PT σ p t X i := h.2.1.1
theorem FS.fc (h : FS σ0 σ p t dd c so fo X En Ss Fs i a ne F) : FC σ dd c (fo Ss.length Fs.length) F := h.2.2.2.2.1
theorem FS.env (h : FS σ0 σ p t dd c so fo X En Ss Fs i a ne F) : ENV σ p dd c so fo En Ss Fs := h.2.2.1
theorem FS.r9 (h : FS σ0 σ p t dd c so fo X En Ss Fs i a ne F) : gR σ 609 p 0 = some (fo Ss.length Fs.length) := h.2.2.2.1
theorem FS.k (h : FS σ0 σ p t dd c so fo X En Ss Fs i a ne F) : gI σ 604 p 0 = X.k i := h.2.1.1.2.2.2.2.2.1
theorem FS.v (h : FS σ0 σ p t dd c so fo X En Ss Fs i a ne F) : gJ σ 605 p 0 = X.v i := h.2.1.1.2.2.2.2.2.2.1
theorem FS.ps {σ' : St} {i' a' : Nat} (h : FS σ0 σ p t dd c so fo X En Ss Fs i a ne F) (hF : Frm (PFr p) σ σ') (hT : PT σ' p t X i') (hi : i + a ≤ i' + a') (hi2 : i ≤ i') (ha : a' ≤ 1) : FS σ0 σ' p t dd c so fo X En Ss Fs i' a' ne F := by
  obtain ⟨a1, a2, a3, a4, a5, a6, a7, a8, a9, a10⟩ := h
  refine ⟨a1.trans (hF.mono DFr_p), a2.p hF hT hi hi2, a3.cm a6 (CM.p hF), by rw [hF.R (by simp [PFr])]; exact a4, a5.cp hF, a6, by rw [hF.I (f := 109) (by simp [PFr])]; exact a7, by omega, ha, fun q => ?_⟩
  rw [hF.I (f := 213) (by simp [PFr])]; exact a10 q
theorem FS.r {σ' : St} {F' : Fld} (h : FS σ0 σ p t dd c so fo X En Ss Fs i a ne F) (hF : Frm (fun f r => r = fo Ss.length Fs.length ∧ 201 ≤ f ∧ f ≤ 216) σ σ') (hC : FC σ' dd c (fo Ss.length Fs.length) F') (hx : F'.ki = 3 ∨ F'.ki = 6 ∨ F'.ki = 9 → gI σ' 213 (fo Ss.length Fs.length) 0 + (F'.es.length : Int) = (ne : Int)) : FS σ0 σ' p t dd c so fo X En Ss Fs i a ne F' := by
  obtain ⟨a1, a2, a3, a4, a5, a6, a7, a8, a9, a10⟩ := h
  refine ⟨a1.trans (hF.mono (DFr_r a3.2.2.1 a6)), a2.r hF, a3.cm a6 (CM.r hF), by rw [hF.R (fun q => by omega)]; exact a4, hC, a6, by rw [hF.I (f := 109) (fun q => by omega)]; exact a7, a8, a9, hx⟩
theorem FS.er {σ' : St} {e : Int × Int} (h : FS σ0 σ p t dd c so fo X En Ss Fs i a ne F) (hF : Frm (PFr p) σ σ') (hf : FLT σ' p e) : ER σ0 σ' p dd c so fo (fo Ss.length Fs.length) e := ⟨h.1.trans (hF.mono DFr_p), hf, by rw [hF.R (by simp [PFr])]; exact h.r9⟩
theorem ER.r {σ' : St} {rr : Nat} {e : Int × Int} (h : ER σ0 σ p dd c so fo rr e) {s k : Nat} (hs : s < 20) (hk : k < 14) (hF : Frm (fun f r => r = fo s k ∧ 201 ≤ f ∧ f ≤ 216) σ σ') : ER σ0 σ' p dd c so fo rr e :=
  ⟨h.1.trans (hF.mono (DFr_r hs hk)), ⟨by rw [hF.I (fun q => by omega)]; exact h.2.1.1, by rw [hF.I (fun q => by omega)]; exact h.2.1.2⟩, by rw [hF.R (fun q => by omega)]; exact h.2.2⟩
theorem c_pass6 {P : St → Prop} (hX : X.OK) (hT : PT σ p t X i) (h : ∀ σ', Frm (PFr p) σ σ' → PT σ' p t X (X.nx i) → gJ σ' 610 p 0 = gJ σ 610 p 0 → P σ') : ACv g l D MX6_pass [vR 6 (some p)] σ P := by
  have h3 := hX.h3
  have hK := hX.hKn
  have hT' := hT
  obtain ⟨a1, a2, a3, a4, a5, a6, a7⟩ := hT
  have e0 := a3.1
  refine AC.of mo_X6_pass (Nat.le_of_ble_eq_true rfl) (bk_X6_pass_0 ⟨t, a1, ⟨by omega, by omega⟩, fun q => ⟨rfl, h σ Frm.rfl ?_ rfl⟩, fun q => ⟨⟨by omega, by omega⟩, a2, ⟨by omega, by omega⟩, rfl, ?_⟩⟩)
  · unfold Txt.nx; rw [if_neg (by omega)]; exact hT'
  · have e5 : (gI σ 603 p 0 + 1).toNat = i + 1 := by omega
    have hAt := hT'.at (j := i + 1) (by omega)
    have hF : Frm (PFr p) σ (sJ (sI (sI σ 603 p 0 (gI σ 603 p 0 + 1)) 604 p 0 (gI σ 902 t (gI σ 603 p 0 + 1).toNat)) 605 p 0 (gJ σ 904 t (gI σ 603 p 0 + 1).toNat)) := (Frm.sI (by simp [PFr])).trans ((Frm.sI (by simp [PFr])).trans (Frm.sJ (by simp [PFr])))
    refine h _ hF ?_ (by rw [gJ_sJ, if_neg (by simp)]; rfl)
    have en : X.nx i = i + 1 := if_pos (by omega)
    rw [en]
    refine ⟨by rw [hF.R (by simp [PFr])]; exact a1, hF.lc a2, a3.frm hF (fun f f0 f1 => by simp [PFr]; omega), by omega, ?_, ?_, ?_, ?_⟩
    · rw [gI_sJ, gI_sI, if_neg (by simp), gI_slf, a5]; omega
    · rw [gI_sJ, gI_slf, e5]; exact hAt.1
    · rw [gJ_slf, e5]; exact hAt.2.2
    · rw [gI_sJ, gI_sI, if_neg (by simp), gI_sI, if_neg (by simp)]; exact a7.2
theorem f_pass {P : St → Prop} (hX : X.OK) (h : FS σ0 σ p t dd c so fo X En Ss Fs i a ne F) (hk : ¬ X.k i = 0) (hp : ∀ σ', FS σ0 σ' p t dd c so fo X En Ss Fs (X.nx i) 0 ne F → P σ') : ACv g l D MX6_pass [vR 6 (some p)] σ P := by
  obtain ⟨x1, x2⟩ := nx_gt hX.k0 h.T.2.2.2.1 hk
  have := h.2.2.2.2.2.2.2.2.1
  exact c_pass hX h.T (fun σ' hF hT => hp σ' (h.ps hF hT (by omega) (by omega) (by omega)))
theorem f_take {w : Int} {P : Int → St → Prop} (hD : 1 ≤ D) (hX : X.OK) (h : FS σ0 σ p t dd c so fo X En Ss Fs i a ne F) (hw : ¬ w = 0) (h1 : tk X i w = .ok (X.nx i) → ∀ σ', FS σ0 σ' p t dd c so fo X En Ss Fs (X.nx i) 0 ne F → P 1 σ') (h0 : tk X i w = .error (ck X i 2) → ∀ σ', ER σ0 σ' p dd c so fo (fo Ss.length Fs.length) (ck X i 2) → P 0 σ') : ACi g l D MX6_take [vR 6 (some p), vI w] σ P := by
  obtain ⟨d, rfl⟩ : ∃ d, D = d + 1 := ⟨D - 1, by omega⟩
  have ha := h.2.2.2.2.2.2.2.2.1
  refine c_take hX h.T (fun e σ' hF hT => h1 (if_pos e) σ' ?_) (fun e σ' hF hf => h0 (if_neg e) σ' (h.er hF hf))
  obtain ⟨x1, x2⟩ := nx_gt hX.k0 h.T.2.2.2.1 (by omega : ¬ X.k i = 0)
  exact h.ps hF hT (by omega) (by omega) (by omega)
theorem f_takeIf {w : Int} {P : Int → St → Prop} (hD : 1 ≤ D) (hX : X.OK) (h : FS σ0 σ p t dd c so fo X En Ss Fs i a ne F) (hw : ¬ w = 0) (h1 : X.k i = w → ∀ σ', FS σ0 σ' p t dd c so fo X En Ss Fs (X.nx i) 0 ne F → P 1 σ') (h0 : ¬ X.k i = w → P 0 σ) : ACi g l D MX6_takeIf [vR 6 (some p), vI w] σ P := by
  obtain ⟨d, rfl⟩ : ∃ d, D = d + 1 := ⟨D - 1, by omega⟩
  have ha := h.2.2.2.2.2.2.2.2.1
  refine c_takeIf hX h.T (fun e σ' hF hT => h1 e σ' ?_) h0
  obtain ⟨x1, x2⟩ := nx_gt hX.k0 h.T.2.2.2.1 (by omega : ¬ X.k i = 0)
  exact h.ps hF hT (by omega) (by omega) (by omega)
theorem f_takeNumber {lo hi : Int64} {P : Int → St → Prop} (hD : 1 ≤ D) (hX : X.OK) (h : FS σ0 σ p t dd c so fo X En Ss Fs i a ne F) (h1 : tN X i lo.toInt hi.toInt = .ok (X.nx i, X.v i) → ∀ σ', FS σ0 σ' p t dd c so fo X En Ss Fs (X.nx i) 0 ne F → gJ σ' 610 p 0 = X.v i → P 1 σ') (h0 : ∀ e, tN X i lo.toInt hi.toInt = .error e → ∀ σ', ER σ0 σ' p dd c so fo (fo Ss.length Fs.length) e → P 0 σ') : ACi g l D MX6_takeNumber [vR 6 (some p), vJ lo, vJ hi] σ P := by
  obtain ⟨d, rfl⟩ : ∃ d, D = d + 1 := ⟨D - 1, by omega⟩
  have ek := h.k
  have ev := h.v
  have ha := h.2.2.2.2.2.2.2.2.1
  have hF0 : Frm (PFr p) σ (sJ σ 610 p 0 (gJ σ 605 p 0)) := Frm.sJ (by simp [PFr])
  have hT0 : PT (sJ σ 610 p 0 (gJ σ 605 p 0)) p t X i := h.T
  have s0 := h.ps hF0 hT0 (Nat.le_refl _) (Nat.le_refl _) ha
  have s53 : ∀ (σ1 : St) (y : Int), FS σ0 σ1 p t dd c so fo X En Ss Fs i a ne F → gJ σ1 610 p 0 = X.v i → X.k i = 3 → (y = 1 ∧ (lo.toInt ≤ (X.v i).toInt ∧ (X.v i).toInt ≤ hi.toInt) ∨ y = 0 ∧ ¬ (lo.toInt ≤ (X.v i).toInt ∧ (X.v i).toInt ≤ hi.toInt)) → AW g l (d + 1) MX6_takeNumber 53 [some (vR 6 (some p)), none, none, none, none] [vI y, vR 6 (some p)] σ1 (fun v σ' => ∃ r, v = some (vI r) ∧ P r σ') := by
    intro σ1 y s1 e6 k3 hy
    refine bk_X6_takeNumber_53 ⟨p, rfl, c_check hX s1.T (by omega) (fun q => ⟨fun _ => c_pass6 hX s1.T (fun σ2 hF2 hT2 e2 => ⟨_, rfl, ?_⟩), fun z => absurd z (by decide)⟩) (fun q σ2 hF2 hf => ⟨fun z => absurd rfl z, fun _ => ⟨_, rfl, h0 (ck X i 5) ?_ σ2 (s1.er hF2 hf)⟩⟩)⟩
    · obtain ⟨x1, x2⟩ := nx_gt hX.k0 h.T.2.2.2.1 (by omega : ¬ X.k i = 0)
      refine h1 (by unfold tN; rw [if_pos k3, if_pos (by omega)]) σ2 (s1.ps hF2 hT2 (by omega) (by omega) (by omega)) ?_
      rw [e2]; exact e6
    · unfold tN; rw [if_pos k3, if_neg (by omega)]
  have s22 : ∀ y : Int, (y = 1 ∧ X.k i = 3 ∨ y = 0 ∧ ¬ X.k i = 3) → AW g l (d + 1) MX6_takeNumber 22 [some (vR 6 (some p)), some (vJ lo), none, some (vJ hi), none] [vI y, vR 6 (some p)] (sJ σ 610 p 0 (gJ σ 605 p 0)) (fun v σ' => ∃ r, v = some (vI r) ∧ P r σ') := by
    intro y hy
    refine bk_X6_takeNumber_22 ⟨p, rfl, c_check hX hT0 (by omega) (fun q => ⟨fun z => absurd z (by decide), fun _ => ?_⟩) (fun q σ2 hF2 hf => ⟨fun _ => ⟨_, rfl, h0 (ck X i 2) ?_ σ2 (s0.er hF2 hf)⟩, fun z => absurd rfl z⟩)⟩
    · have e6 : gJ (sJ σ 610 p 0 (gJ σ 605 p 0)) 610 p 0 = X.v i := by rw [gJ_slf, ev]
      rw [e6]
      exact ⟨fun z => s53 _ 0 s0 e6 (by omega) (by omega), fun z => ⟨fun z2 => s53 _ 0 s0 e6 (by omega) (by omega), fun z2 => s53 _ 1 s0 e6 (by omega) (by omega)⟩⟩
    · unfold tN; rw [if_neg (by omega)]
  refine AC.of mo_X6_takeNumber (Nat.le_of_ble_eq_true rfl) (bk_X6_takeNumber_0 ?_)
  rw [ek]
  exact ⟨fun z => s22 0 (by omega), fun z => s22 1 (by omega)⟩
theorem f_takeSigned {P : Int → St → Prop} (hD : 1 ≤ D) (hX : X.OK) (h : FS σ0 σ p t dd c so fo X En Ss Fs i a ne F) (h1 : ∀ j v, tS X i = .ok (j, v) → ∀ σ', FS σ0 σ' p t dd c so fo X En Ss Fs j 0 ne F → gJ σ' 610 p 0 = v → P 1 σ') (h0 : ∀ e, tS X i = .error e → ∀ σ', ER σ0 σ' p dd c so fo (fo Ss.length Fs.length) e → P 0 σ') : ACi g l D MX6_takeSigned [vR 6 (some p)] σ P := by
  obtain ⟨d, rfl⟩ : ∃ d, D = d + 1 := ⟨D - 1, by omega⟩
  have ek := h.k
  have s57 : ∀ (σ1 : St) (j a : Nat) (y : Int) (v : Int64), FS σ0 σ1 p t dd c so fo X En Ss Fs j a ne F → gJ σ1 610 p 0 = v → (X.k j = 3 → tS X i = .ok (X.nx j, v)) → (¬ X.k j = 3 → tS X i = .error (ck X j 2)) → (y = 1 ∧ X.k j = 3 ∨ y = 0 ∧ ¬ X.k j = 3) → AW g l (d + 1) MX6_takeSigned 57 [some (vR 6 (some p)), none] [vI y, vR 6 (some p)] σ1 (fun v σ' => ∃ r, v = some (vI r) ∧ P r σ') := by
    intro σ1 j a y v s1 e6 hok her hy
    have ha := s1.2.2.2.2.2.2.2.2.1
    refine bk_X6_takeSigned_57 ⟨p, rfl, c_check hX s1.T (by omega) (fun q => ⟨fun _ => c_pass6 hX s1.T (fun σ2 hF2 hT2 e2 => ⟨_, rfl, ?_⟩), fun z => absurd z (by decide)⟩) (fun q σ2 hF2 hf => ⟨fun z => absurd rfl z, fun _ => ⟨_, rfl, h0 (ck X j 2) (her (by omega)) σ2 (s1.er hF2 hf)⟩⟩)⟩
    obtain ⟨x1, x2⟩ := nx_gt hX.k0 s1.T.2.2.2.1 (by omega : ¬ X.k j = 0)
    exact h1 (X.nx j) v (hok (by omega)) σ2 (s1.ps hF2 hT2 (by omega) (by omega) (by omega)) (by rw [e2]; exact e6)
  have s23 : ∀ (σ1 : St) (j a : Nat) (x : Int), FS σ0 σ1 p t dd c so fo X En Ss Fs j a ne F → (x = 0 ∧ j = i ∧ ¬ X.k i = 45 ∨ x = 1 ∧ j = X.nx i ∧ X.k i = 45) → AW g l (d + 1) MX6_takeSigned 23 [some (vR 6 (some p)), some (vI x)] [] σ1 (fun v σ' => ∃ r, v = some (vI r) ∧ P r σ') := by
    intro σ1 j a x s1 hx
    have ek1 := s1.k
    have ev1 := s1.v
    have ha := s1.2.2.2.2.2.2.2.2.1
    have set : ∀ v, FS σ0 (sJ σ1 610 p 0 v) p t dd c so fo X En Ss Fs j a ne F := fun v => s1.ps (Frm.sJ (by simp [PFr])) s1.T (Nat.le_refl _) (Nat.le_refl _) ha
    refine bk_X6_takeSigned_23 ?_
    rw [ek1, ev1]
    refine ⟨fun zx => ?_, fun zx => ?_⟩
    · have hok : X.k j = 3 → tS X i = .ok (X.nx j, X.v j) := fun k3 => by
        have e : j = i := by omega
        unfold tS; rw [if_neg (by omega), ← e, if_pos k3]
      have her : ¬ X.k j = 3 → tS X i = .error (ck X j 2) := fun k3 => by
        have e : j = i := by omega
        unfold tS; rw [if_neg (by omega), ← e, if_neg k3]
      exact ⟨fun z => s57 _ j a 0 _ (set _) (gJ_slf _ _ _ _ _) hok her (by omega), fun z => s57 _ j a 1 _ (set _) (gJ_slf _ _ _ _ _) hok her (by omega)⟩
    · have hok : X.k j = 3 → tS X i = .ok (X.nx j, -(X.v j)) := fun k3 => by
        have e : j = X.nx i := by omega
        unfold tS; rw [if_pos (by omega), ← e, if_pos k3]
      have her : ¬ X.k j = 3 → tS X i = .error (ck X j 2) := fun k3 => by
        have e : j = X.nx i := by omega
        unfold tS; rw [if_pos (by omega), ← e, if_neg k3]
      exact ⟨fun z => s57 _ j a 0 _ (set _) (gJ_slf _ _ _ _ _) hok her (by omega), fun z => s57 _ j a 1 _ (set _) (gJ_slf _ _ _ _ _) hok her (by omega)⟩
  refine AC.of mo_X6_takeSigned (Nat.le_of_ble_eq_true rfl) (bk_X6_takeSigned_0 ?_)
  rw [ek]
  exact ⟨fun z => ⟨fun _ => s23 σ i a 0 h (by omega), fun q => absurd rfl q⟩, fun z => ⟨fun q => absurd q (by decide), fun _ => f_pass hX h (by omega) (fun σ1 s1 => s23 σ1 _ 0 1 s1 (by omega))⟩⟩
theorem ty_bits : ∀ n : Nat, n < 64 → i_and (j2i (i2j (n : Int))) 15 = (n : Int) % 16 ∧ ((i2j (n : Int) &&& (16 : Int64)) = (0 : Int64) ↔ (n : Int) / 16 % 2 = 0) ∧ ((i2j (n : Int) &&& (32 : Int64)) = (0 : Int64) ↔ (n : Int) / 32 % 2 = 0) := by decide
theorem Txt.ty {X : Txt} (hX : X.OK) {i : Nat} (hi : i ≤ X.K) (h : X.k i = 4) : ∃ n : Nat, 1 ≤ n ∧ n < 64 ∧ X.v i = i2j (n : Int) ∧ (X.v i).toInt = n := by
  rcases tk_or hX hi with ⟨_, _, _, a⟩ | ⟨_, _, ⟨_, a⟩ | ⟨_, a, _⟩ | ⟨_, _, a, _⟩ | ⟨_, b2, _, b5, _⟩ | ⟨_, _, _, _, _, a⟩⟩
  · omega
  · omega
  · omega
  · omega
  · have t1 := ty_pos b2
    have t2 : tyV X.T (X.q i) (re X.T X.n (X.q i)) ≤ 56 := by
      unfold tyV; split
      · rename_i c; have := c.2.2; split <;> split <;> omega
      · omega
    refine ⟨(tyV X.T (X.q i) (re X.T X.n (X.q i))).toNat, by omega, by omega, by rw [b5, Int.toNat_of_nonneg (by omega)], ?_⟩
    rw [b5, i2j_toInt, w32_id (by omega) (by omega)]
    omega
  · rcases a with a | ⟨j, _, a⟩ <;> omega
theorem f_takeType {P : Int → St → Prop} (hD : 2 ≤ D) (hX : X.OK) (h : FS σ0 σ p t dd c so fo X En Ss Fs i a ne F) (h1 : tT X i = .ok (X.nx i, X.v i) → ∀ σ', FS σ0 σ' p t dd c so fo X En Ss Fs (X.nx i) 0 ne (F.wTy (X.v i)) → P 1 σ') (h0 : tT X i = .error (ck X i 2) → ∀ σ', ER σ0 σ' p dd c so fo (fo Ss.length Fs.length) (ck X i 2) → P 0 σ') : ACi g l D MX6_takeType [vR 6 (some p)] σ P := by
  obtain ⟨d, rfl⟩ : ∃ d, D = d + 1 := ⟨D - 1, by omega⟩
  have ev := h.v
  have s20 := h.env.2.2.1
  have f14 := h.2.2.2.2.2.1
  have h10 := h.2.2.2.2.2.2.2.2.2
  have fr : ∀ x y z : Int, Frm (fun f r => r = fo Ss.length Fs.length ∧ 201 ≤ f ∧ f ≤ 216) σ (sI (sI (sI σ 203 (fo Ss.length Fs.length) 0 x) 204 (fo Ss.length Fs.length) 0 y) 205 (fo Ss.length Fs.length) 0 z) := fun x y z => (Frm.sI (by simp)).trans ((Frm.sI (by simp)).trans (Frm.sI (by simp)))
  have fin : ∀ y z : Int, (X.k i = 4 → y = tsg (X.v i) ∧ z = tbg (X.v i)) → ACi g l d MX6_take [vR 6 (some p), vI 4] (sI (sI (sI σ 203 (fo Ss.length Fs.length) 0 (i_and (j2i (X.v i)) 15)) 204 (fo Ss.length Fs.length) 0 y) 205 (fo Ss.length Fs.length) 0 z) (fun v5 σ4 => ((v5 = 0 ∨ v5 = 1) ∧ ∃ r, some (vI v5) = some (vI r) ∧ P r σ4)) := by
    intro y z hyz
    obtain ⟨d, rfl⟩ : ∃ d', d = d' + 1 := ⟨d - 1, by omega⟩
    have hT1 : PT (sI (sI (sI σ 203 (fo Ss.length Fs.length) 0 (i_and (j2i (X.v i)) 15)) 204 (fo Ss.length Fs.length) 0 y) 205 (fo Ss.length Fs.length) 0 z) p t X i := (h.2.1.r (fr _ _ _)).1
    by_cases k4 : X.k i = 4
    · obtain ⟨n, n1, n2, n3, n4⟩ := Txt.ty hX h.T.2.2.2.1 k4
      have b := (ty_bits n n2).1
      have hC := h.fc.wTy (v := X.v i) (x := i_and (j2i (X.v i)) 15) (y := y) (z := z) (by rw [n3, b]; unfold tw; rw [← n3, n4]) (hyz k4).1 (hyz k4).2
      have s1 := h.r (fr _ _ _) hC (by
        rw [gI_sI, if_neg (by simp), gI_sI, if_neg (by simp), gI_sI, if_neg (by simp)]; exact h10)
      exact f_take (by omega) hX s1 (by decide) (fun e σ' s2 => ⟨Or.inr rfl, _, rfl, h1 (if_pos k4) σ' s2⟩) (fun e => absurd e (by unfold tk; rw [if_pos k4]; simp))
    · refine c_take hX hT1 (fun e => absurd e k4) (fun _ σ' hF hf => ⟨Or.inl rfl, _, rfl, h0 (if_neg k4) σ' ⟨(h.1.trans ((fr _ _ _).mono (DFr_r s20 f14))).trans (hF.mono DFr_p), hf, by rw [hF.R (by simp [PFr]), (fr _ _ _).R (fun q => by omega)]; exact h.r9⟩⟩)
  refine AC.of mo_X6_takeType (Nat.le_of_ble_eq_true rfl) (bk_X6_takeType_0 ⟨_, h.r9, ?_⟩)
  rw [ev]
  have bits : X.k i = 4 → (((X.v i) &&& (16 : Int64)) = (0 : Int64) ↔ (X.v i).toInt / 16 % 2 = 0) ∧ (((X.v i) &&& (32 : Int64)) = (0 : Int64) ↔ (X.v i).toInt / 32 % 2 = 0) := fun k4 => by
    obtain ⟨n, n1, n2, n3, n4⟩ := Txt.ty hX h.T.2.2.2.1 k4
    have b := (ty_bits n n2).2
    rw [n4, n3]; exact b
  refine AC.of mo_X2_setType (Nat.le_of_ble_eq_true rfl) (bk_X2_setType_0 ⟨fun z1 => bk_X2_setType_25 ⟨_, rfl, Or.inl rfl, fun z2 => ⟨rfl, fin 0 0 (fun k4 => ⟨?_, ?_⟩)⟩, fun z2 => ⟨rfl, fin 0 1 (fun k4 => ⟨?_, ?_⟩)⟩⟩, fun z1 => bk_X2_setType_25 ⟨_, rfl, Or.inr rfl, fun z2 => ⟨rfl, fin 1 0 (fun k4 => ⟨?_, ?_⟩)⟩, fun z2 => ⟨rfl, fin 1 1 (fun k4 => ⟨?_, ?_⟩)⟩⟩⟩)
  · exact (if_pos ((bits k4).1.mp z1)).symm
  · exact (if_pos ((bits k4).2.mp z2)).symm
  · exact (if_pos ((bits k4).1.mp z1)).symm
  · exact (if_neg (fun q => z2 ((bits k4).2.mpr q))).symm
  · exact (if_neg (fun q => z1 ((bits k4).1.mpr q))).symm
  · exact (if_pos ((bits k4).2.mp z2)).symm
  · exact (if_neg (fun q => z1 ((bits k4).1.mpr q))).symm
  · exact (if_neg (fun q => z2 ((bits k4).2.mpr q))).symm
end X15
