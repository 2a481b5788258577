/-! the class reads a description -/
theorem mid_q {α : Type} {A B : List α} {x y : α} {s : Nat} (h : (A ++ x :: B)[s]? = some y) : (s = A.length ∧ y = x) ∨ (¬ s = A.length ∧ ∀ x', (A ++ x' :: B)[s]? = some y) := by
  by_cases e : s = A.length
  · left
    rw [e, List.getElem?_append_right (Nat.le_refl _), Nat.sub_self] at h
    cases h
    exact ⟨e, rfl⟩
  · right
    refine ⟨e, fun x' => ?_⟩
    by_cases lt : s < A.length
    · rw [List.getElem?_append_left lt] at h ⊢; exact h
    · rw [List.getElem?_append_right (by omega)] at h ⊢
      obtain ⟨k, hk⟩ : ∃ k, s - A.length = k + 1 := ⟨s - A.length - 1, by omega⟩
      rw [hk] at h ⊢
      exact h
theorem mid_at {α : Type} {A B : List α} {x : α} : (A ++ x :: B)[A.length]? = some x := by
  rw [List.getElem?_append_right (Nat.le_refl _), Nat.sub_self]; rfl
section X29
variable {g : GP} {l : Launch} {d : Nat} {σ0 σ : St} {p t dd c : Nat} {so : Nat → Nat} {fo : Nat → Nat → Nat} {X : Txt} {En : List Enm}
theorem DCo.set {A B : List Stc} {fa fb : List Fld} {F F' : Fld} {nm : Int64} {sz : Int} {σ' : St} (hS : DSh σ dd so fo) (h : DCo σ dd c so fo En (A ++ (nm, fa ++ F :: fb, sz) :: B)) (hF : Frm (fun f r => r = fo A.length fa.length ∧ f = 206) σ σ') (hC : FC σ' dd c (fo A.length fa.length) F') : DCo σ' dd c so fo En (A ++ (nm, fa ++ F' :: fb, sz) :: B) := by
  obtain ⟨a1, a2, a3, a4, a5, a6⟩ := h
  have hM := Mo.frm (dd := dd) (c := c) hF (fun f hf q => by omega) (fun f f0 f1 q => by omega)
  have el : (A ++ (nm, fa ++ F' :: fb, sz) :: B).length = (A ++ (nm, fa ++ F :: fb, sz) :: B).length := by rw [List.length_append, List.length_append]; rfl
  have fl : (fa ++ F' :: fb).length = (fa ++ F :: fb).length := by rw [List.length_append, List.length_append]; rfl
  obtain ⟨m1, m2, m3, m4, m5⟩ := a6 A.length _ mid_at
  have m4 : (fa ++ F :: fb).length ≤ 14 := m4
  have lA : A.length < 20 := by rw [List.length_append] at a2; have : A.length + (B.length + 1) ≤ 20 := a2; omega
  have lf : fa.length < 14 := by rw [List.length_append] at m4; have : fa.length + (fb.length + 1) ≤ 14 := m4; omega
  refine ⟨by rw [hF.I (fun q => by omega), el]; exact a1, by rw [el]; exact a2, by rw [hF.I (fun q => by omega)]; exact a3, a4, fun e E hE => ?_, fun s S hs => ?_⟩
  · obtain ⟨b1, b2⟩ := a5 e E hE
    exact ⟨by rw [hF.J (fun q => by omega)]; exact b1, by rw [hF.I (f := 103) (fun q => by omega), hF.I (f := 104) (fun q => by omega)]; exact b2.mo hM⟩
  · have s20 : s < 20 := by have := (List.getElem?_eq_some_iff.mp hs).1; omega
    rcases mid_q hs with ⟨rfl, rfl⟩ | ⟨ne, hq⟩
    · refine ⟨by rw [hF.J (fun q => by omega)]; exact m1, by rw [hF.I (fun q => by omega)]; show _ = ((fa ++ F' :: fb).length : Int); rw [fl]; exact m2, by rw [hF.I (fun q => by omega)]; exact m3, by show (fa ++ F' :: fb).length ≤ 14; omega, fun k G hG => ?_⟩
      rcases mid_q hG with ⟨rfl, rfl⟩ | ⟨nk, hk⟩
      · exact hC
      · have k14 : k < 14 := by have := (List.getElem?_eq_some_iff.mp hG).1; have : k < (fa ++ F' :: fb).length := this; omega
        exact (m5 k G (hk F)).frm hF (fun f f0 f1 q => by have := hS.2.2 A.length A.length k fa.length lA lA k14 lf q.1; omega) hM
    · obtain ⟨b1, b2, b3, b4, b5⟩ := a6 s S (hq _)
      refine ⟨by rw [hF.J (fun q => by omega)]; exact b1, by rw [hF.I (fun q => by omega)]; exact b2, by rw [hF.I (fun q => by omega)]; exact b3, b4, fun k G hG => ?_⟩
      have k14 : k < 14 := by have := (List.getElem?_eq_some_iff.mp hG).1; omega
      exact (b5 k G hG).frm hF (fun f f0 f1 q => by have := hS.2.2 s A.length k fa.length s20 lA k14 lf q.1; omega) hM
theorem x_findAims {Ss : List Stc} {P : Int → St → Prop} (h6 : gR σ 606 p 0 = some dd) (hL1 : LC 1 σ dd) (hS : DSh σ dd so fo) (hD : DCo σ dd c so fo En Ss) (h1 : ∀ S', aimS (Ss.map (fun s => s.1)) Ss = .ok S' → ∀ σ', Frm (fun f r => f = 206 ∧ ∃ s k, s < 20 ∧ k < 14 ∧ r = fo s k) σ σ' → DSh σ' dd so fo → DCo σ' dd c so fo En S' → P 1 σ')
    (h0 : ∀ e, aimS (Ss.map (fun s => s.1)) Ss = .error e → ∀ σ', Frm (fun f r => (f = 206 ∧ ∃ s k, s < 20 ∧ k < 14 ∧ r = fo s k) ∨ (r = p ∧ (f = 600 ∨ f = 601))) σ σ' → FLT σ' p e → P 0 σ') : ACi g l (d + 2) MX6_findAims [vR 6 (some p)] σ P := by
  have n20 := hD.2.1
  have outer : ∀ (B A : List Stc) (τ : St), A.length + B.length = Ss.length → (A ++ B).map (fun s => s.1) = Ss.map (fun s => s.1) → Frm (fun f r => f = 206 ∧ ∃ s k, s < 20 ∧ k < 14 ∧ r = fo s k) σ τ → DCo τ dd c so fo En (A ++ B) → aimS (Ss.map (fun s => s.1)) Ss = bx (aimS (Ss.map (fun s => s.1)) B) (fun b => .ok (A ++ b)) → AW g l (d + 2) MX6_findAims 2 [some (vR 6 (some p)), some (vI (A.length : Int)), none, none] [] τ (fun v σ' => ∃ r, v = some (vI r) ∧ P r σ') := by
    intro B
    induction B with
    | nil =>
      intro A τ hl hm hF hC hr
      have hl : A.length + 0 = Ss.length := hl
      rw [List.append_nil] at hC
      refine bk_X6_findAims_2 ⟨dd, by rw [hF.R (fun q => by omega)]; exact h6, fun _ => ⟨_, rfl, h1 A ?_ τ hF (hS.gen hF (fun f r z q => by omega)) hC⟩, fun q => absurd (by rw [hC.1]; omega) q⟩
      rw [hr, aimS, bx_ok, List.append_nil]
    | cons S B ih =>
      intro A τ hl hm hF hC hr
      have hl : A.length + (B.length + 1) = Ss.length := hl
      have e1 : gI τ 101 dd 0 = ((A ++ S :: B).length : Int) := hC.1
      have eln : (A ++ S :: B).length = Ss.length := by rw [List.length_append]; exact hl
      have hSt := hS.gen hF (fun f r z q => by omega)
      obtain ⟨b1, b2, b3⟩ := hSt.1 A.length (by omega)
      refine bk_X6_findAims_2 ⟨dd, by rw [hF.R (fun q => by omega)]; exact h6, fun q => absurd q (by rw [e1]; omega), fun _ => ⟨hF.lc hL1, ⟨by omega, by omega⟩, ?_⟩⟩
      rw [show ((A.length : Int)).toNat = A.length by omega, b1]
      obtain ⟨nm, fs, sz⟩ := S
      have inner : ∀ (fb fa : List Fld) (τ1 : St), fa.length + fb.length = fs.length → Frm (fun f r => f = 206 ∧ ∃ s k, s < 20 ∧ k < 14 ∧ r = fo s k) σ τ1 → DCo τ1 dd c so fo En (A ++ (nm, fa ++ fb, sz) :: B) → aimS (Ss.map (fun s => s.1)) Ss = bx (aimF (Ss.map (fun s => s.1)) fb) (fun a => bx (aimS (Ss.map (fun s => s.1)) B) (fun b => .ok (A ++ (nm, fa ++ a, sz) :: b))) → AW g l (d + 2) MX6_findAims 25 [some (vR 6 (some p)), some (vI (A.length : Int)), some (vR 8 (some (so A.length))), some (vI (fa.length : Int))] [] τ1 (fun v σ' => ∃ r, v = some (vI r) ∧ P r σ') := by
        intro fb
        induction fb with
        | nil =>
          intro fa τ1 hfl hF1 hC1 hr1
          have hfl : fa.length + 0 = fs.length := hfl
          rw [List.append_nil] at hC1
          have sc := hC1.2.2.2.2.2 A.length _ mid_at
          have e802 : gI τ1 802 (so A.length) 0 = (fa.length : Int) := sc.2.1
          refine bk_X6_findAims_25 ⟨so A.length, rfl, fun _ => ⟨⟨by omega, by omega⟩, ?_⟩, fun q => absurd (by rw [e802]; omega) q⟩
          have := ih (A ++ [(nm, fa, sz)]) τ1 (by rw [app_l]; omega) (by
            rw [← hm]
            simp) hF1 (by rw [List.append_assoc]; exact hC1) (by
            rw [hr1, aimF, bx_ok, List.append_nil]
            cases aimS (Ss.map (fun s => s.1)) B with
            | error e => rfl
            | ok b => rw [bx_ok, bx_ok, List.append_assoc]; rfl)
          rw [app_l] at this
          exact this
        | cons F fb ihf =>
          intro fa τ1 hfl hF1 hC1 hr1
          have hfl : fa.length + (fb.length + 1) = fs.length := hfl
          have sc := hC1.2.2.2.2.2 A.length _ mid_at
          have e802 : gI τ1 802 (so A.length) 0 = ((fa ++ F :: fb).length : Int) := sc.2.1
          have e14 : (fa ++ F :: fb).length ≤ 14 := sc.2.2.2.1
          have efl : (fa ++ F :: fb).length = fa.length + (fb.length + 1) := by rw [List.length_append]; rfl
          have hS1 := hS.gen hF1 (fun f r z q => by omega)
          obtain ⟨c1, c2, c3⟩ := hS1.1 A.length (by omega)
          obtain ⟨d1, d2⟩ := c3 fa.length (by omega)
          have fc : FC τ1 dd c (fo A.length fa.length) F := sc.2.2.2.2 fa.length F mid_at
          have next : ∀ (F' : Fld) (τ2 : St), Frm (fun f r => f = 206 ∧ ∃ s k, s < 20 ∧ k < 14 ∧ r = fo s k) σ τ2 → DCo τ2 dd c so fo En (A ++ (nm, fa ++ F' :: fb, sz) :: B) → aim (Ss.map (fun s => s.1)) F = .ok F' → R32 ((fa.length : Int) + 1) ∧ AW g l (d + 2) MX6_findAims 25 [some (vR 6 (some p)), some (vI (A.length : Int)), some (vR 8 (some (so A.length))), some (vI ((fa.length : Int) + 1))] [] τ2 (fun v σ' => ∃ r, v = some (vI r) ∧ P r σ') := by
            intro F' τ2 hF2 hC2 ha
            refine ⟨⟨by omega, by omega⟩, ?_⟩
            have := ihf (fa ++ [F']) τ2 (by rw [app_l]; omega) hF2 (by rw [List.append_assoc]; exact hC2) (by
              rw [hr1, aimF, ha, bx_ok]
              cases aimF (Ss.map (fun s => s.1)) fb with
              | error e => rfl
              | ok a =>
                rw [bx_ok, bx_ok, bx_ok]
                cases aimS (Ss.map (fun s => s.1)) B with
                | error e => rfl
                | ok b => rw [bx_ok, bx_ok, List.append_assoc]; rfl)
            rw [app_l] at this
            exact this
          refine bk_X6_findAims_25 ⟨so A.length, rfl, fun q => absurd q (by rw [e802]; omega), fun _ => ⟨c2, ⟨by omega, by omega⟩, fo A.length fa.length, by rw [show ((fa.length : Int)).toNat = fa.length by omega]; exact d1, ?_⟩⟩
          rw [fc.ki, show ((fa.length : Int)).toNat = fa.length by omega, d1]
          refine ⟨fun k7 => next F τ1 hF1 hC1 (by unfold aim; rw [if_neg k7]), fun k7 => ?_⟩
          refine AC.of mo_X6_findAim (Nat.le_of_ble_eq_true rfl) (bk_X6_findAim_0 ⟨fo A.length fa.length, rfl, dd, by rw [hF1.R (fun q => by omega)]; exact h6, ?_⟩)
          rw [fc.an]
          have en : (A ++ (nm, fa ++ F :: fb, sz) :: B).map (fun s => s.1) = Ss.map (fun s => s.1) := by
            rw [← hm]; simp
          refine x_structNamed (hF1.lc hL1) hS1 hC1 ?_
          rw [en]
          have hFw : ∀ v, Frm (fun f r => r = fo A.length fa.length ∧ f = 206) τ1 (sI τ1 206 (fo A.length fa.length) 0 v) := fun v => Frm.sI (by simp)
          have hFm : ∀ v, Frm (fun f r => f = 206 ∧ ∃ s k, s < 20 ∧ k < 14 ∧ r = fo s k) σ (sI τ1 206 (fo A.length fa.length) 0 v) := fun v => hF1.trans ((hFw v).mono (fun f r z => ⟨z.2, A.length, fa.length, by omega, by omega, z.1⟩))
          refine ⟨fun q => ⟨_, rfl, fun _ => next (F.wSt (idx (Ss.map (fun s => s.1)) F.an 0)) _ (hFm _) (hC1.set hS1 (hFw _) fc.wSt) ?_, fun z => absurd z (by decide)⟩, fun q => ⟨_, rfl, fun z => absurd rfl z, fun _ => ⟨_, rfl, h0 (4, F.ap) ?_ _ ?_ ⟨?_, ?_⟩⟩⟩⟩
          · unfold aim; rw [if_pos k7, if_neg q]
          · rw [hr1, aimF]
            have : aim (Ss.map (fun s => s.1)) F = .error (4, F.ap) := by unfold aim; rw [if_pos k7, if_pos q]
            rw [this, bx_er, bx_er]
          · exact ((hFm _).mono (fun f r z => Or.inl z)).trans ((Frm.sI (by simp)).trans (Frm.sI (by simp)))
          · rw [gI_sI, if_neg (by simp), gI_slf]
          · rw [gI_slf]; exact fc.ap
      exact inner fs [] τ (by show 0 + fs.length = fs.length; omega) hF hC (by
        rw [hr, aimS]
        cases aimF (Ss.map (fun s => s.1)) fs with
        | error e => rfl
        | ok a =>
          rw [bx_ok, bx_ok]
          cases aimS (Ss.map (fun s => s.1)) B with
          | error e => rfl
          | ok b => rfl)
  exact AC.of mo_X6_findAims (Nat.le_of_ble_eq_true rfl) (bk_X6_findAims_0 (outer Ss [] σ (by show 0 + Ss.length = Ss.length; omega) rfl Frm.rfl hD (by
    cases aimS (Ss.map (fun s => s.1)) Ss with
    | error e => rfl
    | ok b => rfl)))
end X29
