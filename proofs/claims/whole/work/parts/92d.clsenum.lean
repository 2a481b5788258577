/-! the class's enums -/
theorem DCo.en {P : Nat → Nat → Prop} {σ σ' : St} {dd c : Nat} {so : Nat → Nat} {fo : Nat → Nat → Nat} {En : List Enm} {Ss : List Stc} (h : DCo σ dd c so fo En Ss) (hF : Frm P σ σ') (hM : Mo σ σ' dd c) (hP : ∀ f r, P f r → 102 ≤ f ∧ f ≤ 109 ∧ ¬ f = 105) (ha : ∀ e', e' < En.length → gJ σ' 102 dd e' = gJ σ 102 dd e' ∧ gI σ' 103 dd e' = gI σ 103 dd e' ∧ gI σ' 104 dd e' = gI σ 104 dd e') : DCo σ' dd c so fo En Ss := by
  have n : ∀ f r, (f ≤ 101 ∨ f = 105 ∨ 110 ≤ f) → ¬ P f r := fun f r z q => by have := hP f r q; omega
  obtain ⟨a1, a2, a3, a4, a5, a6⟩ := h
  refine ⟨by rw [hF.I (n _ _ (by omega))]; exact a1, a2, by rw [hF.I (n _ _ (by omega))]; exact a3, a4, fun e E hE => ?_, fun s S hS => ?_⟩
  · obtain ⟨b1, b2⟩ := a5 e E hE
    obtain ⟨c1, c2, c3⟩ := ha e (List.getElem?_eq_some_iff.mp hE).1
    exact ⟨by rw [c1]; exact b1, by rw [c2, c3]; exact b2.mo hM⟩
  · obtain ⟨b1, b2, b3, b4, b5⟩ := a6 s S hS
    exact ⟨by rw [hF.J (n _ _ (by omega))]; exact b1, by rw [hF.I (n _ _ (by omega))]; exact b2, by rw [hF.I (n _ _ (by omega))]; exact b3, b4, fun k F hk => (b5 k F hk).frm hF (fun f f0 f1 => n f _ (by omega)) hM⟩
/-- within an enum -/
def EP (σ0 σ : St) (p t dd c : Nat) (so : Nat → Nat) (fo : Nat → Nat → Nat) (X : Txt) (En : List Enm) (Ss : List Stc) (i ne : Nat) (nm : Int64) (Ps : List Ent) : Prop :=
  IG σ0 σ p t dd c so fo X En Ss i ∧ En.length < 8 ∧ gJ σ 102 dd En.length = nm ∧ EC σ dd (gI σ 103 dd En.length) (gI σ 104 dd En.length) Ps ∧ gI σ 109 dd 0 = (ne : Int) ∧ gI σ 103 dd En.length + (Ps.length : Int) = ne ∧ ne ≤ i
section X27
variable {g : GP} {l : Launch} {D : Nat} {σ0 σ : St} {p t dd c : Nat} {so : Nat → Nat} {fo : Nat → Nat → Nat} {X : Txt} {En : List Enm} {Ss : List Stc} {i ne : Nat} {nm : Int64} {Ps : List Ent}
theorem EP.ps {σ' : St} {i' : Nat} (h : EP σ0 σ p t dd c so fo X En Ss i ne nm Ps) (hF : Frm (PFr p) σ σ') (hT : PT σ' p t X i') (hi : i ≤ i') : EP σ0 σ' p t dd c so fo X En Ss i' ne nm Ps := by
  obtain ⟨a1, a2, a3, a4, a5, a6, a7⟩ := h
  have n : ∀ f r, (f ≤ 599 ∨ 611 ≤ f) → ¬ PFr p f r := fun f r z q => by have := q.2; omega
  exact ⟨a1.ps hF hT hi, a2, by rw [hF.J (n _ _ (by omega))]; exact a3, by rw [hF.I (n 103 _ (by omega)), hF.I (n 104 _ (by omega))]; exact a4.mo (CM.p (r0 := 0) (c := c) hF).2, by rw [hF.I (n _ _ (by omega))]; exact a5, by rw [hF.I (n _ _ (by omega))]; exact a6, by omega⟩
theorem c_pair {P : Int → St → Prop} (hD : 3 ≤ D) (hX : X.OK) (h : EP σ0 σ p t dd c so fo X En Ss i ne nm Ps) (hl : Ps.length ≤ 10) (h1 : ∀ r, rPair X Ps i = .ok r → ∀ σ', EP σ0 σ' p t dd c so fo X En Ss r.1 (ne + 1) nm r.2 → P 1 σ') (h0 : ∀ e, rPair X Ps i = .error e → ∀ σ', EG2 σ0 σ' p dd c so fo e → P 0 σ') : ACi g l D MX6_readPair [vR 6 (some p), vI (En.length : Int)] σ P := by
  obtain ⟨d, rfl⟩ : ∃ d, D = d + 1 := ⟨D - 1, by omega⟩
  have h' := h
  obtain ⟨a1, a2, a3, a4, a5, a6, a7⟩ := h
  have hT := a1.2.1.1
  have ek := hT.2.2.2.2.2.1
  have ev := hT.2.2.2.2.2.2.1
  have iK := hT.2.2.2.1
  have h3 := hX.h3
  have hKn := hX.hKn
  have a4' := a4
  obtain ⟨bb, q1, q2, q3, q4⟩ := a4
  have s93 : ∀ y : Int, X.k i = 2 → idx (Ps.map (fun e => e.1)) (X.v i) 0 = -1 → (y = 1 ∧ Ps.length < 10 ∨ y = 0 ∧ ¬ Ps.length < 10) → AW g l (d + 1) MX6_readPair 93 [some (vR 6 (some p)), some (vI (En.length : Int)), some (vJ (X.v i)), none, none] [vI y, vR 6 (some p)] σ (fun v σ' => ∃ r, v = some (vI r) ∧ P r σ') := by
    intro y k2 ix hy
    obtain ⟨x1, x2⟩ := nx_gt hX.k0 iK (by omega : ¬ X.k i = 0)
    refine bk_X6_readPair_93 ⟨p, rfl, c_check hX hT (by omega) (fun q => ⟨fun _ => c_pass hX hT (fun σ1 hF1 hT1 => ?_), fun z => absurd z (by decide)⟩) (fun q σ2 hF2 hf => ⟨fun z => absurd rfl z, fun _ => ⟨_, rfl, h0 _ ?_ σ2 (a1.eg hF2 hf)⟩⟩)⟩
    · have l10 : Ps.length < 10 := by omega
      have hr0 : rPair X Ps i = bx (tk X (X.nx i) 61) (fun j => bx (tS X j) (fun r => .ok (r.1, Ps ++ [(X.v i, r.2, 0)]))) := by unfold rPair; rw [if_pos k2, if_pos ix, if_pos l10]
      have s1 := h'.ps hF1 hT1 nx_ge
      obtain ⟨d, rfl⟩ : ∃ d', d = d' + 1 := ⟨d - 1, by omega⟩
      refine c_take hX hT1 (fun k61 σ2 hF2 hT2 => ⟨fun z => absurd z (by decide), fun _ => ?_⟩) (fun k61 σ2 hF2 hf => ⟨fun _ => ⟨_, rfl, h0 _ (by rw [hr0, tk, if_neg k61, bx_er]) σ2 (s1.1.eg hF2 hf)⟩, fun z => absurd rfl z⟩)
      have s2 := s1.ps hF2 hT2 nx_ge
      rw [tk, if_pos k61, bx_ok] at hr0
      refine c_takeSigned (by omega) hX hT2 (fun j v e1 σ3 hF3 hT3 e6 => ⟨fun _ => ?_, fun z => absurd z (by decide)⟩) (fun e e1 σ3 hF3 hf => ⟨fun z => absurd rfl z, fun _ => ⟨_, rfl, h0 e (by rw [hr0, e1, bx_er]) σ3 (s2.1.eg hF3 hf)⟩⟩)
      rw [e1, bx_ok] at hr0
      have gj := tS_ge e1
      have g1 : X.nx i ≤ X.nx (X.nx i) := nx_ge
      have s3 := s2.ps hF3 hT3 gj
      have jK := hT3.2.2.2.1
      obtain ⟨c1, c2, c3, c4, c5, c6, c7⟩ := s3
      obtain ⟨b3, r1, r2, r3, r4⟩ := c4
      refine ⟨dd, c1.2.1.2.1, ?_⟩
      refine AC.of mo_X1_addEntry (Nat.le_of_ble_eq_true rfl) (bk_X1_addEntry_0 ⟨fun q => absurd q (by omega), fun _ => ⟨c1.2.1.2.2.2.1, ⟨by omega, by omega⟩, ⟨by omega, by omega⟩, rfl, dd, c1.2.1.2.1, c1.2.1.2.2.2.1, ⟨by omega, by omega⟩, ?_⟩⟩)
      rw [c5, show ((ne : Int)).toNat = ne by omega, show ((En.length : Int)).toNat = En.length by omega, e6]
      have e104 : gI (sI (sI (sJ (sJ σ3 106 dd ne (X.v i)) 107 dd ne v) 108 dd ne 0) 109 dd 0 ((ne : Int) + 1)) 104 dd En.length = (Ps.length : Int) := by
        simp only [gI_sI, gI_sJ, false_and, if_false, Nat.reduceEqDiff]; exact r2
      rw [e104]
      refine ⟨⟨by omega, by omega⟩, _, rfl, h1 _ hr0 _ ?_⟩
      have hF : Frm (fun f r => r = dd ∧ (f = 104 ∨ (106 ≤ f ∧ f ≤ 109))) σ3 (sI (sI (sI (sJ (sJ σ3 106 dd ne (X.v i)) 107 dd ne v) 108 dd ne 0) 109 dd 0 ((ne : Int) + 1)) 104 dd En.length ((Ps.length : Int) + 1)) := (Frm.sJ (by simp)).trans ((Frm.sJ (by simp)).trans ((Frm.sI (by simp)).trans ((Frm.sI (by simp)).trans (Frm.sI (by simp)))))
      have hM : Mo σ3 (sI (sI (sI (sJ (sJ σ3 106 dd ne (X.v i)) 107 dd ne v) 108 dd ne 0) 109 dd 0 ((ne : Int) + 1)) 104 dd En.length ((Ps.length : Int) + 1)) dd c := by
        refine ⟨by rw [hF.I (f := 2) (fun q => by omega)]; omega, fun j _ => ⟨hF.I (f := 0) (fun q => by omega) j, hF.J (f := 1) (fun q => by omega) j⟩, by rw [gI_sI, if_neg (by simp), gI_slf]; omega, fun j hj => ?_⟩
        simp only [gI_sI, gI_sJ, gJ_sI, gJ_sJ, true_and, false_and, if_false, Nat.reduceEqDiff]
        have ne' : ¬ j = ne := by omega
        simp only [if_neg ne', and_self]
      have e109 : gI (sI (sI (sI (sJ (sJ σ3 106 dd ne (X.v i)) 107 dd ne v) 108 dd ne 0) 109 dd 0 ((ne : Int) + 1)) 104 dd En.length ((Ps.length : Int) + 1)) 109 dd 0 = (ne : Int) + 1 := by rw [gI_sI, if_neg (by simp), gI_slf]
      obtain ⟨d1, d2, d3, d4, d5⟩ := c1
      obtain ⟨f1, f2, f3, f4, f5, ⟨nc, f6, f7⟩, f8⟩ := d2
      refine ⟨⟨d1.trans (hF.mono (fun f r z => Or.inl (Or.inr (Or.inr (Or.inl ⟨z.1, by omega, by omega⟩))))), ⟨f1.frm hF (fun f z1 z2 q => by omega) (fun f z1 z2 q => by omega), by rw [hF.R (fun q => by omega)]; exact f2, by rw [hF.R (fun q => by omega)]; exact f3, hF.lc f4, hF.lc f5, ⟨nc, by rw [hF.I (f := 2) (fun q => by omega)]; exact f6, f7⟩, ne + 1, by rw [e109]; omega, by show ne + 1 ≤ j; omega⟩, d3.gen hF (fun f r z q => by omega), d4.en hF hM (fun f r q => by omega) (fun e' he => ?_), by rw [hF.R (fun q => by omega)]; exact d5⟩, c2, by rw [hF.J (fun q => by omega)]; exact c3, ⟨b3, ?_, ?_, ?_, fun k e he => ?_⟩, by rw [e109]; omega, ?_, by show ne + 1 ≤ j; omega⟩
      · simp only [gI_sI, gI_sJ, gJ_sI, gJ_sJ, true_and, false_and, if_false, Nat.reduceEqDiff]
        have ne' : ¬ e' = En.length := by omega
        simp only [if_neg ne', and_self]
      · rw [hF.I (f := 103) (fun q => by omega)]; exact r1
      · rw [gI_slf]; show (Ps.length : Int) + 1 = ((Ps ++ [_]).length : Int); rw [app_l]; omega
      · rw [e109]; show (((b3 + (Ps ++ [_]).length : Nat)) : Int) ≤ _; rw [app_l]; omega
      · simp only [gI_sI, gI_sJ, gJ_sI, gJ_sJ, true_and, false_and, if_false, Nat.reduceEqDiff]
        rcases app_q he with ⟨z, y⟩ | ⟨z, rfl⟩
        · have n1 : ¬ b3 + k = ne := by omega
          simp only [if_neg n1]
          exact r4 k e y
        · have n1 : b3 + k = ne := by omega
          simp only [if_pos n1, and_self]
      · rw [hF.I (f := 103) (fun q => by omega)]; show _ + ((Ps ++ [_]).length : Int) = _; rw [app_l]; omega
    · unfold rPair; rw [if_pos k2, if_pos ix, if_neg (by omega)]
  have s66 : ∀ y : Int, X.k i = 2 → (y = 1 ∧ idx (Ps.map (fun e => e.1)) (X.v i) 0 = -1 ∨ y = 0 ∧ ¬ idx (Ps.map (fun e => e.1)) (X.v i) 0 = -1) → AW g l (d + 1) MX6_readPair 66 [some (vR 6 (some p)), some (vI (En.length : Int)), some (vJ (X.v i)), none, none] [vI y, vR 6 (some p)] σ (fun v σ' => ∃ r, v = some (vI r) ∧ P r σ') := by
    intro y k2 hy
    refine bk_X6_readPair_66 ⟨p, rfl, c_check hX hT (by omega) (fun q => ⟨fun z => absurd z (by decide), fun _ => ⟨dd, a1.2.1.2.1, a1.2.1.2.2.2.1, ⟨by omega, by omega⟩, ?_⟩⟩) (fun q σ2 hF2 hf => ⟨fun _ => ⟨_, rfl, h0 _ ?_ σ2 (a1.eg hF2 hf)⟩, fun z => absurd rfl z⟩)⟩
    · rw [show ((En.length : Int)).toNat = En.length by omega, q2]
      exact ⟨fun z => s93 0 k2 (by omega) (by omega), fun z => s93 1 k2 (by omega) (by omega)⟩
    · unfold rPair; rw [if_pos k2, if_neg (by omega)]
  have s47 : ∀ (y x4 : Int), (x4 = -1 ↔ idx (Ps.map (fun e => e.1)) (X.v i) 0 = -1) → (y = 1 ∧ X.k i = 2 ∨ y = 0 ∧ ¬ X.k i = 2) → AW g l (d + 1) MX6_readPair 47 [some (vR 6 (some p)), some (vI (En.length : Int)), some (vJ (X.v i)), none, some (vI x4)] [vI y, vR 6 (some p)] σ (fun v σ' => ∃ r, v = some (vI r) ∧ P r σ') := by
    intro y x4 hx hy
    refine bk_X6_readPair_47 ⟨p, rfl, c_check hX hT (by omega) (fun q => ⟨fun z => absurd z (by decide), fun _ => ⟨fun z => s66 0 (by omega) (Or.inr ⟨rfl, fun w => z (hx.mpr w)⟩), fun z => s66 1 (by omega) (Or.inl ⟨rfl, hx.mp z⟩)⟩⟩) (fun q σ2 hF2 hf => ⟨fun _ => ⟨_, rfl, h0 _ ?_ σ2 (a1.eg hF2 hf)⟩, fun z => absurd rfl z⟩)⟩
    unfold rPair; rw [if_neg (by omega)]
  refine AC.of mo_X6_readPair (Nat.le_of_ble_eq_true rfl) (bk_X6_readPair_0 ⟨dd, a1.2.1.2.1, a1.2.1.2.2.2.1, ⟨by omega, by omega⟩, ?_⟩)
  rw [show ((En.length : Int)).toNat = En.length by omega, ev]
  have fin : ∀ x4 : Int, (x4 = -1 ↔ idx (Ps.map (fun e => e.1)) (X.v i) 0 = -1) → ((¬ (gI σ 604 p 0) = 2 → AW g l (d + 1) MX6_readPair 47 [some (vR 6 (some p)), some (vI (En.length : Int)), some (vJ (X.v i)), none, some (vI x4)] [vI 0, vR 6 (some p)] σ (fun v σ' => ∃ r, v = some (vI r) ∧ P r σ')) ∧ ((gI σ 604 p 0) = 2 → AW g l (d + 1) MX6_readPair 47 [some (vR 6 (some p)), some (vI (En.length : Int)), some (vJ (X.v i)), none, some (vI x4)] [vI 1, vR 6 (some p)] σ (fun v σ' => ∃ r, v = some (vI r) ∧ P r σ'))) := fun x4 hx => by
    rw [ek]
    exact ⟨fun z => s47 0 x4 hx (by omega), fun z => s47 1 x4 hx (by omega)⟩
  have ig := idx_ge (w := X.v i) (Ps.map (fun e => e.1)) 0 (by decide)
  exact x_entryNamed a1.2.1.2.2.2.1 (by omega) a4' (fun z => fin (-1) ⟨fun _ => z, fun _ => rfl⟩) (fun z => fin _ ⟨fun w => by omega, fun w => absurd w z⟩)
theorem c_enm {P : Int → St → Prop} (hD : 5 ≤ D) (hX : X.OK) (h : IG σ0 σ p t dd c so fo X En Ss i) (hk : ¬ X.k i = 0) (h1 : ∀ r, rEnm X En Ss i = .ok r → ∀ σ', IG σ0 σ' p t dd c so fo X (En ++ [r.2]) Ss r.1 → P 1 σ') (h0 : ∀ e, rEnm X En Ss i = .error e → ∀ σ', EG2 σ0 σ' p dd c so fo e → P 0 σ') : ACi g l D MX6_readEnum [vR 6 (some p)] σ P := by
  obtain ⟨d, rfl⟩ : ∃ d, D = d + 1 := ⟨D - 1, by omega⟩
  have h' := h
  obtain ⟨a1, a2, a3, a4, a5⟩ := h
  have h3 := hX.h3
  have hKn := hX.hKn
  have iK := a2.1.2.2.2.1
  obtain ⟨x1, x2⟩ := nx_gt hX.k0 iK hk
  have s133 : ∀ (Ps : List Ent) (nm : Int64) (j ne : Nat) (σ1 : St), EP σ0 σ1 p t dd c so fo X En Ss j ne nm Ps → rEnm X En Ss i = bx (tk X j 125) (fun j2 => .ok (j2, (nm, Ps))) → AW g l (d + 1) MX6_readEnum 133 [some (vR 6 (some p)), none, none, none] [] σ1 (fun v σ' => ∃ r, v = some (vI r) ∧ P r σ') := by
    intro Ps nm j ne σ1 s1 hr
    obtain ⟨c1, c2, c3, c4, c5, c6, c7⟩ := s1
    obtain ⟨d1, d2, d3, d4, d5⟩ := c1
    refine bk_X6_readEnum_133 ⟨dd, d2.2.1, ?_⟩
    rw [d4.2.2.1]
    have hF : Frm (fun f r => r = dd ∧ f = 105) σ1 (sI σ1 105 dd 0 ((En.length : Int) + 1)) := Frm.sI (by simp)
    have hM := Mo.frm (dd := dd) (c := c) hF (fun f f0 q => by omega) (fun f f0 f1 q => by omega)
    have ig : IG σ0 (sI σ1 105 dd 0 ((En.length : Int) + 1)) p t dd c so fo X (En ++ [(nm, Ps)]) Ss j := by
      refine ⟨d1.trans (hF.mono (fun f r z => Or.inl (Or.inr (Or.inr (Or.inl ⟨z.1, by omega, by omega⟩))))), d2.gen hF (fun f r z q => by omega), d3.gen hF (fun f r z q => by omega), ⟨by rw [hF.I (fun q => by omega)]; exact d4.1, d4.2.1, by rw [gI_slf, app_l]; omega, by rw [app_l]; omega, fun e E hE => ?_, fun s S hS => ?_⟩, by rw [hF.R (fun q => by omega)]; exact d5⟩
      · rcases app_q hE with ⟨z, y⟩ | ⟨rfl, rfl⟩
        · obtain ⟨e1, e2⟩ := d4.2.2.2.2.1 e E y
          exact ⟨by rw [hF.J (fun q => by omega)]; exact e1, by rw [hF.I (f := 103) (fun q => by omega), hF.I (f := 104) (fun q => by omega)]; exact e2.mo hM⟩
        · exact ⟨by rw [hF.J (fun q => by omega)]; exact c3, by rw [hF.I (f := 103) (fun q => by omega), hF.I (f := 104) (fun q => by omega)]; exact c4.mo hM⟩
      · obtain ⟨e1, e2, e3, e4, e5⟩ := d4.2.2.2.2.2 s S hS
        exact ⟨by rw [hF.J (fun q => by omega)]; exact e1, by rw [hF.I (fun q => by omega)]; exact e2, by rw [hF.I (fun q => by omega)]; exact e3, e4, fun k F hk => (e5 k F hk).frm hF (fun f f0 f1 q => by omega) hM⟩
    obtain ⟨d, rfl⟩ : ∃ d', d = d' + 1 := ⟨d - 1, by omega⟩
    refine ⟨⟨by omega, by omega⟩, c_take hX ig.2.1.1 (fun k σ2 hF2 hT2 => ⟨Or.inr rfl, _, rfl, h1 (X.nx j, (nm, Ps)) (by rw [hr, tk, if_pos k, bx_ok]) σ2 (ig.ps hF2 hT2 nx_ge)⟩) (fun k σ2 hF2 hf => ⟨Or.inl rfl, _, rfl, h0 _ (by rw [hr, tk, if_neg k, bx_er]) σ2 (ig.eg hF2 hf)⟩)⟩
  have loop : ∀ (f : Nat) (Ps : List Ent) (nm : Int64) (j ne : Nat) (σ1 : St), EP σ0 σ1 p t dd c so fo X En Ss j ne nm Ps → Ps.length + f = 11 → Ps.length ≤ 10 → rEnm X En Ss i = bx (rPairs X f Ps j) (fun r => bx (tk X r.1 125) (fun j2 => .ok (j2, (nm, r.2)))) → AW g l (d + 1) MX6_readEnum 100 [some (vR 6 (some p)), some (vI (En.length : Int)), some (vI 1), some (vI (Ps.length : Int))] [] σ1 (fun v σ' => ∃ r, v = some (vI r) ∧ P r σ') := by
    intro f
    induction f with
    | zero => intro Ps nm j ne σ1 _ hf h10; omega
    | succ f ih =>
      intro Ps nm j ne σ1 s1 hf h10 hr
      rw [rPairs] at hr
      refine bk_X6_readEnum_100 ⟨fun q => absurd q (by omega), fun _ => ⟨fun q => absurd q (by decide), fun _ => c_pair (by omega) hX s1 h10 (fun r e σ2 s2 => ⟨fun _ => ?_, fun z => absurd z (by decide)⟩) (fun e e1 σ2 er => ⟨fun z => absurd rfl z, fun _ => ⟨_, rfl, h0 e (by rw [hr, e1, bx_er, bx_er]) σ2 er⟩⟩)⟩⟩
      rw [e, bx_ok] at hr
      have wf := rPair_wf hX s1.1.2.1.1.2.2.2.1 e
      obtain ⟨v, w1, w2, w3, w4, w5⟩ := wf
      have l2 : r.2.length = Ps.length + 1 := by rw [w1, app_l]
      obtain ⟨d, rfl⟩ : ∃ d', d = d' + 1 := ⟨d - 1, by omega⟩
      refine c_takeIf hX s2.1.2.1.1 (fun k44 σ3 hF3 hT3 => ⟨⟨by omega, by omega⟩, ?_⟩) (fun k44 => ⟨⟨by omega, by omega⟩, ?_⟩)
      · rw [if_pos k44] at hr
        have := ih r.2 nm (X.nx r.1) (ne + 1) σ3 (s2.ps hF3 hT3 nx_ge) (by omega) (by omega) hr
        rw [l2] at this
        exact this
      · rw [if_neg k44, bx_ok] at hr
        have z := s133 r.2 nm r.1 (ne + 1) σ2 s2 hr
        exact bk_X6_readEnum_100 ⟨fun _ => z, fun _ => ⟨fun _ => z, fun q => absurd rfl q⟩⟩
  have s20 : ∀ y : Int, (y = 1 ∧ En.length < 8 ∨ y = 0 ∧ ¬ En.length < 8) → AW g l (d + 1) MX6_readEnum 20 [some (vR 6 (some p)), some (vI (En.length : Int)), none, none] [vI y, vR 6 (some p)] σ (fun v σ' => ∃ r, v = some (vI r) ∧ P r σ') := by
    intro y hy
    refine bk_X6_readEnum_20 ⟨p, rfl, c_check hX a2.1 (by omega) (fun q => ⟨fun _ => c_pass hX a2.1 (fun σ1 hF1 hT1 => ?_), fun z => absurd z (by decide)⟩) (fun q σ2 hF2 hf => ⟨fun z => absurd rfl z, fun _ => ⟨_, rfl, h0 _ ?_ σ2 (h'.eg hF2 hf)⟩⟩)⟩
    · have l8 : En.length < 8 := by omega
      have s1 := h'.ps hF1 hT1 nx_ge
      have hr0 : rEnm X En Ss i = bx (tW X En Ss (X.nx i)) (fun q => bx (tk X q.1 123) (fun j => bx (rPairs X 11 [] j) (fun r => bx (tk X r.1 125) (fun j2 => .ok (j2, (q.2, r.2)))))) := by unfold rEnm; rw [if_pos l8]
      refine c_newItem (by omega) hX s1 (fun e1 k2 => ⟨fun _ => ⟨dd, s1.2.1.2.1, s1.2.1.2.2.2.1, ⟨by omega, by omega⟩, ?_⟩, fun z => absurd z (by decide)⟩) (fun e e1 σ2 hF2 hf => ⟨fun z => absurd rfl z, fun _ => ⟨_, rfl, h0 e (by rw [hr0, e1, bx_er]) σ2 (s1.eg hF2 hf)⟩⟩)
      rw [e1, bx_ok] at hr0
      have hr0 : rEnm X En Ss i = bx (tk X (X.nx (X.nx i)) 123) (fun j => bx (rPairs X 11 [] j) (fun r => bx (tk X r.1 125) (fun j2 => .ok (j2, (X.v (X.nx i), r.2))))) := hr0
      rw [show ((En.length : Int)).toNat = En.length by omega, s1.2.1.1.2.2.2.2.2.2.1]
      obtain ⟨d1, d2, d3, d4, d5⟩ := s1
      have d2' := d2
      obtain ⟨f1, f2, f3, f4, f5, f6, ne, f7, f8⟩ := d2
      have hF : Frm (fun f r => r = dd ∧ 102 ≤ f ∧ f ≤ 104) σ1 (sI (sI (sJ σ1 102 dd En.length (X.v (X.nx i))) 103 dd En.length (gI σ1 109 dd 0)) 104 dd En.length 0) := (Frm.sJ (by simp)).trans ((Frm.sI (by simp)).trans (Frm.sI (by simp)))
      have hM := Mo.frm (dd := dd) (c := c) hF (fun f f0 q => by omega) (fun f f0 f1 q => by omega)
      have ep : EP σ0 (sI (sI (sJ σ1 102 dd En.length (X.v (X.nx i))) 103 dd En.length (gI σ1 109 dd 0)) 104 dd En.length 0) p t dd c so fo X En Ss (X.nx i) ne (X.v (X.nx i)) [] := by
        have e103 : gI (sI (sI (sJ σ1 102 dd En.length (X.v (X.nx i))) 103 dd En.length (gI σ1 109 dd 0)) 104 dd En.length 0) 103 dd En.length = ne := by rw [gI_sI, if_neg (by simp), gI_slf]; exact f7
        refine ⟨⟨d1.trans (hF.mono (fun f r z => Or.inl (Or.inr (Or.inr (Or.inl ⟨z.1, by omega, by omega⟩))))), d2'.gen hF (fun f r z q => by omega), d3.gen hF (fun f r z q => by omega), d4.en hF hM (fun f r q => by omega) (fun e' he => ?_), by rw [hF.R (fun q => by omega)]; exact d5⟩, l8, by rw [gJ_sI, gJ_sI, gJ_slf], ⟨ne, e103, by rw [gI_slf]; rfl, by rw [hF.I (f := 109) (fun q => by omega), f7]; show ((ne + 0 : Nat) : Int) ≤ ne; omega, fun j e he => absurd he (by simp)⟩, by rw [hF.I (f := 109) (fun q => by omega)]; exact f7, by rw [e103]; show (ne : Int) + 0 = ne; omega, f8⟩
        simp only [gI_sI, gI_sJ, gJ_sI, gJ_sJ, true_and, false_and, if_false, Nat.reduceEqDiff]
        have ne' : ¬ e' = En.length := by omega
        simp only [if_neg ne', and_self]
      refine c_pass hX ep.1.2.1.1 (fun σ3 hF3 hT3 => ?_)
      have ep3 := ep.ps hF3 hT3 nx_ge
      obtain ⟨d, rfl⟩ : ∃ d', d = d' + 1 := ⟨d - 1, by omega⟩
      refine c_take hX hT3 (fun k123 σ4 hF4 hT4 => ⟨fun _ => ?_, fun z => absurd z (by decide)⟩) (fun k123 σ4 hF4 hf => ⟨fun z => absurd rfl z, fun _ => ⟨_, rfl, h0 _ (by rw [hr0, tk, if_neg k123, bx_er]) σ4 (ep3.1.eg hF4 hf)⟩⟩)
      refine loop 11 [] (X.v (X.nx i)) _ ne σ4 (ep3.ps hF4 hT4 nx_ge) rfl (by decide) ?_
      rw [hr0, tk, if_pos k123, bx_ok]
    · unfold rEnm; rw [if_neg (by omega)]
  refine AC.of mo_X6_readEnum (Nat.le_of_ble_eq_true rfl) (bk_X6_readEnum_0 ⟨dd, a2.2.1, ?_⟩)
  rw [a4.2.2.1]
  exact ⟨fun q => s20 0 (by omega), fun q => s20 1 (by omega)⟩
end X27
