/-! the class's items -/
def DF2 (p dd c : Nat) (so : Nat → Nat) (fo : Nat → Nat → Nat) (f r : Nat) : Prop := DFr p dd c so fo f r ∨ ∃ s, s < 20 ∧ r = so s ∧ f = 800
theorem DF2_p {p dd c : Nat} {so : Nat → Nat} {fo : Nat → Nat → Nat} (f r : Nat) (h : PFr p f r) : DF2 p dd c so fo f r := Or.inl (DFr_p f r h)
theorem DF2_110 {p dd c r : Nat} {so : Nat → Nat} {fo : Nat → Nat → Nat} : ¬ DF2 p dd c so fo 110 r := fun q => by
  rcases q with q | ⟨_, _, _, q⟩
  · rcases q with q | q | q | q | q
    · omega
    · omega
    · omega
    · obtain ⟨_, _, q⟩ := q; omega
    · obtain ⟨_, _, _, _, q⟩ := q; omega
  · omega
def EG2 (σ0 σ : St) (p dd c : Nat) (so : Nat → Nat) (fo : Nat → Nat → Nat) (e : Int × Int) : Prop := Frm (DF2 p dd c so fo) σ0 σ ∧ FLT σ p e
def IG (σ0 σ : St) (p t dd c : Nat) (so : Nat → Nat) (fo : Nat → Nat → Nat) (X : Txt) (En : List Enm) (Ss : List Stc) (i : Nat) : Prop :=
  Frm (DF2 p dd c so fo) σ0 σ ∧ CS σ p t dd c X i 0 ∧ DSh σ dd so fo ∧ DCo σ dd c so fo En Ss ∧ gR σ 110 dd 0 = some c
section X26
variable {g : GP} {l : Launch} {D : Nat} {σ0 σ : St} {p t dd c : Nat} {so : Nat → Nat} {fo : Nat → Nat → Nat} {X : Txt} {En : List Enm} {Ss : List Stc} {i : Nat}
theorem c_takeSigned {P : Int → St → Prop} (hD : 1 ≤ D) (hX : X.OK) (h : PT σ p t X i) (h1 : ∀ j v, tS X i = .ok (j, v) → ∀ σ', Frm (PFr p) σ σ' → PT σ' p t X j → gJ σ' 610 p 0 = v → P 1 σ') (h0 : ∀ e, tS X i = .error e → ∀ σ', Frm (PFr p) σ σ' → FLT σ' p e → P 0 σ') : ACi g l D MX6_takeSigned [vR 6 (some p)] σ P := by
  obtain ⟨d, rfl⟩ : ∃ d, D = d + 1 := ⟨D - 1, by omega⟩
  have ek := h.2.2.2.2.2.1
  have s57 : ∀ (σ1 : St) (j : Nat) (y : Int) (v : Int64), Frm (PFr p) σ σ1 → PT σ1 p t X j → gJ σ1 610 p 0 = v → (X.k j = 3 → tS X i = .ok (X.nx j, v)) → (¬ X.k j = 3 → tS X i = .error (ck X j 2)) → (y = 1 ∧ X.k j = 3 ∨ y = 0 ∧ ¬ X.k j = 3) → AW g l (d + 1) MX6_takeSigned 57 [some (vR 6 (some p)), none] [vI y, vR 6 (some p)] σ1 (fun v σ' => ∃ r, v = some (vI r) ∧ P r σ') := by
    intro σ1 j y v hF1 s1 e6 hok her hy
    refine bk_X6_takeSigned_57 ⟨p, rfl, c_check hX s1 (by omega) (fun q => ⟨fun _ => c_pass6 hX s1 (fun σ2 hF2 hT2 e2 => ⟨_, rfl, ?_⟩), fun z => absurd z (by decide)⟩) (fun q σ2 hF2 hf => ⟨fun z => absurd rfl z, fun _ => ⟨_, rfl, h0 (ck X j 2) (her (by omega)) σ2 (hF1.trans hF2) hf⟩⟩)⟩
    exact h1 (X.nx j) v (hok (by omega)) σ2 (hF1.trans hF2) hT2 (by rw [e2]; exact e6)
  have s23 : ∀ (σ1 : St) (j : Nat) (x : Int), Frm (PFr p) σ σ1 → PT σ1 p t X j → (x = 0 ∧ j = i ∧ ¬ X.k i = 45 ∨ x = 1 ∧ j = X.nx i ∧ X.k i = 45) → AW g l (d + 1) MX6_takeSigned 23 [some (vR 6 (some p)), some (vI x)] [] σ1 (fun v σ' => ∃ r, v = some (vI r) ∧ P r σ') := by
    intro σ1 j x hF1 s1 hx
    have ek1 := s1.2.2.2.2.2.1
    have ev1 := s1.2.2.2.2.2.2.1
    have fr : ∀ v, Frm (PFr p) σ (sJ σ1 610 p 0 v) := fun v => hF1.trans (Frm.sJ (by simp [PFr]))
    refine bk_X6_takeSigned_23 ?_
    rw [ek1, ev1]
    refine ⟨fun zx => ?_, fun zx => ?_⟩
    · have hok : X.k j = 3 → tS X i = .ok (X.nx j, X.v j) := fun k3 => by
        have e : j = i := by omega
        unfold tS; rw [if_neg (by omega), ← e, if_pos k3]
      have her : ¬ X.k j = 3 → tS X i = .error (ck X j 2) := fun k3 => by
        have e : j = i := by omega
        unfold tS; rw [if_neg (by omega), ← e, if_neg k3]
      exact ⟨fun z => s57 _ j 0 _ (fr _) s1 (gJ_slf _ _ _ _ _) hok her (by omega), fun z => s57 _ j 1 _ (fr _) s1 (gJ_slf _ _ _ _ _) hok her (by omega)⟩
    · have hok : X.k j = 3 → tS X i = .ok (X.nx j, -(X.v j)) := fun k3 => by
        have e : j = X.nx i := by omega
        unfold tS; rw [if_pos (by omega), ← e, if_pos k3]
      have her : ¬ X.k j = 3 → tS X i = .error (ck X j 2) := fun k3 => by
        have e : j = X.nx i := by omega
        unfold tS; rw [if_pos (by omega), ← e, if_neg k3]
      exact ⟨fun z => s57 _ j 0 _ (fr _) s1 (gJ_slf _ _ _ _ _) hok her (by omega), fun z => s57 _ j 1 _ (fr _) s1 (gJ_slf _ _ _ _ _) hok her (by omega)⟩
  refine AC.of mo_X6_takeSigned (Nat.le_of_ble_eq_true rfl) (bk_X6_takeSigned_0 ?_)
  rw [ek]
  exact ⟨fun z => ⟨fun _ => s23 σ i 0 Frm.rfl h (by omega), fun q => absurd rfl q⟩, fun z => ⟨fun q => absurd q (by decide), fun _ => c_pass hX h (fun σ1 hF1 s1 => s23 σ1 _ 1 hF1 s1 (by omega))⟩⟩
theorem IG.ps {σ' : St} {i' : Nat} {En : List Enm} {Ss : List Stc} {p t dd c : Nat} (h : IG σ0 σ p t dd c so fo X En Ss i) (hF : Frm (PFr p) σ σ') (hT : PT σ' p t X i') (hi : i ≤ i') : IG σ0 σ' p t dd c so fo X En Ss i' := by
  obtain ⟨a1, a2, a3, a4, a5⟩ := h
  have n : ∀ f r, (f ≤ 599 ∨ 611 ≤ f) → ¬ PFr p f r := fun f r z q => by have := q.2; omega
  exact ⟨a1.trans (hF.mono DF2_p), a2.p hF hT (by omega) hi, a3.gen hF (fun f r z => n f r (by omega)), a4.gen hF (CM.p (r0 := 0) hF).2 (fun f r z => n f r (by omega)) (fun s f _ z => n f _ (by omega)) (fun s k f _ _ _ _ => n f _ (by omega)), by rw [hF.R (n 110 _ (by omega))]; exact a5⟩
theorem IG.eg {σ' : St} {e : Int × Int} {En : List Enm} {Ss : List Stc} {p t dd c : Nat} (h : IG σ0 σ p t dd c so fo X En Ss i) (hF : Frm (PFr p) σ σ') (hf : FLT σ' p e) : EG2 σ0 σ' p dd c so fo e := ⟨h.1.trans (hF.mono DF2_p), hf⟩
theorem c_newItem {P : Int → St → Prop} (hD : 1 ≤ D) (hX : X.OK) (h : IG σ0 σ p t dd c so fo X En Ss i) (h1 : tW X En Ss i = .ok (X.nx i, X.v i) → X.k i = 2 → P 1 σ) (h0 : ∀ e, tW X En Ss i = .error e → ∀ σ', Frm (PFr p) σ σ' → FLT σ' p e → P 0 σ') : ACi g l D MX6_isNewItem [vR 6 (some p)] σ P := by
  obtain ⟨d, rfl⟩ : ∃ d, D = d + 1 := ⟨D - 1, by omega⟩
  obtain ⟨a1, a2, a3, a4, a5⟩ := h
  have ek := a2.1.2.2.2.2.2.1
  have ev := a2.1.2.2.2.2.2.2.1
  have s42 : ∀ y : Int, X.k i = 2 → (y = 1 ∧ idx (En.map (fun e => e.1)) (X.v i) 0 = -1 ∨ y = 0 ∧ ¬ idx (En.map (fun e => e.1)) (X.v i) 0 = -1) → AW g l (d + 1) MX6_isNewItem 42 [some (vR 6 (some p))] [vI y, vR 6 (some p)] σ (fun v σ' => ∃ r, v = some (vI r) ∧ P r σ') := by
    intro y k2 hy
    refine bk_X6_isNewItem_42 ⟨p, rfl, c_check hX a2.1 (by omega) (fun q => ⟨fun z => absurd z (by decide), fun _ => ⟨dd, a2.2.1, ?_⟩⟩) (fun q σ2 hF2 hf => ⟨fun _ => ⟨_, rfl, h0 _ ?_ σ2 hF2 hf⟩, fun z => absurd rfl z⟩)⟩
    · rw [ev]
      refine x_structNamed a2.2.2.2.1 a3 a4 ⟨fun z => c_check hX a2.1 (by decide) (fun q => absurd q (by decide)) (fun _ σ2 hF2 hf => ⟨fun _ => ⟨_, rfl, h0 _ ?_ σ2 hF2 hf⟩, fun z => absurd rfl z⟩), fun z => c_check hX a2.1 (by decide) (fun _ => ⟨fun z => absurd z (by decide), fun _ => ⟨_, rfl, h1 ?_ k2⟩⟩) (fun q => absurd q (by decide))⟩
      · unfold tW; rw [if_pos k2, if_neg (fun w => z w.2)]
      · unfold tW; rw [if_pos k2, if_pos ⟨by omega, z⟩]
    · unfold tW; rw [if_pos k2, if_neg (fun w => by omega)]
  have s14 : ∀ y : Int, (y = 1 ∧ X.k i = 2 ∨ y = 0 ∧ ¬ X.k i = 2) → AW g l (d + 1) MX6_isNewItem 14 [some (vR 6 (some p))] [vI y, vR 6 (some p)] σ (fun v σ' => ∃ r, v = some (vI r) ∧ P r σ') := by
    intro y hy
    refine bk_X6_isNewItem_14 ⟨p, rfl, c_check hX a2.1 (by omega) (fun q => ⟨fun z => absurd z (by decide), fun _ => ⟨dd, a2.2.1, ?_⟩⟩) (fun q σ2 hF2 hf => ⟨fun _ => ⟨_, rfl, h0 _ ?_ σ2 hF2 hf⟩, fun z => absurd rfl z⟩)⟩
    · rw [ev]
      exact x_enumNamed a2.2.2.2.1 a4 ⟨fun z => s42 0 (by omega) (by omega), fun z => s42 1 (by omega) (by omega)⟩
    · unfold tW; rw [if_neg (by omega)]
  refine AC.of mo_X6_isNewItem (Nat.le_of_ble_eq_true rfl) (bk_X6_isNewItem_0 ?_)
  rw [ek]
  exact ⟨fun z => s14 0 (by omega), fun z => s14 1 (by omega)⟩
theorem c_str {P : Int → St → Prop} (hD : 126 ≤ D) (hX : X.OK) (hW : ∀ (s : Nat) (S : Stc), Ss[s]? = some S → -1 ≤ S.2.2 ∧ S.2.2 ≤ 1000000) (h : IG σ0 σ p t dd c so fo X En Ss i) (hk : ¬ X.k i = 0) (h1 : ∀ r, rStr X En Ss i = .ok r → ∀ σ', IG σ0 σ' p t dd c so fo X En (Ss ++ [r.2]) r.1 → P 1 σ') (h0 : ∀ e, rStr X En Ss i = .error e → ∀ σ', EG2 σ0 σ' p dd c so fo e → P 0 σ') : ACi g l D MX6_readStructure [vR 6 (some p)] σ P := by
  obtain ⟨d, rfl⟩ : ∃ d, D = d + 1 := ⟨D - 1, by omega⟩
  have h' := h
  obtain ⟨a1, a2, a3, a4, a5⟩ := h
  have h3 := hX.h3
  have hKn := hX.hKn
  have iK := a2.1.2.2.2.1
  -- the end of a struct
  have s121 : ∀ (Fs : List Fld) (nm : Int64) (j : Nat) (σb σ1 : St), Frm (DF2 p dd c so fo) σ0 σb → SG σb σ1 p t dd c so fo X En Ss Fs j → gJ σb 800 (so Ss.length) 0 = nm → X.k j = 125 → (∀ F ∈ Fs, WFf En.length Ss F) → gR σ1 110 dd 0 = some c → rStr X En Ss i = .ok (X.nx j, (nm, Fs, szA Ss Fs 0)) → AW g l (d + 1) MX6_readStructure 121 [some (vR 6 (some p)), none, none] [] σ1 (fun v σ' => ∃ r, v = some (vI r) ∧ P r σ') := by
    intro Fs nm j σb σ1 hb s1 e800 k125 hw h110 hr
    obtain ⟨b1, b2, e1, e2, e3, e4, e5, e6, e7⟩ := s1
    obtain ⟨nc, q1, q2⟩ := b2.2.2.2.2.2.1
    obtain ⟨ne, q3, q4⟩ := b2.2.2.2.2.2.2
    have jK := b2.1.2.2.2.1
    have e800' : gJ σ1 800 (so Ss.length) 0 = nm := by
      rw [b1.J (f := 800) (fun q => by rcases q with q | q | q | q | q; omega; omega; omega; (obtain ⟨_, _, q⟩ := q; omega); (obtain ⟨_, _, _, _, q⟩ := q; omega))]; exact e800
    refine bk_X6_readStructure_121 ⟨dd, b2.2.1, ?_⟩
    rw [e4]
    obtain ⟨d, rfl⟩ : ∃ d', d = d' + 4 := ⟨d - 4, by omega⟩
    refine x_measure b2.2.2.2.1 e1 e2 h110 b2.2.2.2.2.1 (by omega) (by omega) hW e3 e5 e6 e7 hw ⟨_, rfl, dd, b2.2.1, ?_⟩
    rw [e2.1]
    have hF : Frm (fun f r => r = so Ss.length ∧ f = 803 ∨ r = dd ∧ f = 101) σ1 (sI (sI σ1 803 (so Ss.length) 0 (szA Ss Fs 0)) 101 dd 0 ((Ss.length : Int) + 1)) := (Frm.sI (by simp)).trans (Frm.sI (by simp))
    have hM := Mo.frm (dd := dd) (c := c) hF (fun f f0 q => by omega) (fun f f0 f1 q => by omega)
    have so_ne : ∀ s, s < Ss.length → ¬ so s = so Ss.length := fun s hs e => by
      have := e1.2.1 s Ss.length (by omega) e3 e
      omega
    have ig : IG σ0 (sI (sI σ1 803 (so Ss.length) 0 (szA Ss Fs 0)) 101 dd 0 ((Ss.length : Int) + 1)) p t dd c so fo X En (Ss ++ [(nm, Fs, szA Ss Fs 0)]) j := by
      refine ⟨(hb.trans (b1.mono (fun f r z => Or.inl z))).trans (hF.mono (fun f r z => Or.inl ?_)), b2.gen hF (fun f r z q => by omega), e1.gen hF (fun f r z q => by omega), ⟨by rw [gI_slf, app_l]; omega, by rw [app_l]; omega, by rw [hF.I (fun q => by omega)]; exact e2.2.2.1, e2.2.2.2.1, fun e E hE => ?_, fun s S hS => ?_⟩, by rw [hF.R (fun q => by omega)]; exact h110⟩
      · rcases z with z | z
        · exact Or.inr (Or.inr (Or.inr (Or.inl ⟨Ss.length, e3, z.1, by omega, by omega⟩)))
        · exact Or.inr (Or.inr (Or.inl ⟨z.1, by omega, by omega⟩))
      · obtain ⟨c1, c2⟩ := e2.2.2.2.2.1 e E hE
        exact ⟨by rw [hF.J (fun q => by omega)]; exact c1, by rw [hF.I (f := 103) (fun q => by omega), hF.I (f := 104) (fun q => by omega)]; exact c2.mo hM⟩
      · rcases app_q hS with ⟨z, y⟩ | ⟨rfl, rfl⟩
        · obtain ⟨c1, c2, c3, c4, c5⟩ := e2.2.2.2.2.2 s S y
          have sn := so_ne s z
          exact ⟨by rw [hF.J (fun q => by omega)]; exact c1, by rw [hF.I (fun q => by omega)]; exact c2, by rw [hF.I (fun q => by omega)]; exact c3, c4, fun k F hk => (c5 k F hk).frm hF (fun f f0 f1 q => by omega) hM⟩
        · exact ⟨by rw [hF.J (fun q => by omega)]; exact e800', by rw [hF.I (fun q => by omega)]; exact e5, by rw [gI_sI, if_neg (by simp), gI_slf], e6, fun k F hk => (e7 k F hk).frm hF (fun f f0 f1 q => by omega) hM⟩
    refine ⟨⟨by omega, by omega⟩, c_take hX ig.2.1.1 (fun _ σ2 hF2 hT2 => ⟨Or.inr rfl, _, rfl, h1 _ hr σ2 (ig.ps hF2 hT2 nx_ge)⟩) (fun q => absurd k125 q)⟩
  have loop : ∀ (f : Nat) (Fs : List Fld) (nm : Int64) (j : Nat) (σb σ1 : St), Frm (DF2 p dd c so fo) σ0 σb → SG σb σ1 p t dd c so fo X En Ss Fs j → gJ σb 800 (so Ss.length) 0 = nm → Fs.length + f = 15 → (∀ F ∈ Fs, WFf En.length Ss F) → rStr X En Ss i = bx (rFields X En Ss f Fs j) (fun r => .ok (X.nx r.1, (nm, r.2, szA Ss r.2 0))) → AW g l (d + 1) MX6_readStructure 91 [some (vR 6 (some p)), none, some (vI (Fs.length : Int))] [] σ1 (fun v σ' => ∃ r, v = some (vI r) ∧ P r σ') := by
    intro f
    induction f with
    | zero =>
      intro Fs nm j σb σ1 _ s1 _ hf
      have := s1.2.2.2.2.2.2.2.1
      omega
    | succ f ih =>
      intro Fs nm j σb σ1 hb s1 e800 hf hw hr
      have e6 := s1.2.2.2.2.2.2.2.1
      have ek := s1.2.1.1.2.2.2.2.2.1
      have h110 : gR σ1 110 dd 0 = some c := by
        have z1 := (hb.trans (s1.1.mono (fun f r z => Or.inl z))).R (f := 110) (r := dd) DF2_110 0
        have z2 := a1.R (f := 110) (r := dd) DF2_110 0
        rw [z1, ← z2]; exact a5
      rw [rFields] at hr
      refine bk_X6_readStructure_91 ⟨fun q => absurd q (by omega), fun _ => ?_⟩
      rw [ek]
      refine ⟨fun k => ?_, fun k => ?_⟩
      · rw [if_pos k, bx_ok] at hr
        exact s121 Fs nm j σb σ1 hb s1 e800 k hw h110 hr
      · rw [if_neg k] at hr
        refine c_field (by omega) hX (fun F hF => (hw F hF).2.2.2.1) s1 (fun r e σ2 s2 => ⟨fun _ => ⟨⟨by omega, by omega⟩, ?_⟩, fun z => absurd z (by decide)⟩) (fun e e1 σ2 er => ⟨fun z => absurd rfl z, fun _ => ⟨_, rfl, h0 e (by rw [hr, e1, bx_er, bx_er]) σ2 ⟨hb.trans (er.1.mono (fun f r z => Or.inl z)), er.2⟩⟩⟩)
        rw [e, bx_ok] at hr
        have wf := rField_wf hX s1.2.1.1.2.2.2.1 e
        have := ih (Fs ++ [r.2]) nm r.1 σb σ2 hb s2 e800 (by rw [app_l]; omega) (fun F hF => ?_) hr
        · rw [app_l] at this
          exact this
        · rcases List.mem_append.mp hF with z | z
          · exact hw F z
          · rw [List.mem_singleton.mp z]; exact wf.1
  obtain ⟨x1, x2⟩ := nx_gt hX.k0 iK hk
  have s20 : ∀ y : Int, (y = 1 ∧ Ss.length < 20 ∨ y = 0 ∧ ¬ Ss.length < 20) → AW g l (d + 1) MX6_readStructure 20 [some (vR 6 (some p)), some (vI (Ss.length : Int)), none] [vI y, vR 6 (some p)] σ (fun v σ' => ∃ r, v = some (vI r) ∧ P r σ') := by
    intro y hy
    refine bk_X6_readStructure_20 ⟨p, rfl, c_check hX a2.1 (by omega) (fun q => ⟨fun _ => c_pass hX a2.1 (fun σ1 hF1 hT1 => ?_), fun z => absurd z (by decide)⟩) (fun q σ2 hF2 hf => ⟨fun z => absurd rfl z, fun _ => ⟨_, rfl, h0 _ ?_ σ2 (h'.eg hF2 hf)⟩⟩)⟩
    · have l20 : Ss.length < 20 := by omega
      have s1 := h'.ps hF1 hT1 nx_ge
      have hr0 : rStr X En Ss i = bx (tW X En Ss (X.nx i)) (fun q => bx (tk X q.1 123) (fun j => bx (rFields X En Ss 15 [] j) (fun r => .ok (X.nx r.1, (q.2, r.2, szA Ss r.2 0))))) := by unfold rStr; rw [if_pos l20]
      obtain ⟨b1, b2, b3⟩ := s1.2.2.1.1 Ss.length l20
      refine c_newItem (by omega) hX s1 (fun e1 k2 => ⟨fun _ => ⟨dd, s1.2.1.2.1, s1.2.1.2.2.2.1, ⟨by omega, by omega⟩, ?_⟩, fun z => absurd z (by decide)⟩) (fun e e1 σ2 hF2 hf => ⟨fun z => absurd rfl z, fun _ => ⟨_, rfl, h0 e (by rw [hr0, e1, bx_er]) σ2 (s1.eg hF2 hf)⟩⟩)
      rw [e1, bx_ok] at hr0
      have hr0 : rStr X En Ss i = bx (tk X (X.nx (X.nx i)) 123) (fun j => bx (rFields X En Ss 15 [] j) (fun r => .ok (X.nx r.1, (X.v (X.nx i), r.2, szA Ss r.2 0)))) := hr0
      rw [show ((Ss.length : Int)).toNat = Ss.length by omega, b1, s1.2.1.1.2.2.2.2.2.2.1]
      refine ⟨so Ss.length, rfl, ?_⟩
      have hFw : Frm (fun f r => r = p ∧ f = 608 ∨ r = so Ss.length ∧ (f = 800 ∨ f = 802)) σ1 (sI (sJ (sR σ1 608 p 0 (some (so Ss.length))) 800 (so Ss.length) 0 (X.v (X.nx i))) 802 (so Ss.length) 0 0) := (Frm.sR (by simp)).trans ((Frm.sJ (by simp)).trans (Frm.sI (by simp)))
      have hM := Mo.frm (dd := dd) (c := c) hFw (fun f f0 q => by omega) (fun f f0 f1 q => by omega)
      have so_ne : ∀ s, s < Ss.length → ¬ so s = so Ss.length := fun s hs e => by
        have := a3.2.1 s Ss.length (by omega) l20 e
        omega
      have cs2 : CS (sI (sJ (sR σ1 608 p 0 (some (so Ss.length))) 800 (so Ss.length) 0 (X.v (X.nx i))) 802 (so Ss.length) 0 0) p t dd c X (X.nx i) 0 := s1.2.1.gen hFw (fun f r z q => by omega)
      have dc2 : DCo (sI (sJ (sR σ1 608 p 0 (some (so Ss.length))) 800 (so Ss.length) 0 (X.v (X.nx i))) 802 (so Ss.length) 0 0) dd c so fo En Ss := s1.2.2.2.1.gen hFw hM (fun f r z q => by omega) (fun s f hs z q => by have := so_ne s hs; omega) (fun s k f _ _ _ _ q => by omega)
      have env : ENV (sI (sJ (sR σ1 608 p 0 (some (so Ss.length))) 800 (so Ss.length) 0 (X.v (X.nx i))) 802 (so Ss.length) 0 0) p dd c so fo En Ss [] := ⟨s1.2.2.1.gen hFw (fun f r z q => by omega), dc2, l20, by rw [gR_sI, gR_sJ, gR_slf], by rw [gI_slf]; rfl, Nat.zero_le _, fun k F hF => absurd hF (by simp)⟩
      have hb : Frm (DF2 p dd c so fo) σ0 (sI (sJ (sR σ1 608 p 0 (some (so Ss.length))) 800 (so Ss.length) 0 (X.v (X.nx i))) 802 (so Ss.length) 0 0) := s1.1.trans (hFw.mono (fun f r z => by
        rcases z with z | z
        · exact Or.inl (Or.inl ⟨z.1, by omega, by omega⟩)
        · rcases z.2 with w | w
          · exact Or.inr ⟨Ss.length, l20, z.1, w⟩
          · exact Or.inl (Or.inr (Or.inr (Or.inr (Or.inl ⟨Ss.length, l20, z.1, by omega, by omega⟩))))))
      generalize hτ : sI (sJ (sR σ1 608 p 0 (some (so Ss.length))) 800 (so Ss.length) 0 (X.v (X.nx i))) 802 (so Ss.length) 0 0 = τ at *
      have e800 : gJ τ 800 (so Ss.length) 0 = X.v (X.nx i) := by rw [← hτ, gJ_sI, gJ_slf]
      refine c_pass hX cs2.1 (fun σ3 hF3 hT3 => ?_)
      have sg3 : SG τ σ3 p t dd c so fo X En Ss [] (X.nx (X.nx i)) := ⟨hF3.mono DFr_p, cs2.p hF3 hT3 (by have : X.nx i ≤ X.nx (X.nx i) := nx_ge; omega) nx_ge, (by
        have n : ∀ f r, (f ≤ 599 ∨ f = 608 ∨ 611 ≤ f) → ¬ PFr p f r := fun f r z q => by have := q.2; omega
        exact ⟨env.1.gen hF3 (fun f r z => n f r (by omega)), env.2.1.gen hF3 (CM.p (r0 := 0) hF3).2 (fun f r z => n f r (by omega)) (fun s f _ z => n f _ (by omega)) (fun s k f _ _ _ _ => n f _ (by omega)), l20, by rw [hF3.R (n _ _ (by omega))]; exact env.2.2.2.1, by rw [hF3.I (n _ _ (by omega))]; exact env.2.2.2.2.1, Nat.zero_le _, fun k F hF => absurd hF (by simp)⟩)⟩
      obtain ⟨d, rfl⟩ : ∃ d', d = d' + 1 := ⟨d - 1, by omega⟩
      refine c_take hX hT3 (fun k123 σ4 hF4 hT4 => ⟨fun _ => ?_, fun z => absurd z (by decide)⟩) (fun k123 σ4 hF4 hf => ⟨fun z => absurd rfl z, fun _ => ⟨_, rfl, h0 (ck X (X.nx (X.nx i)) 2) (by rw [hr0, tk, if_neg k123, bx_er]) σ4 ⟨(hb.trans (hF3.mono DF2_p)).trans (hF4.mono DF2_p), hf⟩⟩⟩)
      have sg4 : SG τ σ4 p t dd c so fo X En Ss [] (X.nx (X.nx (X.nx i))) := ⟨sg3.1.trans (hF4.mono DFr_p), sg3.2.1.p hF4 hT4 (by have : X.nx (X.nx i) ≤ X.nx (X.nx (X.nx i)) := nx_ge; omega) nx_ge, (by
        have n : ∀ f r, (f ≤ 599 ∨ f = 608 ∨ 611 ≤ f) → ¬ PFr p f r := fun f r z q => by have := q.2; omega
        have env := sg3.2.2
        exact ⟨env.1.gen hF4 (fun f r z => n f r (by omega)), env.2.1.gen hF4 (CM.p (r0 := 0) hF4).2 (fun f r z => n f r (by omega)) (fun s f _ z => n f _ (by omega)) (fun s k f _ _ _ _ => n f _ (by omega)), l20, by rw [hF4.R (n _ _ (by omega))]; exact env.2.2.2.1, by rw [hF4.I (n _ _ (by omega))]; exact env.2.2.2.2.1, Nat.zero_le _, fun k F hF => absurd hF (by simp)⟩)⟩
      refine loop 15 [] (X.v (X.nx i)) _ τ σ4 hb sg4 e800 rfl (fun F hF => absurd hF (by simp)) ?_
      rw [hr0, tk, if_pos k123, bx_ok]
    · unfold rStr; rw [if_neg (by omega)]
  refine AC.of mo_X6_readStructure (Nat.le_of_ble_eq_true rfl) (bk_X6_readStructure_0 ⟨dd, a2.2.1, ?_⟩)
  rw [a4.1]
  exact ⟨fun q => s20 0 (by omega), fun q => s20 1 (by omega)⟩
end X26
