/-! the class: commit, drop, push -/
/-- commit upon an image without other layers, up to the place x -/
def XC0 (σ σ' : St) (a gn : Nat) (x : Int) : Prop :=
  Frm (fun f r => r = a ∧ f = 300) σ σ' ∧ ∀ k : Nat, gI σ' 300 a k = if (k : Int) < x ∧ 0 ≤ gI σ 400 gn k then gI σ 400 gn k else gI σ 300 a k
/-- commit upon a layer -/
def XC1 (σ σ' : St) (b gn : Nat) (x : Int) : Prop :=
  Frm (fun f r => r = b ∧ (f = 400 ∨ f = 401)) σ σ' ∧ BC σ' b ∧ ∀ k : Nat, gI σ' 400 b k = if (k : Int) < x ∧ 0 ≤ gI σ 400 gn k then gI σ 400 gn k else gI σ 400 b k
section X6
variable {g : GP} {l : Launch} {d : Nat} {Q : Option AV → St → Prop}
theorem x_sink0 {σ : St} {a gn : Nat} (ha : LC 3 σ a) (hg : LC 4 σ gn) (h2 : gI σ 304 a 0 ≤ 2000) (hge : ∀ p : Int, 0 ≤ p → p < 2000 → -1 ≤ gI σ 400 gn p.toNat)
    (h : ∀ σ', XC0 σ σ' a gn (gI σ 304 a 0) → Q (some (vI (gI σ 401 gn 0))) σ') :
    ∀ (j : Nat) (x : Int) (τ : St), x = gI σ 304 a 0 - j → 0 ≤ x → XC0 σ τ a gn x →
    AW g l (d + 1) MX3_sinkTop 28 [some (vR 3 (some a)), some (vR 4 (some gn)), some (vR 4 none), some (vI x), none] [] τ Q
  | 0, x, τ, hx, hx0, ht => by
    have e4 : gI τ 304 a 0 = gI σ 304 a 0 := ht.1.I (by simp) 0
    have e1 : gI τ 401 gn 0 = gI σ 401 gn 0 := ht.1.I (by simp) 0
    obtain rfl : x = gI σ 304 a 0 := by omega
    refine bk_X3_sinkTop_28 ⟨fun _ => ⟨gn, rfl, ?_⟩, fun q => absurd (by omega) q⟩
    rw [e1]
    exact h τ ht
  | j + 1, x, τ, hx, hx0, ht => by
    have e4 : gI τ 304 a 0 = gI σ 304 a 0 := ht.1.I (by simp) 0
    have e0 : gI τ 400 gn x.toNat = gI σ 400 gn x.toNat := ht.1.I (by simp) _
    have hg0 := hge x hx0 (by omega)
    refine bk_X3_sinkTop_28 ⟨fun q => absurd q (by omega), fun _ => ⟨gn, rfl, ht.1.lc hg, ⟨by omega, by omega⟩, fun e => bk_X3_sinkTop_65 ⟨fun _ => ⟨⟨by omega, by omega⟩, x_sink0 ha hg h2 hge h j _ _ (by omega) (by omega) ⟨ht.1, fun k => ?_⟩⟩, fun q => absurd e q⟩, fun e => ⟨fun _ => ⟨ht.1.lc ha, ⟨by omega, by omega⟩, x_sink0 ha hg h2 hge h j _ _ (by omega) (by omega) ⟨ht.1.trans (Frm.sI (by simp)), fun k => ?_⟩⟩, (fun r q => nomatch q)⟩⟩⟩
    · rw [ht.2]
      by_cases e2 : (k : Int) < x ∧ 0 ≤ gI σ 400 gn k
      · rw [if_pos e2, if_pos ⟨by omega, e2.2⟩]
      · rw [if_neg e2, if_neg (fun q => e2 ⟨?_, q.2⟩)]
        have : k ≠ x.toNat := fun z => by rw [z] at q; omega
        omega
    · rw [gI_sI, ht.2, e0]
      by_cases e2 : k = x.toNat
      · rw [if_pos ⟨rfl, rfl, e2⟩, e2, if_pos ⟨by omega, by omega⟩]
      · rw [if_neg (fun z => e2 z.2.2)]
        by_cases e3 : (k : Int) < x ∧ 0 ≤ gI σ 400 gn k
        · rw [if_pos e3, if_pos ⟨by omega, e3.2⟩]
        · rw [if_neg e3, if_neg (fun q => e3 ⟨by omega, q.2⟩)]
theorem x_sink1 {σ : St} {a b gn : Nat} (hb : LC 4 σ b) (hg : LC 4 σ gn) (hne : b ≠ gn) (h2 : gI σ 304 a 0 ≤ 2000) (hge : ∀ p : Int, 0 ≤ p → p < 2000 → -1 ≤ gI σ 400 gn p.toNat) (hgb : ∀ p : Int, 0 ≤ p → p < 2000 → -1 ≤ gI σ 400 b p.toNat)
    (h : ∀ σ', XC1 σ σ' b gn (gI σ 304 a 0) → Q (some (vI (gI σ 401 gn 0))) σ') :
    ∀ (j : Nat) (x : Int) (τ : St), x = gI σ 304 a 0 - j → 0 ≤ x → XC1 σ τ b gn x →
    AW g l (d + 1) MX3_sinkTop 28 [some (vR 3 (some a)), some (vR 4 (some gn)), some (vR 4 (some b)), some (vI x), none] [] τ Q
  | 0, x, τ, hx, hx0, ht => by
    have e4 : gI τ 304 a 0 = gI σ 304 a 0 := ht.1.I (by simp) 0
    have e1 : gI τ 401 gn 0 = gI σ 401 gn 0 := ht.1.I (fun z => hne z.1.symm) 0
    obtain rfl : x = gI σ 304 a 0 := by omega
    refine bk_X3_sinkTop_28 ⟨fun _ => ⟨gn, rfl, ?_⟩, fun q => absurd (by omega) q⟩
    rw [e1]
    exact h τ ht
  | j + 1, x, τ, hx, hx0, ht => by
    have e4 : gI τ 304 a 0 = gI σ 304 a 0 := ht.1.I (by simp) 0
    have e0 : gI τ 400 gn x.toNat = gI σ 400 gn x.toNat := ht.1.I (fun z => hne z.1.symm) _
    have hg0 := hge x hx0 (by omega)
    refine bk_X3_sinkTop_28 ⟨fun q => absurd q (by omega), fun _ => ⟨gn, rfl, ht.1.lc hg, ⟨by omega, by omega⟩, fun e => bk_X3_sinkTop_65 ⟨fun _ => ⟨⟨by omega, by omega⟩, x_sink1 hb hg hne h2 hge hgb h j _ _ (by omega) (by omega) ⟨ht.1, ht.2.1, fun k => ?_⟩⟩, fun q => absurd e q⟩, fun e => ⟨(fun q => nomatch q), fun r _ => bk_X3_sinkTop_65 ⟨fun q => absurd q e, fun _ => ⟨b, rfl, x_give (ht.1.lc hb) hx0 (by omega) (by omega) ?_ ht.2.1 (fun u f1 f2 f3 => ⟨⟨by omega, by omega⟩, x_sink1 hb hg hne h2 hge hgb h j _ _ (by omega) (by omega) ⟨ht.1.trans f1, f3, fun k => ?_⟩⟩)⟩⟩⟩⟩⟩
    · rw [ht.2.2]
      by_cases e2 : (k : Int) < x ∧ 0 ≤ gI σ 400 gn k
      · rw [if_pos e2, if_pos ⟨by omega, e2.2⟩]
      · rw [if_neg e2, if_neg (fun q => e2 ⟨?_, q.2⟩)]
        have : k ≠ x.toNat := fun z => by rw [z] at q; omega
        omega
    · rw [ht.2.2, if_neg (by omega)]
      exact hgb x hx0 (by omega)
    · rw [f2, ht.2.2, e0]
      by_cases e2 : k = x.toNat
      · rw [if_pos e2, e2, if_pos ⟨by omega, by omega⟩]
      · rw [if_neg e2]
        by_cases e3 : (k : Int) < x ∧ 0 ≤ gI σ 400 gn k
        · rw [if_pos e3, if_pos ⟨by omega, e3.2⟩]
        · rw [if_neg e3, if_neg (fun q => e3 ⟨by omega, q.2⟩)]
/-- commit: with a layer beneath (b) or none; what is left is an image -/
theorem x_sinkTop {σ : St} {a : Nat} {P : Int → St → Prop} (hc : CIm σ a) (hl : 0 < gI σ 303 a 0)
    (hA : gI σ 303 a 0 = 1 → ∀ σ', XC0 (sI σ 303 a 0 0) σ' a (lay σ a 0) (gI σ 304 a 0) → CIm σ' a → P (gI σ 401 (lay σ a 0) 0) σ')
    (hB : 1 < gI σ 303 a 0 → ∀ σ', XC1 (sI σ 303 a 0 (gI σ 303 a 0 - 1)) σ' (lay σ a (gI σ 303 a 0 - 2)) (lay σ a (gI σ 303 a 0 - 1)) (gI σ 304 a 0) → CIm σ' a → P (gI σ 401 (lay σ a (gI σ 303 a 0 - 1)) 0) σ') : ACi g l (d + 1) MX3_sinkTop [vR 3 (some a)] σ P := by
  have hlen := hc.2.1
  have hlc := hc.2.2.1
  obtain ⟨e1, e2⟩ := hc.2.2.2.1 (gI σ 303 a 0 - 1) (by omega) (by omega)
  have hg4 := (hc.lay4 (li := gI σ 303 a 0 - 1) (by omega) (by omega)).1
  have f0 : ∀ v, Frm (fun f r => r = a ∧ f = 303) σ (sI σ 303 a 0 v) := fun v => Frm.sI (by simp)
  refine AC.of mo_X3_sinkTop (Nat.le_of_ble_eq_true rfl) (bk_X3_sinkTop_0 (x_top hc.1 hlc.1 hlc.2 (fun e => absurd e (by omega)) (fun _ => ⟨fun q => ?_, fun r q => ⟨⟨by omega, by omega⟩, ?_⟩⟩)))
  · rw [e1] at q; cases q
  rw [e1]
  have hs3 : gI (sI σ 303 a 0 (gI σ 303 a 0 - 1)) 303 a 0 = gI σ 303 a 0 - 1 := gI_slf _ _ _ _ _
  refine x_top ((f0 _).lc hc.1) (by omega) (by omega) (fun e => ?_) (fun e => ?_)
  · have hl1 : gI σ 303 a 0 = 1 := by omega
    rw [hl1] at e1 e2 hg4 ⊢
    simp only [Int.sub_self] at e1 e2 hg4 ⊢
    have hfin := hA hl1
    refine x_sink0 (σ := sI σ 303 a 0 0) ((f0 _).lc hc.1) ((f0 _).lc hg4) (by rw [gI_sI, if_neg (by simp)]; omega) (fun p p0 p1 => by rw [gI_sI, if_neg (by simp)]; exact (e2.2.1 p p0 p1).1) (fun σ' hx => ⟨_, rfl, ?_⟩) (gI σ 304 a 0).toNat 0 _ (by rw [gI_sI, if_neg (by simp)]; omega) (by omega) ⟨Frm.rfl, fun k => by rw [if_neg (by omega)]⟩
    rw [gI_sI, if_neg (by simp)] at hx ⊢
    refine hfin σ' hx ?_
    have hF : Frm (fun f r => r = a ∧ (f = 303 ∨ f = 300)) σ σ' := ((f0 0).mono (fun f r z => ⟨z.1, Or.inl z.2⟩)).trans (hx.1.mono (fun f r z => ⟨z.1, Or.inr z.2⟩))
    have c3 : gI σ' 303 a 0 = 0 := by rw [hx.1.I (by simp)]; exact gI_slf _ _ _ _ _
    have c4 : gI σ' 304 a 0 = gI σ 304 a 0 := hF.I (by simp) 0
    have eR : ∀ i, gR σ' 302 a i = gR σ 302 a i := hF.R (by simp)
    refine ⟨hF.lc hc.1, by rw [c4]; exact hc.2.1, by omega, fun li q0 q1 => absurd q1 (by omega), fun i j b => by rw [eR, eR]; exact hc.2.2.2.2.1 i j b, fun i b q0 q1 => ?_, fun p q0 q1 => ?_, by rw [hF.2.1]; exact hc.2.2.2.2.2.2.2⟩
    · rw [eR] at q1
      have := hc.2.2.2.2.2.1 i b q0 q1
      exact ⟨hF.lc this.1, by rw [hF.2.1]; exact this.2⟩
    · rw [c4] at q1
      have c7 := hc.2.2.2.2.2.2.1 p q0 q1
      have hx' : hasX σ' a p = gI σ' 300 a p.toNat := by unfold hasX; rw [c3]; rfl
      have hy : hasX σ a p = if 0 ≤ gI σ 400 (lay σ a 0) p.toNat then gI σ 400 (lay σ a 0) p.toNat else gI σ 300 a p.toNat := by unfold hasX; rw [hl1]; rfl
      have hz := (e2.2.1 p q0 (by omega)).2
      rw [hx', hx.2, hF.I (by simp)]
      simp only [gI_sI, false_and, if_false, Nat.reduceEqDiff]
      by_cases e3 : ((p.toNat : Nat) : Int) < gI σ 304 a 0 ∧ 0 ≤ gI σ 400 (lay σ a 0) p.toNat
      · rw [if_pos e3, c7.2.2, hy, if_pos e3.2]
        exact ⟨e3.2, hz, rfl⟩
      · rw [if_neg e3, c7.2.2, hy, if_neg (fun q => e3 ⟨by omega, q⟩)]
        exact ⟨c7.1, c7.2.1, rfl⟩
  · obtain ⟨u1, u2⟩ := hc.2.2.2.1 (gI σ 303 a 0 - 2) (by omega) (by omega)
    have hb4 := (hc.lay4 (li := gI σ 303 a 0 - 2) (by omega) (by omega)).1
    have hne : lay σ a (gI σ 303 a 0 - 2) ≠ lay σ a (gI σ 303 a 0 - 1) := fun q => absurd (hc.inj (by omega) (by omega) (by omega) (by omega) q) (by omega)
    have hinj : ∀ li : Int, 0 ≤ li → li < gI σ 303 a 0 → lay σ a li = lay σ a (gI σ 303 a 0 - 2) → li = gI σ 303 a 0 - 2 := fun li q0 q1 q => hc.inj q0 q1 (by omega) (by omega) q
    have hfin := hB (by omega)
    rw [hs3, show gR (sI σ 303 a 0 (gI σ 303 a 0 - 1)) 302 a (gI σ 303 a 0 - 1 - 1).toNat = some (lay σ a (gI σ 303 a 0 - 2)) by rw [gR_sI, show gI σ 303 a 0 - 1 - 1 = gI σ 303 a 0 - 2 by omega]; exact u1]
    refine x_sink1 (σ := sI σ 303 a 0 (gI σ 303 a 0 - 1)) ((f0 _).lc hb4) ((f0 _).lc hg4) hne (by rw [gI_sI, if_neg (by simp)]; omega) (fun p p0 p1 => by rw [gI_sI, if_neg (by simp)]; exact (e2.2.1 p p0 p1).1) (fun p p0 p1 => by rw [gI_sI, if_neg (by simp)]; exact (u2.2.1 p p0 p1).1) (fun σ' hx => ⟨_, rfl, ?_⟩) (gI σ 304 a 0).toNat 0 _ (by rw [gI_sI, if_neg (by simp)]; omega) (by omega) ⟨Frm.rfl, ?_, fun k => by rw [if_neg (by omega)]⟩
    · have := u2.1
      unfold BC at this ⊢
      simp only [gI_sI, false_and, if_false, Nat.reduceEqDiff]
      exact this
    · rw [gI_sI, if_neg (by simp)] at hx ⊢
      refine hfin σ' hx ?_
      have hF : Frm (fun f r => (r = a ∧ f = 303) ∨ (r = lay σ a (gI σ 303 a 0 - 2) ∧ (f = 400 ∨ f = 401))) σ σ' := ((f0 _).mono (fun f r z => Or.inl z)).trans (hx.1.mono (fun f r z => Or.inr z))
      have c3 : gI σ' 303 a 0 = gI σ 303 a 0 - 1 := by rw [hx.1.I (by simp)]; exact gI_slf _ _ _ _ _
      have c4 : gI σ' 304 a 0 = gI σ 304 a 0 := hF.I (by simp) 0
      have eR : ∀ i, gR σ' 302 a i = gR σ 302 a i := hF.R (by simp)
      have eL : ∀ li, lay σ' a li = lay σ a li := fun li => by unfold lay; rw [eR]
      have b4 : ∀ k : Nat, gI σ' 400 (lay σ a (gI σ 303 a 0 - 2)) k = if (k : Int) < gI σ 304 a 0 ∧ 0 ≤ gI σ 400 (lay σ a (gI σ 303 a 0 - 1)) k then gI σ 400 (lay σ a (gI σ 303 a 0 - 1)) k else gI σ 400 (lay σ a (gI σ 303 a 0 - 2)) k := fun k => by
        rw [hx.2.2]
        simp only [gI_sI, false_and, if_false, Nat.reduceEqDiff]
      have bo : ∀ li : Int, 0 ≤ li → li < gI σ 303 a 0 → li ≠ gI σ 303 a 0 - 2 → ∀ f, f / 100 = 4 → ∀ i, gI σ' f (lay σ a li) i = gI σ f (lay σ a li) i := fun li q0 q1 qn f hf i => hF.I (fun z => by rcases z with z | z; (have := z.2; omega); exact qn (hinj li q0 q1 z.1)) i
      refine ⟨hF.lc hc.1, by rw [c4]; exact hc.2.1, by omega, fun li q0 q1 => ?_, fun i j b => by rw [eR, eR]; exact hc.2.2.2.2.1 i j b, fun i b q0 q1 => ?_, fun p q0 q1 => ?_, by rw [hF.2.1]; exact hc.2.2.2.2.2.2.2⟩
      · rw [c3] at q1
        rw [eR, eL, c4]
        refine ⟨(hc.2.2.2.1 li q0 (by omega)).1, ?_⟩
        by_cases e3 : li = gI σ 303 a 0 - 2
        · rw [e3]
          have k2 : ∀ i, gI σ' 402 (lay σ a (gI σ 303 a 0 - 2)) i = gI σ 402 (lay σ a (gI σ 303 a 0 - 2)) i := hF.I (by simp)
          have k3 : ∀ i, gI σ' 403 (lay σ a (gI σ 303 a 0 - 2)) i = gI σ 403 (lay σ a (gI σ 303 a 0 - 2)) i := hF.I (by simp)
          have k4 : ∀ i, gI σ' 404 (lay σ a (gI σ 303 a 0 - 2)) i = gI σ 404 (lay σ a (gI σ 303 a 0 - 2)) i := hF.I (by simp)
          have k5 : ∀ i, gI σ' 405 (lay σ a (gI σ 303 a 0 - 2)) i = gI σ 405 (lay σ a (gI σ 303 a 0 - 2)) i := hF.I (by simp)
          refine ⟨hx.2.1, fun p p0 p1 => ?_, fun p p0 p1 p2 => ?_, by rw [k5]; exact u2.2.2.2.1, by rw [k5]; exact u2.2.2.2.2.1, fun w w0 w1 => ?_⟩
          · rw [b4]
            split
            · exact e2.2.1 p p0 p1
            · exact u2.2.1 p p0 p1
          · rw [b4, if_neg (by omega)]
            exact u2.2.2.1 p p0 p1 p2
          · rw [k5] at w1
            unfold CKw
            simp only [k2, k3, k4]
            exact u2.2.2.2.2.2 w w0 w1
        · exact CLay.congr (bo li q0 (by omega) e3) (hc.2.2.2.1 li q0 (by omega)).2
      · rw [eR] at q1
        have := hc.2.2.2.2.2.1 i b q0 q1
        exact ⟨hF.lc this.1, by rw [hF.2.1]; exact this.2⟩
      · rw [c4] at q1
        have c7 := hc.2.2.2.2.2.2.1 p q0 q1
        rw [hF.I (by simp), hF.I (by simp)]
        refine ⟨c7.1, c7.2.1, ?_⟩
        rw [c7.2.2]
        unfold hasX
        rw [c3]
        have eo : ∀ li : Int, 0 ≤ li → li < gI σ 303 a 0 - 2 → gI σ' 400 (lay σ' a li) p.toNat = gI σ 400 (lay σ a li) p.toNat := fun li z0 z1 => by rw [eL]; exact bo li z0 (by omega) (by omega) 400 rfl _
        have eown : gI σ' 300 a p.toNat = gI σ 300 a p.toNat := hF.I (by simp) _
        by_cases e3 : 0 ≤ gI σ 400 (lay σ a (gI σ 303 a 0 - 1)) p.toNat
        · rw [hv_top hl e3]
          have e4 : gI σ' 400 (lay σ' a (gI σ 303 a 0 - 1 - 1)) p.toNat = gI σ 400 (lay σ a (gI σ 303 a 0 - 1)) p.toNat := by rw [eL, show gI σ 303 a 0 - 1 - 1 = gI σ 303 a 0 - 2 by omega, b4, if_pos ⟨by omega, e3⟩]
          rw [hv_top (f := fun li => gI σ' 400 (lay σ' a li) p.toNat) (by omega) (by rw [e4]; exact e3), e4]
        · rw [hv_pop hl (by omega)]
          refine hv_congr (fun i hi => ?_) eown.symm
          by_cases e4 : (i : Int) = gI σ 303 a 0 - 2
          · rw [eL, e4, b4, if_neg (fun z => e3 z.2)]
          · exact (eo i (by omega) (by omega)).symm
end X6
