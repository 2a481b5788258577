/-! the calls layer, image -/
def AL (σ σ' : St) (a b : Nat) : Prop :=
  Fr (fun f r => (r = a ∧ (f = 302 ∨ f = 303)) ∨ (r = b ∧ f / 100 = 4)) σ σ' ∧ hs σ' ≤ hs σ + 5 ∧ sl σ' ≤ sl σ + 2206 ∧
  (∀ i, gR σ' 302 a i = if i = (gI σ 303 a 0).toNat then some b else gR σ 302 a i) ∧ gI σ' 303 a 0 = gI σ 303 a 0 + 1 ∧ (∀ k : Nat, k < 2000 → gI σ' 400 b k = -1) ∧ gI σ' 401 b 0 = 0 ∧ gI σ' 405 b 0 = 0 ∧
  (hs σ ≤ b ∨ gR σ 302 a (gI σ 303 a 0).toNat = some b) ∧ b < hs σ' ∧ LC 4 σ' b
theorem AL.ne {σ σ' : St} {a b : Nat} (hc : CIm σ a) (h4 : gI σ 303 a 0 < 4) (h : AL σ σ' a b) {i b' : Nat} (hi : i < 4) (hn : i ≠ (gI σ 303 a 0).toNat) (hb : gR σ 302 a i = some b') : b' ≠ b := by
  have hlc := hc.2.2.1
  intro e
  subst e
  rcases h.2.2.2.2.2.2.2.2.1 with z | z
  · have := (hc.2.2.2.2.2.1 i b' hi hb).2
    omega
  · exact hn (hc.2.2.2.2.1 i _ b' hi (by omega) hb z)
theorem AL.cim {σ σ' : St} {a b : Nat} (hc : CIm σ a) (h4 : gI σ 303 a 0 < 4) (h : AL σ σ' a b) : CIm σ' a := by
  obtain ⟨c1, c2, c3, c4, c5, c6, c7, c8⟩ := id hc
  obtain ⟨a1, a2, a3, aR, a4, a5, a51, a6, a7, a8, a9⟩ := id h
  have e4 : gI σ' 304 a 0 = gI σ 304 a 0 := a1.I c8 (by simp) 0
  have eO : ∀ i, gI σ' 300 a i = gI σ 300 a i := a1.I c8 (by simp)
  have eN : ∀ i, gI σ' 301 a i = gI σ 301 a i := a1.I c8 (by simp)
  have eL : ∀ li : Int, 0 ≤ li → li < gI σ 303 a 0 → lay σ' a li = lay σ a li := fun li q0 q1 => by unfold lay; rw [aR, if_neg (by omega)]
  have eT : lay σ' a (gI σ 303 a 0) = b := by unfold lay; rw [aR, if_pos rfl]; rfl
  have eB : ∀ li : Int, 0 ≤ li → li < gI σ 303 a 0 → ∀ f, f / 100 = 4 → ∀ i, gI σ' f (lay σ a li) i = gI σ f (lay σ a li) i := fun li q0 q1 f hf i => a1.I (hc.lay4 q0 q1).2 (fun z => by
    rcases z with z | z
    · have := z.2; omega
    · exact h.ne hc h4 (i := li.toNat) (by omega) (by omega) (c4 li q0 q1).1 z.1) i
  refine ⟨a1.lc c8 c1, by rw [e4]; exact c2, by omega, fun li q0 q1 => ?_, fun i j b' hi hj => ?_, fun i b' hi => ?_, fun p q0 q1 => ?_, Nat.lt_of_lt_of_le c8 a1.1⟩
  · rw [a4] at q1
    rw [e4]
    by_cases e : li = gI σ 303 a 0
    · rw [e, eT, aR, if_pos rfl]
      refine ⟨rfl, ?_, fun p p0 p1 => by rw [a5 _ (by omega)]; decide, fun p p0 p1 p2 => a5 _ (by omega), by omega, by omega, fun w w0 w1 => absurd w1 (by omega)⟩
      unfold BC
      rw [a51]
      have := cnt_neg (f := fun p => gI σ' 400 b p.toNat) 0 2000 (fun i _ hi => by show gI σ' 400 b _ < 0; rw [a5 _ (by omega)]; decide)
      rw [Nat.zero_add] at this
      rw [this]
      rfl
    · rw [eL li q0 (by omega), aR, if_neg (by omega)]
      exact ⟨(c4 li q0 (by omega)).1, CLay.congr (eB li q0 (by omega)) (c4 li q0 (by omega)).2⟩
  · rw [aR, aR]
    by_cases e : i = (gI σ 303 a 0).toNat
    · rw [if_pos e]
      by_cases e' : j = (gI σ 303 a 0).toNat
      · intro _ _; omega
      · rw [if_neg e']
        intro z1 z2
        obtain rfl : b = b' := by simpa using z1
        exact absurd rfl (h.ne hc h4 hj e' z2)
    · rw [if_neg e]
      by_cases e' : j = (gI σ 303 a 0).toNat
      · rw [if_pos e']
        intro z1 z2
        obtain rfl : b = b' := by simpa using z2
        exact absurd rfl (h.ne hc h4 hi e z1)
      · rw [if_neg e']
        exact c5 i j b' hi hj
  · rw [aR]
    by_cases e : i = (gI σ 303 a 0).toNat
    · rw [if_pos e]
      intro z
      obtain rfl : b = b' := by simpa using z
      exact ⟨a9, a8⟩
    · rw [if_neg e]
      intro z
      have := c6 i b' hi z
      exact ⟨a1.lc this.2 this.1, Nat.lt_of_lt_of_le this.2 a1.1⟩
  · rw [e4] at q1
    rw [eO, eN]
    refine ⟨(c7 p q0 q1).1, (c7 p q0 q1).2.1, ?_⟩
    rw [(c7 p q0 q1).2.2]
    unfold hasX
    have ep := hv_pop (f := fun li => gI σ' 400 (lay σ' a li) p.toNat) (o := gI σ' 300 a p.toNat) (n := gI σ 303 a 0 + 1) (by omega) (by
      show gI σ' 400 (lay σ' a (gI σ 303 a 0 + 1 - 1)) p.toNat < 0
      rw [show gI σ 303 a 0 + 1 - 1 = gI σ 303 a 0 by omega, eT, a5 _ (by omega)]; decide)
    rw [a4, ep, eO, show gI σ 303 a 0 + 1 - 1 = gI σ 303 a 0 by omega]
    exact hv_congr (fun i hi => by rw [eL i (by omega) (by omega), eB i (by omega) (by omega) 400 rfl]) rfl
theorem layer_rel {σ σ1 σ' : St} {m a b : Nat} {im : Int} (hc : CIm σ a) (hr : RelI σ m a im) (hm : m < hs σ) (hi : 0 ≤ im) (h4 : gI σ 303 a 0 < 4) (hX : AL σ σ1 a b) (hM : ML1 σ1 σ' m ((4 * im + gI σ 303 a 0) * 2000) 2000) : RelI (sI (sI σ' 1205 m (4 * im + gI σ 303 a 0).toNat 0) 1202 m im.toNat (gI σ 303 a 0 + 1)) m a im := by
  have hlen := hc.2.1
  have hlc := hc.2.2.1
  have c8 := hc.2.2.2.2.2.2.2
  obtain ⟨r1, r2, r3, r4, r5, r6, r7⟩ := hr
  obtain ⟨a1, a2, a3, aR, a4, a5, a51, a6, a7, a8, a9⟩ := id hX
  obtain ⟨w1, w2⟩ := hM
  have m0 : ∀ f i, 1200 ≤ f → gI σ1 f m i = gI σ f m i := fun f i z0 => a1.I hm (fun z => by rcases z with z | z <;> omega) i
  have em : ∀ f i, 1200 ≤ f → f ≠ 1202 → f ≠ 1205 → f ≠ 1204 → gI (sI (sI σ' 1205 m (4 * im + gI σ 303 a 0).toNat 0) 1202 m im.toNat (gI σ 303 a 0 + 1)) f m i = gI σ f m i := fun f i z0 z1 z2 z3 => by rw [gI_sI, if_neg (by omega), gI_sI, if_neg (by omega), w1.I (by omega), m0 _ _ z0]
  have ec : ∀ f r i, f < 1200 → gI (sI (sI σ' 1205 m (4 * im + gI σ 303 a 0).toNat 0) 1202 m im.toNat (gI σ 303 a 0 + 1)) f r i = gI σ1 f r i := fun f r i z => by rw [gI_sI, if_neg (by omega), gI_sI, if_neg (by omega), w1.I (by omega)]
  have eR : ∀ i, gR (sI (sI σ' 1205 m (4 * im + gI σ 303 a 0).toNat 0) 1202 m im.toNat (gI σ 303 a 0 + 1)) 302 a i = gR σ1 302 a i := fun i => by rw [gR_sI, gR_sI, w1.R (by simp)]
  have eL : ∀ li : Int, 0 ≤ li → li < gI σ 303 a 0 → lay (sI (sI σ' 1205 m (4 * im + gI σ 303 a 0).toNat 0) 1202 m im.toNat (gI σ 303 a 0 + 1)) a li = lay σ a li := fun li q0 q1 => by unfold lay; rw [eR, aR, if_neg (by omega)]
  have eT : lay (sI (sI σ' 1205 m (4 * im + gI σ 303 a 0).toNat 0) 1202 m im.toNat (gI σ 303 a 0 + 1)) a (gI σ 303 a 0) = b := by unfold lay; rw [eR, aR, if_pos rfl]; rfl
  have e3 : gI (sI (sI σ' 1205 m (4 * im + gI σ 303 a 0).toNat 0) 1202 m im.toNat (gI σ 303 a 0 + 1)) 303 a 0 = gI σ 303 a 0 + 1 := by rw [ec _ _ _ (by decide), a4]
  have e4 : gI (sI (sI σ' 1205 m (4 * im + gI σ 303 a 0).toNat 0) 1202 m im.toNat (gI σ 303 a 0 + 1)) 304 a 0 = gI σ 304 a 0 := by rw [ec _ _ _ (by decide), a1.I c8 (by simp)]
  have eb : ∀ f li i, f / 100 = 4 → 0 ≤ li → li < gI σ 303 a 0 → gI (sI (sI σ' 1205 m (4 * im + gI σ 303 a 0).toNat 0) 1202 m im.toNat (gI σ 303 a 0 + 1)) f (lay σ a li) i = gI σ f (lay σ a li) i := fun f li i hf q0 q1 => by
    rw [ec _ _ _ (by omega), a1.I (hc.lay4 q0 q1).2 (fun z => by
      rcases z with z | z
      · have := z.2; omega
      · exact hX.ne hc h4 (i := li.toNat) (by omega) (by omega) (hc.2.2.2.1 li q0 q1).1 z.1)]
  have t5 : gI (sI (sI σ' 1205 m (4 * im + gI σ 303 a 0).toNat 0) 1202 m im.toNat (gI σ 303 a 0 + 1)) 405 b 0 = 0 := by rw [ec _ _ _ (by decide), a6]
  refine ⟨by rw [e4, em _ _ (by decide) (by decide) (by decide) (by decide)]; exact r1, by rw [e3, gI_slf], fun p q0 q1 => ?_, fun li p q0 q1 q2 q3 => ?_, fun li q0 q1 => ?_, fun li v q0 q1 q2 q3 => ?_, fun li v k q0 q1 q2 q3 q4 q5 => ?_⟩
  · rw [e4] at q1
    rw [ec _ _ _ (by decide), a1.I c8 (by simp), em _ _ (by decide) (by decide) (by decide) (by decide)]
    exact r3 p q0 q1
  · rw [e3] at q1
    rw [e4] at q3
    have es : ∀ k : Nat, gI (sI (sI σ' 1205 m (4 * im + gI σ 303 a 0).toNat 0) 1202 m im.toNat (gI σ 303 a 0 + 1)) 1204 m k = gI σ' 1204 m k := fun k => by rw [gI_sI, if_neg (by simp), gI_sI, if_neg (by simp)]
    rw [es, w2, m0 _ _ (by decide)]
    by_cases e : li = gI σ 303 a 0
    · rw [e, eT, ec _ _ _ (by decide), a5 _ (by omega), if_pos (by omega)]
    · rw [eL li q0 (by omega), eb 400 li _ rfl q0 (by omega), if_neg (by omega)]
      exact r4 li p q0 (by omega) q2 q3
  · rw [e3] at q1
    have es : ∀ k : Nat, gI (sI (sI σ' 1205 m (4 * im + gI σ 303 a 0).toNat 0) 1202 m im.toNat (gI σ 303 a 0 + 1)) 1205 m k = if k = (4 * im + gI σ 303 a 0).toNat then 0 else gI σ 1205 m k := fun k => by
      rw [gI_sI, if_neg (by simp), gI_sI]
      by_cases z : k = (4 * im + gI σ 303 a 0).toNat
      · rw [if_pos ⟨rfl, rfl, z⟩, if_pos z]
      · rw [if_neg (fun q => z q.2.2), if_neg z, w1.I (by simp), m0 _ _ (by decide)]
    rw [es]
    by_cases e : li = gI σ 303 a 0
    · rw [e, eT, t5, if_pos rfl]
    · rw [eL li q0 (by omega), eb 405 li _ rfl q0 (by omega), if_neg (by omega)]
      exact r5 li q0 (by omega)
  · rw [e3] at q1
    by_cases e : li = gI σ 303 a 0
    · rw [e, eT, t5] at q3
      omega
    · rw [eL li q0 (by omega), eb 405 li _ rfl q0 (by omega)] at q3
      rw [eL li q0 (by omega), eb 403 li _ rfl q0 (by omega), em _ _ (by decide) (by decide) (by decide) (by decide)]
      exact r6 li v q0 (by omega) q2 q3
  · rw [e3] at q1
    by_cases e : li = gI σ 303 a 0
    · rw [e, eT, t5] at q3
      omega
    · rw [eL li q0 (by omega), eb 405 li _ rfl q0 (by omega)] at q3
      rw [eL li q0 (by omega), eb 403 li _ rfl q0 (by omega)] at q5
      rw [eL li q0 (by omega), eb 402 li _ rfl q0 (by omega), eb 404 li _ rfl q0 (by omega), em _ _ (by decide) (by decide) (by decide) (by decide), em _ _ (by decide) (by decide) (by decide) (by decide)]
      exact r7 li v k q0 (by omega) q2 q3 q4 q5
section OP4
variable {g : GP} {l : Launch} {d : Nat} {σ : St} {x m : Nat}
theorem x_newLayer {P : St → Prop} (h1 : hs σ + 5 ≤ gB g + 600000) (h2 : sl σ + 2206 ≤ 7302250) (h : ∀ σ1, Fr (fun _ _ => False) σ σ1 → LC 4 σ1 (hs σ) → hs σ1 = hs σ + 5 → sl σ1 = sl σ + 2206 → P σ1) : ACv g l (d + 1) MX4_init [vR 4 (some (hs σ))] (sNew σ 6) P := by
  refine AC.of mo_X4_init (Nat.le_of_ble_eq_true rfl) (bk_X4_init_0 ⟨⟨by rw [gL_sNew, if_pos rfl], by rw [hs_sNew]; omega, by rw [sl_sNew]; omega⟩, ⟨by rw [gL_sArr, if_neg (by simp), gL_sNew, if_pos rfl], by rw [hs_sArr, hs_sNew]; omega, by rw [sl_sArr, sl_sNew]; omega⟩, ⟨by rw [gL_sArr, if_neg (by simp), gL_sArr, if_neg (by simp), gL_sNew, if_pos rfl], by rw [hs_sArr, hs_sArr, hs_sNew]; omega, by rw [sl_sArr, sl_sArr, sl_sNew]; omega⟩, ⟨by rw [gL_sArr, if_neg (by simp), gL_sArr, if_neg (by simp), gL_sArr, if_neg (by simp), gL_sNew, if_pos rfl], by rw [hs_sArr, hs_sArr, hs_sArr, hs_sNew]; omega, by rw [sl_sArr, sl_sArr, sl_sArr, sl_sNew]; omega⟩, rfl, h _ ((((Fr.sNew.sArr (Nat.le_refl _)).sArr (Nat.le_refl _)).sArr (Nat.le_refl _)).sArr (Nat.le_refl _)) (fun f hf => ?_) rfl (by show sl σ + 6 + 2000 + 20 + 20 + 160 = sl σ + 2206; omega)⟩)
  rw [LM4 f hf]
  simp only [gL_sArr, gL_sNew, and_true, if_true]
theorem x_wipe {b : Nat} {P : St → Prop} (hb : LC 4 σ b) (h : ∀ σ', Frm (fun f r => r = b ∧ f / 100 = 4) σ σ' → (∀ k : Nat, k < 2000 → gI σ' 400 b k = -1) → gI σ' 401 b 0 = 0 → gI σ' 405 b 0 = 0 → P σ') : ACv g l (d + 1) MX4_wipe [vR 4 (some b)] σ P := by
  have e : gL σ 400 b = 2000 := hb 400 rfl
  refine AC.of mo_X4_wipe (Nat.le_of_ble_eq_true rfl) (bk_X4_wipe_0 ⟨hb, x_fill (by decide) rfl (by omega) (fun σ' hF hv' => ⟨rfl, h _ ((hF.mono (fun f r z => ⟨z.1, by have := z.2; omega⟩)).trans ((Frm.sI (by simp)).trans (Frm.sI (by simp)))) (fun k hk => ?_) ?_ (gI_slf _ _ _ _ _)⟩)⟩)
  · rw [gI_sI, if_neg (by simp), gI_sI, if_neg (by simp)]
    exact hv' k (by omega)
  · rw [gI_sI, if_neg (by simp), gI_slf]
theorem x_addLayer {a : Nat} {P : St → Prop} (hc : CIm σ a) (h4 : gI σ 303 a 0 < 4) (h1 : hs σ + 5 ≤ gB g + 600000) (h2 : sl σ + 2206 ≤ 7302250) (h : ∀ σ' b, AL σ σ' a b → CIm σ' a → P σ') : ACv g l (d + 2) MX3_addLayer [vR 3 (some a)] σ P := by
  have hlc := hc.2.2.1
  have c8 := hc.2.2.2.2.2.2.2
  -- the end: from a store with the layer b at its place
  have fin : ∀ (τ : St) (b : Nat), Fr (fun f r => (r = a ∧ (f = 302 ∨ f = 303)) ∨ (r = b ∧ f / 100 = 4)) σ τ → hs τ ≤ hs σ + 5 → sl τ ≤ sl σ + 2206 → (∀ i, gR τ 302 a i = if i = (gI σ 303 a 0).toNat then some b else gR σ 302 a i) → gI τ 303 a 0 = gI σ 303 a 0 → (hs σ ≤ b ∨ gR σ 302 a (gI σ 303 a 0).toNat = some b) → b < hs τ → LC 4 τ b → AW g l (d + 2) MX3_addLayer 37 [some (vR 3 (some a))] [] τ (fun v σ' => v = none ∧ P σ') := by
    intro τ b f1 f2 f3 f4 f5 f6 f7 f8
    refine bk_X3_addLayer_37 ⟨f1.lc c8 hc.1, ⟨by omega, by omega⟩, b, by rw [f5, f4, if_pos rfl], x_wipe f8 (fun u g1 g2 g3 g4 => ?_)⟩
    have e3 : gI u 303 a 0 = gI σ 303 a 0 := by rw [g1.I (by simp), f5]
    refine ⟨⟨by omega, by omega⟩, rfl, ?_⟩
    rw [e3]
    have hA : AL σ (sI u 303 a 0 (gI σ 303 a 0 + 1)) a b := by
      refine ⟨f1.trans ((g1.fr.mono (fun f r z => Or.inr z)).trans (Frm.sI (by simp)).fr), ?_, ?_, fun i => ?_, gI_slf _ _ _ _ _, fun k hk => ?_, ?_, ?_, f6, ?_, ?_⟩
      · rw [hs_sI, g1.2.1]; exact f2
      · rw [sl_sI, g1.2.2.1]; exact f3
      · rw [gR_sI, g1.R (by simp)]; exact f4 i
      · rw [gI_sI, if_neg (by simp)]; exact g2 k hk
      · rw [gI_sI, if_neg (by simp)]; exact g3
      · rw [gI_sI, if_neg (by simp)]; exact g4
      · rw [hs_sI, g1.2.1]; exact f7
      · exact g1.lc f8
    exact h _ b hA (hA.cim hc h4)
  refine AC.of mo_X3_addLayer (Nat.le_of_ble_eq_true rfl) (bk_X3_addLayer_0 ⟨fun _ => ⟨hc.1, ⟨by omega, by omega⟩, fun hn => ⟨⟨by omega, by omega⟩, x_newLayer h1 h2 (fun σ1 f1 f2 f3 f4 => ⟨f1.lc c8 hc.1, fin _ (hs σ) ?_ ?_ ?_ (fun i => ?_) ?_ (Or.inl (Nat.le_refl _)) ?_ f2⟩)⟩, fun b hb => fin σ b Fr.rfl (by omega) (by omega) (fun i => ?_) rfl (Or.inr hb) (hc.2.2.2.2.2.1 _ b (by omega) hb).2 (hc.2.2.2.2.2.1 _ b (by omega) hb).1⟩, fun q => absurd h4 q⟩)
  · exact (f1.mono (fun _ _ z => z.elim)).trans (Frm.sR (by simp)).fr
  · rw [hs_sR]; omega
  · rw [sl_sR]; omega
  · rw [gR_sR]
    by_cases e : i = (gI σ 303 a 0).toNat
    · rw [if_pos ⟨rfl, rfl, e⟩, if_pos e]
    · rw [if_neg (fun z => e z.2.2), if_neg e, f1.R c8 (by simp)]
  · rw [gI_sR, f1.I c8 (by simp)]
  · rw [hs_sR]; omega
  · by_cases e : i = (gI σ 303 a 0).toNat
    · rw [if_pos e, e, hb]
    · rw [if_neg e]
theorem op_layer {im : Int} (hI : ImgI σ x m) (g1 : hs σ + 10 ≤ gB g + 600000) (g2 : sl σ + 4100 ≤ 7302250) : ACi g l (d + 6) MX11_layer [vR 11 (some x), vI im] σ (fun a σ1 => ACi g l (d + 6) MX12_layer [vR 12 (some m), vI im] σ1 (fun b σ2 => a = b ∧ ImgI σ2 x m ∧ IFr σ σ2 x m)) := by
  have h6 := hI.2.2.2.2.1
  have he := hI.2.2.2.2.2.1
  refine AC.of mo_X11_layer (Nat.le_of_ble_eq_true rfl) (bk_X11_layer_0 (x_imageOf hI.1 h6.2 (fun hn => ⟨fun _ => ⟨_, rfl, ?_⟩, (fun _ q => nomatch q)⟩) (fun h0 h1 => ?_)))
  · refine AC.of mo_X12_layer (Nat.le_of_ble_eq_true rfl) (bk_X12_layer_0 (m_isImage ?_))
    rw [if_neg (by omega)]
    exact ⟨fun q => absurd rfl q, fun _ => ⟨_, rfl, rfl, hI, IFr.rfl⟩⟩
  obtain ⟨e1, hc, hr, hi6, hi2⟩ := hI.im h0 h1
  have hlc := hc.2.2.1
  have r2 := hr.2.1
  rw [e1]
  refine ⟨(fun q => nomatch q), fun r q => ?_⟩
  obtain rfl : img σ x im = r := by simpa using q
  refine ⟨fun hz => x_addLayer hc hz (by omega) (by omega) (fun σ1 b hX hc1 => ⟨_, rfl, ?_⟩), fun hz => ⟨_, rfl, ?_⟩⟩
  · have m0 : ∀ f i, 1200 ≤ f → gI σ1 f m i = gI σ f m i := fun f i z0 => hX.1.I hI.2.2.2.1 (fun z => by rcases z with z | z <;> omega) i
    have hL := hX.1.lc hI.2.2.2.1 hI.2.1
    refine AC.of mo_X12_layer (Nat.le_of_ble_eq_true rfl) (bk_X12_layer_0 (m_isImage ?_))
    rw [m0 _ _ (by decide), if_pos ⟨h0, hi2⟩]
    refine ⟨fun _ => ⟨hL, ⟨h0, hi6⟩, ?_⟩, fun q => absurd q (by decide)⟩
    rw [m0 _ _ (by decide), ← r2]
    refine ⟨fun _ => m_layer_25 (li := gI σ 303 (img σ x im) 0) hL h0 hi6 (by rw [m0 _ _ (by decide)]; exact r2.symm) (by omega) (by omega) (fun σ' hM => ⟨_, rfl, hX.2.2.2.2.1, ?_, ?_⟩) 2000 0 σ1 (by omega) (by omega) ⟨Frm.rfl, fun k => by rw [if_neg (by omega)]⟩, fun q => absurd q (by omega)⟩
    · have hG : Frm (fun f r => r = m ∧ 1200 < f) σ1 (sI (sI σ' 1205 m (4 * im + gI σ 303 (img σ x im) 0).toNat 0) 1202 m im.toNat (gI σ 303 (img σ x im) 0 + 1)) := (hM.1.mono (fun f r z => ⟨z.1, by have := z.2; omega⟩)).trans ((Frm.sI (by simp)).trans (Frm.sI (by simp)))
      refine hI.step h0 h1 hX.1 (fun f r z => ?_) (fun u b' hu hb => ?_) hc1 hG (fun j j0 j6 jn => ?_) (layer_rel hc hr hI.2.2.2.1 h0 hz hX hM)
      · rcases z with z | z
        · exact Or.inl ⟨by have := z.2; omega, z.1⟩
        · refine Or.inr ⟨z.2, ?_⟩
          rcases hX.2.2.2.2.2.2.2.2.1 with y | y
          · exact Or.inl (by rw [z.1]; exact y)
          · exact Or.inr ⟨(gI σ 303 (img σ x im) 0).toNat, by omega, by rw [z.1]; exact y⟩
      · rw [hX.2.2.2.1] at hb
        by_cases e : u = (gI σ 303 (img σ x im) 0).toNat
        · rw [if_pos e] at hb
          obtain rfl : b = b' := by simpa using hb
          rcases hX.2.2.2.2.2.2.2.2.1 with y | y
          · exact Or.inl y
          · exact Or.inr ⟨(gI σ 303 (img σ x im) 0).toNat, by omega, y⟩
        · rw [if_neg e] at hb
          exact Or.inr ⟨u, hu, hb⟩
      · refine ⟨by rw [gI_sI, if_neg (by simp), gI_sI, if_neg (by simp), hM.1.I (by simp)], by rw [gI_sI, if_neg (by omega), gI_sI, if_neg (by simp), hM.1.I (by simp)], fun k _ _ => by rw [gI_sI, if_neg (by simp), gI_sI, if_neg (by simp), hM.1.I (by simp)], fun k z0 z1 => ?_, fun k z0 z1 => ?_, fun k _ _ => by rw [gI_sI, if_neg (by simp), gI_sI, if_neg (by simp), hM.1.I (by simp)], fun k _ _ => ⟨by rw [gI_sI, if_neg (by simp), gI_sI, if_neg (by simp), hM.1.I (by simp)], by rw [gI_sI, if_neg (by simp), gI_sI, if_neg (by simp), hM.1.I (by simp)]⟩⟩
        · rw [gI_sI, if_neg (by simp), gI_sI, if_neg (by simp), hM.2, if_neg (by omega)]
        · rw [gI_sI, if_neg (by simp), gI_sI, if_neg (by omega), hM.1.I (by simp)]
    · have hG : Frm (fun f r => r = m ∧ 1201 < f ∧ f < 1210) σ1 (sI (sI σ' 1205 m (4 * im + gI σ 303 (img σ x im) 0).toNat 0) 1202 m im.toNat (gI σ 303 (img σ x im) 0 + 1)) := (hM.1.mono (fun f r z => ⟨z.1, by have := z.2; omega⟩)).trans ((Frm.sI (by simp)).trans (Frm.sI (by simp)))
      have a2 := hX.2.1
      have a3 := hX.2.2.1
      refine ⟨(hX.1.mono (fun f r z => by rcases z with z | z <;> omega)).trans (hG.fr.mono (fun f r z => by omega)), by rw [hG.2.1]; omega, by rw [hG.2.2.1]; omega, by rw [hG.I (by simp), hX.1.I hI.2.2.1 (by simp)]; omega, fun j _ _ => ⟨by rw [hG.R (by simp), hX.1.R hI.2.2.1 (by simp)], by rw [hG.I (by simp), m0 _ _ (by decide)]; omega⟩⟩
  · refine AC.of mo_X12_layer (Nat.le_of_ble_eq_true rfl) (bk_X12_layer_0 (m_isImage ?_))
    rw [if_pos ⟨h0, hi2⟩]
    exact ⟨fun _ => ⟨hI.2.1, ⟨h0, hi6⟩, fun q => absurd (by omega) q, fun _ => ⟨_, rfl, rfl, hI, IFr.rfl⟩⟩, fun q => absurd q (by decide)⟩
end OP4
