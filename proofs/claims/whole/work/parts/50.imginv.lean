/-! images: class and reference side by side -/
def RelI (σ : St) (m a : Nat) (im : Int) : Prop :=
  gI σ 304 a 0 = gI σ 1201 m im.toNat ∧ gI σ 303 a 0 = gI σ 1202 m im.toNat ∧
  (∀ p : Int, 0 ≤ p → p < gI σ 304 a 0 → gI σ 300 a p.toNat = gI σ 1203 m (2000 * im + p).toNat) ∧
  (∀ li p : Int, 0 ≤ li → li < gI σ 303 a 0 → 0 ≤ p → p < gI σ 304 a 0 → gI σ 400 (lay σ a li) p.toNat = gI σ 1204 m ((4 * im + li) * 2000 + p).toNat) ∧
  (∀ li : Int, 0 ≤ li → li < gI σ 303 a 0 → gI σ 405 (lay σ a li) 0 = gI σ 1205 m (4 * im + li).toNat) ∧
  (∀ li w : Int, 0 ≤ li → li < gI σ 303 a 0 → 0 ≤ w → w < gI σ 405 (lay σ a li) 0 → gI σ 403 (lay σ a li) w.toNat = gI σ 1206 m (20 * (4 * im + li) + w).toNat) ∧
  (∀ li w k : Int, 0 ≤ li → li < gI σ 303 a 0 → 0 ≤ w → w < gI σ 405 (lay σ a li) 0 → 0 ≤ k → k < gI σ 403 (lay σ a li) w.toNat → gI σ 1207 m (8 * (20 * (4 * im + li) + w) + k).toNat = gI σ 402 (lay σ a li) w.toNat + k ∧ gI σ 404 (lay σ a li) (w * 8 + k).toNat = gI σ 1208 m (8 * (20 * (4 * im + li) + w) + k).toNat)
theorem RelI.has {σ : St} {m a : Nat} {im p : Int} (hc : CIm σ a) (h : RelI σ m a im) (h0 : 0 ≤ p) (h1 : p < gI σ 304 a 0) : gI σ 301 a p.toNat = hasM σ m im p := by
  rw [(hc.2.2.2.2.2.2.1 p h0 h1).2.2]
  unfold hasX hasM
  have := hc.2.2.1
  rw [h.2.1]
  exact hv_congr (fun i hi => h.2.2.2.1 i p (by omega) (by rw [h.2.1]; omega) h0 h1) (h.2.2.1 p h0 h1)
theorem CIm.now {σ : St} {a : Nat} (hc : CIm σ a) {p : Int} (h0 : 0 ≤ p) (h1 : p < gI σ 304 a 0) : 0 ≤ gI σ 301 a p.toNat ∧ gI σ 301 a p.toNat ≤ 255 := by
  have hlen := hc.2.1
  have hlc := hc.2.2.1
  rw [(hc.2.2.2.2.2.2.1 p h0 h1).2.2]
  unfold hasX
  have key : ∀ k : Nat, (k : Int) ≤ gI σ 303 a 0 → 0 ≤ hv (fun li => gI σ 400 (lay σ a li) p.toNat) (gI σ 300 a p.toNat) k ∧ hv (fun li => gI σ 400 (lay σ a li) p.toNat) (gI σ 300 a p.toNat) k ≤ 255 := by
    intro k
    induction k with
    | zero =>
      intro _
      have := hc.2.2.2.2.2.2.1 p h0 h1
      exact ⟨this.1, this.2.1⟩
    | succ k ih =>
      intro hk
      unfold hv
      split
      · rename_i q
        exact ⟨q, ((hc.2.2.2.1 k (by omega) (by omega)).2.2.1 p h0 (by omega)).2⟩
      · exact ih (by omega)
  exact key _ (by omega)
/-- the reference's rows agree on what is the image im's -/
def AgM (σ σ' : St) (m : Nat) (im : Int) : Prop :=
  gI σ' 1201 m im.toNat = gI σ 1201 m im.toNat ∧ gI σ' 1202 m im.toNat = gI σ 1202 m im.toNat ∧
  (∀ k : Nat, 2000 * im ≤ k → (k : Int) < 2000 * im + 2000 → gI σ' 1203 m k = gI σ 1203 m k) ∧
  (∀ k : Nat, 8000 * im ≤ k → (k : Int) < 8000 * im + 8000 → gI σ' 1204 m k = gI σ 1204 m k) ∧
  (∀ k : Nat, 4 * im ≤ k → (k : Int) < 4 * im + 4 → gI σ' 1205 m k = gI σ 1205 m k) ∧
  (∀ k : Nat, 80 * im ≤ k → (k : Int) < 80 * im + 80 → gI σ' 1206 m k = gI σ 1206 m k) ∧
  (∀ k : Nat, 640 * im ≤ k → (k : Int) < 640 * im + 640 → gI σ' 1207 m k = gI σ 1207 m k ∧ gI σ' 1208 m k = gI σ 1208 m k)
theorem AgM.of {P : Nat → Nat → Prop} {σ σ' : St} {m : Nat} {im : Int} (hm : m < hs σ) (h : Fr P σ σ') (hp : ∀ f, 1200 < f → f < 1209 → ¬ P f m) : AgM σ σ' m im :=
  ⟨h.I hm (hp _ (by decide) (by decide)) _, h.I hm (hp _ (by decide) (by decide)) _, fun k _ _ => h.I hm (hp _ (by decide) (by decide)) _, fun k _ _ => h.I hm (hp _ (by decide) (by decide)) _, fun k _ _ => h.I hm (hp _ (by decide) (by decide)) _, fun k _ _ => h.I hm (hp _ (by decide) (by decide)) _, fun k _ _ => ⟨h.I hm (hp _ (by decide) (by decide)) _, h.I hm (hp _ (by decide) (by decide)) _⟩⟩
theorem RelI.other {P : Nat → Nat → Prop} {σ σ' : St} {m a : Nat} {im : Int} (hc : CIm σ a) (h : RelI σ m a im) (hi : 0 ≤ im) (hF : Fr P σ σ') (h3 : ∀ f, f / 100 = 3 → ¬ P f a) (h4 : ∀ f i b, f / 100 = 4 → i < 4 → gR σ 302 a i = some b → ¬ P f b) (hA : AgM σ σ' m im) : RelI σ' m a im := by
  obtain ⟨r1, r2, r3, r4, r5, r6, r7⟩ := h
  obtain ⟨a1, a2, a3, a4, a5, a6, a7⟩ := hA
  have hlen := hc.2.1
  have hlc := hc.2.2.1
  have c8 := hc.2.2.2.2.2.2.2
  have e4 : gI σ' 304 a 0 = gI σ 304 a 0 := hF.I c8 (h3 304 rfl) 0
  have e3 : gI σ' 303 a 0 = gI σ 303 a 0 := hF.I c8 (h3 303 rfl) 0
  have eR : ∀ i, gR σ' 302 a i = gR σ 302 a i := hF.R c8 (h3 302 rfl)
  have eO : ∀ i, gI σ' 300 a i = gI σ 300 a i := hF.I c8 (h3 300 rfl)
  have eL : ∀ li, lay σ' a li = lay σ a li := fun li => by unfold lay; rw [eR]
  have eB : ∀ li : Int, 0 ≤ li → li < gI σ 303 a 0 → ∀ f, f / 100 = 4 → ∀ i, gI σ' f (lay σ a li) i = gI σ f (lay σ a li) i := fun li q0 q1 f hf i => hF.I (hc.lay4 q0 q1).2 (h4 f li.toNat _ hf (by omega) (hc.2.2.2.1 li q0 q1).1) i
  refine ⟨by rw [e4, a1]; exact r1, by rw [e3, a2]; exact r2, fun p q0 q1 => ?_, fun li p q0 q1 q2 q3 => ?_, fun li q0 q1 => ?_, fun li w q0 q1 q2 q3 => ?_, fun li w k q0 q1 q2 q3 q4 q5 => ?_⟩
  · rw [e4] at q1
    rw [eO, a3 _ (by omega) (by omega)]
    exact r3 p q0 q1
  · rw [e3] at q1
    rw [e4] at q3
    rw [eL, eB li q0 q1 400 rfl, a4 _ (by omega) (by omega)]
    exact r4 li p q0 q1 q2 q3
  · rw [e3] at q1
    rw [eL, eB li q0 q1 405 rfl, a5 _ (by omega) (by omega)]
    exact r5 li q0 q1
  · rw [e3] at q1
    rw [eL, eB li q0 q1 405 rfl] at q3
    have cl := (hc.2.2.2.1 li q0 q1).2.2.2.2.2.1
    rw [eL, eB li q0 q1 403 rfl, a6 _ (by omega) (by omega)]
    exact r6 li w q0 q1 q2 q3
  · rw [e3] at q1
    rw [eL, eB li q0 q1 405 rfl] at q3
    rw [eL, eB li q0 q1 403 rfl] at q5
    have cl := (hc.2.2.2.1 li q0 q1).2.2.2.2.2.1
    have cw := ((hc.2.2.2.1 li q0 q1).2.2.2.2.2.2 w q2 q3).2.1
    rw [eL, eB li q0 q1 402 rfl, eB li q0 q1 404 rfl, (a7 _ (by omega) (by omega)).1, (a7 _ (by omega) (by omega)).2]
    exact r7 li w k q0 q1 q2 q3 q4 q5
def img (σ : St) (x : Nat) (im : Int) : Nat := (gR σ 1100 x im.toNat).getD 0
/-- all images -/
def ImgI (σ : St) (x m : Nat) : Prop :=
  LC 11 σ x ∧ LC 12 σ m ∧ x < hs σ ∧ m < hs σ ∧ (0 ≤ gI σ 1101 x 0 ∧ gI σ 1101 x 0 ≤ 6) ∧ gI σ 1101 x 0 = gI σ 1200 m 0 ∧
  (∀ im : Int, 0 ≤ im → im < gI σ 1101 x 0 → gR σ 1100 x im.toNat = some (img σ x im) ∧ CIm σ (img σ x im) ∧ RelI σ m (img σ x im) im) ∧
  (∀ i j : Int, 0 ≤ i → i < gI σ 1101 x 0 → 0 ≤ j → j < gI σ 1101 x 0 → img σ x i = img σ x j → i = j) ∧
  (∀ i j : Int, 0 ≤ i → i < gI σ 1101 x 0 → 0 ≤ j → j < gI σ 1101 x 0 → i ≠ j → ∀ u v b : Nat, u < 4 → v < 4 → gR σ 302 (img σ x i) u = some b → gR σ 302 (img σ x j) v = some b → False)
/-- nothing of the images is touched -/
theorem ImgI.fr {P : Nat → Nat → Prop} {σ σ' : St} {x m : Nat} (h : ImgI σ x m) (hF : Fr P σ σ') (h0 : ∀ f r, (f / 100 = 3 ∨ f / 100 = 4 ∨ f = 1100 ∨ f = 1101 ∨ (1200 ≤ f ∧ f < 1209)) → ¬ P f r) : ImgI σ' x m := by
  obtain ⟨i1, i2, i3, i4, i5, i6, i7, i8, i9⟩ := h
  have e1 : gI σ' 1101 x 0 = gI σ 1101 x 0 := hF.I i3 (h0 _ _ (by decide)) 0
  have e2 : gI σ' 1200 m 0 = gI σ 1200 m 0 := hF.I i4 (h0 _ _ (by decide)) 0
  have eR : ∀ i, gR σ' 1100 x i = gR σ 1100 x i := hF.R i3 (h0 _ _ (by decide))
  have eI : ∀ i, img σ' x i = img σ x i := fun i => by unfold img; rw [eR]
  have eL : ∀ i : Int, 0 ≤ i → i < gI σ 1101 x 0 → ∀ u, gR σ' 302 (img σ x i) u = gR σ 302 (img σ x i) u := fun i q0 q1 => hF.R (i7 i q0 q1).2.1.2.2.2.2.2.2.2 (h0 _ _ (by decide))
  refine ⟨hF.lc i3 i1, hF.lc i4 i2, Nat.lt_of_lt_of_le i3 hF.1, Nat.lt_of_lt_of_le i4 hF.1, by rw [e1]; exact i5, by rw [e1, e2]; exact i6, fun im q0 q1 => ?_, fun i j q0 q1 q2 q3 => ?_, fun i j q0 q1 q2 q3 q4 u v b q5 q6 => ?_⟩
  · rw [e1] at q1
    obtain ⟨j1, j2, j3⟩ := i7 im q0 q1
    rw [eR, eI]
    exact ⟨j1, j2.fr hF (fun f hf => h0 f _ (Or.inl hf)) (fun f i b hf _ _ => h0 f _ (Or.inr (Or.inl hf))), j3.other j2 q0 hF (fun f hf => h0 f _ (Or.inl hf)) (fun f i b hf _ _ => h0 f _ (Or.inr (Or.inl hf))) (AgM.of i4 hF (fun f z1 z2 => h0 f _ (by omega)))⟩
  · rw [e1] at q1 q3
    rw [eI, eI]
    exact i8 i j q0 q1 q2 q3
  · rw [e1] at q1 q3
    rw [eI, eI, eL i q0 q1, eL j q2 q3]
    exact i9 i j q0 q1 q2 q3 q4 u v b q5 q6
/-- a step on the image im: of the class first, then of the reference -/
theorem ImgI.step {P : Nat → Nat → Prop} {σ σ1 σ2 : St} {x m : Nat} {im : Int} (h : ImgI σ x m) (h0 : 0 ≤ im) (h1 : im < gI σ 1101 x 0) (hF : Fr P σ σ1)
    (hP : ∀ f r, P f r → (f / 100 = 3 ∧ r = img σ x im) ∨ (f / 100 = 4 ∧ (hs σ ≤ r ∨ ∃ u, u < 4 ∧ gR σ 302 (img σ x im) u = some r)))
    (hL : ∀ u b, u < 4 → gR σ1 302 (img σ x im) u = some b → hs σ ≤ b ∨ ∃ v, v < 4 ∧ gR σ 302 (img σ x im) v = some b)
    (hc : CIm σ1 (img σ x im)) (hG : Frm (fun f r => r = m ∧ 1200 < f) σ1 σ2) (hA : ∀ j : Int, 0 ≤ j → j < 6 → j ≠ im → AgM σ1 σ2 m j) (hR : RelI σ2 m (img σ x im) im) : ImgI σ2 x m := by
  obtain ⟨i1, i2, i3, i4, i5, i6, i7, i8, i9⟩ := h
  have n3 : ∀ f j, 0 ≤ j → j < gI σ 1101 x 0 → j ≠ im → f / 100 = 3 → ¬ P f (img σ x j) := fun f j q0 q1 qn hf z => by
    rcases hP _ _ z with z | z
    · exact qn (i8 j im q0 q1 h0 h1 z.2)
    · omega
  have n4 : ∀ (f u b : Nat) (j : Int), 0 ≤ j → j < gI σ 1101 x 0 → j ≠ im → f / 100 = 4 → u < 4 → gR σ 302 (img σ x j) u = some b → ¬ P f b := fun f u b j q0 q1 qn hf hu hb z => by
    rcases hP _ _ z with z | ⟨-, z | ⟨v, z1, z2⟩⟩
    · omega
    · have := ((i7 j q0 q1).2.1.2.2.2.2.2.1 u b hu hb).2
      omega
    · exact i9 j im q0 q1 h0 h1 qn u v b hu z1 hb z2
  have nx : ∀ f r, f / 100 = 11 ∨ f / 100 = 12 → ¬ P f r := fun f r hf z => by
    rcases hP _ _ z with z | z <;> omega
  have e1 : gI σ2 1101 x 0 = gI σ 1101 x 0 := by rw [hG.I (by simp), hF.I i3 (nx _ _ (by decide))]
  have e2 : gI σ2 1200 m 0 = gI σ 1200 m 0 := by rw [hG.I (by simp), hF.I i4 (nx _ _ (by decide))]
  have eR : ∀ i, gR σ2 1100 x i = gR σ 1100 x i := fun i => by rw [hG.R (by simp), hF.R i3 (nx _ _ (by decide))]
  have eI : ∀ i, img σ2 x i = img σ x i := fun i => by unfold img; rw [eR]
  have hGf : Fr (fun f r => r = m ∧ 1200 < f) σ1 σ2 := hG.fr
  have g3 : ∀ f r, f / 100 = 3 → ¬ (r = m ∧ 1200 < f) := fun f r hf z => by omega
  have g4 : ∀ f r, f / 100 = 4 → ¬ (r = m ∧ 1200 < f) := fun f r hf z => by omega
  have eL : ∀ j : Int, 0 ≤ j → j < gI σ 1101 x 0 → j ≠ im → ∀ u, gR σ2 302 (img σ x j) u = gR σ 302 (img σ x j) u := fun j q0 q1 qn u => by rw [hG.R (by simp), hF.R (i7 j q0 q1).2.1.2.2.2.2.2.2.2 (n3 302 j q0 q1 qn rfl)]
  have eLi : ∀ u, gR σ2 302 (img σ x im) u = gR σ1 302 (img σ x im) u := fun u => hG.R (by simp) u
  have sep : ∀ j : Int, 0 ≤ j → j < gI σ 1101 x 0 → j ≠ im → ∀ u v b : Nat, u < 4 → v < 4 → gR σ2 302 (img σ x j) u = some b → gR σ2 302 (img σ x im) v = some b → False := fun j q0 q1 qn u v b hu hv' hb1 hb2 => by
    rw [eL j q0 q1 qn] at hb1
    rw [eLi] at hb2
    rcases hL v b hv' hb2 with z | ⟨w, z1, z2⟩
    · have := ((i7 j q0 q1).2.1.2.2.2.2.2.1 u b hu hb1).2
      omega
    · exact i9 j im q0 q1 h0 h1 qn u w b hu z1 hb1 z2
  refine ⟨hG.lc (hF.lc i3 i1), hG.lc (hF.lc i4 i2), by rw [hG.2.1]; exact Nat.lt_of_lt_of_le i3 hF.1, by rw [hG.2.1]; exact Nat.lt_of_lt_of_le i4 hF.1, by rw [e1]; exact i5, by rw [e1, e2]; exact i6, fun j q0 q1 => ?_, fun i j q0 q1 q2 q3 => ?_, fun i j q0 q1 q2 q3 q4 u v b q5 q6 q7 q8 => ?_⟩
  · rw [e1] at q1
    rw [eR, eI]
    refine ⟨(i7 j q0 q1).1, ?_⟩
    by_cases e : j = im
    · rw [e]
      exact ⟨hc.fr hGf (fun f hf => g3 f _ hf) (fun f i b hf _ _ => g4 f _ hf), hR⟩
    · obtain ⟨j1, j2, j3⟩ := i7 j q0 q1
      have k2 := j2.fr hF (fun f hf => n3 f j q0 q1 e hf) (fun f i b hf hi hb => n4 f i b j q0 q1 e hf hi hb)
      have k3 := j3.other j2 q0 hF (fun f hf => n3 f j q0 q1 e hf) (fun f i b hf hi hb => n4 f i b j q0 q1 e hf hi hb) (AgM.of i4 hF (fun f z1 z2 => nx f _ (by omega)))
      exact ⟨k2.fr hGf (fun f hf => g3 f _ hf) (fun f i b hf _ _ => g4 f _ hf), k3.other k2 q0 hGf (fun f hf => g3 f _ hf) (fun f i b hf _ _ => g4 f _ hf) (hA j q0 (by omega) e)⟩
  · rw [e1] at q1 q3
    rw [eI, eI]
    exact i8 i j q0 q1 q2 q3
  · rw [e1] at q1 q3
    rw [eI] at q7 q8
    by_cases e : i = im
    · rw [e] at q7
      exact sep j q2 q3 (by omega) v u b q6 q5 q8 q7
    · by_cases e' : j = im
      · rw [e'] at q8
        exact sep i q0 q1 e u v b q5 q6 q7 q8
      · rw [eL i q0 q1 e] at q7
        rw [eL j q2 q3 e'] at q8
        exact i9 i j q0 q1 q2 q3 q4 u v b q5 q6 q7 q8
