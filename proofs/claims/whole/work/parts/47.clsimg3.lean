/-! the class: undo, commit, drop, push, layer; frames with new objects -/
/-- old objects keep their arrays; what is not in P is as it was; new ones may be -/
def Fr (P : Nat → Nat → Prop) (σ σ' : St) : Prop := hs σ ≤ hs σ' ∧ ∀ f r, r < hs σ → gL σ' f r = gL σ f r ∧ (¬ P f r → ∀ i, Agr σ σ' f r i)
theorem Frm.fr {P : Nat → Nat → Prop} {σ σ' : St} (h : Frm P σ σ') : Fr P σ σ' := ⟨Nat.le_of_eq h.2.1.symm, fun f r _ => ⟨h.1 f r, fun n i => h.2.2.2 f r n i⟩⟩
theorem Fr.trans {P : Nat → Nat → Prop} {a b c : St} (h : Fr P a b) (k : Fr P b c) : Fr P a c := by
  refine ⟨Nat.le_trans h.1 k.1, fun f r hr => ⟨((k.2 f r (Nat.lt_of_lt_of_le hr h.1)).1).trans (h.2 f r hr).1, fun n i => ?_⟩⟩
  obtain ⟨a1, a2, a3⟩ := (h.2 f r hr).2 n i
  obtain ⟨b1, b2, b3⟩ := (k.2 f r (Nat.lt_of_lt_of_le hr h.1)).2 n i
  exact ⟨b1.trans a1, b2.trans a2, b3.trans a3⟩
theorem Fr.mono {P P' : Nat → Nat → Prop} {σ σ' : St} (h : Fr P σ σ') (hp : ∀ f r, P f r → P' f r) : Fr P' σ σ' := ⟨h.1, fun f r hr => ⟨(h.2 f r hr).1, fun n i => (h.2 f r hr).2 (fun q => n (hp f r q)) i⟩⟩
theorem Fr.lc {P : Nat → Nat → Prop} {σ σ' : St} (h : Fr P σ σ') {c a : Nat} (ha : a < hs σ) (k : LC c σ a) : LC c σ' a := fun f e => ((h.2 f a ha).1).trans (k f e)
theorem Fr.I {P : Nat → Nat → Prop} {σ σ' : St} (h : Fr P σ σ') {f r : Nat} (hr : r < hs σ) (n : ¬ P f r) (i : Nat) : gI σ' f r i = gI σ f r i := ((h.2 f r hr).2 n i).1
theorem Fr.J {P : Nat → Nat → Prop} {σ σ' : St} (h : Fr P σ σ') {f r : Nat} (hr : r < hs σ) (n : ¬ P f r) (i : Nat) : gJ σ' f r i = gJ σ f r i := ((h.2 f r hr).2 n i).2.1
theorem Fr.R {P : Nat → Nat → Prop} {σ σ' : St} (h : Fr P σ σ') {f r : Nat} (hr : r < hs σ) (n : ¬ P f r) (i : Nat) : gR σ' f r i = gR σ f r i := ((h.2 f r hr).2 n i).2.2
theorem CIm.fr {P : Nat → Nat → Prop} {σ σ' : St} {a : Nat} (h : CIm σ a) (hF : Fr P σ σ') (h3 : ∀ f, f / 100 = 3 → ¬ P f a) (h4 : ∀ f i b, f / 100 = 4 → i < 4 → gR σ 302 a i = some b → ¬ P f b) : CIm σ' a := by
  obtain ⟨c1, c2, c3, c4, c5, c6, c7, c8⟩ := id h
  have e4 : gI σ' 304 a 0 = gI σ 304 a 0 := hF.I c8 (h3 304 rfl) 0
  have e3 : gI σ' 303 a 0 = gI σ 303 a 0 := hF.I c8 (h3 303 rfl) 0
  have eR : ∀ i, gR σ' 302 a i = gR σ 302 a i := hF.R c8 (h3 302 rfl)
  have eO : ∀ i, gI σ' 300 a i = gI σ 300 a i := hF.I c8 (h3 300 rfl)
  have eN : ∀ i, gI σ' 301 a i = gI σ 301 a i := hF.I c8 (h3 301 rfl)
  have eL : ∀ li, lay σ' a li = lay σ a li := fun li => by unfold lay; rw [eR]
  have eB : ∀ li : Int, 0 ≤ li → li < gI σ 303 a 0 → ∀ f, f / 100 = 4 → ∀ i, gI σ' f (lay σ a li) i = gI σ f (lay σ a li) i := fun li q0 q1 f hf i => hF.I (h.lay4 q0 q1).2 (h4 f li.toNat _ hf (by omega) (c4 li q0 q1).1) i
  refine ⟨hF.lc c8 c1, by rw [e4]; exact c2, by rw [e3]; exact c3, fun li q0 q1 => ?_, fun i j b => by rw [eR, eR]; exact c5 i j b, fun i b q0 q1 => ?_, fun p q0 q1 => ?_, Nat.lt_of_lt_of_le c8 hF.1⟩
  · rw [e3] at q1
    rw [eR, eL, e4]
    exact ⟨(c4 li q0 q1).1, CLay.congr (eB li q0 q1) (c4 li q0 q1).2⟩
  · rw [eR] at q1
    have := c6 i b q0 q1
    exact ⟨hF.lc this.2 this.1, Nat.lt_of_lt_of_le this.2 hF.1⟩
  · rw [e4] at q1
    rw [eO, eN]
    refine ⟨(c7 p q0 q1).1, (c7 p q0 q1).2.1, ?_⟩
    rw [(c7 p q0 q1).2.2]
    unfold hasX
    rw [e3, eO]
    exact hv_congr (fun i hi => by rw [eL, eB i (by omega) (by omega) 400 rfl]) rfl
theorem hasX_congr {σ σ' : St} {a : Nat} {p : Int} (e3 : gI σ' 303 a 0 = gI σ 303 a 0) (eL : ∀ i, gR σ' 302 a i = gR σ 302 a i) (eO : gI σ' 300 a p.toNat = gI σ 300 a p.toNat) (eB : ∀ li : Int, 0 ≤ li → li < gI σ 303 a 0 → gI σ' 400 (lay σ a li) p.toNat = gI σ 400 (lay σ a li) p.toNat) : hasX σ' a p = hasX σ a p := by
  unfold hasX
  rw [e3]
  refine hv_congr (fun i hi => ?_) eO
  rw [show lay σ' a i = lay σ a i by unfold lay; rw [eL]]
  exact eB i (by omega) (by omega)
/-- a write is taken back -/
def XU (σ σ' : St) (a b : Nat) (k1 fr x : Int) : Prop :=
  Frm (fun f r => (r = a ∧ f = 301) ∨ (r = b ∧ (f = 400 ∨ f = 401 ∨ f = 405))) σ σ' ∧ gI σ' 405 b 0 = k1 ∧ BC σ' b ∧
  (∀ k : Nat, gI σ' 400 b k = if fr ≤ k ∧ (k : Int) < fr + x then gI σ 404 b (k1 * 8 + (k - fr)).toNat else gI σ 400 b k)
section X5
variable {g : GP} {l : Launch} {d : Nat} {Q : Option AV → St → Prop}
theorem x_takeBack {σ : St} {a : Nat} {P : Int → St → Prop} (hc : CIm σ a) (hl : 0 < gI σ 303 a 0)
    (hA : gI σ 405 (lay σ a (gI σ 303 a 0 - 1)) 0 = 0 → P 0 σ)
    (hB : 0 < gI σ 405 (lay σ a (gI σ 303 a 0 - 1)) 0 → ∀ σ', XU σ σ' a (lay σ a (gI σ 303 a 0 - 1)) (gI σ 405 (lay σ a (gI σ 303 a 0 - 1)) 0 - 1) (gI σ 402 (lay σ a (gI σ 303 a 0 - 1)) (gI σ 405 (lay σ a (gI σ 303 a 0 - 1)) 0 - 1).toNat) (gI σ 403 (lay σ a (gI σ 303 a 0 - 1)) (gI σ 405 (lay σ a (gI σ 303 a 0 - 1)) 0 - 1).toNat) → CIm σ' a → P (gI σ 403 (lay σ a (gI σ 303 a 0 - 1)) (gI σ 405 (lay σ a (gI σ 303 a 0 - 1)) 0 - 1).toNat) σ') :
    ACi g l (d + 2) MX3_takeBack [vR 3 (some a)] σ P := by
  have hlen := hc.2.1
  have hlc := hc.2.2.1
  obtain ⟨e1, e2⟩ := hc.2.2.2.1 (gI σ 303 a 0 - 1) (by omega) (by omega)
  have hb4 := (hc.lay4 (li := gI σ 303 a 0 - 1) (by omega) (by omega)).1
  have hinj : ∀ li : Int, 0 ≤ li → li < gI σ 303 a 0 → lay σ a li = lay σ a (gI σ 303 a 0 - 1) → li = gI σ 303 a 0 - 1 := fun li q0 q1 e => hc.inj q0 q1 (by omega) (by omega) e
  have hall : ∀ li : Int, 0 ≤ li → li < gI σ 303 a 0 → gR σ 302 a li.toNat = some (lay σ a li) ∧ LC 4 σ (lay σ a li) ∧ ∀ p : Int, 0 ≤ p → p < 2000 → -1 ≤ gI σ 400 (lay σ a li) p.toNat := fun li q0 q1 => ⟨(hc.2.2.2.1 li q0 q1).1, (hc.lay4 q0 q1).1, fun p p0 p1 => ((hc.2.2.2.1 li q0 q1).2.2.1 p p0 p1).1⟩
  have hupd := fun {σ'} => hc.upd (σ' := σ') (t := gI σ 303 a 0 - 1) (by omega) (by omega)
  refine AC.of mo_X3_takeBack (Nat.le_of_ble_eq_true rfl) (bk_X3_takeBack_0 (x_top hc.1 hlc.1 hlc.2 (fun e => absurd e (by omega)) (fun _ => ⟨fun q => ?_, fun r q => ?_⟩)))
  · rw [e1] at q; cases q
  have q' := q
  rw [e1] at q'
  obtain rfl : lay σ a (gI σ 303 a 0 - 1) = r := by simpa using q'
  rw [q]
  generalize lay σ a (gI σ 303 a 0 - 1) = b at *
  obtain ⟨b1, b2, b3, b4, b5, b6⟩ := e2
  refine ⟨fun hk => ?_, fun hk => ⟨_, rfl, hA hk⟩⟩
  obtain ⟨w1, w2, w3, w4, w5⟩ := b6 (gI σ 405 b 0 - 1) (by omega) (by omega)
  refine ⟨⟨by omega, by omega⟩, hb4, ⟨by omega, by omega⟩, fun fr hfr n hn => ?_⟩
  have hB := hB (by omega)
  rw [← hfr, ← hn] at hB
  rw [← hn] at w1 w2 w4 w5
  rw [← hfr] at w3 w4
  generalize hk1 : gI σ 405 b 0 - 1 = k1 at *
  have loop : ∀ (j : Nat) (x : Int) (τ : St), x = n - j → 0 ≤ x → XU σ τ a b k1 fr x → (∀ p : Int, 0 ≤ p → p < gI σ 304 a 0 → gI τ 301 a p.toNat = if fr ≤ p ∧ p < fr + x then hasX τ a p else gI σ 301 a p.toNat) →
      AW g l (d + 2) MX3_takeBack 51 [some (vR 3 (some a)), some (vR 4 (some b)), some (vI fr), some (vI n), some (vI x)] [] τ (fun v σ' => ∃ r, v = some (vI r) ∧ P r σ') := by
    intro j
    induction j with
    | zero =>
      intro x τ hx hx0 ht hno
      obtain rfl : x = n := by omega
      refine bk_X3_takeBack_51 ⟨fun _ => ⟨_, rfl, hB τ ht ?_⟩, fun q => absurd (Int.le_refl _) q⟩
      have hF : Frm (fun f r => (r = a ∧ f = 301) ∨ (r = b ∧ f / 100 = 4)) σ τ := ht.1.mono (fun f r z => by rcases z with z | z; exact Or.inl z; exact Or.inr ⟨z.1, by have := z.2; omega⟩)
      have t2 : ∀ i, gI τ 402 b i = gI σ 402 b i := ht.1.I (by simp)
      have t3 : ∀ i, gI τ 403 b i = gI σ 403 b i := ht.1.I (by simp)
      have t4 : ∀ i, gI τ 404 b i = gI σ 404 b i := ht.1.I (by simp)
      refine hupd hF ⟨ht.2.2.1, fun p p0 p1 => ?_, fun p p0 p1 p2 => ?_, by rw [ht.2.1]; omega, by rw [ht.2.1]; omega, fun v v0 v1 => ?_⟩ (fun p p0 p1 => ?_)
      · rw [ht.2.2.2]
        by_cases e : fr ≤ (p.toNat : Int) ∧ (p.toNat : Int) < fr + x
        · rw [if_pos e]
          exact w5 _ (by omega) (by omega)
        · rw [if_neg e]
          exact b2 p p0 p1
      · rw [ht.2.2.2, if_neg (by omega)]
        exact b3 p p0 p1 p2
      · rw [ht.2.1] at v1
        unfold CKw
        simp only [t2, t3, t4]
        exact b6 v v0 (by omega)
      · rw [hno p p0 p1]
        by_cases e : fr ≤ p ∧ p < fr + x
        · rw [if_pos e]
        · rw [if_neg e, (hc.2.2.2.2.2.2.1 p p0 p1).2.2]
          refine (hasX_congr (ht.1.I (by simp) 0) (ht.1.R (by simp)) (ht.1.I (by simp) _) (fun li q0 q1 => ?_)).symm
          by_cases e2 : lay σ a li = b
          · rw [e2, ht.2.2.2, if_neg (by omega)]
          · refine ht.1.I (fun z => ?_) _
            rcases z with z | z
            · have := z.2; omega
            · exact e2 z.1
    | succ j ih =>
      intro x τ hx hx0 ht hno
      have hbt : LC 4 τ b := ht.1.lc hb4
      have e5 : gI τ 405 b 0 = k1 := ht.2.1
      have e4 : gI τ 404 b (k1 * 8 + x).toNat = gI σ 404 b (k1 * 8 + x).toNat := ht.1.I (by simp) _
      have w5x := w5 x (by omega) (by omega)
      refine bk_X3_takeBack_51 ⟨fun q => absurd q (by omega), fun _ => ⟨⟨by omega, by omega⟩, b, rfl, hbt, ⟨by omega, by omega⟩, ⟨by omega, by omega⟩, ⟨by omega, by omega⟩, ?_⟩⟩
      rw [e5, e4]
      refine x_give hbt (by omega) (by omega) w5x.1 ?_ ht.2.2.1 (fun u f1 f2 f3 => ?_)
      · rw [ht.2.2.2, if_neg (by omega)]
        exact (b2 _ (by omega) (by omega)).1
      have fu : Frm (fun f r => (r = a ∧ f = 301) ∨ (r = b ∧ (f = 400 ∨ f = 401 ∨ f = 405))) σ u := ht.1.trans (f1.mono (fun f r z => Or.inr ⟨z.1, by have := z.2; omega⟩))
      have u3 : gI u 303 a 0 = gI σ 303 a 0 := fu.I (by simp) 0
      have uR : ∀ i, gR u 302 a i = gR σ 302 a i := fu.R (by simp)
      have uL : ∀ li, lay u a li = lay σ a li := fun li => by unfold lay; rw [uR]
      have u4 : ∀ k : Nat, gI u 400 b k = if fr ≤ k ∧ (k : Int) < fr + (x + 1) then gI σ 404 b (k1 * 8 + (k - fr)).toNat else gI σ 400 b k := by
        intro k
        rw [f2, ht.2.2.2]
        by_cases e : k = (fr + x).toNat
        · rw [if_pos e, if_pos (by omega)]
          congr 1
          omega
        · rw [if_neg e]
          by_cases e2 : fr ≤ k ∧ (k : Int) < fr + x
          · rw [if_pos e2, if_pos (by omega)]
          · rw [if_neg e2, if_neg (by omega)]
      refine x_refresh (fu.lc hc.1) (by omega) (by omega) (by omega) (by omega) (fun li q0 q1 => ?_) ?_
      · rw [u3] at q1
        rw [uR, uL]
        refine ⟨(hall li q0 q1).1, fu.lc (hall li q0 q1).2.1, ?_⟩
        by_cases e : lay σ a li = b
        · rw [e, u4, if_pos (by omega)]
          exact (w5 _ (by omega) (by omega)).1
        · rw [fu.I (fun z => by rcases z with z | z; (have := z.2; omega); exact e z.1)]
          exact (hall li q0 q1).2.2 _ (by omega) (by omega)
      · refine ⟨⟨by omega, by omega⟩, ih _ _ (by omega) (by omega) ⟨fu.trans (Frm.sI (by simp)), ?_, ?_, fun k => ?_⟩ (fun p p0 p1 => ?_)⟩
        · rw [gI_sI, if_neg (by simp), f1.I (by simp)]
          exact ht.2.1
        · unfold BC at f3 ⊢
          simp only [gI_sI, false_and, if_false, Nat.reduceEqDiff]
          exact f3
        · rw [gI_sI, if_neg (by simp)]
          exact u4 k
        · have hx' : hasX (sI u 301 a (fr + x).toNat (hasX u a (fr + x))) a p = hasX u a p := hasX_congr (by rw [gI_sI, if_neg (by simp)]) (fun i => rfl) (by rw [gI_sI, if_neg (by simp)]) (fun li _ _ => by rw [gI_sI, if_neg (by simp)])
          rw [hx', gI_sI]
          by_cases e : p = fr + x
          · rw [if_pos ⟨rfl, rfl, by omega⟩, if_pos (by omega), e]
          · rw [if_neg (fun z => e (by omega)), f1.I (by simp), hno p p0 p1]
            by_cases e2 : fr ≤ p ∧ p < fr + x
            · rw [if_pos e2, if_pos (by omega)]
              refine (hasX_congr (f1.I (by simp) 0) (f1.R (by simp)) (f1.I (by simp) _) (fun li q0 q1 => ?_)).symm
              by_cases e3 : lay τ a li = b
              · rw [e3, f2, if_neg (by omega)]
              · exact f1.I (fun z => e3 z.1) _
            · rw [if_neg e2, if_neg (by omega)]
  refine loop n.toNat 0 _ (by omega) (by omega) ⟨Frm.sI (by simp), gI_slf _ _ _ _ _, ?_, fun k => by rw [if_neg (by omega), gI_sI, if_neg (by simp)]⟩ (fun p p0 p1 => by rw [if_neg (by omega), gI_sI, if_neg (by simp)])
  unfold BC at b1 ⊢
  simp only [gI_sI, false_and, if_false, Nat.reduceEqDiff]
  exact b1
end X5
