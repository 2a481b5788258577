/-! the class: write whole, undo, commit, drop, push, layer -/
def XWr (σ σ' : St) (a b : Nat) (w : Int64) (n bg fr : Int) : Prop := ∃ τ, KpS σ τ b (if gI σ 405 b 0 = 20 then 19 else gI σ 405 b 0) (if gI σ 405 b 0 = 20 then 1 else 0) fr n ∧ XW1 τ σ' a b w n bg fr n
theorem XWr.frm {σ σ' : St} {a b : Nat} {w : Int64} {n bg fr : Int} (h : XWr σ σ' a b w n bg fr) : Frm (fun f r => (r = a ∧ f = 301) ∨ (r = b ∧ f / 100 = 4)) σ σ' := by
  obtain ⟨τ, k, x⟩ := h
  exact (k.1.mono (fun f r z => Or.inr ⟨z.1, by have := z.2; omega⟩)).trans (x.1.mono (fun f r z => by rcases z with z | z; exact Or.inl z; exact Or.inr ⟨z.1, by have := z.2; omega⟩))
theorem hv_top {f : Int → Int} {o : Int} {n : Int} (hn : 0 < n) (h : 0 ≤ f (n - 1)) : hv f o n.toNat = f (n - 1) := by
  obtain ⟨k, hk⟩ : ∃ k : Nat, n = k + 1 := ⟨(n - 1).toNat, by omega⟩
  subst hk
  rw [show ((k : Int) + 1).toNat = k + 1 by omega]
  rw [show (k : Int) + 1 - 1 = k by omega] at h ⊢
  exact if_pos h
theorem hv_pop {f : Int → Int} {o : Int} {n : Int} (hn : 0 < n) (h : f (n - 1) < 0) : hv f o n.toNat = hv f o (n - 1).toNat := by
  obtain ⟨k, hk⟩ : ∃ k : Nat, n = k + 1 := ⟨(n - 1).toNat, by omega⟩
  subst hk
  rw [show ((k : Int) + 1).toNat = k + 1 by omega, show ((k : Int) + 1 - 1).toNat = k by omega]
  rw [show (k : Int) + 1 - 1 = k by omega] at h
  exact if_neg (by omega)
theorem XWr.cim {σ σ' : St} {a : Nat} {w : Int64} {n bg fr : Int} (hc : CIm σ a) (hl : 0 < gI σ 303 a 0) (h0 : 0 ≤ fr) (h1 : 1 ≤ n) (h2 : n ≤ 8) (h3 : fr + n ≤ gI σ 304 a 0) (h : XWr σ σ' a (lay σ a (gI σ 303 a 0 - 1)) w n bg fr) : CIm σ' a := by
  have hF := h.frm
  obtain ⟨τ, k, x⟩ := h
  have c4 := (hc.2.2.2.1 (gI σ 303 a 0 - 1) (by omega) (by omega)).2
  obtain ⟨b1, b2, b3, b4, b5, b6⟩ := c4
  have hlen := hc.2.1
  generalize hb : lay σ a (gI σ 303 a 0 - 1) = b at *
  obtain ⟨k1, k2, k3, k4, k5, k6, k7⟩ := k
  obtain ⟨x1, x2, x3, x4⟩ := x
  have e0 : ∀ i, gI τ 400 b i = gI σ 400 b i := k1.I (by simp)
  have e2 : ∀ i, gI σ' 402 b i = gI τ 402 b i := x1.I (by simp)
  have e3 : ∀ i, gI σ' 403 b i = gI τ 403 b i := x1.I (by simp)
  have e4 : ∀ i, gI σ' 404 b i = gI τ 404 b i := x1.I (by simp)
  have e5 : gI σ' 405 b 0 = gI τ 405 b 0 := x1.I (by simp) 0
  have s01 : (gI σ 405 b 0 = 20 ∧ (if gI σ 405 b 0 = 20 then (19 : Int) else gI σ 405 b 0) = 19 ∧ (if gI σ 405 b 0 = 20 then (1 : Int) else 0) = 1) ∨ (gI σ 405 b 0 ≠ 20 ∧ (if gI σ 405 b 0 = 20 then (19 : Int) else gI σ 405 b 0) = gI σ 405 b 0 ∧ (if gI σ 405 b 0 = 20 then (1 : Int) else 0) = 0) := by
    by_cases e : gI σ 405 b 0 = 20
    · exact Or.inl ⟨e, if_pos e, if_pos e⟩
    · exact Or.inr ⟨e, if_neg e, if_neg e⟩
  generalize (if gI σ 405 b 0 = 20 then (19 : Int) else gI σ 405 b 0) = k0 at *
  generalize (if gI σ 405 b 0 = 20 then (1 : Int) else 0) = s at *
  refine hc.upd (t := gI σ 303 a 0 - 1) (by omega) (by omega) (by rw [hb]; exact hF) ?_ (fun p p0 p1 => ?_)
  · rw [hb]
    refine ⟨x2, fun p p0 p1 => ?_, fun p p0 p1 p2 => ?_, by omega, by omega, fun v v0 v1 => ?_⟩
    · rw [x3]
      by_cases e : fr ≤ (p.toNat : Int) ∧ (p.toNat : Int) < fr + n
      · rw [if_pos e]
        have := bvx_rng w n bg (p.toNat - fr)
        omega
      · rw [if_neg e, e0]
        exact b2 p p0 p1
    · rw [x3, if_neg (by omega), e0]
      exact b3 p p0 p1 p2
    · unfold CKw
      rw [e2, e3]
      by_cases e : v = k0
      · subst e
        rw [k5, k6]
        refine ⟨h1, h2, h0, h3, fun k q0 q1 => ?_⟩
        rw [e4, k7 k q0 q1]
        exact b2 _ (by omega) (by omega)
      · obtain ⟨w1, w2⟩ := k3 v v0 (by omega)
        rw [w1, w2]
        obtain ⟨z1, z2, z3, z4, z5⟩ := b6 (v + s) (by omega) (by omega)
        refine ⟨z1, z2, z3, z4, fun k q0 q1 => ?_⟩
        rw [e4, k4 _ (by omega) (by omega), show v * 8 + k + 8 * s = (v + s) * 8 + k by omega]
        exact z5 k q0 q1
  · have eL : ∀ li, lay σ' a li = lay σ a li := fun li => by unfold lay; rw [hF.R (by simp)]
    rw [x4]
    unfold hasX
    have eC : gI σ' 303 a 0 = gI σ 303 a 0 := hF.I (by simp) 0
    have eN : gI τ 301 a p.toNat = gI σ 301 a p.toNat := k1.I (by simp) _
    by_cases e : fr ≤ (p.toNat : Int) ∧ (p.toNat : Int) < fr + n
    · have := bvx_rng w n bg (p.toNat - fr)
      rw [if_pos e, eC, hv_top hl (by rw [eL, hb, x3, if_pos e]; omega), eL, hb, x3, if_pos e]
    · rw [if_neg e, eN, (hc.2.2.2.2.2.2.1 p p0 p1).2.2, eC]
      unfold hasX
      refine hv_congr (fun i hi => ?_) (hF.I (by simp) _).symm
      rw [eL]
      by_cases e2 : lay σ a i = b
      · rw [e2, x3, if_neg e, e0]
      · refine (hF.I (fun z => ?_) _).symm
        rcases z with z | z
        · have := z.2; omega
        · exact e2 z.1
theorem XW0.cim {σ σ' : St} {a : Nat} {w : Int64} {n bg fr : Int} (hc : CIm σ a) (hl : gI σ 303 a 0 = 0) (h0 : 0 ≤ fr) (h3 : fr + n ≤ gI σ 304 a 0) (h : XW0 σ σ' a w n bg fr n) : CIm σ' a := by
  obtain ⟨x1, x2, x3⟩ := h
  obtain ⟨c1, c2, c3, c4, c5, c6, c7, c8⟩ := id hc
  have e4 : gI σ' 304 a 0 = gI σ 304 a 0 := x1.I (by simp) 0
  have e3 : gI σ' 303 a 0 = gI σ 303 a 0 := x1.I (by simp) 0
  have eR : ∀ i, gR σ' 302 a i = gR σ 302 a i := x1.R (by simp)
  refine ⟨x1.lc c1, by rw [e4]; exact c2, by rw [e3]; exact c3, fun li q0 q1 => absurd q1 (by omega), fun i j b => by rw [eR, eR]; exact c5 i j b, fun i b q0 q1 => ?_, fun p q0 q1 => ?_, by rw [x1.2.1]; exact c8⟩
  · rw [eR] at q1
    have := c6 i b q0 q1
    exact ⟨x1.lc this.1, by rw [x1.2.1]; exact this.2⟩
  · rw [e4] at q1
    have c := c7 p q0 q1
    have hx : hasX σ' a p = gI σ' 300 a p.toNat := by unfold hasX; rw [e3, hl]; rfl
    have hy : hasX σ a p = gI σ 300 a p.toNat := by unfold hasX; rw [hl]; rfl
    rw [hx, x2, x3]
    by_cases e : fr ≤ (p.toNat : Int) ∧ (p.toNat : Int) < fr + n
    · rw [if_pos e, if_pos e]
      have := bvx_rng w n bg (p.toNat - fr)
      omega
    · rw [if_neg e, if_neg e]
      exact ⟨c.1, c.2.1, by rw [c.2.2, hy]⟩
section X4
variable {g : GP} {l : Launch} {d : Nat} {Q : Option AV → St → Prop}
theorem x_write {σ : St} {a : Nat} {fr n bg : Int} {w : Int64} {P : St → Prop} (hc : CIm σ a) (h0 : 0 ≤ fr) (h1 : 1 ≤ n) (h2 : n ≤ 8) (h3 : fr + n ≤ gI σ 304 a 0)
    (hA : gI σ 303 a 0 = 0 → ∀ σ', XW0 σ σ' a w n bg fr n → CIm σ' a → P σ') (hB : 0 < gI σ 303 a 0 → ∀ σ', XWr σ σ' a (lay σ a (gI σ 303 a 0 - 1)) w n bg fr → CIm σ' a → P σ') : ACv g l (d + 3) MX3_write [vR 3 (some a), vI fr, vI n, vJ w, vI bg] σ P := by
  have hlen := hc.2.1
  have hlc := hc.2.2.1
  refine AC.of mo_X3_write (Nat.le_of_ble_eq_true rfl) (bk_X3_write_0 ⟨fun q => absurd q (by omega), fun _ => ⟨fun q => absurd q (by omega), fun _ => ⟨⟨by omega, by omega⟩, fun _ => ?_, fun q => absurd h3 q⟩⟩⟩)
  refine x_top hc.1 hlc.1 hlc.2 (fun e => ⟨fun _ => ?_, (fun r q => nomatch q)⟩) (fun e => ?_)
  · exact x_write_0 hc.1 h0 h2 (by omega) (fun σ' hw => ⟨rfl, hA e σ' hw (hw.cim hc e h0 h3)⟩) n.toNat 0 σ (by omega) (by omega) ⟨Frm.rfl, fun k => by rw [if_neg (by omega)], fun k => by rw [if_neg (by omega)]⟩
  · obtain ⟨e1, e2⟩ := hc.2.2.2.1 (gI σ 303 a 0 - 1) (by omega) (by omega)
    have hb := (hc.lay4 (li := gI σ 303 a 0 - 1) (by omega) (by omega)).1
    refine ⟨fun q => ?_, fun r q => ?_⟩
    · rw [e1] at q; cases q
    · have q' := q
      rw [e1] at q'
      obtain rfl : lay σ a (gI σ 303 a 0 - 1) = r := by simpa using q'
      refine x_keep hb h0 (by omega) h2 (by omega) e2.2.2.2.1 e2.2.2.2.2.1 (fun τ hk => ?_)
      rw [q]
      have k0 : ∀ i, gI τ 400 (lay σ a (gI σ 303 a 0 - 1)) i = gI σ 400 (lay σ a (gI σ 303 a 0 - 1)) i := hk.1.I (by simp)
      refine x_write_1 (hk.1.lc hc.1) (hk.1.lc hb) (fun p p0 p1 => by rw [k0]; exact (e2.2.1 p p0 p1).1) h0 h2 (by omega) (fun σ' hw => ?_) n.toNat 0 τ (by omega) (by omega) ⟨Frm.rfl, ?_, fun k => by rw [if_neg (by omega)], fun k => by rw [if_neg (by omega)]⟩
      · have hw' : XWr σ σ' a (lay σ a (gI σ 303 a 0 - 1)) w n bg fr := ⟨τ, hk, hw⟩
        exact ⟨rfl, hB e σ' hw' (hw'.cim hc e h0 h1 h2 h3)⟩
      · have := e2.1
        unfold BC at this ⊢
        rw [hk.1.I (by simp), this]
        exact cnt_congr (fun i _ => (k0 _).symm)
end X4
