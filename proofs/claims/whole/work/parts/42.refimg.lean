/-! the reference: images -/
section M2
variable {g : GP} {l : Launch} {d : Nat} {m : Nat}
theorem m_has_9 {σ : St} {Q : Option AV → St → Prop} {im p : Int} (hm : LC 12 σ m) (h1 : 0 ≤ im) (h2 : im < 6) (h5 : 0 ≤ p) (h6 : p < 2000) : ∀ (k : Nat) (x : Int), x = k - 1 → k ≤ 4 →
    Q (some (vI (hv (fun li => gI σ 1204 m ((4 * im + li) * 2000 + p).toNat) (gI σ 1203 m (2000 * im + p).toNat) k))) σ →
    AW g l (d + 1) MX12_has 9 [some (vR 12 (some m)), some (vI im), some (vI p), some (vI x)] [] σ Q
  | 0, x, hx, _, h => by
    exact bk_X12_has_9 ⟨fun _ => ⟨hm, ⟨by omega, by omega⟩, ⟨by omega, by omega⟩, ⟨by omega, by omega⟩, h⟩, fun hc => absurd (by omega) hc⟩
  | k + 1, x, hx, hk, h => by
    obtain rfl : x = k := by omega
    refine bk_X12_has_9 ⟨fun hc => absurd hc (by omega), fun _ => ⟨hm, m_cell h1 h2 (by omega) (by omega) h5 h6 ⟨hm, ⟨by omega, by omega⟩, fun hc => ⟨⟨by omega, by omega⟩, ?_⟩, fun hc => m_cell h1 h2 (by omega) (by omega) h5 h6 ⟨hm, ⟨by omega, by omega⟩, ?_⟩⟩⟩⟩
    · refine m_has_9 hm h1 h2 h5 h6 k _ (by omega) (by omega) ?_
      simp only [hv] at h
      rw [if_neg (by omega)] at h
      exact h
    · simp only [hv] at h
      rw [if_pos (by omega)] at h
      exact h
theorem m_has {σ : St} {im p : Int} {P : Int → St → Prop} (hm : LC 12 σ m) (h1 : 0 ≤ im) (h2 : im < 6) (h3 : 0 ≤ gI σ 1202 m im.toNat) (h4 : gI σ 1202 m im.toNat ≤ 4) (h5 : 0 ≤ p) (h6 : p < 2000) (h : P (hasM σ m im p) σ) : ACi g l (d + 1) MX12_has [vR 12 (some m), vI im, vI p] σ P :=
  AC.of mo_X12_has (Nat.le_of_ble_eq_true rfl) (bk_X12_has_0 ⟨hm, ⟨h1, h2⟩, ⟨by omega, by omega⟩, fun z hz => m_has_9 hm h1 h2 h5 h6 _ _ (by omega) (by omega) ⟨_, rfl, h⟩⟩)
/-- what 'top' has done at the places up to p -/
def TopS (σ σ' : St) (m : Nat) (im li : Int) (stays : Bool) (p : Int) : Prop :=
  Frm (fun f r => r = m ∧ (f = 1203 ∨ f = 1204)) σ σ' ∧
  (∀ k : Nat, gI σ' 1204 m k = if stays = true ∧ 0 < li ∧ (4 * im + (li - 1)) * 2000 ≤ k ∧ (k : Int) < (4 * im + (li - 1)) * 2000 + p ∧ 0 ≤ gI σ 1204 m (k + 2000) then gI σ 1204 m (k + 2000) else gI σ 1204 m k) ∧
  (∀ k : Nat, gI σ' 1203 m k = if stays = true ∧ li = 0 ∧ 2000 * im ≤ k ∧ (k : Int) < 2000 * im + p ∧ 0 ≤ gI σ 1204 m (k + 6000 * im.toNat) then gI σ 1204 m (k + 6000 * im.toNat) else gI σ 1203 m k)
theorem m_top_37 {σ : St} {Q : Option AV → St → Prop} {im li s len : Int} {stays : Bool} (hm : LC 12 σ m) (h1 : 0 ≤ im) (h2 : im < 6) (h3 : 0 ≤ li) (h4 : li < 4) (hl : gI σ 1201 m im.toNat = len) (hl2 : len ≤ 2000) (hs' : s = if stays then 1 else 0)
    (h : ∀ σ', TopS σ σ' m im li stays len → Q (some (vI (cnt (fun p => gI σ 1204 m ((4 * im + li) * 2000 + p).toNat) len.toNat))) (sI σ' 1202 m im.toNat li)) :
    ∀ (n : Nat) (x c : Int) (τ : St), x = len - n → 0 ≤ x → c = cnt (fun p => gI σ 1204 m ((4 * im + li) * 2000 + p).toNat) x.toNat → TopS σ τ m im li stays x →
    AW g l (d + 1) MX12_top 37 [some (vR 12 (some m)), some (vI im), some (vI s), some (vI li), some (vI c), some (vI x), none] [] τ Q
  | 0, x, c, τ, hx, h0, hc, ht => by
    have hlt : gI τ 1201 m im.toNat = len := by rw [ht.1.I (by simp), hl]
    obtain rfl : x = len := by omega
    refine bk_X12_top_37 ⟨ht.1.lc hm, ⟨h1, h2⟩, fun _ => ?_, fun hn => absurd (by omega) hn⟩
    rw [hc]
    exact h τ ht
  | n + 1, x, c, τ, hx, h0, hc, ht => by
    have hlt : gI τ 1201 m im.toNat = len := by rw [ht.1.I (by simp), hl]
    have hmt := ht.1.lc hm
    have hcl := cnt_le (f := fun p => gI σ 1204 m ((4 * im + li) * 2000 + p).toNat) (n := x.toNat)
    have hb : gI τ 1204 m ((4 * im + li) * 2000 + x).toNat = gI σ 1204 m ((4 * im + li) * 2000 + x).toNat := by
      rw [ht.2.1, if_neg]
      omega
    have hcs : cnt (fun p => gI σ 1204 m ((4 * im + li) * 2000 + p).toNat) (x + 1).toNat = c + if 0 ≤ gI σ 1204 m ((4 * im + li) * 2000 + x).toNat then 1 else 0 := by
      rw [show (x + 1).toNat = x.toNat + 1 by omega, hc]
      show cnt _ x.toNat + _ = _
      rw [show ((x.toNat : Nat) : Int) = x by omega]
    -- the step of the places
    have step : ∀ τ' : St, Frm (fun f r => r = m ∧ (f = 1203 ∨ f = 1204)) τ τ' → (∀ k : Nat, gI τ' 1204 m k = if stays = true ∧ 0 < li ∧ (k : Int) = (4 * im + (li - 1)) * 2000 + x ∧ 0 ≤ gI σ 1204 m (k + 2000) then gI σ 1204 m (k + 2000) else gI τ 1204 m k) → (∀ k : Nat, gI τ' 1203 m k = if stays = true ∧ li = 0 ∧ (k : Int) = 2000 * im + x ∧ 0 ≤ gI σ 1204 m (k + 6000 * im.toNat) then gI σ 1204 m (k + 6000 * im.toNat) else gI τ 1203 m k) → TopS σ τ' m im li stays (x + 1) := by
      intro τ' a1 a2 a3
      refine ⟨ht.1.trans a1, fun k => ?_, fun k => ?_⟩
      · rw [a2, ht.2.1]
        by_cases q : stays = true ∧ 0 < li ∧ (k : Int) = (4 * im + (li - 1)) * 2000 + x ∧ 0 ≤ gI σ 1204 m (k + 2000)
        · rw [if_pos q, if_pos (by refine ⟨q.1, q.2.1, ?_, ?_, q.2.2.2⟩ <;> omega)]
        · rw [if_neg q]
          by_cases q2 : stays = true ∧ 0 < li ∧ (4 * im + (li - 1)) * 2000 ≤ k ∧ (k : Int) < (4 * im + (li - 1)) * 2000 + x ∧ 0 ≤ gI σ 1204 m (k + 2000)
          · rw [if_pos q2, if_pos (by refine ⟨q2.1, q2.2.1, ?_, ?_, q2.2.2.2.2⟩ <;> omega)]
          · rw [if_neg q2, if_neg (fun q3 => by
              by_cases e : (k : Int) = (4 * im + (li - 1)) * 2000 + x
              · exact q ⟨q3.1, q3.2.1, e, q3.2.2.2.2⟩
              · exact q2 ⟨q3.1, q3.2.1, q3.2.2.1, by omega, q3.2.2.2.2⟩)]
      · rw [a3, ht.2.2]
        by_cases q : stays = true ∧ li = 0 ∧ (k : Int) = 2000 * im + x ∧ 0 ≤ gI σ 1204 m (k + 6000 * im.toNat)
        · rw [if_pos q, if_pos (by refine ⟨q.1, q.2.1, ?_, ?_, q.2.2.2⟩ <;> omega)]
        · rw [if_neg q]
          by_cases q2 : stays = true ∧ li = 0 ∧ 2000 * im ≤ k ∧ (k : Int) < 2000 * im + x ∧ 0 ≤ gI σ 1204 m (k + 6000 * im.toNat)
          · rw [if_pos q2, if_pos (by refine ⟨q2.1, q2.2.1, ?_, ?_, q2.2.2.2.2⟩ <;> omega)]
          · rw [if_neg q2, if_neg (fun q3 => by
              by_cases e : (k : Int) = 2000 * im + x
              · exact q ⟨q3.1, q3.2.1, e, q3.2.2.2.2⟩
              · exact q2 ⟨q3.1, q3.2.1, q3.2.2.1, by omega, q3.2.2.2.2⟩)]
    have e1 : ∀ k : Nat, (k : Int) = (4 * im + (li - 1)) * 2000 + x → k + 2000 = ((4 * im + li) * 2000 + x).toNat := fun k hk => by omega
    have e2 : ∀ k : Nat, li = 0 → (k : Int) = 2000 * im + x → k + 6000 * im.toNat = ((4 * im + li) * 2000 + x).toNat := fun k hk hk2 => by omega
    refine bk_X12_top_37 ⟨hmt, ⟨h1, h2⟩, fun hn => absurd hn (by omega), fun _ => m_cell h1 h2 h3 h4 h0 (by omega) ⟨hmt, ⟨by omega, by omega⟩, fun hp => ⟨⟨by omega, by omega⟩, fun hz => ?_, fun hz => ⟨fun hz2 => ?_, fun hz2 => ⟨⟨by omega, by omega⟩, m_cell h1 h2 (by omega) (by omega) h0 (by omega) ⟨hmt, ⟨by omega, by omega⟩, ⟨by omega, by omega⟩, ?_⟩⟩⟩⟩, fun hp => ⟨⟨by omega, by omega⟩, ?_⟩⟩⟩
    · rw [hb] at hp
      refine bk_X12_top_102 ⟨fun _ => ⟨⟨by omega, by omega⟩, m_top_37 hm h1 h2 h3 h4 hl hl2 hs' h n _ _ _ (by omega) (by omega) (by rw [hcs, if_pos hp]) (step _ Frm.rfl (fun k => ?_) (fun k => ?_))⟩, fun q => absurd hz q⟩
      · have : ¬ stays = true := fun e => by rw [e] at hs'; simp at hs'; omega
        rw [if_neg (fun q => this q.1)]
      · have : ¬ stays = true := fun e => by rw [e] at hs'; simp at hs'; omega
        rw [if_neg (fun q => this q.1)]
    · rw [hb] at hp ⊢
      have hst : stays = true := by
        cases stays
        · simp at hs'; omega
        · rfl
      refine bk_X12_top_102 ⟨fun q => absurd q hz, fun _ => ⟨hmt, ⟨by omega, by omega⟩, ⟨by omega, by omega⟩, ⟨by omega, by omega⟩, ⟨by omega, by omega⟩, m_top_37 hm h1 h2 h3 h4 hl hl2 hs' h n _ _ _ (by omega) (by omega) (by rw [hcs, if_pos hp]) (step _ (Frm.sI ⟨rfl, Or.inl rfl⟩) (fun k => ?_) (fun k => ?_))⟩⟩
      · rw [gI_sI, if_neg (by simp), if_neg (by omega)]
      · rw [gI_sI]
        by_cases e : k = (2000 * im + x).toNat
        · have e0 : (k : Int) = 2000 * im + x := by omega
          have e3 := e2 k (by omega) e0
          rw [if_pos ⟨rfl, rfl, e⟩, if_pos ⟨hst, by omega, e0, by rw [e3]; exact hp⟩, e3]
        · rw [if_neg (fun q => e q.2.2), if_neg (fun q => e (by omega))]
    · rw [hb] at hp ⊢
      have hst : stays = true := by
        cases stays
        · simp at hs'; omega
        · rfl
      refine m_top_37 hm h1 h2 h3 h4 hl hl2 hs' h n _ _ _ (by omega) (by omega) (by rw [hcs, if_pos hp]) (step _ (Frm.sI ⟨rfl, Or.inr rfl⟩) (fun k => ?_) (fun k => ?_))
      · rw [gI_sI]
        by_cases e : k = ((4 * im + (li - 1)) * 2000 + x).toNat
        · have e0 : (k : Int) = (4 * im + (li - 1)) * 2000 + x := by omega
          have e3 := e1 k e0
          rw [if_pos ⟨rfl, rfl, e⟩, if_pos ⟨hst, by omega, e0, by rw [e3]; exact hp⟩, e3]
        · rw [if_neg (fun q => e q.2.2), if_neg (fun q => e (by omega))]
      · rw [gI_sI, if_neg (by simp), if_neg (by omega)]
    · rw [hb] at hp
      refine m_top_37 hm h1 h2 h3 h4 hl hl2 hs' h n _ _ _ (by omega) (by omega) (by rw [hcs, if_neg hp]; omega) (step _ Frm.rfl (fun k => ?_) (fun k => ?_))
      · rw [if_neg (fun q => hp (by rw [← e1 k q.2.2.1]; exact q.2.2.2))]
      · rw [if_neg (fun q => hp (by rw [← e2 k q.2.1 q.2.2.1]; exact q.2.2.2))]
end M2
