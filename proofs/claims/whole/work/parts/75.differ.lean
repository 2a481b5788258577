/-! the call differ -/
section OP11
variable {g : GP} {l : Launch} {d : Nat} {σ : St} {x m : Nat}
/-- the stretches of the places where f isn't 0: from p on, j places left, the left-th one, begun at s (or -1) -/
def sf (f : Int → Int) (w : Int) : Nat → Int → Int → Int → Int
  | 0, p, k, s => if s = -1 then -1 else if k = 0 then (if w = 0 then s else p) else -1
  | j + 1, p, k, s => if f p = 0 then (if s = -1 then sf f w j (p + 1) k s else if k = 0 then (if w = 0 then s else p) else sf f w j (p + 1) (k + -1) (-1)) else sf f w j (p + 1) k (if s = -1 then p else s)
theorem sf_congr {f f' : Int → Int} {w : Int} : ∀ (j : Nat) (p k s : Int), (∀ i : Int, p ≤ i → i < p + j → f i = f' i) → sf f w j p k s = sf f' w j p k s
  | 0, _, _, _, _ => rfl
  | j + 1, p, k, s, h => by
    unfold sf
    rw [h p (by omega) (by omega), sf_congr j (p + 1) k s (fun i z0 z1 => h i (by omega) (by omega)), sf_congr j (p + 1) (k + -1) (-1) (fun i z0 z1 => h i (by omega) (by omega)), sf_congr j (p + 1) k (if s = -1 then p else s) (fun i z0 z1 => h i (by omega) (by omega))]
theorem sf_start {f : Int → Int} {s : Int} (hs : ¬ s = -1) : ∀ (j : Nat) (p : Int), sf f 0 j p 0 s = s
  | 0, _ => by unfold sf; rw [if_neg hs, if_pos rfl, if_pos rfl]
  | j + 1, p => by
    unfold sf
    rw [if_neg hs, if_pos rfl, if_pos rfl, if_neg hs, sf_start hs j (p + 1)]
    split <;> rfl
theorem x_stretchOf {n k w : Int} {P : Int → St → Prop} (hx : LC 11 σ x) (hn0 : 0 ≤ n) (hn : n ≤ 2000) (hk2 : k < 2147483648) (hA : (k < 0 ∨ w < 0 ∨ 1 < w) → P (-1) σ) (hB : 0 ≤ k → 0 ≤ w → w ≤ 1 → P (sf (fun p => gI σ 1115 x p.toNat) w n.toNat 0 k (-1)) σ) : ACi g l d MX11_stretchOf [vR 11 (some x), vI n, vI k, vI w] σ P := by
  refine AC.of mo_X11_stretchOf (Nat.le_of_ble_eq_true rfl) (bk_X11_stretchOf_0 ?_)
  by_cases c : k < 0 ∨ w < 0 ∨ 1 < w
  · exact bk_X11_stretchOf_9 ⟨fun q => absurd q (by omega), fun _ => ⟨fun _ => ⟨_, rfl, hA c⟩, fun q => ⟨fun q2 => absurd c (by omega), fun q2 => ⟨fun _ => ⟨_, rfl, hA c⟩, fun q3 => absurd c (by omega)⟩⟩⟩⟩
  have loop : ∀ (j : Nat) (p t s : Int), p = n - j → 0 ≤ p → 0 ≤ t → t ≤ k → P (sf (fun p => gI σ 1115 x p.toNat) w j p t s) σ →
      AW g l d MX11_stretchOf 9 [some (vR 11 (some x)), some (vI n), some (vI k), some (vI w), some (vI t), some (vI s), some (vI p), none] [] σ (fun v σ' => ∃ r, v = some (vI r) ∧ P r σ') := by
    intro j
    induction j with
    | zero =>
      intro p t s hp hp0 ht htk hP
      have body : AW g l d MX11_stretchOf 28 [some (vR 11 (some x)), some (vI n), some (vI k), some (vI w), some (vI t), some (vI s), some (vI p), none] [] σ (fun v σ' => ∃ r, v = some (vI r) ∧ P r σ') := by
        refine bk_X11_stretchOf_28 ⟨fun _ => ⟨fun _ => bk_X11_stretchOf_66 ⟨fun q => absurd rfl q, fun _ => ?_⟩, fun q => absurd rfl q⟩, fun q => absurd (by omega) q⟩
        unfold sf at hP
        refine ⟨fun q => ⟨⟨by omega, by omega⟩, ?_⟩, fun q => ⟨fun q2 => ⟨⟨by omega, by omega⟩, ⟨by omega, by omega⟩, ?_⟩, fun q2 => ⟨fun q3 => ⟨_, rfl, ?_⟩, fun q3 => ⟨_, rfl, ?_⟩⟩⟩⟩
        · rw [if_pos q] at hP
          exact bk_X11_stretchOf_9 ⟨fun _ => ⟨_, rfl, hP⟩, fun q => absurd (by omega) q⟩
        · rw [if_neg q, if_neg q2] at hP
          exact bk_X11_stretchOf_9 ⟨fun _ => ⟨_, rfl, hP⟩, fun q => absurd (by omega) q⟩
        · rw [if_neg q, if_pos q2, if_neg q3] at hP
          exact hP
        · rw [if_neg q, if_pos q2, if_pos q3] at hP
          exact hP
      exact bk_X11_stretchOf_9 ⟨fun q => absurd q (by omega), fun _ => ⟨fun q => absurd q (by omega), fun q => ⟨fun q2 => body, fun q2 => ⟨fun q3 => absurd c (by omega), fun q3 => body⟩⟩⟩⟩
    | succ j ih =>
      intro p t s hp hp0 ht htk hP
      have body : AW g l d MX11_stretchOf 28 [some (vR 11 (some x)), some (vI n), some (vI k), some (vI w), some (vI t), some (vI s), some (vI p), none] [] σ (fun v σ' => ∃ r, v = some (vI r) ∧ P r σ') := by
        unfold sf at hP
        refine bk_X11_stretchOf_28 ⟨fun q => absurd q (by omega), fun _ => ⟨hx, ⟨by omega, by omega⟩, fun z => ⟨fun _ => bk_X11_stretchOf_66 ⟨fun q => absurd rfl q, fun _ => ?_⟩, fun q => absurd rfl q⟩, fun z => ⟨fun q => absurd q (by decide), fun _ => ⟨fun q => bk_X11_stretchOf_66 ⟨fun _ => ⟨⟨by omega, by omega⟩, ?_⟩, fun q => absurd q (by decide)⟩, fun q => bk_X11_stretchOf_66 ⟨fun _ => ⟨⟨by omega, by omega⟩, ?_⟩, fun q => absurd q (by decide)⟩⟩⟩⟩⟩
        · rw [if_pos z] at hP
          refine ⟨fun q => ⟨⟨by omega, by omega⟩, ?_⟩, fun q => ⟨fun q2 => ⟨⟨by omega, by omega⟩, ⟨by omega, by omega⟩, ?_⟩, fun q2 => ⟨fun q3 => ⟨_, rfl, ?_⟩, fun q3 => ⟨_, rfl, ?_⟩⟩⟩⟩
          · rw [if_pos q] at hP
            exact ih _ _ _ (by omega) (by omega) ht htk hP
          · rw [if_neg q, if_neg q2] at hP
            exact ih _ _ _ (by omega) (by omega) (by omega) (by omega) hP
          · rw [if_neg q, if_pos q2, if_neg q3] at hP
            exact hP
          · rw [if_neg q, if_pos q2, if_pos q3] at hP
            exact hP
        · rw [if_neg z, if_neg q] at hP
          exact ih _ _ _ (by omega) (by omega) ht htk hP
        · rw [if_neg z, if_pos q] at hP
          exact ih _ _ _ (by omega) (by omega) ht htk hP
      exact bk_X11_stretchOf_9 ⟨fun q => absurd q (by omega), fun _ => ⟨fun q => absurd q (by omega), fun q => ⟨fun q2 => body, fun q2 => ⟨fun q3 => absurd c (by omega), fun q3 => body⟩⟩⟩⟩
  exact loop n.toNat 0 k (-1) (by omega) (by omega) (by omega) (by omega) (hB (by omega) (by omega) (by omega))
def dfM (σ : St) (m : Nat) (im ot p : Int) : Int := if p < gI σ 1201 m im.toNat ∧ p < gI σ 1201 m ot.toNat ∧ hasM σ m im p = hasM σ m ot p then 0 else 1
theorem m_differ {im ot k w N : Int} {P : Int → St → Prop} (hm : LC 12 σ m) (h1 : 0 ≤ im) (h2 : im < 6) (h3 : 0 ≤ gI σ 1202 m im.toNat) (h4 : gI σ 1202 m im.toNat ≤ 4) (hl : gI σ 1201 m im.toNat ≤ 2000)
    (o1 : 0 ≤ ot) (o2 : ot < 6) (o3 : 0 ≤ gI σ 1202 m ot.toNat) (o4 : gI σ 1202 m ot.toNat ≤ 4) (ol : gI σ 1201 m ot.toNat ≤ 2000) (hN0 : 0 ≤ N) (hN : N ≤ 2000) (hk : 0 ≤ k) (hk2 : k < 2147483648)
    (hP : P (sf (dfM σ m im ot) w N.toNat 0 k (-1)) σ) :
    AW g l (d + 2) MX12_differ 77 [some (vR 12 (some m)), some (vI im), some (vI ot), none, some (vI w), some (vI N), some (vI k), some (vI 1), some (vI (-1)), some (vI 0), none] [] σ (fun v σ' => ∃ r, v = some (vI r) ∧ P r σ') := by
  have loop : ∀ (j : Nat) (p t s c u e : Int), p = N - j → 0 ≤ p → 0 ≤ t → t ≤ k → (s = -1 → ¬ u = 0 ∧ c = t) → (¬ s = -1 → u = 0 ∧ e = t ∧ c = t - 1 ∧ ¬ (t = 0 ∧ w = 0)) → P (sf (dfM σ m im ot) w j p t s) σ →
      AW g l (d + 2) MX12_differ 77 [some (vR 12 (some m)), some (vI im), some (vI ot), none, some (vI w), some (vI N), some (vI c), some (vI u), some (vI e), some (vI p), none] [] σ (fun v σ' => ∃ r, v = some (vI r) ∧ P r σ') := by
    intro j
    induction j with
    | zero =>
      intro p t s c u e hp hp0 ht htk hs1 hs2 hX
      unfold sf at hX
      obtain rfl : p = N := by omega
      refine bk_X12_differ_77 ⟨fun _ => ⟨fun q => ⟨_, rfl, ?_⟩, fun q => ⟨fun q2 => ⟨_, rfl, ?_⟩, fun q2 => ⟨_, rfl, ?_⟩⟩⟩, fun q => absurd (Int.le_refl _) q⟩
      · rw [if_pos (Decidable.byContradiction (fun z => q (hs2 z).1))] at hX; exact hX
      · have hsn : ¬ s = -1 := fun z => (hs1 z).1 q
        have := hs2 hsn
        rw [if_neg hsn, if_neg (by omega)] at hX; exact hX
      · have hsn : ¬ s = -1 := fun z => (hs1 z).1 q
        have := hs2 hsn
        rw [if_neg hsn, if_pos (by omega), if_neg (by omega)] at hX; exact hX
    | succ j ih =>
      intro p t s c u e hp hp0 ht htk hs1 hs2 hP
      unfold sf at hP
      have b0 : dfM σ m im ot p = 1 → AW g l (d + 2) MX12_differ 128 [some (vR 12 (some m)), some (vI im), some (vI ot), none, some (vI w), some (vI N), some (vI c), some (vI u), some (vI e), some (vI p), none] [vI 0] σ (fun v σ' => ∃ r, v = some (vI r) ∧ P r σ') := by
        intro hd
        rw [if_neg (by omega)] at hP
        refine bk_X12_differ_128 ⟨fun q => absurd rfl q, fun _ => ⟨fun q => ?_, fun q => ?_⟩⟩
        · have hsn : ¬ s = -1 := fun z => (hs1 z).1 q
          rw [if_neg hsn] at hP
          exact bk_X12_differ_160 ⟨fun _ => ⟨⟨by omega, by omega⟩, ih _ t s c 0 e (by omega) (by omega) ht htk (fun z => absurd z hsn) (fun z => ⟨rfl, (hs2 z).2⟩) hP⟩, fun q => absurd rfl q⟩
        · have hsn : s = -1 := Decidable.byContradiction (fun z => q (hs2 z).1)
          have := hs1 hsn
          rw [if_pos hsn] at hP
          refine ⟨fun q2 => ⟨⟨by omega, by omega⟩, bk_X12_differ_160 ⟨fun _ => ⟨⟨by omega, by omega⟩, ih _ t p (c + -1) 0 c (by omega) (by omega) ht htk (fun z => by omega) (fun z => by omega) hP⟩, fun q => absurd rfl q⟩⟩, fun q2 => ⟨fun q3 => ⟨⟨by omega, by omega⟩, bk_X12_differ_160 ⟨fun _ => ⟨⟨by omega, by omega⟩, ih _ t p (c + -1) 0 c (by omega) (by omega) ht htk (fun z => by omega) (fun z => by omega) hP⟩, fun q => absurd rfl q⟩⟩, fun q3 => ⟨_, rfl, ?_⟩⟩⟩
          rw [q3, show t = 0 by omega, sf_start (by omega)] at hP
          exact hP
      have b1 : dfM σ m im ot p = 0 → AW g l (d + 2) MX12_differ 128 [some (vR 12 (some m)), some (vI im), some (vI ot), none, some (vI w), some (vI N), some (vI c), some (vI u), some (vI e), some (vI p), none] [vI 1] σ (fun v σ' => ∃ r, v = some (vI r) ∧ P r σ') := by
        intro hd
        rw [if_pos hd] at hP
        refine bk_X12_differ_128 ⟨fun _ => bk_X12_differ_160 ⟨fun q => absurd q (by decide), fun _ => ⟨fun q => ?_, fun q => ?_⟩⟩, fun q => absurd q (by decide)⟩
        · have hsn : s = -1 := Decidable.byContradiction (fun z => q (hs2 z).1)
          rw [if_pos hsn] at hP
          exact ⟨⟨by omega, by omega⟩, ih _ t s c 1 e (by omega) (by omega) ht htk (fun z => ⟨by decide, (hs1 z).2⟩) (fun z => absurd hsn z) hP⟩
        · have hsn : ¬ s = -1 := fun z => (hs1 z).1 q
          have := hs2 hsn
          rw [if_neg hsn] at hP
          refine ⟨fun q2 => ⟨⟨by omega, by omega⟩, ?_⟩, fun q2 => ⟨_, rfl, ?_⟩⟩
          · rw [if_neg (by omega)] at hP
            exact ih _ (t + -1) (-1) c 1 e (by omega) (by omega) (by omega) (by omega) (fun z => ⟨by decide, by omega⟩) (fun z => absurd rfl z) hP
          · rw [if_pos (by omega), if_neg (by omega)] at hP
            exact hP
      refine bk_X12_differ_77 ⟨fun q => absurd q (by omega), fun _ => ⟨hm, ⟨by omega, by omega⟩, fun q => b0 (if_neg (fun z => by omega)), fun q => ⟨⟨by omega, by omega⟩, fun q2 => b0 (if_neg (fun z => by omega)), fun q2 => m_has hm h1 h2 h3 h4 hp0 (by omega) (m_has hm o1 o2 o3 o4 hp0 (by omega) ⟨fun z => b0 (if_neg (fun y => z y.2.2)), fun z => b1 (if_pos ⟨by omega, by omega, z⟩)⟩)⟩⟩⟩
  exact loop N.toNat 0 k (-1) k 1 (-1) (by omega) (by omega) (by omega) (by omega) (fun _ => ⟨by decide, rfl⟩) (fun z => absurd rfl z) hP
theorem op_differ {im ot k w : Int} (hI : ImgI σ x m) (hk2 : k < 2147483648) : ACi g l (d + 6) MX11_differ [vR 11 (some x), vI im, vI ot, vI k, vI w] σ (fun a σ1 => ACi g l (d + 6) MX12_differ [vR 12 (some m), vI im, vI ot, vI k, vI w] σ1 (fun b σ2 => a = b ∧ ScFr σ σ2)) := by
  have h6 := hI.2.2.2.2.1
  have he := hI.2.2.2.2.2.1
  refine AC.of mo_X11_differ (Nat.le_of_ble_eq_true rfl) (bk_X11_differ_0 (x_imageOf hI.1 h6.2 (fun hn => ?_) (fun h0 h1 => ?_)))
  · have ref : ACi g l (d + 6) MX12_differ [vR 12 (some m), vI im, vI ot, vI k, vI w] σ (fun b σ2 => -1 = b ∧ ScFr σ σ2) := by
      refine AC.of mo_X12_differ (Nat.le_of_ble_eq_true rfl) (bk_X12_differ_0 (m_isImage ?_))
      rw [if_neg (by omega)]
      exact ⟨fun _ => ⟨_, rfl, rfl, Frm.rfl⟩, fun q => absurd rfl q⟩
    exact x_imageOf hI.1 h6.2 (fun _ => ⟨fun _ => ⟨_, rfl, ref⟩, (fun _ q => nomatch q)⟩) (fun _ _ => ⟨fun _ => ⟨_, rfl, ref⟩, (fun _ q => nomatch q)⟩)
  obtain ⟨e1, hc, hr, hi6, hi2⟩ := hI.im h0 h1
  rw [e1]
  refine x_imageOf hI.1 h6.2 (fun on => ⟨(fun q => nomatch q), fun _ _ => ⟨fun _ => ⟨_, rfl, ?_⟩, (fun _ q => nomatch q)⟩⟩) (fun o0 o1 => ?_)
  · refine AC.of mo_X12_differ (Nat.le_of_ble_eq_true rfl) (bk_X12_differ_0 (m_isImage ?_))
    rw [if_pos ⟨h0, hi2⟩]
    refine ⟨fun q => absurd q (by decide), fun _ => m_isImage ?_⟩
    rw [if_neg (by omega)]
    exact ⟨fun _ => ⟨_, rfl, rfl, Frm.rfl⟩, fun q => absurd rfl q⟩
  obtain ⟨f1, oc, or, oi6, oi2⟩ := hI.im o0 o1
  rw [f1]
  have hlen := hc.2.1
  have hlc := hc.2.2.1
  have r1 := hr.1
  have r2 := hr.2.1
  have olen := oc.2.1
  have olc := oc.2.2.1
  have s1 := or.1
  have s2 := or.2.1
  refine ⟨(fun q => nomatch q), fun r q => ⟨(fun q => nomatch q), fun r' q' => j_max ?_⟩⟩
  obtain rfl : img σ x im = r := by simpa using q
  obtain rfl : img σ x ot = r' := by simpa using q'
  generalize ha : img σ x im = a at *
  generalize hb : img σ x ot = b at *
  generalize hN : max (gI σ 304 a 0) (gI σ 304 b 0) = N at *
  have ref : ∀ (v : Int) (τ : St), Frm (fun f r => r = x ∧ f = 1115) σ τ → ((k < 0 ∨ w < 0 ∨ 1 < w) → v = -1) → (0 ≤ k → 0 ≤ w → w ≤ 1 → v = sf (dfM σ m im ot) w N.toNat 0 k (-1)) → ACi g l (d + 6) MX12_differ [vR 12 (some m), vI im, vI ot, vI k, vI w] τ (fun b σ2 => v = b ∧ ScFr σ σ2) := by
    intro v τ hF hA hB
    have hS : ScFr σ τ := hF.mono (fun f r z => by have := z.2; omega)
    have et : ∀ f i, 1200 ≤ f → gI τ f m i = gI σ f m i := fun f i z => hF.I (by omega) i
    have ehas : ∀ im p, hasM τ m im p = hasM σ m im p := fun im p => by unfold hasM; rw [et _ _ (by decide), et _ _ (by decide)]; exact hv_congr (fun i _ => et _ _ (by decide)) rfl
    have edf : ∀ p, dfM τ m im ot p = dfM σ m im ot p := fun p => by unfold dfM; rw [et _ _ (by decide), et _ _ (by decide), ehas, ehas]
    refine AC.of mo_X12_differ (Nat.le_of_ble_eq_true rfl) (bk_X12_differ_0 (m_isImage ?_))
    rw [et _ _ (by decide), if_pos ⟨h0, hi2⟩]
    refine ⟨fun q => absurd q (by decide), fun _ => m_isImage ?_⟩
    rw [et _ _ (by decide), if_pos ⟨o0, oi2⟩]
    refine ⟨fun q => absurd q (by decide), fun _ => ⟨fun q => ⟨_, rfl, hA (by omega), hS⟩, fun q => ⟨fun q2 => ⟨_, rfl, hA (by omega), hS⟩, fun q2 => ⟨fun q3 => ⟨hF.lc hI.2.1, ⟨by omega, by omega⟩, ⟨by omega, by omega⟩, ?_⟩, fun q3 => ⟨_, rfl, hA (by omega), hS⟩⟩⟩⟩⟩
    have hB := hB (by omega) (by omega) q3
    have fin : AW g l (d + 6) MX12_differ 77 [some (vR 12 (some m)), some (vI im), some (vI ot), none, some (vI w), some (vI N), some (vI k), some (vI 1), some (vI (-1)), some (vI 0), none] [] τ (fun v' σ' => ∃ r, v' = some (vI r) ∧ v = r ∧ ScFr σ σ') := by
      refine m_differ (hF.lc hI.2.1) h0 hi6 ?_ ?_ ?_ o0 oi6 ?_ ?_ ?_ (by omega) (by omega) (by omega) hk2 ⟨?_, hS⟩
      all_goals try rw [et _ _ (by decide)]
      all_goals try omega
      rw [hB]
      exact sf_congr _ _ _ _ (fun i _ _ => (edf i).symm)
    rw [et _ _ (by decide), et _ _ (by decide), ← r1, ← s1]
    refine ⟨fun q4 => ?_, fun q4 => ?_⟩
    · rw [show gI σ 304 b 0 = N by omega]; exact fin
    · rw [show gI σ 304 a 0 = N by omega]; exact fin
  have loop : ∀ (j : Nat) (i : Int) (τ : St), i = N - j → 0 ≤ i → Frm (fun f r => r = x ∧ f = 1115) σ τ → (∀ n : Int, 0 ≤ n → n < i → gI τ 1115 x n.toNat = dfM σ m im ot n) →
      AW g l (d + 6) MX11_differ 44 [some (vR 11 (some x)), none, none, some (vI k), some (vI w), some (vR 3 (some a)), some (vR 3 (some b)), some (vI N), some (vI i)] [] τ (fun v' σ' => ∃ r, v' = some (vI r) ∧ ACi g l (d + 6) MX12_differ [vR 12 (some m), vI im, vI ot, vI k, vI w] σ' (fun b σ2 => r = b ∧ ScFr σ σ2)) := by
    intro j
    induction j with
    | zero =>
      intro i τ hi hi0 hF hpat
      refine bk_X11_differ_44 ⟨fun _ => x_stretchOf (hF.lc hI.1) (by omega) (by omega) hk2 (fun q => ⟨_, rfl, ref _ τ hF (fun _ => rfl) (fun _ _ => by omega)⟩) (fun q q2 q3 => ⟨_, rfl, ref _ τ hF (fun _ => by omega) (fun _ _ _ => ?_)⟩), fun q => absurd (by omega) q⟩
      exact sf_congr _ _ _ _ (fun n n0 n1 => hpat n n0 (by omega))
    | succ j ih =>
      intro i τ hi hi0 hF hpat
      have hLx := hF.lc hI.1
      have t4 : gI τ 304 a 0 = gI σ 304 a 0 := hF.I (by simp) 0
      have t1 : ∀ i, gI τ 301 a i = gI σ 301 a i := hF.I (by simp)
      have u4 : gI τ 304 b 0 = gI σ 304 b 0 := hF.I (by simp) 0
      have u1 : ∀ i, gI τ 301 b i = gI σ 301 b i := hF.I (by simp)
      have step : ∀ c : Int, c = dfM σ m im ot i → LC 11 τ x ∧ Bd i 2001 ∧ R32 (i + 1) ∧ AW g l (d + 6) MX11_differ 44 [some (vR 11 (some x)), none, none, some (vI k), some (vI w), some (vR 3 (some a)), some (vR 3 (some b)), some (vI N), some (vI (i + 1))] [] (sI τ 1115 x i.toNat c) (fun v' σ' => ∃ r, v' = some (vI r) ∧ ACi g l (d + 6) MX12_differ [vR 12 (some m), vI im, vI ot, vI k, vI w] σ' (fun b σ2 => r = b ∧ ScFr σ σ2)) := by
        intro c hcc
        refine ⟨hLx, ⟨by omega, by omega⟩, ⟨by omega, by omega⟩, ih _ _ (by omega) (by omega) (hF.trans (Frm.sI (by simp))) (fun n n0 n1 => ?_)⟩
        simp only [gI_sI, true_and]
        by_cases z : n = i
        · rw [z, if_pos rfl]; exact hcc
        · rw [if_neg (by omega)]; exact hpat n n0 (by omega)
      have nA : 0 ≤ i → i < gI σ 304 a 0 → gI τ 301 a i.toNat = hasM σ m im i ∧ 0 ≤ hasM σ m im i := fun z0 z1 => by
        rw [t1, hr.has hc z0 z1]; exact ⟨rfl, by rw [← hr.has hc z0 z1]; exact (hc.now z0 z1).1⟩
      have nB : 0 ≤ i → i < gI σ 304 b 0 → gI τ 301 b i.toNat = hasM σ m ot i ∧ 0 ≤ hasM σ m ot i := fun z0 z1 => by
        rw [u1, or.has oc z0 z1]; exact ⟨rfl, by rw [← or.has oc z0 z1]; exact (oc.now z0 z1).1⟩
      unfold dfM at step
      rw [← r1, ← s1] at step
      refine bk_X11_differ_44 ⟨fun q => absurd q (by omega), fun _ => ⟨hLx, a, rfl, x_has (hF.lc hc.1) (by omega) (fun za => ⟨b, rfl, x_has (hF.lc oc.1) (by omega) (fun zb => absurd za (by omega)) (fun z0 z1 => ?_)⟩) (fun y0 y1 => ⟨b, rfl, x_has (hF.lc oc.1) (by omega) (fun zb => ?_) (fun z0 z1 => ?_)⟩)⟩⟩
      · have := nB z0 (by omega)
        exact ⟨fun _ => step 1 (by rw [if_neg (by omega)]), fun q => absurd q (by omega)⟩
      · have := nA y0 (by omega)
        exact ⟨fun _ => step 1 (by rw [if_neg (by omega)]), fun q => absurd q (by omega)⟩
      · have k1 := nA y0 (by omega)
        have k2 := nB z0 (by omega)
        rw [k1.1, k2.1]
        exact ⟨fun q => step 1 (by rw [if_neg (by omega)]), fun q => step 0 (by rw [if_pos ⟨by omega, by omega, q⟩])⟩
  exact loop N.toNat 0 σ (by omega) (by omega) Frm.rfl (fun n n0 n1 => absurd n1 (by omega))
end OP11
