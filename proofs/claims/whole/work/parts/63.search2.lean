/-! the calls search, masked -/
section OP8
variable {g : GP} {l : Launch} {d : Nat} {σ : St} {x m : Nat}
theorem ImgI.sc {σ' : St} (h : ImgI σ x m) (hF : ScFr σ σ') : ImgI σ' x m := h.fr hF.fr (fun f r q z => by have z' : f = 1113 ∨ f = 1114 ∨ f = 1115 ∨ f = 1253 ∨ f = 1280 ∨ f = 1281 := z; omega)
theorem kth_hit0 {f : Int → Int} {n : Nat} {p k : Int} (h : 0 ≤ f p) (hk : k = 0) : kth f (n + 1) p k = p := by unfold kth; rw [if_pos h, if_pos hk]
theorem kth_hit {f : Int → Int} {n : Nat} {p k : Int} (h : 0 ≤ f p) (hk : ¬ k = 0) : kth f (n + 1) p k = kth f n (p + 1) (k - 1) := by rw [kth]; rw [if_pos h, if_neg hk]
theorem kth_miss {f : Int → Int} {n : Nat} {p k : Int} (h : ¬ 0 ≤ f p) : kth f (n + 1) p k = kth f n (p + 1) k := by rw [kth]; rw [if_neg h]
theorem i15 {w bg : Int} (h1 : 1 ≤ w) (h8 : w ≤ 8) : i_and (w + if bg = 0 then 0 else 32) 15 = w ∧ (i_and (w + if bg = 0 then 0 else 32) 32 ≤ 0 ↔ bg = 0) := by
  have hw : w = 1 ∨ w = 2 ∨ w = 3 ∨ w = 4 ∨ w = 5 ∨ w = 6 ∨ w = 7 ∨ w = 8 := by omega
  by_cases e : bg = 0
  · rw [if_pos e]
    rcases hw with rfl | rfl | rfl | rfl | rfl | rfl | rfl | rfl <;> exact ⟨by decide, fun _ => e, fun _ => by decide⟩
  · rw [if_neg e]
    rcases hw with rfl | rfl | rfl | rfl | rfl | rfl | rfl | rfl <;> exact ⟨by decide, fun q => absurd q (by decide), fun q => absurd q e⟩
theorem op_search {im w bg k : Int} {v : Int64} (hI : ImgI σ x m) (hk2 : k < 2147483648) : ACi g l (d + 6) MX11_search [vR 11 (some x), vI im, vJ v, vI w, vI bg, vI k] σ (fun a σ1 => ACi g l (d + 6) MX12_search [vR 12 (some m), vI im, vJ v, vI w, vI bg, vI k] σ1 (fun b σ2 => a = b ∧ ScFr σ σ2)) := by
  have h6 := hI.2.2.2.2.1
  have he := hI.2.2.2.2.2.1
  refine AC.of mo_X11_search (Nat.le_of_ble_eq_true rfl) (bk_X11_search_0 (x_imageOf hI.1 h6.2 (fun hn => ⟨fun _ => ⟨_, rfl, ?_⟩, (fun _ q => nomatch q)⟩) (fun h0 h1 => ?_)))
  · refine AC.of mo_X12_search (Nat.le_of_ble_eq_true rfl) (bk_X12_search_0 (m_isImage ?_))
    rw [if_neg (by omega)]
    exact ⟨fun _ => ⟨_, rfl, rfl, Frm.rfl⟩, fun q => absurd rfl q⟩
  obtain ⟨e1, hc, hr, hi6, hi2⟩ := hI.im h0 h1
  have hlen := hc.2.1
  have hlc := hc.2.2.1
  have r1 := hr.1
  have r2 := hr.2.1
  rw [e1]
  refine ⟨(fun q => nomatch q), fun r q => ?_⟩
  obtain rfl : img σ x im = r := by simpa using q
  generalize ha : img σ x im = a at *
  obtain ⟨F, hFd⟩ : ∃ F : Int → Int, ∀ p, (0 ≤ F p ↔ rv (fun i => hasM σ m im (if bg = 0 then p + w - 1 - i else p + i)) w.toNat = v &&& mkv (8 * w)) := ⟨fun p => if rv (fun i => hasM σ m im (if bg = 0 then p + w - 1 - i else p + i)) w.toNat = v &&& mkv (8 * w) then 0 else -1, fun p => by
    by_cases z : rv (fun i => hasM σ m im (if bg = 0 then p + w - 1 - i else p + i)) w.toNat = v &&& mkv (8 * w)
    · simp only [z, if_true]; exact ⟨fun _ => trivial, fun _ => by decide⟩
    · simp only [z, if_false]; exact ⟨fun q => absurd q (by decide), fun q => q.elim⟩⟩
  have ref : ∀ (P : Int → St → Prop) (σ1 : St), LC 12 σ1 m → (∀ f i, 1200 ≤ f → gI σ1 f m i = gI σ f m i) → ((w < 1 ∨ 8 < w) → P (-1) σ1) → (1 ≤ w → w ≤ 8 → k < 0 → P (-1) σ1) → (1 ≤ w → w ≤ 8 → 0 ≤ k → ∀ τ, Frm (fun f r => r = m ∧ f = 1281) σ1 τ → P (kth F (gI σ 304 a 0 - w + 1).toNat 0 k) τ) → ACi g l (d + 6) MX12_search [vR 12 (some m), vI im, vJ v, vI w, vI bg, vI k] σ1 P := by
    intro P σ1 hL em hA hB hC
    refine AC.of mo_X12_search (Nat.le_of_ble_eq_true rfl) (bk_X12_search_0 (m_isImage ?_))
    rw [em _ _ (by decide), if_pos ⟨h0, hi2⟩]
    refine ⟨fun q => absurd q (by decide), fun _ => ⟨fun q => ⟨_, rfl, hA (Or.inl q)⟩, fun q => ⟨fun q2 => ⟨_, rfl, hA (Or.inr q2)⟩, fun q2 => ⟨fun q3 => ?_, fun q3 => ⟨_, rfl, hB (by omega) (by omega) (by omega)⟩⟩⟩⟩⟩
    have f1 : Frm (fun f r => r = m ∧ f = 1281) σ1 (sI σ1 1281 m 0 im) := Frm.sI (by simp)
    have hC := hC (by omega) (by omega) q3 _ f1
    generalize hτ : sI σ1 1281 m 0 im = τ at *
    have et : ∀ f i, 1200 ≤ f → f ≠ 1281 → gI τ f m i = gI σ f m i := fun f i z0 z1 => by rw [f1.I (by omega), em _ _ z0]
    have e81 : gI τ 1281 m 0 = im := by rw [← hτ, gI_slf]
    have hLt := f1.lc hL
    have ehas : ∀ p, hasM τ m im p = hasM σ m im p := fun p => by unfold hasM; rw [et _ _ (by decide) (by decide), et _ _ (by decide) (by decide)]; exact hv_congr (fun i _ => et _ _ (by decide) (by decide)) rfl
    obtain ⟨c1, c2⟩ := i15 (bg := bg) (w := w) (by omega) (by omega)
    have loop : ∀ (j : Nat) (p t : Int), (j : Int) = max 0 (gI σ 304 a 0 - w + 1 - p) → 0 ≤ p → p ≤ 2001 → 0 ≤ t → t ≤ k → P (kth F j p t) τ →
        AW g l (d + 6) MX12_search 40 [some (vR 12 (some m)), none, some (vJ v), none, some (vI w), some (vI bg), none, some (vI t), some (vI p)] [] τ (fun v σ' => ∃ r, v = some (vI r) ∧ P r σ') := by
      intro j
      induction j with
      | zero =>
        intro p t hj hp hp2 ht htk hP
        refine bk_X12_search_40 ⟨⟨by omega, by omega⟩, hLt, ⟨by omega, by omega⟩, ?_⟩
        rw [e81, et _ _ (by decide) (by decide), ← r1]
        exact ⟨fun _ => ⟨_, rfl, hP⟩, fun q => absurd (by omega) q⟩
      | succ j ih =>
        intro p t hj hp hp2 ht htk hP
        have body : AW g l (d + 6) MX12_search 73 [some (vR 12 (some m)), none, some (vJ v), none, some (vI w), some (vI bg), none, some (vI t), some (vI p)] [vI (if bg = 0 then 0 else 32), vI w, vI p, vR 12 (some m)] τ (fun v σ' => ∃ r, v = some (vI r) ∧ P r σ') := by
          refine bk_X12_search_73 ⟨⟨by split <;> omega, by split <;> omega⟩, m, rfl, m_raw (bg := bg) (w := w) hLt e81 h0 hi6 (by rw [et _ _ (by decide) (by decide)]; omega) (by rw [et _ _ (by decide) (by decide)]; omega) c1 c2 hp (by omega) (by omega) ⟨⟨by omega, by omega⟩, m_mask (by omega) (by omega) ?_⟩⟩
          rw [rv_congr (f' := fun i => hasM σ m im (if bg = 0 then p + w - 1 - i else p + i)) (fun i _ _ => ehas _)]
          refine ⟨fun q => ⟨fun qt => ?_, fun qt => ?_⟩, fun q => ?_⟩
          · rw [kth_hit ((hFd p).mpr q) qt] at hP
            exact ⟨⟨by omega, by omega⟩, ⟨by omega, by omega⟩, ih _ _ (by omega) (by omega) (by omega) (by omega) (by omega) hP⟩
          · rw [kth_hit0 ((hFd p).mpr q) qt] at hP
            exact ⟨_, rfl, hP⟩
          · rw [kth_miss (fun z => q ((hFd p).mp z))] at hP
            exact ⟨⟨by omega, by omega⟩, ih _ _ (by omega) (by omega) (by omega) ht htk hP⟩
        refine bk_X12_search_40 ⟨⟨by omega, by omega⟩, hLt, ⟨by omega, by omega⟩, ?_⟩
        rw [e81, et _ _ (by decide) (by decide), ← r1]
        refine ⟨fun q => absurd q (by omega), fun _ => ⟨fun q => ?_, fun q => ?_⟩⟩
        · rw [if_pos q] at body; exact body
        · rw [if_neg q] at body; exact body
    exact loop _ 0 k (by omega) (by omega) (by omega) q3 (by omega) hC
  refine ⟨fun q => ⟨_, rfl, ref _ σ hI.2.1 (fun _ _ _ => rfl) (fun _ => ⟨rfl, Frm.rfl⟩) (fun q2 => absurd q2 (by omega)) (fun q2 => absurd q2 (by omega))⟩, fun q => ⟨fun q8 => ?_, fun q8 => ⟨_, rfl, ref _ σ hI.2.1 (fun _ _ _ => rfl) (fun _ => ⟨rfl, Frm.rfl⟩) (fun _ q2 => absurd q2 q8) (fun _ q2 => absurd q2 q8)⟩⟩⟩
  have loop : ∀ (j : Nat) (i : Int) (τ : St), i = w - j → 0 ≤ i → Frm (fun f r => r = x ∧ (f = 1113 ∨ f = 1114)) σ τ → (∀ n : Int, 0 ≤ n → n < i → gI τ 1113 x n.toNat = byt v (if bg = 0 then n else w - 1 - n) ∧ gI τ 1114 x n.toNat = 255) →
      AW g l (d + 6) MX11_search 30 [some (vR 11 (some x)), none, some (vJ v), none, some (vI w), some (vI bg), some (vI k), some (vR 3 (some a)), some (vI i)] [] τ (fun v' σ' => ∃ r, v' = some (vI r) ∧ ACi g l (d + 6) MX12_search [vR 12 (some m), vI im, vJ v, vI w, vI bg, vI k] σ' (fun b σ2 => r = b ∧ ScFr σ σ2)) := by
    intro j
    induction j with
    | zero =>
      intro i τ hi hi0 hF hpat
      obtain rfl : i = w := by omega
      have t4 : gI τ 304 a 0 = gI σ 304 a 0 := hF.I (by simp) 0
      have t1 : ∀ i, gI τ 301 a i = gI σ 301 a i := hF.I (by simp)
      refine bk_X11_search_30 ⟨fun _ => x_matchOf (hF.lc hI.1) (hF.lc hc.1) (by omega) (by omega) (by omega) hk2 ⟨_, rfl, ?_⟩, fun q => absurd (Int.le_refl _) q⟩
      refine ref _ τ (hF.lc hI.2.1) (fun f i z => hF.I (by omega) i) (fun q2 => absurd q2 (by omega)) (fun _ _ q2 => ⟨if_pos q2, hF.mono (fun f r z => by have := z.2; omega)⟩) (fun _ _ q2 u hu => ⟨?_, (hF.mono (fun f r z => by have := z.2; omega)).trans (hu.mono (fun f r z => by have := z.2; omega))⟩)
      rw [if_neg (by omega), t4]
      refine kth_sign _ _ _ (fun p p0 p1 => ?_)
      have hb : ∀ j : Int, 0 ≤ j → j < i → 0 ≤ hasM σ m im (p + j) ∧ hasM σ m im (p + j) ≤ 255 := fun j j0 j1 => by
        rw [← hr.has hc (by omega) (by omega)]
        exact hc.now (by omega) (by omega)
      have hq : (∀ j : Int, 0 ≤ j → j < i → hasM σ m im (p + j) = byt v (if bg = 0 then j else i - 1 - j)) ↔ rv (fun n => hasM σ m im (if bg = 0 then p + i - 1 - n else p + n)) i.toNat = v &&& mkv (8 * i) := by
        have hrb : ∀ n : Int, 0 ≤ n → n < (i.toNat : Nat) → 0 ≤ hasM σ m im (if bg = 0 then p + i - 1 - n else p + n) ∧ hasM σ m im (if bg = 0 then p + i - 1 - n else p + n) ≤ 255 := fun n n0 n1 => by
          by_cases z : bg = 0
          · rw [if_pos z, show p + i - 1 - n = p + (i - 1 - n) by omega]; exact hb _ (by omega) (by omega)
          · rw [if_neg z]; exact hb _ n0 (by omega)
        constructor
        · intro hh
          refine byt_ext (fun n n0 n7 => ?_)
          rw [byt_rv _ hrb n n0 n7, byt_low v _ (by omega) q8 (mkv_low (by omega) q8) n0 n7]
          by_cases z : n < i
          · rw [if_pos (by omega), if_pos z]
            by_cases zb : bg = 0
            · rw [if_pos zb, show p + i - 1 - ((i.toNat : Int) - 1 - n) = p + n by omega, hh n n0 z, if_pos zb]
            · rw [if_neg zb, show p + ((i.toNat : Int) - 1 - n) = p + (i - 1 - n) by omega, hh _ (by omega) (by omega), if_neg zb, show i - 1 - (i - 1 - n) = n by omega]
          · rw [if_neg (by omega), if_neg z]
        · intro hh n n0 n1
          have key : ∀ t : Int, 0 ≤ t → t < i → hasM σ m im (if bg = 0 then p + i - 1 - ((i.toNat : Int) - 1 - t) else p + ((i.toNat : Int) - 1 - t)) = byt v t := fun t t0 t1 => by
            have := byt_rv _ hrb t t0 (by omega)
            rw [hh, byt_low v _ (by omega) q8 (mkv_low (by omega) q8) t0 (by omega), if_pos (by omega), if_pos (by omega)] at this
            exact this.symm
          by_cases zb : bg = 0
          · have := key n n0 n1
            rw [if_pos zb, show p + i - 1 - ((i.toNat : Int) - 1 - n) = p + n by omega] at this
            rw [this, if_pos zb]
          · have := key (i - 1 - n) (by omega) (by omega)
            rw [if_neg zb, show p + ((i.toNat : Int) - 1 - (i - 1 - n)) = p + n by omega] at this
            rw [this, if_neg zb]
      rw [al_iff]
      have lhs : (∀ j : Int, 0 ≤ j → j < (i.toNat : Nat) → i_and (i_xor (gI τ 301 a (p + j).toNat) (gI τ 1113 x j.toNat)) (gI τ 1114 x j.toNat) = 0) ↔ (∀ j : Int, 0 ≤ j → j < i → hasM σ m im (p + j) = byt v (if bg = 0 then j else i - 1 - j)) := by
        have one : ∀ j : Int, 0 ≤ j → j < i → (i_and (i_xor (gI τ 301 a (p + j).toNat) (gI τ 1113 x j.toNat)) (gI τ 1114 x j.toNat) = 0 ↔ hasM σ m im (p + j) = byt v (if bg = 0 then j else i - 1 - j)) := fun j j0 j1 => by
          rw [(hpat j j0 j1).1, (hpat j j0 j1).2, t1, hr.has hc (by omega) (by omega)]
          have b1 := byt_ge v (if bg = 0 then j else i - 1 - j)
          have b2 := byt_lt v (if bg = 0 then j else i - 1 - j)
          exact i_xor_and (hb j j0 j1).1 (hb j j0 j1).2 b1 (by omega)
        exact ⟨fun hh j j0 j1 => (one j j0 j1).mp (hh j j0 (by omega)), fun hh j j0 j1 => (one j j0 (by omega)).mpr (hh j j0 (by omega))⟩
      rw [lhs, hq, hFd]
    | succ j ih =>
      intro i τ hi hi0 hF hpat
      have hLx := hF.lc hI.1
      have body : AW g l (d + 6) MX11_search 61 [some (vR 11 (some x)), none, some (vJ v), none, some (vI w), some (vI bg), some (vI k), some (vR 3 (some a)), some (vI i)] [vI (if bg = 0 then i else w - 1 - i), vJ v, vI i, vA 1113 x] τ (fun v' σ' => ∃ r, v' = some (vI r) ∧ ACi g l (d + 6) MX12_search [vR 12 (some m), vI im, vJ v, vI w, vI bg, vI k] σ' (fun b σ2 => r = b ∧ ScFr σ σ2)) := by
        refine bk_X11_search_61 (x_byteOf (by split <;> omega) (by split <;> omega) ⟨hLx, ⟨by omega, by omega⟩, hLx, ⟨by omega, by omega⟩, ⟨by omega, by omega⟩, ih _ _ (by omega) (by omega) (hF.trans ((Frm.sI (by simp)).trans (Frm.sI (by simp)))) (fun n n0 n1 => ?_)⟩)
        simp only [gI_sI, false_and, true_and, if_false, Nat.reduceEqDiff]
        by_cases z : n = i
        · rw [z, if_pos rfl, if_pos rfl]
          exact ⟨rfl, rfl⟩
        · have hne : ¬ n.toNat = i.toNat := by omega
          rw [if_neg hne, if_neg hne]
          exact hpat n n0 (by omega)
      refine bk_X11_search_30 ⟨fun q => absurd q (by omega), fun _ => ⟨hLx, fun z => ?_, fun z => ⟨⟨by omega, by omega⟩, ⟨by omega, by omega⟩, ?_⟩⟩⟩
      · rw [if_pos z] at body; exact body
      · rw [if_neg z] at body; exact body
  exact loop w.toNat 0 σ (by omega) (by omega) Frm.rfl (fun n n0 n1 => absurd n1 (by omega))
end OP8
