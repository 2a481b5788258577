/-! covered -/
/-- the deepest node over a place -/
def cvL (s : TS) (p : Int) : Nat → Nat → Int → Int
  | 0, _, b => b
  | n + 1, j, b => cvL s p n (j + 1) (if (s.d 1 j ≤ p ∧ p < s.d 2 j) ∧ (b = -1 ∨ s.d 9 b.toNat < s.d 9 j) then (j : Int) else b)
theorem cvL_b {s : TS} {p : Int} : ∀ (n j : Nat) (b : Int), (-1 ≤ b ∧ b < j) → -1 ≤ cvL s p n j b ∧ cvL s p n j b < (j + n : Nat)
  | 0, j, b, h => ⟨h.1, by show b < (j + 0 : Nat); omega⟩
  | n + 1, j, b, h => by
    unfold cvL
    have := cvL_b (s := s) (p := p) n (j + 1) (if (s.d 1 j ≤ p ∧ p < s.d 2 j) ∧ (b = -1 ∨ s.d 9 b.toNat < s.d 9 j) then (j : Int) else b) (by split <;> omega)
    omega
section N3
variable {g : GP} {l : Launch} {d e : Nat} {σ σ' σ2 : St} {x m p b dd c tr : Nat} {A B : DPa} {En : List Enm} {Ss : List Stc} {len im place : Int} {h : Int → Int} {s : TS} {T : Nat → TS} {I : Nat → Int} {no : Nat → Nat} {fo : Nat → Nat → Nat}
theorem x_deepest {P : Int → St → Prop} (hL : LC 10 σ tr) (h4 : gI σ 1004 tr 0 = (s.c : Int)) (hc : s.c ≤ 400) (hno : ∀ j, j < s.c → gR σ 1003 tr j = some (no j)) (hN : ∀ i, i < s.c → NdC σ no fo Ss s i) (hP : P (cvL s place s.c 0 (-1)) σ) : ACi g l (d + 1) MX10_deepestOver [vR 10 (some tr), vI place] σ P := by
  have loop : ∀ (n j : Nat) (bs : Int), j + n = s.c → (-1 ≤ bs ∧ bs < j) → P (cvL s place n j bs) σ → AW g l (d + 1) MX10_deepestOver 4 [some (vR 10 (some tr)), some (vI place), some (vI bs), some (vI (j : Int))] [] σ (fun v σ' => ∃ r, v = some (vI r) ∧ P r σ') := by
    intro n
    induction n with
    | zero =>
      intro j bs hj hb hp
      refine bk_X10_deepestOver_4 ?_
      rw [h4]
      exact ⟨fun _ => ⟨_, rfl, hp⟩, fun w => absurd (by omega) w⟩
    | succ n ih =>
      intro j bs hj hb hp
      have hjc : j < s.c := by omega
      obtain ⟨n1, n2, n3, _, _, _, _, _, _, _, _, _, n13, _⟩ := hN j hjc
      unfold cvL at hp
      refine bk_X10_deepestOver_4 ?_
      rw [h4, Int.toNat_natCast, hno j hjc]
      refine ⟨fun w => absurd w (by omega), fun _ => ⟨hL, ⟨by omega, by omega⟩, no j, rfl, ?_⟩⟩
      refine AC.of mo_X5_covers (Nat.le_of_ble_eq_true rfl) (bk_X5_covers_0 ?_)
      rw [n2, n3, show (j : Int) + 1 = ((j + 1 : Nat) : Int) by omega]
      have skip : ¬ (s.d 1 j ≤ place ∧ place < s.d 2 j) → AW g l (d + 1) MX10_deepestOver 4 [some (vR 10 (some tr)), some (vI place), some (vI bs), some (vI ((j + 1 : Nat) : Int))] [] σ (fun v σ' => ∃ r, v = some (vI r) ∧ P r σ') := fun z => by
        rw [if_neg (fun q => z q.1)] at hp
        exact ih (j + 1) bs (by omega) (by omega) hp
      refine ⟨fun w => ⟨_, rfl, fun _ => ⟨⟨by omega, by omega⟩, skip (by omega)⟩, fun z => absurd rfl z⟩, fun w => ⟨fun w2 => ⟨_, rfl, fun _ => ⟨⟨by omega, by omega⟩, skip (by omega)⟩, fun z => absurd rfl z⟩, fun w2 => ⟨_, rfl, fun z => absurd z (by decide), fun _ => ⟨fun z => ⟨⟨by omega, by omega⟩, ?_⟩, fun z => ⟨hL, no j, hno j hjc, ⟨by omega, by omega⟩, no bs.toNat, hno _ (by omega), ?_⟩⟩⟩⟩⟩
      · rw [if_pos ⟨⟨by omega, by omega⟩, Or.inl z⟩] at hp
        exact ih (j + 1) j (by omega) (by omega) hp
      · rw [n13, (hN bs.toNat (by omega)).2.2.2.2.2.2.2.2.2.2.2.2.1]
        refine ⟨fun y => ⟨⟨by omega, by omega⟩, ?_⟩, fun y => ⟨⟨by omega, by omega⟩, ?_⟩⟩
        · rw [if_neg (fun q => by omega)] at hp
          exact ih (j + 1) bs (by omega) (by omega) hp
        · rw [if_pos ⟨⟨by omega, by omega⟩, Or.inr (by omega)⟩] at hp
          exact ih (j + 1) j (by omega) (by omega) hp
  refine AC.of mo_X10_deepestOver (Nat.le_of_ble_eq_true rfl) (bk_X10_deepestOver_0 ?_)
  exact loop s.c 0 (-1) (by omega) (by omega) hP
/-- the reference's search for the deepest -/
theorem m_deepest {P : Int → St → Prop} {t : Nat} (hL : LC 12 σ m) (h80 : gI σ 1280 m 0 = (t : Int)) (ht : t < 7) (hc : s.c ≤ 400) (h66 : gI σ 1266 m t = (s.c : Int)) (hN : ∀ i, i < s.c → NdR σ m t b s i) (hJ : JT Ss s) (h9 : ∀ i : Nat, i < s.c → 0 ≤ s.d 9 i ∧ s.d 9 i ≤ i) (hP : P (cvL s place s.c 0 (-1)) σ) : AW g l (d + 1) MX12_covered 23 [some (vR 12 (some m)), some (vI (t : Int)), some (vI place), some (vI (-1)), some (vI (-1)), some (vI (400 * (t : Int))), none, none] [] σ (fun v σ' => ∃ r, v = some (vI r) ∧ P r σ') := by
  have inner : ∀ (n : Nat) (y c x3 x4 x5 D : Int), y < n → -1 ≤ y → y < s.c → 0 ≤ c → c + (if y < 0 then 0 else s.d 9 y.toNat + 1) = D → D ≤ 400 → R32 (x5 + 1) → (x4 < D → AW g l (d + 1) MX12_covered 23 [some (vR 12 (some m)), some (vI (t : Int)), some (vI place), some (vI x5), some (vI D), some (vI (x5 + 1)), none, none] [] σ (fun v σ' => ∃ r, v = some (vI r) ∧ P r σ')) → (¬ x4 < D → AW g l (d + 1) MX12_covered 23 [some (vR 12 (some m)), some (vI (t : Int)), some (vI place), some (vI x3), some (vI x4), some (vI (x5 + 1)), none, none] [] σ (fun v σ' => ∃ r, v = some (vI r) ∧ P r σ')) → AW g l (d + 1) MX12_covered 77 [some (vR 12 (some m)), some (vI (t : Int)), some (vI place), some (vI x3), some (vI x4), some (vI x5), some (vI c), some (vI (oI t y))] [] σ (fun v σ' => ∃ r, v = some (vI r) ∧ P r σ') := by
    intro n
    induction n with
    | zero =>
      intro y c x3 x4 x5 D hy y1 yc c0 hD D4 r5 f1 f2
      unfold oI
      rw [if_pos (by omega)] at hD ⊢
      have e : c = D := by omega
      subst e
      exact bk_X12_covered_77 ⟨fun _ => ⟨fun w => ⟨r5, f1 w⟩, fun w => ⟨r5, f2 w⟩⟩, fun w => absurd (by decide) w⟩
    | succ n ih =>
      intro y c x3 x4 x5 D hy y1 yc c0 hD D4 r5 f1 f2
      by_cases q : y < 0
      · exact ih y c x3 x4 x5 D (by omega) y1 yc c0 hD D4 r5 f1 f2
      · rw [if_neg q] at hD
        have j := hJ y.toNat (by omega)
        have n0 := (h9 y.toNat (by omega)).1
        have n6 := (hN y.toNat (by omega)).2.2.2.2.2.1
        have e : oI t y = ((400 * t + y.toNat : Nat) : Int) := by unfold oI; rw [if_neg q]; omega
        rw [e]
        refine bk_X12_covered_77 ⟨fun w => absurd w (by omega), fun _ => ⟨⟨by omega, by omega⟩, hL, ⟨by omega, by omega⟩, ?_⟩⟩
        rw [Int.toNat_natCast, n6]
        refine ih _ (c + 1) x3 x4 x5 D (by have := j.1.2; omega) j.1.1 (by have := j.1.2; omega) (by omega) ?_ D4 r5 f1 f2
        rw [← j.2.1]; omega
  have loop : ∀ (n j : Nat) (bs : Int), j + n = s.c → (-1 ≤ bs ∧ bs < j) → P (cvL s place n j bs) σ → AW g l (d + 1) MX12_covered 23 [some (vR 12 (some m)), some (vI (t : Int)), some (vI place), some (vI (oI t bs)), some (vI (if bs = -1 then -1 else s.d 9 bs.toNat)), some (vI ((400 * t + j : Nat) : Int)), none, none] [] σ (fun v σ' => ∃ r, v = some (vI r) ∧ P r σ') := by
    intro n
    induction n with
    | zero =>
      intro j bs hj hb hp
      refine bk_X12_covered_23 ?_
      rw [Int.toNat_natCast, h66]
      refine ⟨⟨by omega, by omega⟩, hL, ⟨by omega, by omega⟩, ⟨by omega, by omega⟩, fun _ => ?_, fun w => absurd (by omega) w⟩
      have := m_outward (g := g) (l := l) (d := d) (t := (t : Int)) (y := bs) (P := fun r σ' => ∃ a, some (vI r) = some (vI a) ∧ P a σ') h80 ⟨by omega, by omega⟩ ⟨by omega, by omega⟩ ⟨bs, rfl, hp⟩
      rw [Int.toNat_natCast] at this
      exact this
    | succ n ih =>
      intro j bs hj hb hp
      have hjc : j < s.c := by omega
      obtain ⟨n1, n2, n3, _, _, n6, _⟩ := hN j hjc
      unfold cvL at hp
      have nj := h9 j hjc
      have jj := hJ j hjc
      refine bk_X12_covered_23 ?_
      rw [Int.toNat_natCast, h66, Int.toNat_natCast, n2, n3, n6, show ((400 * t + j : Nat) : Int) + 1 = ((400 * t + (j + 1) : Nat) : Int) by omega]
      have skip : ¬ (s.d 1 j ≤ place ∧ place < s.d 2 j) → AW g l (d + 1) MX12_covered 23 [some (vR 12 (some m)), some (vI (t : Int)), some (vI place), some (vI (oI t bs)), some (vI (if bs = -1 then -1 else s.d 9 bs.toNat)), some (vI ((400 * t + (j + 1) : Nat) : Int)), none, none] [] σ (fun v σ' => ∃ r, v = some (vI r) ∧ P r σ') := fun z => by
        rw [if_neg (fun q => z q.1)] at hp
        exact ih (j + 1) bs (by omega) (by omega) hp
      refine ⟨⟨by omega, by omega⟩, hL, ⟨by omega, by omega⟩, ⟨by omega, by omega⟩, fun w => absurd w (by omega), fun _ => ⟨⟨by omega, by omega⟩, fun w => ⟨⟨by omega, by omega⟩, skip (by omega)⟩, fun w => ⟨fun w2 => ?_, fun w2 => ⟨⟨by omega, by omega⟩, skip (by omega)⟩⟩⟩⟩
      refine inner s.c (s.d 5 j) 0 _ _ _ (s.d 9 j) (by have := jj.1.2; omega) jj.1.1 (by have := jj.1.2; omega) (by omega) (by rw [← jj.2.1]; omega) (by omega) ⟨by omega, by omega⟩ (fun y => ?_) (fun y => ?_)
      · have hc : (s.d 1 j ≤ place ∧ place < s.d 2 j) ∧ (bs = -1 ∨ s.d 9 bs.toNat < s.d 9 j) := by
          refine ⟨⟨by omega, w2⟩, ?_⟩
          by_cases q : bs = -1
          · exact Or.inl q
          · rw [if_neg q] at y; exact Or.inr y
        rw [if_pos hc] at hp
        have := ih (j + 1) (j : Int) (by omega) (by omega) hp
        rw [if_neg (show ¬ (j : Int) = -1 by omega), Int.toNat_natCast] at this
        unfold oI at this
        rw [if_neg (show ¬ (j : Int) < 0 by omega), show ((400 * t : Nat) : Int) + (j : Int) = ((400 * t + j : Nat) : Int) by omega] at this
        rw [show ((400 * t + j : Nat) : Int) + 1 = ((400 * t + (j + 1) : Nat) : Int) by omega]
        exact this
      · have hc : ¬ ((s.d 1 j ≤ place ∧ place < s.d 2 j) ∧ (bs = -1 ∨ s.d 9 bs.toNat < s.d 9 j)) := fun q => by
          rcases q.2 with q | q
          · rw [if_pos q] at y; omega
          · by_cases q2 : bs = -1
            · rw [if_pos q2] at y; omega
            · rw [if_neg q2] at y; omega
        rw [if_neg hc] at hp
        rw [show ((400 * t + j : Nat) : Int) + 1 = ((400 * t + (j + 1) : Nat) : Int) by omega]
        exact ih (j + 1) bs (by omega) (by omega) hp
  exact loop s.c 0 (-1) (by omega) (by omega) hP
theorem op_covered {t : Int} (hI : ImgI σ x m) (hb : gI σ 1218 m 0 = (b : Int)) (hT : TreI σ x m fo Ss b T I) : ACi g l (d + 2) MX11_covered [vR 11 (some x), vI t, vI place] σ (fun a σ1 => ACi g l (d + 2) MX12_covered [vR 12 (some m), vI t, vI place] σ1 (fun r σ2 => a = r ∧ Frm (fun f r => r = m ∧ LkF f r) σ σ2)) := by
  obtain ⟨i1, i2, i3, i4, _⟩ := id hI
  refine AC.of mo_X11_covered (Nat.le_of_ble_eq_true rfl) (bk_X11_covered_0 (x_treeOf i1 hT (fun q => ⟨fun _ => ⟨_, rfl, AC.of mo_X12_covered (Nat.le_of_ble_eq_true rfl) (bk_X12_covered_0 (m_isNode i2 hb hT (fun _ => ⟨fun z => absurd rfl z, fun _ => ⟨_, rfl, rfl, Frm.rfl⟩⟩) (fun t0 t1 => absurd ⟨t0, t1⟩ q)))⟩, (fun r w => nomatch w)⟩) (fun t0 t1 tr f1 o1 v1 => ⟨(fun w => nomatch w), fun r er => ?_⟩)))
  cases er
  obtain ⟨n, rfl⟩ : ∃ n : Nat, t = (n : Int) := ⟨t.toNat, by omega⟩
  rw [Int.toNat_natCast] at f1 v1
  have a2 := hT.1.2.1
  have c0 := v1.2.1.2.2.1
  have c4 := v1.2.1.2.2.2.1
  refine x_deepest o1.1 v1.2.1.2.2.2.2.1 c4 v1.2.2.1 (fun i hi => (v1.2.2.2.1 i hi).1) ⟨_, rfl, ?_⟩
  refine AC.of mo_X12_covered (Nat.le_of_ble_eq_true rfl) (bk_X12_covered_0 (m_isNode i2 hb hT (fun q => absurd ⟨⟨t0, t1⟩, by omega, by rw [Int.toNat_natCast]; omega⟩ q) (fun _ _ _ _ σ1 F1 h80 h81 h53 => ⟨fun _ => ⟨⟨by omega, by omega⟩, ?_⟩, fun z => absurd z (by decide)⟩)))
  have eI : ∀ f j, 1264 ≤ f → f ≤ 1279 → gI σ1 f m j = gI σ f m j := fun f j z0 z1 => F1.I (fun q => by omega) j
  exact m_deepest (F1.lc i2) h80 (by omega) c4 (by rw [eI _ _ (by decide) (by decide)]; exact v1.2.1.2.2.2.2.2) (fun i hi => (v1.2.2.2.2.1 i hi).ag (fun f j z0 z1 => eI f _ (by omega) (by omega))) v1.2.2.2.2.2.2.2.2.1 v1.2.2.2.2.2.1 ⟨rfl, F1⟩
end N3
