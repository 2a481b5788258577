/-! the reference's numerals -/
section M11
variable {g : GP} {l : Launch} {d : Nat} {σ : St} {m : Nat}
theorem m_numeral {q e n : Int} {T : Int → Int} {P : Int → St → Prop} (hL : LC 12 σ m) (hq : gI σ 1214 m 0 = q) (he : gI σ 1215 m 0 = e) (hN : gI σ 1211 m 0 = n) (hT : ∀ i : Int, gI σ 1210 m i.toNat = T i) (hn : n ≤ 3000) (h0 : 0 ≤ q) (h1 : q < e) (h2 : e ≤ n)
    (hal : ∀ i : Int, q ≤ i → i < e → (97 ≤ T i ∧ T i ≤ 122) ∨ (48 ≤ T i ∧ T i ≤ 57))
    (h : ∀ σ' b, Frm (fun f r => r = m ∧ f = 1217) σ σ' → (b = if numV T q e = -1 then 0 else 1) → (¬ numV T q e = -1 → gJ σ' 1217 m 0 = numV T q e) → P b σ') : ACi g l (d + 1) MX12_numeral [vR 12 (some m)] σ P := by
  have loop : ∀ (y b s0 N : Int) (B : Int64), (y = 0 ∧ b = 10 ∧ B = 10 ∨ ¬ y = 0 ∧ b = 16 ∧ B = 16) → N = e - s0 → q ≤ s0 → s0 ≤ e → (N ≤ 0 → numV T q e = -1) → (0 < N → N ≤ (if y = 0 then 9 else 8) → numV T q e = nvF T b N.toNat s0 0) → ((if y = 0 then 9 else 8) < N → numV T q e = -1) →
      ∀ (j : Nat) (i : Int) (τ : St), i = e - j → s0 ≤ i → Frm (fun f r => r = m ∧ f = 1217) σ τ → (∀ z : Int, s0 ≤ z → z < i → dg (T z) < b) → nvF T b N.toNat s0 0 = nvF T b j i (gJ τ 1217 m 0) →
      AW g l (d + 1) MX12_numeral 81 [some (vR 12 (some m)), some (vI y), none, some (vI N), some (vI i), none] [] τ (fun v σ' => ∃ r, v = some (vI r) ∧ P r σ') := by
    intro y b s0 N B hy hNN hs0 hs1 H1 H2 H3 j
    have hbb : b = 10 ∨ b = 16 := by omega
    have hB : B = i2j b := by rcases hy with ⟨-, rfl, rfl⟩ | ⟨-, rfl, rfl⟩ <;> decide
    have dg0 : ∀ z : Int, s0 ≤ z → z < e → 0 ≤ dg (T z) := fun z z0 z1 => by
      have := hal z (by omega) z1
      unfold dg
      split <;> omega
    induction j with
    | zero =>
      intro i τ hi hi0 hF hd hv
      have t5 : gI τ 1215 m 0 = e := by rw [hF.I (by simp)]; exact he
      have good : 0 < N → N ≤ (if y = 0 then 9 else 8) → ∃ r, some (vI 1) = some (vI r) ∧ P r τ := fun z1 z2 => by
        have hV := H2 z1 z2
        have ok := nv_ok (T := T) hbb N.toNat s0 0 0 (by have : (if y = 0 then (9 : Int) else 8) ≤ 9 := by split <;> omega
                                                         omega) (by decide) (by decide) (fun z y0 y1 => ⟨dg0 z y0 (by omega), hd z y0 (by omega)⟩)
        have hne : ¬ numV T q e = -1 := fun c => by
          rw [← hV, c] at ok
          exact absurd ok (by decide)
        refine ⟨_, rfl, h τ 1 hF (by rw [if_neg hne]) (fun _ => ?_)⟩
        rw [hV, hv]; rfl
      have bad : numV T q e = -1 → ∃ r, some (vI 0) = some (vI r) ∧ P r τ := fun z => ⟨_, rfl, h τ 0 hF (by rw [if_pos z]) (fun c => absurd z c)⟩
      refine bk_X12_numeral_81 ⟨fun _ => ⟨fun z => bad (H1 z), fun z => ⟨fun zy => ⟨fun z2 => bad (H3 (by rw [if_pos zy]; exact z2)), fun z2 => good (by omega) (by rw [if_pos zy]; omega)⟩, fun zy => ⟨fun z2 => bad (H3 (by rw [if_neg zy]; exact z2)), fun z2 => good (by omega) (by rw [if_neg zy]; omega)⟩⟩⟩, fun z => absurd (by omega) z⟩
    | succ j ih =>
      intro i τ hi hi0 hF hd hv
      have t5 : gI τ 1215 m 0 = e := by rw [hF.I (by simp)]; exact he
      have eT : gI τ 1210 m i.toNat = T i := by rw [hF.I (by simp)]; exact hT i
      have ai := hal i (by omega) (by omega)
      have bad : ¬ dg (T i) < b → ∃ r, some (vI 0) = some (vI r) ∧ P r τ := fun z => by
        have hV : numV T q e = -1 := by
          by_cases c : (if y = 0 then 9 else 8) < N
          · exact H3 c
          · rw [H2 (by omega) (by omega)]
            exact nv_bad N.toNat s0 0 i hi0 (by omega) z
        exact ⟨_, rfl, h τ 0 hF (by rw [if_pos hV]) (fun c => absurd hV c)⟩
      have stp : dg (T i) < b → ∀ B', B' = B → AW g l (d + 1) MX12_numeral 146 [some (vR 12 (some m)), some (vI y), none, some (vI N), some (vI i), some (vI (T i))] [vJ B', vJ (gJ τ 1217 m 0), vR 12 (some m)] τ (fun v σ' => ∃ r, v = some (vI r) ∧ P r σ') := by
        intro hdb B' hB'
        have fin : ∀ c : Int, c = dg (T i) → AW g l (d + 1) MX12_numeral 81 [some (vR 12 (some m)), some (vI y), none, some (vI N), some (vI (i + 1)), none] [] (sJ τ 1217 m 0 (gJ τ 1217 m 0 * B' + i2j c)) (fun v σ' => ∃ r, v = some (vI r) ∧ P r σ') := by
          intro c hc
          refine ih _ _ (by omega) (by omega) (hF.trans (Frm.sJ (by simp))) (fun z z0 z1 => ?_) ?_
          · by_cases w : z = i
            · rw [w]; exact hdb
            · exact hd z z0 (by omega)
          · rw [hv, nvF, if_pos hdb, gJ_slf, hB', hB, hc]
        refine bk_X12_numeral_146 (m_digit ?_)
        by_cases z : 48 ≤ T i ∧ T i ≤ 57
        · rw [if_pos z]
          exact ⟨fun w => absurd w (by decide), fun _ => ⟨⟨by omega, by omega⟩, m, rfl, ⟨by omega, by omega⟩, fin _ (by unfold dg; rw [if_pos z])⟩⟩
        · rw [if_neg z]
          exact ⟨fun _ => ⟨⟨by omega, by omega⟩, ⟨by omega, by omega⟩, m, rfl, ⟨by omega, by omega⟩, fin _ (by unfold dg; rw [if_neg z]; omega)⟩, fun w => absurd rfl w⟩
      refine bk_X12_numeral_81 ⟨fun z => absurd z (by omega), fun _ => ⟨hF.lc hL, ⟨by omega, by omega⟩, m_digit ?_⟩⟩
      rw [eT]
      have dgE : dg (T i) = if 48 ≤ T i ∧ T i ≤ 57 then T i - 48 else T i - 87 := rfl
      by_cases z : 48 ≤ T i ∧ T i ≤ 57
      · rw [if_pos z] at dgE ⊢
        refine ⟨fun _ => ⟨fun zy => stp (by omega) 10 ?_, fun zy => stp (by omega) 16 ?_⟩, fun w => absurd w (by decide)⟩
        · rcases hy with w | w
          · exact w.2.2.symm
          · exact absurd zy w.1
        · rcases hy with w | w
          · exact absurd w.1 zy
          · exact w.2.2.symm
      · rw [if_neg z] at dgE ⊢
        refine ⟨fun w => absurd rfl w, fun _ => ⟨fun zy => bad (by omega), fun zy => ⟨fun w => absurd ai (by omega), fun w => ⟨fun w2 => stp (by omega) 16 ?_, fun w2 => bad (by omega)⟩⟩⟩⟩
        rcases hy with w | w
        · exact absurd w.1 zy
        · exact w.2.2.symm
  have f0 : Frm (fun f r => r = m ∧ f = 1217) σ (sJ σ 1217 m 0 0) := Frm.sJ (by simp)
  have dec : (¬ (T q = 48 ∧ T (q + 1) = 120 ∧ q + 1 < e)) → AW g l (d + 1) MX12_numeral 47 [some (vR 12 (some m)), none, none, none, none, none] [vI 0] σ (fun v σ' => ∃ r, v = some (vI r) ∧ P r σ') := by
    intro hn
    have nV : numV T q e = (if e - q ≤ 9 then nvF T 10 (e - q).toNat q 0 else -1) := by unfold numV; rw [if_neg (by omega)]
    refine bk_X12_numeral_47 ⟨fun _ => ⟨⟨by omega, by omega⟩, fun z3 hz => ?_⟩, fun z => absurd rfl z⟩
    rw [he, hq] at hz
    rw [hq]
    exact loop 0 10 q z3 10 (Or.inl ⟨rfl, rfl, rfl⟩) hz (by omega) (by omega) (fun z => absurd z (by omega)) (fun _ z => by rw [if_pos rfl] at z; rw [nV, if_pos (by omega), hz]) (fun z => by rw [if_pos rfl] at z; rw [nV, if_neg (by omega)]) z3.toNat q _ (by omega) (by omega) f0 (fun z z0 z1 => absurd z1 (by omega)) (by rw [gJ_slf])
  have hex : (T q = 48 ∧ T (q + 1) = 120 ∧ q + 1 < e) → AW g l (d + 1) MX12_numeral 47 [some (vR 12 (some m)), none, none, none, none, none] [vI 1] σ (fun v σ' => ∃ r, v = some (vI r) ∧ P r σ') := by
    intro hx
    have nV : 2 < e - q → numV T q e = (if e - (q + 2) ≤ 8 then nvF T 16 (e - (q + 2)).toNat (q + 2) 0 else -1) := fun z => by unfold numV; rw [if_pos ⟨z, hx.1, hx.2.1⟩]
    have n2 : e - q = 2 → numV T q e = -1 := fun z => by
      unfold numV
      rw [if_neg (by omega), if_pos (by omega)]
      refine nv_bad _ q 0 (q + 1) (by omega) (by omega) ?_
      unfold dg
      rw [hx.2.1]
      decide
    refine bk_X12_numeral_47 ⟨fun z => absurd z (by decide), fun _ => ⟨⟨by omega, by omega⟩, ⟨by omega, by omega⟩, fun z6 hz => ?_⟩⟩
    rw [he, hq] at hz
    rw [hq]
    exact loop 1 16 (q + 2) z6 16 (Or.inr ⟨by decide, rfl, rfl⟩) hz (by omega) (by omega) (fun z => n2 (by omega)) (fun z0 z => by rw [if_neg (by decide)] at z; rw [nV (by omega), if_pos (by omega), hz]) (fun z => by rw [if_neg (by decide)] at z; rw [nV (by omega), if_neg (by omega)]) z6.toNat (q + 2) _ (by omega) (by omega) f0 (fun z z0 z1 => absurd z1 (by omega)) (by rw [gJ_slf])
  refine AC.of mo_X12_numeral (Nat.le_of_ble_eq_true rfl) (bk_X12_numeral_0 ?_)
  rw [hq, hT]
  refine ⟨hL, ⟨by omega, by omega⟩, fun z => dec (by omega), fun z => ⟨⟨by omega, by omega⟩, m_tapeAt hL (by omega) (by omega) ?_⟩⟩
  rw [hN, hT, hq, he]
  refine ⟨fun z2 => dec (fun w => z2 (by rw [if_pos (by omega)]; exact w.2.1)), fun z2 => ⟨⟨by omega, by omega⟩, fun z3 => dec (by omega), fun z3 => hex ⟨z, by rw [if_pos (by omega)] at z2; exact z2, by omega⟩⟩⟩
end M11
