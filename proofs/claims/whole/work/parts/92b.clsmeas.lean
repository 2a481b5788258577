/-! the class measures a struct -/
theorem tw_r (t : Int64) : 0 ≤ tw t ∧ tw t ≤ 15 := by unfold tw; omega
theorem alone_le {e : Exr} {m : Int} (hw : WFx e) (hm : 0 ≤ m) : -1 ≤ alone e m ∧ alone e m ≤ m := by
  unfold alone
  split
  · rename_i x
    split
    · rename_i c
      have := (hw _ rfl).2.2 x (by simp) c.1
      omega
    · omega
  · omega
theorem szF_le {Ss : List Stc} {nE : Nat} {F : Fld} {b : Int} (hW : ∀ (s : Nat) (S : Stc), Ss[s]? = some S → -1 ≤ S.2.2 ∧ S.2.2 ≤ 1000000) (hF : WFf nE Ss F) : -1 ≤ szF Ss F b ∧ szF Ss F b ≤ 200000000 := by
  obtain ⟨h1, h2, h3, h4, h5⟩ := hF
  have z1 := szS_le (Ss := Ss) (s := F.st) hW
  have z2 := szS_le (Ss := Ss) (s := F.ot) hW
  have a1 := alone_le (m := 200) h2 (by decide)
  have a2 := alone_le (m := 2000) h2 (by decide)
  have t := tw_r F.ty
  have yb : -1 ≤ (if F.st = -1 then tw F.ty else szS Ss F.st) ∧ (if F.st = -1 then tw F.ty else szS Ss F.st) ≤ 1000000 := by split <;> omega
  unfold szF
  generalize (if F.st = -1 then tw F.ty else szS Ss F.st) = y at *
  split
  · omega
  split
  · omega
  split
  · split
    · omega
    · rename_i c
      have e0 : ¬ alone F.e1 200 = -1 := fun z => c (Or.inl z)
      have e1 : ¬ y = -1 := fun z => c (Or.inr z)
      have b1 : alone F.e1 200 * y ≤ 200 * 1000000 := Int.mul_le_mul a1.2 yb.2 (by omega) (by decide)
      have b0 : 0 ≤ alone F.e1 200 * y := Int.mul_nonneg (by omega) (by omega)
      omega
  split
  · omega
  split
  · split <;> omega
  split
  · rename_i k8
    split
    · omega
    · have p : F.nu.toInt ≤ 64 := by
        rcases h5 with q | q | q | q | q | q | q | q | q | q
        · omega
        · omega
        · omega
        · omega
        · omega
        · omega
        · omega
        · exact q.2.2.2.2.2
        · omega
        · omega
      have := Int.emod_nonneg (-b) (show F.nu.toInt ≠ 0 by omega)
      have := Int.emod_lt_of_pos (-b) (show 0 < F.nu.toInt by omega)
      omega
  split
  · omega
  · omega
section X25
variable {g : GP} {l : Launch} {d : Nat} {σ : St} {dd c r : Nat} {so : Nat → Nat} {fo : Nat → Nat → Nat} {En : List Enm} {Ss : List Stc} {F : Fld}
theorem i2j_s {k : Int} (h0 : -2147483648 ≤ k) (h1 : k < 2147483648) : (i2j k).toInt = k := by rw [i2j_toInt, w32_id h0 h1]
theorem x_fieldSize {x : Int64} {P : Int64 → St → Prop} (hL1 : LC 1 σ dd) (hS : DSh σ dd so fo) (hD : DCo σ dd c so fo En Ss) (h110 : gR σ 110 dd 0 = some c) (hL : LC 0 σ c) (h3 : gI σ 2 c 0 ≤ 3002) (h9 : gI σ 109 dd 0 ≤ 3000) (hW : ∀ (s : Nat) (S : Stc), Ss[s]? = some S → -1 ≤ S.2.2 ∧ S.2.2 ≤ 1000000) (hF : FC σ dd c r F) (hw : WFf En.length Ss F) (hx : 0 ≤ x.toInt) (hx2 : x.toInt ≤ 1000000000000)
    (h : ∀ v : Int64, v.toInt = szF Ss F x.toInt → P v σ) : ACj g l (d + 3) MX1_fieldSize [vR 1 (some dd), vR 2 (some r), vJ x] σ P := by
  have z1 := szS_le (Ss := Ss) (s := F.st) hW
  have z2 := szS_le (Ss := Ss) (s := F.ot) hW
  have t := tw_r F.ty
  have ec : (gI σ 208 r 0 = -1) ↔ F.ec = none := by
    have := hF.ec
    cases e : F.ec with
    | none => rw [e] at this; exact ⟨fun _ => rfl, fun _ => this⟩
    | some N =>
      rw [e] at this
      obtain ⟨b, b1, _⟩ := this
      exact ⟨fun q => by omega, fun q => absurd q (by simp)⟩
  refine AC.of mo_X1_fieldSize (Nat.le_of_ble_eq_true rfl) (bk_X1_fieldSize_0 ⟨r, rfl, fun q => ?_, fun q => ⟨_, rfl, h (-1) ?_⟩⟩)
  · have en := ec.mp q
    rw [hF.ki, hF.st, hF.xtw]
    have e0 : ∀ b, szF Ss F b = if F.ki = 0 then szS Ss F.st
      else if F.ki = 2 then (if alone F.e1 200 = -1 ∨ (if F.st = -1 then tw F.ty else szS Ss F.st) = -1 then -1 else alone F.e1 200 * (if F.st = -1 then tw F.ty else szS Ss F.st))
      else if F.ki = 5 then alone F.e1 2000
      else if F.ki = 6 then (if F.es.all (fun e => szS Ss e.2.2 == szS Ss F.ot) = true then szS Ss F.ot else -1)
      else if F.ki = 8 then (if F.nu.toInt < 1 then 0 else (-b) % F.nu.toInt)
      else if F.ki = 9 then (F.es.length : Int)
      else tw F.ty := fun b => by unfold szF; rw [if_neg (fun z => z en)]
    have wid : ¬ F.ki = 0 → ¬ F.ki = 2 → ¬ F.ki = 5 → ¬ F.ki = 6 → ¬ F.ki = 8 → ¬ F.ki = 9 → ∃ r, some (vJ (i2j (tw F.ty))) = some (vJ r) ∧ P r σ := fun k0 k2 k5 k6 k8 k9 => ⟨_, rfl, h _ (by rw [i2j_s (by omega) (by omega), e0, if_neg k0, if_neg k2, if_neg k5, if_neg k6, if_neg k8, if_neg k9])⟩
    refine ⟨fun k => x_sizeOf hL1 hS hD ⟨_, rfl, h _ ?_⟩, fun k => wid (by omega) (by omega) (by omega) (by omega) (by omega) (by omega), fun k => x_arraySize hL1 hS hD h110 hL h3 hW hF hw.2.1 t (fun v hv => ⟨_, rfl, h v ?_⟩), fun k => wid (by omega) (by omega) (by omega) (by omega) (by omega) (by omega), fun k => wid (by omega) (by omega) (by omega) (by omega) (by omega) (by omega), fun k => ⟨c, h110, x_alone hL h3 (by decide) hF.e1 hw.2.1 (fun v hv => ⟨_, rfl, h v ?_⟩)⟩, fun k => x_unionSize hL1 hS hD h9 hF ⟨_, rfl, h _ ?_⟩, fun k => wid (by omega) (by omega) (by omega) (by omega) (by omega) (by omega), fun k => x_padding hF ?_ hx hx2 (fun v hv => ⟨_, rfl, h v ?_⟩), fun k => ⟨_, rfl, h _ ?_⟩, fun k => wid (by omega) (by omega) (by omega) (by omega) (by omega) (by omega)⟩
    · rw [i2j_s (by omega) (by omega), e0, if_pos k]
    · rw [e0, if_neg (by omega), if_pos k]; exact hv
    · rw [e0, if_neg (by omega), if_neg (by omega), if_pos k]; exact hv
    · have e6 := e0 x.toInt
      rw [if_neg (by omega), if_neg (by omega), if_neg (by omega), if_pos k] at e6
      rw [e6, i2j_s (by split <;> omega) (by split <;> omega)]
    · rcases hw.2.2.2.2 with q | q | q | q | q | q | q | q | q | q
      · omega
      · omega
      · omega
      · omega
      · omega
      · omega
      · omega
      · exact q.2.2.2.2.2
      · omega
      · omega
    · rw [e0, if_neg (by omega), if_neg (by omega), if_neg (by omega), if_neg (by omega), if_pos k]; exact hv
    · obtain ⟨_, _, q, _⟩ := hF.es
      have := hw.2.2.2.1
      rw [q, i2j_s (by omega) (by omega), e0, if_neg (by omega), if_neg (by omega), if_neg (by omega), if_neg (by omega), if_neg (by omega), if_pos k]
  · unfold szF
    rw [if_pos (fun z => q (ec.mpr z))]; decide
theorem x_measure {Fs : List Fld} {s : Nat} {P : Int → St → Prop} (hL1 : LC 1 σ dd) (hS : DSh σ dd so fo) (hD : DCo σ dd c so fo En Ss) (h110 : gR σ 110 dd 0 = some c) (hL : LC 0 σ c) (h3 : gI σ 2 c 0 ≤ 3002) (h9 : gI σ 109 dd 0 ≤ 3000) (hW : ∀ (s : Nat) (S : Stc), Ss[s]? = some S → -1 ≤ S.2.2 ∧ S.2.2 ≤ 1000000) (hs : s < 20) (hn : gI σ 802 (so s) 0 = (Fs.length : Int)) (h14 : Fs.length ≤ 14) (hF : ∀ k F, Fs[k]? = some F → FC σ dd c (fo s k) F) (hw : ∀ F ∈ Fs, WFf En.length Ss F)
    (h : P (szA Ss Fs 0) σ) : ACi g l (d + 4) MX1_measure [vR 1 (some dd), vR 8 (some (so s))] σ P := by
  have m1 : (1000000 : Int64).toInt = 1000000 := rfl
  have zz : (0 : Int64).toInt = 0 := rfl
  have loop : ∀ (L : List Fld) (j : Nat) (x : Int64), (∀ k F, L[k]? = some F → FC σ dd c (fo s (j + k)) F) → (∀ F ∈ L, WFf En.length Ss F) → j + L.length = Fs.length → 0 ≤ x.toInt → x.toInt ≤ 200000000 * j → P (szA Ss L x.toInt) σ → AW g l (d + 4) MX1_measure 5 [some (vR 1 (some dd)), some (vR 8 (some (so s))), some (vJ x), none, some (vI (j : Int)), none, none] [] σ (fun v σ' => ∃ r, v = some (vI r) ∧ P r σ') := by
    intro L
    induction L with
    | nil =>
      intro j x _ _ hj x0 x1 hP
      have hj : j + 0 = Fs.length := hj
      unfold szA at hP
      refine bk_X1_measure_5 ⟨so s, rfl, fun _ => ?_, fun q => absurd (by omega) q⟩
      rw [m1]
      refine ⟨fun q => ⟨_, rfl, ?_⟩, fun q => ⟨_, rfl, ?_⟩⟩
      · rw [if_neg (by omega)] at hP
        rw [j2i_eq, w32_id (by omega) (by omega)]; exact hP
      · rw [if_pos (by omega)] at hP; exact hP
    | cons F L ih =>
      intro j x hn' hw' hj x0 x1 hP
      have hj : j + (L.length + 1) = Fs.length := hj
      obtain ⟨b1, b2, b3⟩ := hS.1 s hs
      obtain ⟨c1, _⟩ := b3 j (by omega)
      have f0 := hn' 0 F rfl
      rw [Nat.add_zero] at f0
      have wf := hw' F List.mem_cons_self
      have sz := szF_le (b := x.toInt) hW wf
      rw [szA] at hP
      refine bk_X1_measure_5 ⟨so s, rfl, fun q => absurd q (by omega), fun _ => ⟨b2, ⟨by omega, by omega⟩, ?_⟩⟩
      rw [show ((j : Int)).toNat = j by omega, c1]
      refine x_fieldSize hL1 hS hD h110 hL h3 h9 hW f0 wf x0 (by omega) (fun v hv => ?_)
      rw [zz]
      refine ⟨fun q => ⟨⟨by omega, by omega⟩, ?_⟩, fun q => ⟨_, rfl, ?_⟩⟩
      · rw [if_neg (by omega)] at hP
        have ea : (x + v).toInt = x.toInt + szF Ss F x.toInt := by rw [Int64.toInt_add, bmod64, hv]; omega
        rw [← ea] at hP
        exact ih (j + 1) (x + v) (fun k G hG => by rw [show j + 1 + k = j + (k + 1) by omega]; exact hn' (k + 1) G hG) (fun G hG => hw' G (List.mem_cons_of_mem _ hG)) (by omega) (by omega) (by omega) hP
      · rw [if_pos (by omega)] at hP; exact hP
  exact AC.of mo_X1_measure (Nat.le_of_ble_eq_true rfl) (bk_X1_measure_0 (loop Fs 0 0 (fun k F hk => by rw [Nat.zero_add]; exact hF k F hk) hw (by omega) (by decide) (by decide) h))
end X25
