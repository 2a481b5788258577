/-! kid, faults -/
def kdN (s : TS) (i : Nat) (q : Int) : Int := if q < 0 then -1 else match (s.k i)[q.toNat]? with
  | none => -1
  | some a => (a : Int)
def cntF (s : TS) : Nat → Int
  | 0 => 0
  | n + 1 => cntF s n + (if s.d 3 n = 0 then 0 else 1)
def fsU (s : TS) : Nat → Nat → Int
  | 0, _ => -1
  | n + 1, j => if s.d 3 j = 0 then fsU s n (j + 1) else (j : Int)
theorem cntF_le {s : TS} : ∀ n : Nat, 0 ≤ cntF s n ∧ cntF s n ≤ n
  | 0 => ⟨Int.le_refl _, Int.le_refl _⟩
  | n + 1 => by
    have := cntF_le (s := s) n
    rw [cntF]
    by_cases q : s.d 3 n = 0
    · rw [if_pos q]; omega
    · rw [if_neg q]; omega
section S7
variable {g : GP} {l : Launch} {d e : Nat} {σ σ' σ2 : St} {x m p b n i t : Nat} {A B : DPa} {En : List Enm} {Ss : List Stc} {T : Nat → TS} {I : Nat → Int} {tt k w : Int} {fo : Nat → Nat → Nat} {s : TS}
theorem m_kidOf {q : Int64} {P : Int → St → Prop} (hL : LC 12 σ m) (hN : NdR σ m t b s i) (ht : t < 7) (hi : i < 400) (hc : s.c ≤ 400) (hk : ∀ a ∈ s.k i, a < s.c) (hl : (s.k i).length ≤ 400) (hP : P (oI t (kdN s i q.toInt)) σ) : ACi g l d MX12_kidOf [vR 12 (some m), vI ((400 * t + i : Nat) : Int), vJ q] σ P := by
  obtain ⟨y11, y12, y13⟩ := hN.x
  have n10 := hN.2.2.2.2.2.2.2.2.2.1
  have z0 : (0 : Int64).toInt = 0 := by decide
  unfold kdN at hP
  have loop : ∀ (n j : Nat), (j : Int) + n = q.toInt → j + n < (s.k i).length → P (oX t (s.k i)[j + n]?) σ → AW g l d MX12_kidOf 31 [some (vR 12 (some m)), none, some (vJ q), none, some (vI (oX t (s.k i)[j]?)), some (vI (j : Int))] [] σ (fun v σ' => ∃ r, v = some (vI r) ∧ P r σ') := by
    intro n
    induction n with
    | zero =>
      intro j hj hl2 hp
      refine bk_X12_kidOf_31 ?_
      rw [i2j_toInt, w32_id (by omega) (by omega)]
      exact ⟨fun _ => ⟨_, rfl, hp⟩, fun z => absurd (by omega) z⟩
    | succ n ih =>
      intro j hj hl2 hp
      have hg : (s.k i)[j]? = some (s.k i)[j] := List.getElem?_eq_getElem (by omega)
      have am := hk _ (List.getElem_mem (show j < (s.k i).length by omega))
      refine bk_X12_kidOf_31 ?_
      rw [i2j_toInt, w32_id (by omega) (by omega), hg]
      refine ⟨fun z => absurd z (by omega), fun _ => ⟨hL, ?_⟩⟩
      show Bd ((400 * t + (s.k i)[j] : Nat) : Int) 2800 ∧ R32 ((j : Int) + 1) ∧ AW g l d MX12_kidOf 31 [some (vR 12 (some m)), none, some (vJ q), none, some (vI (gI σ 1278 m ((400 * t + (s.k i)[j] : Nat) : Int).toNat)), some (vI ((j : Int) + 1))] [] σ _
      rw [Int.toNat_natCast, y13 j _ hg, show (j : Int) + 1 = ((j + 1 : Nat) : Int) by omega]
      exact ⟨⟨by omega, by omega⟩, ⟨by omega, by omega⟩, ih (j + 1) (by omega) (by omega) (by rw [show j + 1 + n = j + (n + 1) by omega]; exact hp)⟩
  refine AC.of mo_X12_kidOf (Nat.le_of_ble_eq_true rfl) (bk_X12_kidOf_0 ?_)
  rw [z0]
  refine ⟨fun z => ⟨_, rfl, by rw [if_pos z] at hP; exact hP⟩, fun z => ⟨hL, ⟨by omega, by omega⟩, ?_⟩⟩
  rw [if_neg z] at hP
  rw [Int.toNat_natCast, n10, y11, i2j_toInt, w32_id (by omega) (by omega)]
  refine ⟨fun z2 => ?_, fun z2 => ⟨_, rfl, by rw [List.getElem?_eq_none (by omega)] at hP; exact hP⟩⟩
  have hg : (s.k i)[q.toInt.toNat]? = some (s.k i)[q.toInt.toNat] := List.getElem?_eq_getElem (by omega)
  refine loop q.toInt.toNat 0 (by omega) (by omega) ?_
  rw [Nat.zero_add, hg]
  rw [hg] at hP
  have e : oI t ((s.k i)[q.toInt.toNat] : Nat) = oX t (some (s.k i)[q.toInt.toNat]) := by unfold oI oX; rw [if_neg (by omega)]; show _ = ((400 * t + (s.k i)[q.toInt.toNat] : Nat) : Int); omega
  rw [← e]; exact hP
theorem op_kid (hI : ImgI σ x m) (hb : gI σ 1218 m 0 = (b : Int)) (hT : TreI σ x m fo Ss b T I) (hw : -2147483648 ≤ w ∧ w < 2147483648) : ACi g l (d + 2) MX11_kid [vR 11 (some x), vI tt, vI k, vI w] σ (fun a σ1 => ACi g l (d + 2) MX12_kid [vR 12 (some m), vI tt, vI k, vI w] σ1 (fun r σ2 => a = r ∧ Frm (fun f r => r = m ∧ LkF f r) σ σ2)) := by
  obtain ⟨i1, i2, i3, i4, _⟩ := id hI
  refine AC.of mo_X11_kid (Nat.le_of_ble_eq_true rfl) (bk_X11_kid_0 (x_nodeOf i1 hT (fun q => ⟨fun _ => ⟨_, rfl, AC.of mo_X12_kid (Nat.le_of_ble_eq_true rfl) (bk_X12_kid_0 (m_isNode i2 hb hT (fun _ => ⟨fun _ => ⟨_, rfl, rfl, Frm.rfl⟩, fun z => absurd rfl z⟩) (fun t0 t1 k0 k1 => absurd ⟨⟨t0, t1⟩, k0, k1⟩ q)))⟩, (fun r w => nomatch w)⟩) (fun t0 t1 k0 k1 tr f1 o1 v1 => ⟨(fun w => nomatch w), fun r er => ?_⟩)))
  cases er
  have a2 := hT.1.2.1
  have kc : k.toNat < (T tt.toNat).c := by omega
  have c4 := v1.2.1.2.2.2.1
  have ti := v1.2.2.2.2.2.2.1.1
  have kk := (ti.2 k.toNat kc).2.1
  have kl := inc_len _ _ kk.1 (fun y hy => (kk.2.1 y hy).1)
  have iw : (i2j w).toInt = w := by rw [i2j_toInt, w32_id (by omega) (by omega)]
  have kb : -1 ≤ kdN (T tt.toNat) k.toNat w ∧ kdN (T tt.toNat) k.toNat w ≤ 400 := by
    unfold kdN
    by_cases q : w < 0
    · rw [if_pos q]; omega
    · rw [if_neg q]
      cases hg : ((T tt.toNat).k k.toNat)[w.toNat]? with
      | none => show (-1 : Int) ≤ -1 ∧ (-1 : Int) ≤ 400; omega
      | some a => have := (kk.2.1 a (List.mem_of_getElem? hg)).1; show -1 ≤ (a : Int) ∧ (a : Int) ≤ 400; omega
  have ref : ∀ a : Int, kdN (T tt.toNat) k.toNat w = a → ACi g l (d + 2) MX12_kid [vR 12 (some m), vI tt, vI k, vI w] σ (fun r σ2 => a = r ∧ Frm (fun f r => r = m ∧ LkF f r) σ σ2) := fun a ha => by
    refine AC.of mo_X12_kid (Nat.le_of_ble_eq_true rfl) (bk_X12_kid_0 (m_isNode i2 hb hT (fun q => absurd ⟨⟨t0, t1⟩, k0, k1⟩ q) (fun _ _ _ _ σ1 F1 h80 h81 h53 => ⟨fun z => absurd z (by decide), fun _ => ⟨⟨by omega, by omega⟩, ⟨by omega, by omega⟩, ?_⟩⟩)))
    rw [show 400 * tt + k = ((400 * tt.toNat + k.toNat : Nat) : Int) by omega]
    refine m_kidOf (F1.lc i2) ((v1.2.2.2.2.1 k.toNat kc).ag (fun f j z0 z1 => F1.I (fun q => by omega) j)) (by omega) (by omega) c4 (fun y hy => (kk.2.1 y hy).1) (by omega) ?_
    rw [iw]
    exact m_outward h80 ⟨by omega, by omega⟩ kb ⟨_, rfl, ha.symm, F1⟩
  refine x_kidAt (v1.2.2.2.1 k.toNat kc).1 (by omega) hw.2 ?_
  unfold kdN at ref
  by_cases q : w < 0
  · rw [if_neg (by omega)]
    rw [if_pos q] at ref
    exact ⟨fun _ => ⟨_, rfl, ref _ rfl⟩, (fun r z => nomatch z)⟩
  · rw [if_pos (by omega)]
    rw [if_neg q] at ref
    cases hg : ((T tt.toNat).k k.toNat)[w.toNat]? with
    | none =>
      rw [hg] at ref
      exact ⟨fun _ => ⟨_, rfl, ref _ rfl⟩, (fun r z => nomatch z)⟩
    | some a =>
      rw [hg] at ref
      refine ⟨(fun z => nomatch z), fun r7 er7 => ⟨_, rfl, ref _ ?_⟩⟩
      obtain rfl : noO σ tr a = r7 := by simpa using er7
      have ac := (kk.2.1 a (List.mem_of_getElem? hg)).1
      rw [(o1.2.2 a _ (by omega) (v1.2.2.1 a ac)).2]
theorem op_faults (hI : ImgI σ x m) (hT : TreI σ x m fo Ss b T I) : ACi g l (d + 1) MX11_faults [vR 11 (some x), vI tt, vI w] σ (fun a σ1 => ACi g l (d + 1) MX12_faults [vR 12 (some m), vI tt, vI w] σ1 (fun r σ2 => a = r ∧ σ2 = σ)) := by
  obtain ⟨i1, i2, i3, i4, _⟩ := id hI
  obtain ⟨z1, z2, z3⟩ := hT.1
  refine AC.of mo_X11_faults (Nat.le_of_ble_eq_true rfl) (bk_X11_faults_0 (x_treeOf i1 hT (fun q => ⟨fun _ => ⟨_, rfl, AC.of mo_X12_faults (Nat.le_of_ble_eq_true rfl) (bk_X12_faults_0 ⟨fun u => ⟨_, rfl, rfl, rfl⟩, fun u => ⟨fun u2 => ⟨_, rfl, rfl, rfl⟩, fun u2 => absurd ⟨by omega, by omega⟩ q⟩⟩)⟩, (fun r u => nomatch u)⟩) (fun t0 t1 tr f1 o1 v1 => ⟨(fun u => nomatch u), fun r er => ?_⟩)))
  cases er
  have c4 := v1.2.1.2.2.2.1
  have c5 := v1.2.1.2.2.2.2.1
  have c6 := v1.2.1.2.2.2.2.2
  generalize hs' : T tt.toNat = s at *
  -- the reference
  have refl' : ∀ (j : Nat) (a : Int), j ≤ s.c → (w = 0 ∨ w = 1) → ∀ x3 : Int, 0 ≤ x3 → x3 ≤ 400 → x3 + cntF s j = cntF s s.c → ((w = 0 → cntF s s.c = a) ∧ (¬ w = 0 → fsU s s.c 0 = a)) → AW g l (d + 1) MX12_faults 50 [some (vR 12 (some m)), some (vI tt), some (vI w), some (vI x3), some (vI (fsU s (s.c - j) j)), some (vI ((j : Int) - 1))] [] σ (fun v σ2 => ∃ r, v = some (vI r) ∧ (a = r ∧ σ2 = σ)) := by
    intro j
    induction j with
    | zero =>
      intro a hj hw x3 x30 x31 hx ha
      have hx : x3 + 0 = cntF s s.c := hx
      exact bk_X12_faults_50 ⟨fun _ => ⟨fun u => ⟨_, rfl, (ha.2 u).symm, rfl⟩, fun u => ⟨_, rfl, by rw [← ha.1 u]; omega, rfl⟩⟩, fun u => absurd (by omega) u⟩
    | succ j ih =>
      intro a hj hw x3 x30 x31 hx ha
      rw [cntF] at hx
      have r4 := (v1.2.2.2.2.1 j (by omega)).2.2.2.1
      have cj := cntF_le (s := s) j
      have cc := cntF_le (s := s) s.c
      have ef : fsU s (s.c - j) j = if s.d 3 j = 0 then fsU s (s.c - (j + 1)) (j + 1) else (j : Int) := by
        rw [show s.c - j = (s.c - (j + 1)) + 1 by omega, fsU]
      refine bk_X12_faults_50 ⟨fun u => by omega, fun _ => ⟨i2, ⟨by omega, by omega⟩, ⟨by omega, by omega⟩, ⟨by omega, by omega⟩, ?_⟩⟩
      rw [show (400 * tt + (((j + 1 : Nat) : Int) - 1)).toNat = 400 * tt.toNat + j by omega, r4, show ((j + 1 : Nat) : Int) - 1 + -1 = (j : Int) - 1 by omega]
      refine ⟨fun u => ⟨⟨by omega, by omega⟩, ⟨by omega, by omega⟩, ?_⟩, fun u => ⟨⟨by omega, by omega⟩, ?_⟩⟩
      · rw [if_neg u] at hx ef
        have := ih a (by omega) hw (x3 + 1) (by omega) (by omega) (by omega) ha
        rw [ef] at this
        rw [show ((j + 1 : Nat) : Int) - 1 = (j : Int) by omega]
        exact this
      · rw [if_pos u] at hx ef
        have := ih a (by omega) hw x3 x30 x31 (by omega) ha
        rw [ef] at this
        exact this
  have ref : ∀ a : Int, (w = 0 → cntF s s.c = a) → (w = 1 → fsU s s.c 0 = a) → (w = 2 → (s.c : Int) = a) → (w < 0 ∨ 2 < w → -1 = a) → ACi g l (d + 1) MX12_faults [vR 12 (some m), vI tt, vI w] σ (fun r σ2 => a = r ∧ σ2 = σ) := fun a h0 h1 h2 h3 => by
    refine AC.of mo_X12_faults (Nat.le_of_ble_eq_true rfl) (bk_X12_faults_0 ⟨fun u => by omega, fun _ => ?_⟩)
    rw [z3, c6]
    refine ⟨fun u => by omega, fun _ => ⟨fun u => ⟨_, rfl, (h3 (Or.inl u)).symm, rfl⟩, fun u => ⟨fun u2 => ⟨fun u3 => ⟨i2, ⟨by omega, by omega⟩, ⟨by omega, by omega⟩, fun z9 hz => ?_⟩, fun u3 => ⟨i2, ⟨by omega, by omega⟩, _, rfl, (h2 u3).symm, rfl⟩⟩, fun u2 => ⟨_, rfl, (h3 (Or.inr (by omega))).symm, rfl⟩⟩⟩⟩
    have := refl' s.c a (Nat.le_refl _) (by omega) 0 (by omega) (by omega) (by omega) ⟨h0, fun y => h1 (by omega)⟩
    rw [Nat.sub_self] at this
    rw [hz]
    exact this
  have cc := cntF_le (s := s) s.c
  have no' : ∀ j : Nat, j < s.c → gR σ 1003 tr j = some (noO σ tr j) ∧ gI σ 504 (noO σ tr j) 0 = s.d 3 j := fun j hj => ⟨v1.2.2.1 j hj, (v1.2.2.2.1 j hj).1.2.2.2.1⟩
  rw [c5]
  refine ⟨fun z => ?_, fun z => ?_, fun z => ⟨_, rfl, ref _ (fun y => by omega) (fun y => by omega) (fun _ => rfl) (fun y => by omega)⟩, fun z => ⟨_, rfl, ref _ (fun y => by omega) (fun y => by omega) (fun y => by omega) (fun _ => rfl)⟩⟩
  · -- how many
    have loop : ∀ (n j : Nat), j + n = s.c → AW g l d MX10_faultCount 4 [some (vR 10 (some tr)), some (vI (cntF s j)), some (vI (j : Int))] [] σ (fun v σ1 => ∃ a, v = some (vI a) ∧ ∃ a', some (vI a) = some (vI a') ∧ ACi g l (d + 1) MX12_faults [vR 12 (some m), vI tt, vI w] σ1 (fun r σ2 => a' = r ∧ σ2 = σ)) := by
      intro n
      induction n with
      | zero =>
        intro j hj
        refine bk_X10_faultCount_4 ?_
        rw [c5]
        exact ⟨fun _ => ⟨_, rfl, _, rfl, ref _ (fun _ => by rw [show s.c = j by omega]) (fun y => by omega) (fun y => by omega) (fun y => by omega)⟩, fun u => absurd (by omega) u⟩
      | succ n ih =>
        intro j hj
        obtain ⟨g1, g2⟩ := no' j (by omega)
        have cj := cntF_le (s := s) j
        have st := ih (j + 1) (by omega)
        rw [cntF, show ((j + 1 : Nat) : Int) = (j : Int) + 1 by omega] at st
        refine bk_X10_faultCount_4 ?_
        rw [c5]
        refine ⟨fun u => by omega, fun _ => ⟨o1.1, ⟨by omega, by omega⟩, noO σ tr j, by rw [Int.toNat_natCast]; exact g1, ?_⟩⟩
        rw [g2]
        refine ⟨fun u => ⟨⟨by omega, by omega⟩, ⟨by omega, by omega⟩, by rw [if_neg u] at st; exact st⟩, fun u => ⟨⟨by omega, by omega⟩, ⟨by omega, by omega⟩, by rw [if_pos u] at st; exact st⟩⟩
    exact AC.of mo_X10_faultCount (Nat.le_of_ble_eq_true rfl) (bk_X10_faultCount_0 (loop s.c 0 (by omega)))
  · -- the first
    have loop : ∀ (n j : Nat), j + n = s.c → fsU s s.c 0 = fsU s n j → AW g l d MX10_firstFault 2 [some (vR 10 (some tr)), some (vI (j : Int))] [] σ (fun v σ1 => ∃ a, v = some (vI a) ∧ ∃ a', some (vI a) = some (vI a') ∧ ACi g l (d + 1) MX12_faults [vR 12 (some m), vI tt, vI w] σ1 (fun r σ2 => a' = r ∧ σ2 = σ)) := by
      intro n
      induction n with
      | zero =>
        intro j hj ef
        refine bk_X10_firstFault_2 ?_
        rw [c5]
        exact ⟨fun _ => ⟨_, rfl, _, rfl, ref _ (fun y => by omega) (fun _ => ef) (fun y => by omega) (fun y => by omega)⟩, fun u => absurd (by omega) u⟩
      | succ n ih =>
        intro j hj ef
        rw [fsU] at ef
        obtain ⟨g1, g2⟩ := no' j (by omega)
        refine bk_X10_firstFault_2 ?_
        rw [c5]
        refine ⟨fun u => by omega, fun _ => ⟨o1.1, ⟨by omega, by omega⟩, noO σ tr j, by rw [Int.toNat_natCast]; exact g1, ?_⟩⟩
        rw [g2]
        refine ⟨fun u => ⟨⟨by omega, by omega⟩, ?_⟩, fun u => ⟨_, rfl, _, rfl, ref _ (fun y => by omega) (fun _ => by rw [if_neg u] at ef; exact ef) (fun y => by omega) (fun y => by omega)⟩⟩
        rw [if_pos u] at ef
        rw [show (j : Int) + 1 = ((j + 1 : Nat) : Int) by omega]
        exact ih (j + 1) (by omega) ef
    exact AC.of mo_X10_firstFault (Nat.le_of_ble_eq_true rfl) (bk_X10_firstFault_0 (loop s.c 0 (by omega) rfl))
end S7
