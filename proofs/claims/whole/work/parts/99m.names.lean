/-! names of nodes, and their letters -/
/-- letter i of a name -/
def ltV (v : Int64) (i : Int) : Int := if 0 ≤ i ∧ i < 8 ∧ ¬ byt v i = 0 then byt v i else -1
theorem byt_ushr2 (x : Int64) {i : Int} (h0 : 0 ≤ i) (h7 : i ≤ 7) : j2i ((j_ushr x (8 * i)) &&& (255 : Int64)) = byt x i := by
  have a := byt_ushr x h0 h7
  rw [i_and255, j2i_eq] at a
  rw [j2i_eq, and255]
  generalize (j_ushr x (8 * i)).toInt = y at *
  rw [← a]
  unfold w32
  omega
theorem U64_ushr8 (x : Int64) : U64 (j_ushr x 8) = U64 x / 256 := ushr_nat x 8
section N1
variable {g : GP} {l : Launch} {d e : Nat} {σ σ' σ2 : St} {x m p b k t : Nat} {A B : DPa} {En : List Enm} {Ss : List Stc} {i len im : Int} {h : Int → Int} {s : TS} {v : Int64}
theorem x_letterOf {P : Int → St → Prop} (hP : P (ltV v i) σ) : ACi g l (d + 1) MX11_letterOf [vJ v, vI i] σ P := by
  unfold ltV at hP
  refine AC.of mo_X11_letterOf (Nat.le_of_ble_eq_true rfl) (bk_X11_letterOf_0 ⟨fun w => ⟨fun z => absurd rfl z, fun _ => ⟨_, rfl, ?_⟩⟩, fun w => ⟨fun w2 => x_byteOf (by omega) (by omega) ⟨fun z => ⟨_, rfl, ?_⟩, fun z => ⟨_, rfl, ?_⟩⟩, fun w2 => ⟨fun z => absurd rfl z, fun _ => ⟨_, rfl, ?_⟩⟩⟩⟩)
  · rw [if_neg (by omega)] at hP; exact hP
  · rw [if_pos ⟨by omega, w2, z⟩] at hP; exact hP
  · rw [if_neg (fun q => q.2.2 z)] at hP; exact hP
  · rw [if_neg (by omega)] at hP; exact hP
/-- how long a name is -/
theorem nm_len {v w : Int64} (hn : Nm v w) : ∃ k : Nat, 1 ≤ k ∧ k ≤ 8 ∧ (∀ n : Nat, n ≤ k → (U64 w / 256 ^ n = 0 ↔ n = k)) ∧ ∀ i : Int, ltV v i = if 0 ≤ i ∧ i < k then byt w (k - 1 - i) else -1 := by
  obtain ⟨T, q, k, k1, k8, hb, rfl, rfl⟩ := hn
  have b0 : ∀ i : Int, 0 ≤ i → i < k → 0 ≤ T (q + i) ∧ T (q + i) ≤ 255 := fun i z0 z1 => by have := hb i z0 z1; omega
  have f1 := (byt_wdF (T := T) (q := q) k k8 b0).2
  have r1 : ∀ i : Int, 0 ≤ i → i ≤ 7 → byt (wdR T q k) i = if i < (k : Int) then T (q + (k - 1 - i)) else 0 := by rw [wdR_rv]; exact byt_rv k b0
  have top := hb 0 (by omega) (by omega)
  refine ⟨k, k1, k8, fun n hn => ?_, fun i => ?_⟩
  · have u : ∀ i : Nat, i < 8 → ((U64 (wdR T q k) / 256 ^ i % 256 : Nat) : Int) = if (i : Int) < (k : Int) then T (q + (k - 1 - i)) else 0 := fun i hi => by
      have := byt_U (wdR T q k) (i := (i : Int)) (by omega) (by omega)
      rw [Int.toNat_natCast] at this
      rw [← this, r1 i (by omega) (by omega)]
    have lt := U64_lt (wdR T q k)
    have z0 := u 0 (by omega)
    have z1 := u 1 (by omega)
    have z2 := u 2 (by omega)
    have z3 := u 3 (by omega)
    have z4 := u 4 (by omega)
    have z5 := u 5 (by omega)
    have z6 := u 6 (by omega)
    have z7 := u 7 (by omega)
    have zk := u (k - 1) (by omega)
    rw [if_pos (by omega), show q + ((k : Int) - 1 - ((k - 1 : Nat) : Int)) = q + 0 by omega] at zk
    generalize U64 (wdR T q k) = U at *
    have ck : k = 1 ∨ k = 2 ∨ k = 3 ∨ k = 4 ∨ k = 5 ∨ k = 6 ∨ k = 7 ∨ k = 8 := by omega
    have cn : n = 0 ∨ n = 1 ∨ n = 2 ∨ n = 3 ∨ n = 4 ∨ n = 5 ∨ n = 6 ∨ n = 7 ∨ n = 8 := by omega
    clear u r1 f1
    rcases ck with rfl | rfl | rfl | rfl | rfl | rfl | rfl | rfl <;> simp only [Nat.reducePow, Nat.reduceSub] at * <;> rcases cn with rfl | rfl | rfl | rfl | rfl | rfl | rfl | rfl | rfl <;> simp only [Nat.reducePow] at * <;> first | omega | (simp at *; omega)
  · unfold ltV
    by_cases c : 0 ≤ i ∧ i < k
    · have := hb i c.1 c.2
      have e1 : byt (wdF T q k) i = T (q + i) := by rw [f1 i c.1 (by omega), if_pos c.2]
      have e2 : byt (wdR T q k) (k - 1 - i) = T (q + i) := by rw [r1 _ (by omega) (by omega), if_pos (by omega), show (k : Int) - 1 - (k - 1 - i) = i by omega]
      rw [if_pos ⟨c.1, by omega, by rw [e1]; omega⟩, if_pos c, e1, e2]
    · rw [if_neg c]
      by_cases c2 : 0 ≤ i ∧ i < 8
      · rw [if_neg (fun z => z.2.2 (by rw [f1 i c2.1 (by omega), if_neg (by omega)]))]
      · rw [if_neg (fun z => c2 ⟨z.1, z.2.1⟩)]
theorem m_letters {P : Int → St → Prop} (hn : IsN v ∨ v = 0) (hP : P (ltV v i) σ) : AW g l (d + 1) MX12_letter_ 122 [none, none, none, none, some (vI i), none, some (vJ (rho v)), none, some (vI 0), some (vJ (rho v)), none] [] σ (fun v σ' => ∃ r, v = some (vI r) ∧ P r σ') := by
  rcases hn with hn | hn
  · obtain ⟨k, k1, k8, hz, hl⟩ := nm_len hn.nm
    rw [hl] at hP
    have loop : ∀ (n j : Nat) (y : Int64), j + n = k → U64 y = U64 (rho v) / 256 ^ j → AW g l (d + 1) MX12_letter_ 122 [none, none, none, none, some (vI i), none, some (vJ (rho v)), none, some (vI (j : Int)), some (vJ y), none] [] σ (fun v σ' => ∃ r, v = some (vI r) ∧ P r σ') := by
      intro n
      induction n with
      | zero =>
        intro j y hj hy
        have y0 : y = 0 := U64_inj (by rw [hy, (hz j (by omega)).mpr (by omega)]; rfl)
        refine bk_X12_letter__122 ⟨fun _ => ⟨fun w => ⟨_, rfl, ?_⟩, fun w => ⟨fun w2 => ⟨⟨by omega, by omega⟩, ⟨by omega, by omega⟩, ⟨by omega, by omega⟩, _, rfl, ?_⟩, fun w2 => ⟨_, rfl, ?_⟩⟩⟩, fun w => absurd y0 w⟩
        · rw [if_neg (by omega)] at hP; exact hP
        · rw [byt_ushr2 _ (by omega) (by omega)]
          rw [if_pos ⟨by omega, by omega⟩, show (k : Int) - 1 - i = (j : Int) - 1 - i by omega] at hP; exact hP
        · rw [if_neg (by omega)] at hP; exact hP
      | succ n ih =>
        intro j y hj hy
        have y0 : ¬ y = 0 := fun q => by
          have z := hz j (by omega)
          rw [← hy, q] at z
          have : j = k := z.mp rfl
          omega
        refine bk_X12_letter__122 ⟨fun w => absurd w y0, fun _ => ⟨⟨by omega, by omega⟩, ?_⟩⟩
        rw [show (j : Int) + 1 = ((j + 1 : Nat) : Int) by omega]
        exact ih (j + 1) _ (by omega) (by rw [U64_ushr8, hy, Nat.div_div_eq_div_mul, Nat.pow_succ])
    exact loop k 0 (rho v) (by omega) (by rw [Nat.pow_zero, Nat.div_one])
  · subst hn
    rw [rho_zero]
    have e : ltV 0 i = -1 := by
      unfold ltV
      refine if_neg (fun z => z.2.2 ?_)
      rw [byt_U 0 z.1 (by omega)]
      show ((0 / 256 ^ i.toNat % 256 : Nat) : Int) = 0
      rw [Nat.zero_div]
      rfl
    rw [e] at hP
    exact bk_X12_letter__122 ⟨fun _ => ⟨fun w => ⟨_, rfl, hP⟩, fun w => ⟨fun w2 => absurd w2 w, fun w2 => ⟨_, rfl, hP⟩⟩⟩, fun w => absurd rfl w⟩
/-- names as they stand in a description -/
def NmW (En : List Enm) (Ss : List Stc) : Prop := (∀ (n : Nat) (S : Stc), Ss[n]? = some S → IsN S.1) ∧ (∀ fl F, gF Ss fl = some F → (¬ F.ki = 8 → IsN F.nm) ∧ (F.ki = 8 → F.nm = 0) ∧ (F.ki = 3 → (∀ e ∈ F.es, IsN e.1) ∧ F.es.length ≤ 12) ∧ (¬ F.ki = 1 → F.pr = -1) ∧ (F.ki = 1 → -1 ≤ F.pr ∧ F.pr < En.length)) ∧ ∀ (n : Nat) (E : Enm), En[n]? = some E → ∀ e ∈ E.2, IsN e.1
theorem WK_pr {nE : Nat} {Ss : List Stc} {G : Fld} (h : WK nE Ss G) : (¬ G.ki = 1 → G.pr = -1) ∧ (G.ki = 1 → -1 ≤ G.pr ∧ G.pr < nE) := by
  rcases h with q | q | q | q | q | q | q | q | q | q
  · exact ⟨fun _ => q.2.2.2.2, fun z => by omega⟩
  · exact ⟨fun z => absurd q.1 z, fun _ => q.2.2.2.2⟩
  · exact ⟨fun _ => q.2.2.1, fun z => by omega⟩
  · exact ⟨fun _ => q.2.2.1, fun z => by omega⟩
  · exact ⟨fun _ => q.2.2.1, fun z => by omega⟩
  · exact ⟨fun _ => q.2.2.1, fun z => by omega⟩
  · exact ⟨fun _ => q.2.2.1, fun z => by omega⟩
  · exact ⟨fun _ => q.2.2.1, fun z => by omega⟩
  · exact ⟨fun _ => q.2.2.1, fun z => by omega⟩
  · exact ⟨fun _ => q.2.2.1, fun z => by omega⟩
theorem DsI.nmw (hD : DsI σ x m p A B En Ss b) : NmW En Ss := by
  obtain ⟨_, _, _, _, _, ⟨we, Ss0, w2, w3⟩, _⟩ := hD
  obtain ⟨c1, c2⟩ := aimS_ok _ _ w3
  have ss : ∀ (n : Nat) (S : Stc), Ss[n]? = some S → ∃ T, Ss0[n]? = some T ∧ S = (T.1, T.2.1.map (aimO (Ss0.map (fun s => s.1))), T.2.2) := fun n S hS => by
    rw [c1, List.getElem?_map] at hS
    cases e : Ss0[n]? with
    | none => rw [e] at hS; exact absurd hS (by simp)
    | some T => rw [e] at hS; exact ⟨T, rfl, (Option.some.inj hS).symm⟩
  refine ⟨fun n S hS => ?_, fun fl F hF => ?_, fun n E hE => (we n E hE).2.2⟩
  · obtain ⟨T, t1, t2⟩ := ss n S hS
    rw [t2]; exact (w2 n T t1).1
  · obtain ⟨_, S, hS, hk⟩ := gF_some hF
    obtain ⟨T, t1, t2⟩ := ss _ S hS
    rw [t2] at hk
    have hk : (T.2.1.map (aimO (Ss0.map (fun s => s.1))))[(fl % 14).toNat]? = some F := hk
    rw [List.getElem?_map] at hk
    cases eg : T.2.1[(fl % 14).toNat]? with
    | none => rw [eg] at hk; exact absurd hk (by simp)
    | some G =>
      rw [eg] at hk
      have hk : aimO (Ss0.map (fun s => s.1)) G = F := Option.some.inj hk
      have wk := ((w2 _ T t1).2.2.2.2 G (List.mem_of_getElem? eg)).2.2.2.2
      obtain ⟨o1, _, o3, _, _, _, _, _, o9, o10, _⟩ := aimO_k (Ns := Ss0.map (fun s => s.1)) (F := G)
      obtain ⟨_, _, _, _, _, z1, z2⟩ := kR_iff wk
      obtain ⟨y1, y2⟩ := WK_pr wk
      rw [← hk, o1, o3, o9, o10]
      exact ⟨z1, z2, fun k3 => WK_bits wk k3, y1, y2⟩
/-- a node's name is one, or none -/
theorem nmN_n (hW : NmW En Ss) (hI : TI Ss len s) (hk : k < s.c) : IsN (nmN Ss s k) ∨ nmN Ss s k = 0 := by
  obtain ⟨_, _, v3, v4, _⟩ := (hI.2 k hk).1
  unfold nmN
  rcases v3 with ⟨v3, v0⟩ | ⟨q0, F, hF, q2, q3⟩
  · rw [if_pos (by omega)]
    have := v4 v0
    rw [List.getElem?_eq_getElem (by omega : (s.d 7 k).toNat < Ss.length)]
    exact Or.inl (hW.1 _ _ (List.getElem?_eq_getElem _))
  · rw [if_neg (by omega), hF]
    dsimp only
    obtain ⟨n1, n2, n3, _⟩ := hW.2.1 _ F hF
    by_cases c4 : s.d 0 k = 4
    · rw [if_pos c4]
      cases ee : F.es[(s.d 8 k - 1).toNat]? with
      | none => exact Or.inr rfl
      | some e => exact Or.inl ((n3 (by omega)).1 e (List.mem_of_getElem? ee))
    · rw [if_neg c4]
      by_cases c1 : s.d 0 k = 1 ∧ F.ki = 2
      · rw [if_pos c1]; exact Or.inr rfl
      · rw [if_neg c1]
        by_cases c8 : F.ki = 8
        · exact Or.inr (n2 c8)
        · exact Or.inl (n1 c8)
/-- the reference's name of a node -/
theorem m_nameOf {P : Int64 → St → Prop} (hL : LC 12 σ m) (b2 : b < 2) (hb : gI σ 1218 m 0 = (b : Int)) (hD : DR σ m b (3000 * b + 3000) En Ss) (hW : NmW En Ss) (ht : t < 7) (hN : ∀ i, i < s.c → NdR σ m t b s i) (hI : TI Ss len s) (hJ : JT Ss s) (hk : k < s.c) (hP : P (rho (nmN Ss s k)) σ) : ACj g l d MX12_nameOf [vR 12 (some m), vI ((400 * t + k : Nat) : Int)] σ P := by
  have c400 := hI.1
  obtain ⟨r1, _, _, _, _, r6, r7, r8, r9, _⟩ := hN k hk
  obtain ⟨_, v2, v3, v4, _⟩ := (hI.2 k hk).1
  obtain ⟨j1, _, j3, _⟩ := hJ k hk
  have fd := fdr_of b2 hD
  have bd : Bd ((400 * t + k : Nat) : Int) 2800 := ⟨by omega, by omega⟩
  have s68 : ∀ y0 : Int, (y0 = 0 ∨ y0 = 1) → ((0 ≤ s.d 5 k ∧ s.d 0 (s.d 5 k).toNat = 2) ↔ y0 = 1) → 0 ≤ s.d 6 k → AW g l d MX12_nameOf 68 [some (vR 12 (some m)), some (vI ((400 * t + k : Nat) : Int)), some (vI y0)] [] σ (fun v σ' => ∃ r, v = some (vJ r) ∧ P r σ') := by
    intro y0 hy hiff h6
    rcases v3 with ⟨v3, _⟩ | ⟨q0, F, hF, q2, q3⟩
    · omega
    obtain ⟨f280, fr⟩ := fd.2 _ F hF
    obtain ⟨n1, n2, n3, _⟩ := hW.2.1 _ F hF
    unfold nmN at hP
    rw [if_neg (by omega), hF] at hP
    dsimp only at hP
    have aF : ∀ F', gF Ss (s.d 6 k) = some F' → F' = F := fun F' z => by rw [hF] at z; cases z; rfl
    have part : s.d 0 k = 4 → P (gJ σ 1239 m (16 * (((280 * b : Nat) : Int) + s.d 6 k) + s.d 8 k - 1).toNat) σ := fun w3 => by
      have ee : F.es[(s.d 8 k - 1).toNat]? = some F.es[(s.d 8 k - 1).toNat] := List.getElem?_eq_getElem (by omega)
      rw [if_pos w3, ee] at hP
      dsimp only at hP
      have := (fr.1.2.2.2.2.2.2.2.2.2 _ _ ee).1 ((n3 (by omega)).1 _ (List.mem_of_getElem? ee)).nz
      rw [show (16 * (((280 * b : Nat) : Int) + s.d 6 k) + s.d 8 k - 1).toNat = 16 * (280 * b + (s.d 6 k).toNat) + (s.d 8 k - 1).toNat by omega, this]; exact hP
    refine bk_X12_nameOf_68 ?_
    rw [Int.toNat_natCast, r1, r7, if_neg (by omega), r9]
    refine ⟨hL, bd, fun w => ⟨_, rfl, ?_⟩, fun w => ⟨fun w2 => ⟨fun w3 => ⟨⟨by omega, by omega⟩, _, rfl, ?_⟩, fun w3 => by have q12 := (n3 (by omega)).2; exact ⟨⟨by omega, by omega⟩, ⟨by omega, by omega⟩, ⟨by omega, by omega⟩, ⟨by omega, by omega⟩, _, rfl, part w3⟩⟩, fun w2 => ⟨_, rfl, ?_⟩⟩⟩
    · -- a pad
      rw [if_neg (by omega), if_neg (by omega), n2 (by omega), rho_zero] at hP; exact hP
    · -- by its field
      have na : ¬ (s.d 0 k = 1 ∧ F.ki = 2) := fun z => by
        have := j3.mpr ⟨z.1, F, hF, z.2⟩
        have := hiff.mp ⟨this.1, this.2.1⟩
        omega
      rw [if_neg w3, if_neg na] at hP
      have := fr.1.2.2.2.2.2.2.2.1 (n1 (by omega)).nz
      rw [show (((280 * b : Nat) : Int) + s.d 6 k).toNat = 280 * b + (s.d 6 k).toNat by omega, this]; exact hP
    · -- in an array
      have ia := hiff.mpr (by omega)
      obtain ⟨z1, F', z2, z3⟩ := j3.mp ⟨ia.1, ia.2, h6⟩
      rw [if_neg (by omega), if_pos ⟨z1, by rw [← aF F' z2]; exact z3⟩, rho_zero] at hP; exact hP
  have s29 : ∀ y0 : Int, (y0 = 0 ∨ y0 = 1) → ((0 ≤ s.d 5 k ∧ s.d 0 (s.d 5 k).toNat = 2) ↔ y0 = 1) → AW g l d MX12_nameOf 29 [some (vR 12 (some m)), some (vI ((400 * t + k : Nat) : Int)), none] [vI y0] σ (fun v σ' => ∃ r, v = some (vJ r) ∧ P r σ') := by
    intro y0 hy hiff
    have d6p : (0 : Int) ≤ (if s.d 6 k < 0 then -1 else ((280 * b : Nat) : Int) + s.d 6 k) → 0 ≤ s.d 6 k := fun w2 => by
      by_cases z : s.d 6 k < 0
      · rw [if_pos z] at w2; omega
      · omega
    refine bk_X12_nameOf_29 ?_
    rw [Int.toNat_natCast, r1, r7, r8, hb]
    refine ⟨hL, bd, fun w => s68 y0 hy hiff (by rcases v3 with z | z <;> omega), fun w => ⟨fun w2 => s68 y0 hy hiff (d6p w2), fun w2 => ?_⟩⟩
    have d6 : s.d 6 k < 0 := by
      by_cases z : s.d 6 k < 0
      · exact z
      · rw [if_neg z] at w2; omega
    have d7 := v4 w
    have l20 := hD.2.1
    unfold nmN at hP
    have hS : Ss[(s.d 7 k).toNat]? = some Ss[(s.d 7 k).toNat] := List.getElem?_eq_getElem (by omega)
    rw [if_pos d6, hS] at hP
    have := (hD.2.2.2.2.2 _ _ hS).1
    refine ⟨⟨by omega, by omega⟩, ⟨by omega, by omega⟩, ⟨by omega, by omega⟩, _, rfl, ?_⟩
    rw [show (20 * (b : Int) + s.d 7 k).toNat = 20 * b + (s.d 7 k).toNat by omega, this]; exact hP
  refine AC.of mo_X12_nameOf (Nat.le_of_ble_eq_true rfl) (bk_X12_nameOf_0 ?_)
  rw [Int.toNat_natCast, r6]
  unfold oI
  refine ⟨hL, bd, fun w => s29 0 (Or.inl rfl) ⟨fun z => ?_, fun z => absurd z (by decide)⟩, fun w => ?_⟩
  · rw [if_neg (by omega)] at w; omega
  · have d5 : 0 ≤ s.d 5 k := by
      by_cases z : s.d 5 k < 0
      · rw [if_pos z] at w; exact absurd (by decide) w
      · omega
    have pr := (hN (s.d 5 k).toNat (by omega)).1
    rw [if_neg (by omega), show (((400 * t : Nat) : Int) + s.d 5 k).toNat = 400 * t + (s.d 5 k).toNat by omega, pr]
    exact ⟨⟨by omega, by omega⟩, fun z => s29 0 (Or.inl rfl) ⟨fun y => absurd y.2 z, fun y => absurd y (by decide)⟩, fun z => s29 1 (Or.inr rfl) ⟨fun _ => rfl, fun _ => ⟨d5, z⟩⟩⟩
end N1
