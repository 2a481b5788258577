/-! the reference's sizes -/
theorem j_rem_pos {x n : Int64} (hx : 0 ≤ x.toInt) (hn : 1 ≤ n.toInt) : (j_rem x n).toInt = x.toInt % n.toInt := by
  have hx2 := x.toInt_lt
  have hn2 := n.toInt_lt
  have hq : x.toInt.tdiv n.toInt = x.toInt / n.toInt := Int.tdiv_eq_ediv_of_nonneg hx
  have q0 : 0 ≤ x.toInt / n.toInt := Int.ediv_nonneg hx (by omega)
  have q1 : x.toInt / n.toInt ≤ x.toInt := Int.ediv_le_self _ hx
  have dv : (x / n).toInt = x.toInt / n.toInt := by
    rw [Int64.toInt_div, hq, bmod64]; omega
  have e := Int.mul_ediv_add_emod x.toInt n.toInt
  have m0 := Int.emod_nonneg x.toInt (show n.toInt ≠ 0 by omega)
  have m1 := Int.emod_lt_of_pos x.toInt (show 0 < n.toInt by omega)
  unfold j_rem
  have pn : 0 ≤ n.toInt * (x.toInt / n.toInt) := Int.mul_nonneg (by omega) q0
  have e1 : (x / n * n).toInt = n.toInt * (x.toInt / n.toInt) := by
    rw [Int64.toInt_mul, dv, bmod64, Int.mul_comm (x.toInt / n.toInt) n.toInt]
    generalize n.toInt * (x.toInt / n.toInt) = k at *
    omega
  rw [Int64.toInt_sub, e1, bmod64]
  generalize n.toInt * (x.toInt / n.toInt) = k at *
  omega
theorem sk1_ne {B j : Nat} {x : Nd} {s s' : List Nat} (h : sk1 B j x s = some s') : ∃ r, s' = j :: r := by
  unfold sk1 at h
  split at h
  · split at h
    · exact ⟨_, (Option.some.inj h).symm⟩
    · cases h
  · split at h
    · split at h
      · split at h
        · exact ⟨_, (Option.some.inj h).symm⟩
        · cases h
      · cases h
    · split at h
      · split at h
        · split at h
          · exact ⟨_, (Option.some.inj h).symm⟩
          · cases h
        · cases h
      · cases h
theorem skr_ne {B : Nat} : ∀ (M : List Nd) (j : Nat) (s s' : List Nat), skr B M j s = some s' → (¬ M = [] ∨ ¬ s = []) → ¬ s' = []
  | [], j, s, s', h, hn => by
    have h : some s = some s' := h
    cases h
    exact hn.elim (fun q => absurd rfl q) id
  | x :: M, j, s, s', h, _ => by
    have h : (sk1 B j x s).bind (skr B M (j + 1)) = some s' := h
    cases e : sk1 B j x s with
    | none => rw [e] at h; cases h
    | some s1 =>
      rw [e] at h
      obtain ⟨r, hr⟩ := sk1_ne e
      exact skr_ne M (j + 1) s1 s' h (Or.inr (by rw [hr]; simp))
/-- a leaf at the root stands alone -/
theorem root_alone {N : List Nd} {x : Nd} (hw : WFx (some N)) (hx : N[N.length - 1]? = some x) (hl : isLf x.o) : N = [x] := by
  obtain ⟨w1, w2, _⟩ := hw N rfl
  have ne : ¬ N = [] := fun q => by rw [q] at w1; exact absurd w1 (by decide)
  have e : N = N.dropLast ++ [x] := by
    have hg := List.dropLast_concat_getLast ne
    have : N.getLast ne = x := by
      rw [List.getLast_eq_getElem]
      exact (List.getElem?_eq_some_iff.mp hx).2
    rw [this] at hg
    exact hg.symm
  have el : N.length = N.dropLast.length + 1 := by rw [List.length_dropLast]; omega
  generalize N.dropLast = M at *
  rw [e, skr_app] at w2
  cases hs : skr 102 M 0 [] with
  | none => rw [hs] at w2; cases w2
  | some s1 =>
    rw [hs] at w2
    have w2 : (sk1 102 (0 + M.length) x s1).bind (fun s => some s) = some [(M ++ [x]).length - 1] := w2
    unfold sk1 at w2
    rw [if_pos hl] at w2
    split at w2
    · have : (0 + M.length) :: s1 = [(M ++ [x]).length - 1] := Option.some.inj w2
      have s1e : s1 = [] := by
        have := List.cons.inj this
        exact this.2
      match M, hs, e with
      | [], _, e => rw [e]; rfl
      | y :: M, hs, _ => exact absurd s1e (skr_ne _ _ _ _ hs (Or.inl (by simp)))
    · cases w2
section M29
variable {g : GP} {l : Launch} {d : Nat} {σ : St} {m b i nn : Nat} {En : List Enm} {Ss : List Stc} {Fs : List Fld} {F : Fld}
theorem opR_0 {o : Int} : opR o = 0 ↔ o = 3 := by
  have n0 : ∀ (p : Prop) [Decidable p] (a b : Int), ¬ a = 0 → ¬ b = 0 → ¬ (if p then a else b) = 0 := fun p _ a b ha hb => by
    by_cases c : p
    · rw [if_pos c]; exact ha
    · rw [if_neg c]; exact hb
  unfold opR
  constructor
  · intro h
    by_cases c : o = 3
    · exact c
    · rw [if_neg c] at h
      exact absurd h (by repeat (refine n0 _ _ _ (by decide) ?_)
                         decide)
  · intro h; rw [if_pos h]
theorem m_plain {a most : Int} {mm : Int64} {e : Exr} {P : Int64 → St → Prop} (hL : LC 12 σ m) (b2 : b < 2) (hm : mm.toInt = most) (hx : XR σ m b a e) (hw : WFx e) (h : ∀ v : Int64, v.toInt = alone e most → P v σ) : ACj g l d MX12_plain [vR 12 (some m), vI a, vJ mm] σ P := by
  refine AC.of mo_X12_plain (Nat.le_of_ble_eq_true rfl) (bk_X12_plain_0 ?_)
  match e, hx, hw, h with
  | none, hx, hw, h =>
    have hx : a = -1 := hx
    exact ⟨fun _ => ⟨_, rfl, h _ rfl⟩, fun q => absurd (by omega) q⟩
  | some N, hx, hw, h =>
    obtain ⟨nb, h1, h2, h3, h4, h5, h6⟩ := hx
    refine ⟨fun q => by omega, fun _ => ⟨hL, ⟨by omega, by omega⟩, ?_⟩⟩
    rw [show a.toNat = nb + (N.length - 1) by omega]
    have lt : N.length - 1 < N.length := by omega
    have hg : N[N.length - 1]? = some N[N.length - 1] := List.getElem?_eq_getElem lt
    obtain ⟨r1, _, _, r4⟩ := h5 _ _ hg
    generalize N[N.length - 1] = x at *
    rw [r1, r4]
    have no : ¬ (x.o = 3 ∧ x.v.toInt ≤ most) → alone (some N) most = -1 := fun q => by
      unfold alone
      split
      · rename_i y he
        have he : N = [y] := Option.some.inj he
        have : x = y := by rw [he] at hg; exact (Option.some.inj hg).symm
        rw [← this, if_neg q]
      · rfl
    refine ⟨fun q => ⟨_, rfl, h (-1) ?_⟩, fun q => ?_⟩
    · rw [no (fun z => q (opR_0.mpr z.1))]; decide
    · have o3 := opR_0.mp q
      have ev : vlR x = x.v := by unfold vlR; rw [if_pos o3]
      have eN := root_alone hw hg (Or.inr (Or.inl o3))
      rw [ev, hm]
      refine ⟨fun q => ⟨_, rfl, h (-1) ?_⟩, fun q => ⟨_, rfl, h _ ?_⟩⟩
      · rw [no (fun z => by omega)]; decide
      · rw [eN]; show _ = if x.o = 3 ∧ x.v.toInt ≤ most then x.v.toInt else -1
        rw [if_pos ⟨o3, by omega⟩]
theorem ty_nz {t : Int64} (h : TyR t) : ¬ t = 0 := fun q => by have := h.1; rw [q] at this; exact absurd this (by decide)
theorem XR.neg {a : Int} {e : Exr} (h : XR σ m b a e) : (a < 0 ↔ e = none) ∧ (0 ≤ a ↔ ¬ e = none) := by
  match e, h with
  | none, h => have h : a = -1 := h; exact ⟨⟨fun _ => rfl, fun _ => by omega⟩, ⟨fun q => by omega, fun q => absurd rfl q⟩⟩
  | some N, h =>
    obtain ⟨nb, h1, _⟩ := h
    exact ⟨⟨fun q => by omega, fun q => absurd q (by simp)⟩, ⟨fun _ => by simp, fun _ => by omega⟩⟩
/-- the size of a field, where no IF stands -/
theorem m_sizeOf {fx : Nat} {x : Int64} {P : Int64 → St → Prop} (hL : LC 12 σ m) (hb : gI σ 1253 m 0 = (b : Int)) (b2 : b < 2) (hfx : fx < 560) (hS : ∀ s : Int, 0 ≤ s → s < Ss.length → gI σ 1223 m (20 * b + s.toNat) = szS Ss s) (s20 : Ss.length ≤ 20) (hW : ∀ (s : Nat) (S : Stc), Ss[s]? = some S → -1 ≤ S.2.2 ∧ S.2.2 ≤ 1000000) (hF : FR σ m b fx F) (hw : WFf En.length Ss F) (hx : 0 ≤ x.toInt ∧ x.toInt ≤ 1000000)
    (h : ∀ v : Int64, (F.ec = none → v.toInt = szF Ss F x.toInt) → P v σ) : ACj g l (d + 1) MX12_sizeOf [vR 12 (some m), vI (fx : Int), vJ x] σ P := by
  obtain ⟨⟨p1, p2, p3, p4, p5, p6, p7, p8, p9, p10⟩, k1, k2, k3⟩ := hF
  obtain ⟨w1, w2, w3, w4, w5⟩ := hw
  have fn : ((fx : Int)).toNat = fx := by omega
  have z0 : (0 : Int64).toInt = 0 := rfl
  have tr := tw_r F.ty
  have wid : TyR F.ty → i_and (gI σ 1229 m fx) 15 = tw F.ty := fun t => by rw [p9 (ty_nz t), i_and15]; rfl
  have a200 := alone_le (m := 200) w2 (by decide)
  have zS := fun s => szS_le (Ss := Ss) (s := s) hW
  refine AC.of mo_X12_sizeOf (Nat.le_of_ble_eq_true rfl) (bk_X12_sizeOf_0 ⟨hL, ⟨by omega, by omega⟩, ?_⟩)
  rw [fn, k1, hb]
  have hh : ∀ (v : Int64) (y : Int), v.toInt = y → (F.ec = none → szF Ss F x.toInt = y) → ∃ r, some (vJ v) = some (vJ r) ∧ P r σ := fun v y e1 e2 => ⟨_, rfl, h v (fun q => by rw [e1, e2 q])⟩
  rcases w5 with q | q | q | q | q | q | q | q | q | q
  · -- STRUCT
    have kk := kR_0 q.1
    rw [kk]
    refine ⟨fun z => by omega, fun _ => ?_, fun z => by omega, fun z => by omega, fun z => by omega, fun z => by omega, fun z => by omega, fun z => by omega, fun z => by omega, fun z => by omega, fun z => by omega⟩
    rw [p6, show (20 * (b : Int) + F.st).toNat = 20 * b + F.st.toNat by omega, hS _ q.2.2.1 q.2.2.2.1]
    exact ⟨⟨by omega, by omega⟩, ⟨by omega, by omega⟩, ⟨by omega, by omega⟩, hh _ _ (i2j_s (by have := zS F.st; omega) (by have := zS F.st; omega)) (fun z => by unfold szF; rw [if_neg (fun y => y z), if_pos q.1])⟩
  · -- WHOLE
    have kk := kR_1 q.1
    rw [kk, wid q.2.2.1]
    exact ⟨fun z => by omega, fun z => by omega, fun z => by omega, fun z => by omega, fun z => by omega, fun z => by omega, fun z => by omega, fun z => by omega, fun z => by omega, fun z => by omega, fun _ => hh _ _ (i2j_s (by omega) (by omega)) (fun z => by unfold szF; rw [if_neg (fun y => y z), if_neg (by omega), if_neg (by omega), if_neg (by omega), if_neg (by omega), if_neg (by omega), if_neg (by omega)])⟩
  · -- arrays
    have e2 : F.ec = none → szF Ss F x.toInt = if alone F.e1 200 = -1 ∨ (if F.st = -1 then tw F.ty else szS Ss F.st) = -1 then -1 else alone F.e1 200 * (if F.st = -1 then tw F.ty else szS Ss F.st) := fun z => by unfold szF; rw [if_neg (fun y => y z), if_neg (by omega), if_pos q.1]
    rcases q.2.2.2 with t | t
    · have kk : kR F = 1 := by unfold kR; rw [if_neg (by omega), if_neg (by omega), if_pos q.1, if_pos t.1]
      rw [kk]
      rw [if_pos t.1] at e2
      refine ⟨fun _ => ?_, fun z => by omega, fun z => by omega, fun z => by omega, fun z => by omega, fun z => by omega, fun z => by omega, fun z => by omega, fun z => by omega, fun z => by omega, fun z => by omega⟩
      have s88 : ∀ v : Int64, v.toInt = alone F.e1 200 → AW g l (d + 1) MX12_sizeOf 88 [some (vR 12 (some m)), some (vI (fx : Int)), none, none, none, none, none] [vJ v] σ (fun v σ' => ∃ r, v = some (vJ r) ∧ P r σ') := fun v hv => by
        refine bk_X12_sizeOf_88 ?_
        rw [fn, wid t.2, z0, hv]
        refine ⟨fun z => ⟨hL, ⟨by omega, by omega⟩, ?_⟩, fun z => hh _ (-1) rfl (fun y => by rw [e2 y, if_pos (Or.inl (by omega))])⟩
        have b1 : alone F.e1 200 * tw F.ty ≤ 200 * 15 := Int.mul_le_mul a200.2 tr.2 (by omega) (by decide)
        have b0 : 0 ≤ alone F.e1 200 * tw F.ty := Int.mul_nonneg (by omega) (by omega)
        refine hh _ (alone F.e1 200 * tw F.ty) ?_ (fun y => by rw [e2 y, if_neg (by omega)])
        rw [Int64.toInt_mul, hv, i2j_s (by omega) (by omega), bmod64]
        generalize alone F.e1 200 * tw F.ty = k at *
        omega
      refine ⟨fun _ => m_plain hL b2 rfl p2 w2 (fun v hv => s88 v hv), fun z => s88 (-1) ?_⟩
      have := (p2.neg).1.mp (by omega)
      rw [this]; rfl
    · have kk : kR F = 3 := by unfold kR; rw [if_neg (by omega), if_neg (by omega), if_pos q.1, if_neg (by omega)]
      rw [kk]
      rw [if_neg (show ¬ F.st = -1 by omega)] at e2
      refine ⟨fun z => by omega, fun z => by omega, fun _ => ?_, fun z => by omega, fun z => by omega, fun z => by omega, fun z => by omega, fun z => by omega, fun z => by omega, fun z => by omega, fun z => by omega⟩
      have s166 : ∀ v : Int64, v.toInt = alone F.e1 200 → AW g l (d + 1) MX12_sizeOf 166 [some (vR 12 (some m)), some (vI (fx : Int)), none, none, none, none, none] [vJ v] σ (fun v σ' => ∃ r, v = some (vJ r) ∧ P r σ') := fun v hv => by
        have zs := zS F.st
        refine bk_X12_sizeOf_166 ?_
        rw [fn, z0, hv, hb, p6, show (20 * (b : Int) + F.st).toNat = 20 * b + F.st.toNat by omega, hS _ t.1 t.2.1]
        refine ⟨fun z => hh _ (-1) rfl (fun y => by rw [e2 y, if_pos (Or.inl (by omega))]), fun z => ⟨hL, ⟨by omega, by omega⟩, ⟨by omega, by omega⟩, ⟨by omega, by omega⟩, ⟨by omega, by omega⟩, fun z2 => ?_, fun z2 => hh _ (-1) rfl (fun y => by rw [e2 y, if_pos (Or.inr (by omega))])⟩⟩
        have b1 : alone F.e1 200 * szS Ss F.st ≤ 200 * 1000000 := Int.mul_le_mul a200.2 zs.2 (by omega) (by decide)
        have b0 : 0 ≤ alone F.e1 200 * szS Ss F.st := Int.mul_nonneg (by omega) (by omega)
        refine hh _ (alone F.e1 200 * szS Ss F.st) ?_ (fun y => by rw [e2 y, if_neg (by omega)])
        rw [Int64.toInt_mul, hv, i2j_s (by omega) (by omega), bmod64]
        generalize alone F.e1 200 * szS Ss F.st = k at *
        omega
      refine ⟨fun _ => m_plain hL b2 rfl p2 w2 (fun v hv => s166 v hv), fun z => s166 (-1) ?_⟩
      have := (p2.neg).1.mp (by omega)
      rw [this]; rfl
  · -- BITS
    have kk := kR_3 q.1
    rw [kk, wid q.2.2.2.1]
    exact ⟨fun z => by omega, fun z => by omega, fun z => by omega, fun _ => hh _ _ (i2j_s (by omega) (by omega)) (fun z => by unfold szF; rw [if_neg (fun y => y z), if_neg (by omega), if_neg (by omega), if_neg (by omega), if_neg (by omega), if_neg (by omega), if_neg (by omega)]), fun z => by omega, fun z => by omega, fun z => by omega, fun z => by omega, fun z => by omega, fun z => by omega, fun z => by omega⟩
  · -- TEXT
    have kk := kR_5 q.1
    have e2 : F.ec = none → szF Ss F x.toInt = alone F.e1 2000 := fun z => by unfold szF; rw [if_neg (fun y => y z), if_neg (by omega), if_neg (by omega), if_pos q.1]
    rw [kk]
    by_cases c : F.e1 = none
    · rw [if_pos c]
      exact ⟨fun z => by omega, fun z => by omega, fun z => by omega, fun z => by omega, fun z => by omega, fun _ => hh _ (-1) rfl (fun y => by rw [e2 y, c]; rfl), fun z => by omega, fun z => by omega, fun z => by omega, fun z => by omega, fun z => by omega⟩
    · rw [if_neg c]
      exact ⟨fun z => by omega, fun z => by omega, fun z => by omega, fun z => by omega, fun _ => m_plain hL b2 rfl p2 w2 (fun v hv => hh _ _ hv e2), fun z => by omega, fun z => by omega, fun z => by omega, fun z => by omega, fun z => by omega, fun z => by omega⟩
  · -- UNION
    have kk := kR_6 q.1
    have e2 : F.ec = none → szF Ss F x.toInt = if F.es.all (fun e => szS Ss e.2.2 == szS Ss F.ot) = true then szS Ss F.ot else -1 := fun z => by unfold szF; rw [if_neg (fun y => y z), if_neg (by omega), if_neg (by omega), if_neg (by omega), if_pos q.1]
    rw [kk]
    refine ⟨fun z => by omega, fun z => by omega, fun z => by omega, fun z => by omega, fun z => by omega, fun z => by omega, fun _ => ?_, fun z => by omega, fun z => by omega, fun z => by omega, fun z => by omega⟩
    rw [p5]
    have o1 := q.2.2.2.2.2.1
    have o2 := q.2.2.2.2.2.2.1
    refine ⟨fun z => ?_, fun z => hh _ (-1) rfl (fun y => ?_)⟩
    · rw [show (20 * (b : Int) + F.ot).toNat = 20 * b + F.ot.toNat by omega, hS _ z o2]
      refine ⟨⟨by omega, by omega⟩, ⟨by omega, by omega⟩, ⟨by omega, by omega⟩, ?_⟩
      have zo := zS F.ot
      have loop : ∀ (A : List Ent) (j : Nat), (∀ k e, A[k]? = some e → F.es[j + k]? = some e) → j + A.length = F.es.length → (F.ec = none → szF Ss F x.toInt = if A.all (fun e => szS Ss e.2.2 == szS Ss F.ot) = true then szS Ss F.ot else -1) → AW g l (d + 1) MX12_sizeOf 283 [some (vR 12 (some m)), some (vI (fx : Int)), none, none, some (vJ (i2j (szS Ss F.ot))), none, some (vI (j : Int))] [] σ (fun v σ' => ∃ r, v = some (vJ r) ∧ P r σ') := by
        intro A
        induction A with
        | nil =>
          intro j _ hj hA
          have hj : j + 0 = F.es.length := hj
          refine bk_X12_sizeOf_283 ⟨hL, ⟨by omega, by omega⟩, ?_⟩
          rw [fn, p7]
          exact ⟨fun _ => hh _ _ (i2j_s (by omega) (by omega)) (fun y => by rw [hA y]; rfl), fun z => absurd (by omega) z⟩
        | cons e A ih =>
          intro j hA hj hA2
          have hj : j + (A.length + 1) = F.es.length := hj
          have c0 := hA 0 e rfl
          rw [Nat.add_zero] at c0
          have pe := (p10 j e c0).2.2 q.1
          have be := q.2.2.2.2.2.2.2 e (List.mem_of_getElem? c0)
          have ze := zS e.2.2
          refine bk_X12_sizeOf_283 ⟨hL, ⟨by omega, by omega⟩, ?_⟩
          rw [fn, p7, hb, show (16 * (fx : Int) + (j : Int)).toNat = 16 * fx + j by omega, pe, show (20 * (b : Int) + e.2.2).toNat = 20 * b + e.2.2.toNat by omega, hS _ be.1 be.2]
          refine ⟨fun z => absurd z (by omega), fun _ => ⟨⟨by omega, by omega⟩, ⟨by omega, by omega⟩, ⟨by omega, by omega⟩, ⟨by omega, by omega⟩, ⟨by omega, by omega⟩, ⟨by omega, by omega⟩, fun z => ⟨⟨by omega, by omega⟩, ih (j + 1) (fun k e' he => by rw [show j + 1 + k = j + (k + 1) by omega]; exact hA (k + 1) e' he) (by omega) (fun y => ?_)⟩, fun z => hh _ (-1) rfl (fun y => ?_)⟩⟩
          · have : szS Ss e.2.2 = szS Ss F.ot := by
              have := congrArg Int64.toInt z
              rw [i2j_s (by omega) (by omega), i2j_s (by omega) (by omega)] at this; exact this
            rw [hA2 y, List.all_cons, this, beq_self_eq_true, Bool.true_and]
          · have : ¬ szS Ss e.2.2 = szS Ss F.ot := fun w => z (by rw [w])
            rw [hA2 y, List.all_cons, show (szS Ss e.2.2 == szS Ss F.ot) = false by simpa using this, Bool.false_and]
            rfl
      exact loop F.es 0 (fun k e he => by rw [Nat.zero_add]; exact he) (by omega) e2
    · have : szS Ss F.ot = -1 := by unfold szS; rw [if_pos (by omega)]
      rw [e2 y, this]
      split <;> rfl
  · -- pointers
    have kk := kR_7 q.1
    rw [kk, wid q.2.2.2.1]
    exact ⟨fun z => by omega, fun z => by omega, fun z => by omega, fun z => by omega, fun z => by omega, fun z => by omega, fun z => by omega, fun _ => hh _ _ (i2j_s (by omega) (by omega)) (fun z => by unfold szF; rw [if_neg (fun y => y z), if_neg (by omega), if_neg (by omega), if_neg (by omega), if_neg (by omega), if_neg (by omega), if_neg (by omega)]), fun z => by omega, fun z => by omega, fun z => by omega⟩
  · -- PAD
    have kk := kR_8 q.1
    have n1 := q.2.2.2.2.1
    have n2 := q.2.2.2.2.2
    have en := k2 (Or.inr (Or.inl q.1))
    rw [kk, en]
    have tn : (i2j F.nu.toInt).toInt = F.nu.toInt := i2j_s (by omega) (by omega)
    have nz : ¬ i2j F.nu.toInt = 0 := fun y => by have := congrArg Int64.toInt y; rw [tn, z0] at this; omega
    refine ⟨fun z => by omega, fun z => by omega, fun z => by omega, fun z => by omega, fun z => by omega, fun z => by omega, fun z => by omega, fun z => by omega, fun _ => ⟨nz, nz, hh _ ((-x.toInt) % F.nu.toInt) ?_ (fun z => ?_)⟩, fun z => by omega, fun z => by omega⟩
    · have r1 := j_rem_pos (x := x) (n := i2j F.nu.toInt) hx.1 (by omega)
      rw [tn] at r1
      have m0 := Int.emod_nonneg x.toInt (show F.nu.toInt ≠ 0 by omega)
      have m1 := Int.emod_lt_of_pos x.toInt (show 0 < F.nu.toInt by omega)
      have sb : (i2j F.nu.toInt - j_rem x (i2j F.nu.toInt)).toInt = F.nu.toInt - x.toInt % F.nu.toInt := by
        rw [Int64.toInt_sub, r1, tn, bmod64]
        generalize x.toInt % F.nu.toInt = k at *
        omega
      rw [j_rem_pos (by rw [sb]; omega) (by omega), sb, tn]
      have ee := Int.mul_ediv_add_emod x.toInt F.nu.toInt
      have e3 : F.nu.toInt - x.toInt % F.nu.toInt = -x.toInt + F.nu.toInt * (x.toInt / F.nu.toInt + 1) := by
        rw [Int.mul_add, Int.mul_one]
        generalize F.nu.toInt * (x.toInt / F.nu.toInt) = k at *
        omega
      rw [e3, Int.add_mul_emod_self_left]
    · unfold szF; rw [if_neg (fun y => y z), if_neg (by omega), if_neg (by omega), if_neg (by omega), if_neg (by omega), if_pos q.1, if_neg (by omega)]
  · -- MAGIC
    have kk := kR_9 q.1
    rw [kk, p7]
    exact ⟨fun z => by omega, fun z => by omega, fun z => by omega, fun z => by omega, fun z => by omega, fun z => by omega, fun z => by omega, fun z => by omega, fun z => by omega, fun _ => hh _ _ (i2j_s (by omega) (by omega)) (fun z => by unfold szF; rw [if_neg (fun y => y z), if_neg (by omega), if_neg (by omega), if_neg (by omega), if_neg (by omega), if_neg (by omega), if_pos q.1]), fun z => by omega⟩
  · -- SUM
    have kk := kR_10 q.1
    rw [kk, wid q.2.2.2.1]
    exact ⟨fun z => by omega, fun z => by omega, fun z => by omega, fun z => by omega, fun z => by omega, fun z => by omega, fun z => by omega, fun z => by omega, fun z => by omega, fun z => by omega, fun _ => hh _ _ (i2j_s (by omega) (by omega)) (fun z => by unfold szF; rw [if_neg (fun y => y z), if_neg (by omega), if_neg (by omega), if_neg (by omega), if_neg (by omega), if_neg (by omega), if_neg (by omega)])⟩
theorem szA_big : ∀ (Fs : List Fld) (a : Int), 1000000 < a → szA Ss Fs a = -1
  | [], a, h => by unfold szA; rw [if_pos h]
  | F :: Fs, a, h => by
    unfold szA
    split
    · rfl
    · exact szA_big Fs _ (by omega)
theorem m_sized {s : Nat} {P : Int → St → Prop} (hL : LC 12 σ m) (hb : gI σ 1253 m 0 = (b : Int)) (b2 : b < 2) (hs : s < 20) (hn : gI σ 1222 m (20 * b + s) = (Fs.length : Int)) (h14 : Fs.length ≤ 14) (hS : ∀ s : Int, 0 ≤ s → s < Ss.length → gI σ 1223 m (20 * b + s.toNat) = szS Ss s) (s20 : Ss.length ≤ 20) (hW : ∀ (s : Nat) (S : Stc), Ss[s]? = some S → -1 ≤ S.2.2 ∧ S.2.2 ≤ 1000000) (hF : ∀ k F, Fs[k]? = some F → FR σ m b (14 * (20 * b + s) + k) F) (hw : ∀ F ∈ Fs, WFf En.length Ss F)
    (h : P (szA Ss Fs 0) σ) : ACi g l (d + 2) MX12_sized [vR 12 (some m), vI (s : Int)] σ P := by
  have m1 : (1000000 : Int64).toInt = 1000000 := rfl
  have zz : (0 : Int64).toInt = 0 := rfl
  have loop : ∀ (L : List Fld) (j : Nat) (x : Int64), (∀ k F, L[k]? = some F → FR σ m b (14 * (20 * b + s) + (j + k)) F) → (∀ F ∈ L, WFf En.length Ss F) → j + L.length = Fs.length → 0 ≤ x.toInt → x.toInt ≤ 1000000 → P (szA Ss L x.toInt) σ → AW g l (d + 2) MX12_sized 5 [some (vR 12 (some m)), some (vI (s : Int)), some (vJ x), none, some (vI (j : Int)), none, none, none] [] σ (fun v σ' => ∃ r, v = some (vI r) ∧ P r σ') := by
    intro L
    induction L with
    | nil =>
      intro j x _ _ hj x0 x1 hP
      have hj : j + 0 = Fs.length := hj
      unfold szA at hP
      rw [if_neg (by omega)] at hP
      refine bk_X12_sized_5 ⟨hL, ?_⟩
      rw [hb, show (20 * (b : Int) + (s : Int)).toNat = 20 * b + s by omega, hn]
      exact ⟨⟨by omega, by omega⟩, ⟨by omega, by omega⟩, ⟨by omega, by omega⟩, fun _ => ⟨_, rfl, by rw [j2i_eq, w32_id (by omega) (by omega)]; exact hP⟩, fun q => absurd (by omega) q⟩
    | cons F L ih =>
      intro j x hn' hw' hj x0 x1 hP
      have hj : j + (L.length + 1) = Fs.length := hj
      have f0 := hn' 0 F rfl
      rw [Nat.add_zero] at f0
      have wf := hw' F List.mem_cons_self
      have sz := szF_le (b := x.toInt) hW wf
      rw [szA] at hP
      refine bk_X12_sized_5 ⟨hL, ?_⟩
      rw [hb, show (20 * (b : Int) + (s : Int)).toNat = 20 * b + s by omega, hn]
      refine ⟨⟨by omega, by omega⟩, ⟨by omega, by omega⟩, ⟨by omega, by omega⟩, fun q => absurd q (by omega), fun _ => m_field hb b2 (by omega) (by omega) ?_⟩
      rw [show 14 * (20 * (b : Int) + (s : Int)) + (j : Int) = ((14 * (20 * b + s) + j : Nat) : Int) by omega]
      refine m_sizeOf hL hb b2 (by omega) hS s20 hW f0 wf ⟨x0, x1⟩ (fun v hv => ⟨hL, ⟨by omega, by omega⟩, ?_⟩)
      rw [Int.toNat_natCast, zz, m1]
      have ng := (f0.1.1).neg
      have c1 : ¬ F.ec = none → szF Ss F x.toInt = -1 := fun q => by unfold szF; rw [if_pos q]
      refine ⟨fun q => ⟨_, rfl, ?_⟩, fun q => ?_⟩
      · rw [if_pos (by rw [c1 (ng.2.mp q)]; decide)] at hP; exact hP
      · have en := ng.1.mp (by omega)
        have hv := hv en
        rw [← hv] at hP sz
        have ea : (x + v).toInt = x.toInt + v.toInt := by rw [Int64.toInt_add, bmod64]; omega
        rw [ea]
        refine ⟨fun q2 => ⟨fun q3 => ⟨⟨by omega, by omega⟩, ?_⟩, fun q3 => ⟨_, rfl, ?_⟩⟩, fun q2 => ⟨_, rfl, ?_⟩⟩
        · rw [if_neg (by omega), ← ea] at hP
          exact ih (j + 1) (x + v) (fun k G hG => by rw [show j + 1 + k = j + (k + 1) by omega]; exact hn' (k + 1) G hG) (fun G hG => hw' G (List.mem_cons_of_mem _ hG)) (by omega) (by omega) (by omega) hP
        · rw [if_neg (by omega), szA_big _ _ (by omega)] at hP; exact hP
        · rw [if_pos (by omega)] at hP; exact hP
  exact AC.of mo_X12_sized (Nat.le_of_ble_eq_true rfl) (bk_X12_sized_0 (loop Fs 0 0 (fun k F hk => by rw [Nat.zero_add]; exact hF k F hk) hw (by omega) (by decide) (by decide) h))
end M29
