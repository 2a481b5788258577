/-! kids, and the names in exprs -/
def luN (s : TS) (i : Nat) (c : Int) : Option Nat :=
  match (s.k i).find? (fun a => s.d 6 a == 14 * s.d 7 i + c / 13) with
  | none => none
  | some a => if c % 13 = 0 then some a else (s.k a)[(c % 13 - 1).toNat]?
def nmV (Ss : List Stc) (h : Int → Int) (s : TS) (i : Nat) (c : Int) : Option Int64 :=
  match luN s i c with
  | none => none
  | some a => if s.d 3 a = 1 then none else some (vlN Ss h s a)
def StK (Ss : List Stc) (s : TS) (i : Nat) : Prop := (∀ a ∈ s.k i, a < s.c ∧ ∃ (k : Nat) (F : Fld), k < 14 ∧ s.d 6 a = 14 * s.d 7 i + k ∧ gF Ss (s.d 6 a) = some F ∧ s.d 0 a = F.ki) ∧ (s.k i).Pairwise (fun a b => s.d 6 a < s.d 6 b)
def BiK (s : TS) (i : Nat) : Prop := (s.d 3 i = 1 → s.k i = []) ∧ ∀ j a : Nat, (s.k i)[j]? = some a → a < s.c ∧ s.d 8 a = (j : Int) + 1 ∧ s.d 3 a = 0
section T3
variable {g : GP} {l : Launch} {d : Nat} {σ : St} {m b t a i dd c : Nat} {no : Nat → Nat} {so : Nat → Nat} {fo : Nat → Nat → Nat} {En : List Enm} {Ss : List Stc} {s : TS} {h : Int → Int} {len im : Int}
theorem x_kidAt {j : Int} {P : Option Nat → St → Prop} (hN : NdC σ no fo Ss s i) (hl : (s.k i).length ≤ 400) (hj : j < 2147483648) (hP : P (if 0 ≤ j then (s.k i)[j.toNat]?.map no else none) σ) : ACr g l d MX5_kidAt 5 [vR 5 (some (no i)), vI j] σ P := by
  obtain ⟨n1, n2, n3, n4, n5, n6, n7, n8, n9, n10, n11, n12, n13, n14⟩ := hN
  refine AC.of mo_X5_kidAt (Nat.le_of_ble_eq_true rfl) (bk_X5_kidAt_0 ⟨fun q => ⟨_, rfl, by rw [if_neg (by omega)] at hP; exact hP⟩, fun q => ?_⟩)
  rw [if_pos (by omega)] at hP
  rw [n9, n10]
  refine ⟨fun z => ?_, fun z => ⟨_, rfl, by rw [List.getElem?_eq_none (by omega)] at hP; exact hP⟩⟩
  have loop : ∀ (k q : Nat), k + q = j.toNat → AW g l d MX5_kidAt 21 [none, some (vI j), some (vR 5 ((s.k i)[q]?.map no)), some (vI (q : Int))] [] σ (fun v σ' => ∃ r, v = some (vR 5 r) ∧ P r σ') := by
    intro k
    induction k with
    | zero =>
      intro q hq
      refine bk_X5_kidAt_21 ⟨fun _ => ⟨_, rfl, ?_⟩, fun w => absurd (by omega) w⟩
      rw [show q = j.toNat by omega]; exact hP
    | succ k ih =>
      intro q hq
      have lt : q < (s.k i).length := by omega
      have ge : (s.k i)[q]? = some (s.k i)[q] := List.getElem?_eq_getElem lt
      have nx := n12 q _ ge
      refine bk_X5_kidAt_21 ⟨fun w => absurd w (by omega), fun _ => ?_⟩
      rw [ge]
      refine ⟨(fun w => nomatch w), fun r hr => ⟨⟨by omega, by omega⟩, ?_⟩⟩
      obtain rfl : no (s.k i)[q] = r := by simpa using hr
      rw [nx]
      exact ih (q + 1) (by omega)
  exact loop j.toNat 0 (by omega)
theorem x_kidMeant {c : Int} {P : Option Nat → St → Prop} (hC : ∀ a, a < s.c → NdC σ no fo Ss s a) (hl : ∀ a, a < s.c → (s.k a).length ≤ 400) (hi : i < s.c) (hS : StK Ss s i) (h7 : 0 ≤ s.d 7 i ∧ s.d 7 i < 20) (hd : DSh σ dd so fo) (hc : 0 ≤ c ∧ c ≤ 1000) (hP : P ((luN s i c).map no) σ) : ACr g l (d + 1) MX5_kidMeant 5 [vR 5 (some (no i)), vI c] σ P := by
  have dv : i_div c 13 = c / 13 := i_div_pos hc.1 (by omega) (by omega) (by omega)
  have rm : i_rem c 13 = c % 13 := i_rem_pos hc.1 (by omega) (by omega) (by omega)
  obtain ⟨n1, n2, n3, n4, n5, n6, n7, n8, n9, n10, n11, n12, n13, n14⟩ := hC i hi
  have loop : ∀ (A : List Nat) (q : Nat), (∀ k a, A[k]? = some a → (s.k i)[q + k]? = some a) → q + A.length = (s.k i).length → P ((match A.find? (fun a => s.d 6 a == 14 * s.d 7 i + c / 13) with
      | none => none
      | some a => if c % 13 = 0 then some a else (s.k a)[(c % 13 - 1).toNat]?).map no) σ → AW g l (d + 1) MX5_kidMeant 12 [none, some (vI c), some (vI (c % 13 - 1)), some (vR 5 ((s.k i)[q]?.map no))] [] σ (fun v σ' => ∃ r, v = some (vR 5 r) ∧ P r σ') := by
    intro A
    induction A with
    | nil =>
      intro q _ hq hP
      have hq : q + 0 = (s.k i).length := hq
      refine bk_X5_kidMeant_12 ?_
      rw [List.getElem?_eq_none (by omega)]
      exact ⟨fun _ => ⟨_, rfl, hP⟩, (fun _ w => nomatch w)⟩
    | cons a A ih =>
      intro q hA hq hP
      have hq : q + (A.length + 1) = (s.k i).length := hq
      have c0 := hA 0 a rfl
      rw [Nat.add_zero] at c0
      have nx := n12 q a c0
      obtain ⟨ac, k, F, k14, e6, hF, e0⟩ := hS.1 a (List.mem_of_getElem? c0)
      obtain ⟨m1, m2, m3, m4, m5, m6, m7, m8, m9, m10, m11, m12, m13, m14⟩ := hC a ac
      have f200 := ((hd.1 (s.d 7 i).toNat (by omega)).2.2 k k14).2
      refine bk_X5_kidMeant_12 ?_
      rw [c0]
      refine ⟨(fun w => nomatch w), fun r hr => ?_⟩
      obtain rfl : no a = r := by simpa using hr
      rw [m7, nx, dv]
      unfold oF
      rw [if_neg (by omega)]
      refine ⟨(fun w => nomatch w), fun r hr => ?_⟩
      obtain rfl : fo (s.d 6 a / 14).toNat (s.d 6 a % 14).toNat = r := by simpa using hr
      rw [show (s.d 6 a / 14).toNat = (s.d 7 i).toNat by omega, show (s.d 6 a % 14).toNat = k by omega, f200]
      rw [List.find?_cons] at hP
      refine ⟨fun w => ?_, fun w => ?_⟩
      · rw [show (s.d 6 a == 14 * s.d 7 i + c / 13) = false by simp; omega] at hP
        exact ih (q + 1) (fun k a' ha' => by rw [show q + 1 + k = q + (k + 1) by omega]; exact hA (k + 1) a' ha') (by omega) hP
      · rw [show (s.d 6 a == 14 * s.d 7 i + c / 13) = true by simp; omega] at hP
        have hP : P ((if c % 13 = 0 then some a else (s.k a)[(c % 13 - 1).toNat]?).map no) σ := hP
        refine ⟨fun z => x_kidAt (hC a ac) (hl a ac) (by omega) ⟨_, rfl, ?_⟩, fun z => ⟨_, rfl, ?_⟩⟩
        · rw [if_neg (by omega)] at hP
          rw [if_pos z]; exact hP
        · rw [if_pos (by omega)] at hP; exact hP
  refine AC.of mo_X5_kidMeant (Nat.le_of_ble_eq_true rfl) (bk_X5_kidMeant_0 ?_)
  rw [rm, n10]
  refine ⟨⟨by omega, by omega⟩, loop (s.k i) 0 (fun k a ha => by rw [Nat.zero_add]; exact ha) (by omega) ?_⟩
  unfold luN at hP; exact hP
/-- a name in the reference -/
theorem m_named_ {c : Int} {P : Int64 → St → Prop} (hI : ImR σ m im len h) (hFd : FdR σ m b Ss) (hB : ∀ fl F, gF Ss fl = some F → F.ki = 3 → BiO F.es 0 (8 * tw F.ty) ∧ F.es.length ≤ 12) (h400 : s.c ≤ 400) (ht : t < 7) (hC : ∀ a, a < s.c → NdR σ m t b s a) (hW : ∀ a, a < s.c → NdW Ss len s a) (hBk : ∀ a, a < s.c → s.d 0 a = 3 → BiK s a) (hi : i < s.c) (hS : StK Ss s i) (h7 : 0 ≤ s.d 7 i ∧ s.d 7 i < 20) (hb : gI σ 1253 m 0 = (b : Int)) (hc : 0 ≤ c ∧ c ≤ 1000) (hk : ∀ F, gF Ss (14 * s.d 7 i + c / 13) = some F → c % 13 = 0 ∨ F.ki = 3) (hc2 : c / 13 < 14)
    (h1 : ∀ v, nmV Ss h s i c = some v → P v σ) (h0 : nmV Ss h s i c = none → P 0 (sI σ 1286 m 0 1)) : ACj g l (d + 4) MX12_named_ [vR 12 (some m), vI ((400 * t + i : Nat) : Int), vI (cv c)] σ P := by
  have cvv : cv c = 16 * (c / 13) + c % 13 := rfl
  have dv : i_div (cv c) 16 = c / 13 := by rw [i_div_pos (by omega) (by omega) (by omega) (by omega), cvv]; omega
  have rm : i_rem (cv c) 16 = c % 13 := by rw [i_rem_pos (by omega) (by omega) (by omega) (by omega), cvv]; omega
  obtain ⟨n1, n2, n3, n4, n5, n6, n7, n8, n9, n10, n11, n12, n13⟩ := hC i hi
  have lc := hI.1
  have b2 := hFd.1
  have hg : ∀ v : Int64, True → True := fun _ _ => trivial
  have oh : ∀ q : Nat, (match (s.k i)[q]? with
      | some a => ((400 * t + a : Nat) : Int)
      | none => -1) = (match (s.k i)[q]? with
      | some a => ((400 * t + a : Nat) : Int)
      | none => -1) := fun _ => rfl
  have loop : ∀ (A : List Nat) (q : Nat), (∀ k a, A[k]? = some a → (s.k i)[q + k]? = some a) → q + A.length = (s.k i).length → A.Pairwise (fun a b => s.d 6 a < s.d 6 b) → (nmV Ss h s i c = (match (match A.find? (fun a => s.d 6 a == 14 * s.d 7 i + c / 13) with
      | none => none
      | some a => if c % 13 = 0 then some a else (s.k a)[(c % 13 - 1).toNat]?) with
      | none => none
      | some a => if s.d 3 a = 1 then none else some (vlN Ss h s a))) → AW g l (d + 4) MX12_named_ 23 [some (vR 12 (some m)), none, some (vI (cv c)), some (vI (((280 * b : Nat) : Int) + (14 * s.d 7 i + c / 13))), some (vI (match (s.k i)[q]? with
      | some a => ((400 * t + a : Nat) : Int)
      | none => -1)), none] [] σ (fun v σ' => ∃ r, v = some (vJ r) ∧ P r σ') := by
    intro A
    induction A with
    | nil =>
      intro q _ hq _ e
      have hq : q + 0 = (s.k i).length := hq
      refine bk_X12_named__23 ?_
      rw [List.getElem?_eq_none (by omega)]
      exact ⟨fun _ => ⟨_, rfl, h0 e⟩, fun w => absurd (show (-1 : Int) < 0 by decide) w⟩
    | cons a A ih =>
      intro q hA hq hpw e
      have hq : q + (A.length + 1) = (s.k i).length := hq
      have c0 := hA 0 a rfl
      rw [Nat.add_zero] at c0
      have nx := n13.1 q a c0
      obtain ⟨ac, k, F, k14, e6, hF, e0⟩ := hS.1 a (List.mem_of_getElem? c0)
      obtain ⟨m1, m2, m3, m4, m5, m6, m7, m8, m9, m10, m11, m12, m13⟩ := hC a ac
      obtain ⟨pw1, pw2⟩ := List.pairwise_cons.mp hpw
      have go := fun e' => ih (q + 1) (fun k a' ha' => by rw [show q + 1 + k = q + (k + 1) by omega]; exact hA (k + 1) a' ha') (by omega) pw2 e'
      refine bk_X12_named__23 ?_
      rw [c0]
      dsimp only
      refine ⟨fun w => by omega, fun _ => ⟨lc, ⟨by omega, by omega⟩, ?_⟩⟩
      rw [Int.toNat_natCast, m7, if_neg (show ¬ s.d 6 a < 0 by omega), m4, nx, rm, m11]
      rw [List.find?_cons] at e
      -- no other has this field
      have none' : s.d 6 a = 14 * s.d 7 i + c / 13 → A.find? (fun a => s.d 6 a == 14 * s.d 7 i + c / 13) = none := fun ea => by
        rw [List.find?_eq_none]
        intro x hx
        have := pw1 x hx
        simp; omega
      have rest : s.d 6 a = 14 * s.d 7 i + c / 13 → nmV Ss h s i c = none → AW g l (d + 4) MX12_named_ 23 [some (vR 12 (some m)), none, some (vI (cv c)), some (vI (((280 * b : Nat) : Int) + (14 * s.d 7 i + c / 13))), some (vI (match (s.k i)[q + 1]? with
          | some a => ((400 * t + a : Nat) : Int)
          | none => -1)), none] [] σ (fun v σ' => ∃ r, v = some (vJ r) ∧ P r σ') := fun ea en => go (by rw [en, none' ea])
      refine ⟨fun w => ?_, fun w => ?_⟩
      · rw [show (s.d 6 a == 14 * s.d 7 i + c / 13) = false by simp; omega] at e
        exact go e
      · have ea : s.d 6 a = 14 * s.d 7 i + c / 13 := by omega
        rw [show (s.d 6 a == 14 * s.d 7 i + c / 13) = true by simp; omega] at e
        have e : nmV Ss h s i c = (match (if c % 13 = 0 then some a else (s.k a)[(c % 13 - 1).toNat]?) with
          | none => none
          | some a => if s.d 3 a = 1 then none else some (vlN Ss h s a)) := e
        rw [ea] at hF
        refine ⟨fun f1 => ⟨fun z => ?_, fun z => ?_⟩, fun f1 => ?_⟩
        · -- a part
          rw [if_neg z] at e
          have k3 := (hk F hF).resolve_left z
          have bk := hBk a ac (by rw [e0]; exact k3)
          have parts : ∀ (E : List Nat) (q2 : Nat), (∀ k a', E[k]? = some a' → (s.k a)[q2 + k]? = some a') → q2 + E.length = (s.k a).length → (q2 : Int) ≤ c % 13 - 1 ∨ (s.k a)[(c % 13 - 1).toNat]? = none → AW g l (d + 4) MX12_named_ 76 [some (vR 12 (some m)), none, some (vI (cv c)), some (vI (((280 * b : Nat) : Int) + (14 * s.d 7 i + c / 13))), some (vI ((400 * t + a : Nat) : Int)), some (vI (match (s.k a)[q2]? with
              | some a => ((400 * t + a : Nat) : Int)
              | none => -1))] [] σ (fun v σ' => ∃ r, v = some (vJ r) ∧ P r σ') := by
            intro E
            induction E with
            | nil =>
              intro q2 _ hq2 hle
              have hq2 : q2 + 0 = (s.k a).length := hq2
              refine bk_X12_named__76 ?_
              rw [List.getElem?_eq_none (by omega)]
              refine ⟨fun _ => ⟨lc, ⟨by omega, by omega⟩, ?_⟩, fun w => absurd (show (-1 : Int) < 0 by decide) w⟩
              rw [Int.toNat_natCast, nx]
              refine rest ea ?_
              have : (s.k a)[(c % 13 - 1).toNat]? = none := by
                rcases hle with u | u
                · exact List.getElem?_eq_none (by omega)
                · exact u
              rw [e, this]
            | cons x E ihE =>
              intro q2 hE hq2 hle
              have hq2 : q2 + (E.length + 1) = (s.k a).length := hq2
              have x0 := hE 0 x rfl
              rw [Nat.add_zero] at x0
              obtain ⟨xc, x8, x3⟩ := bk.2 q2 x x0
              obtain ⟨y1, y2, y3, y4, y5, y6, y7, y8, y9, _⟩ := hC x xc
              have ny := m13.1 q2 x x0
              refine bk_X12_named__76 ?_
              rw [x0]
              dsimp only
              refine ⟨fun w => by omega, fun _ => ⟨lc, ⟨by omega, by omega⟩, ?_⟩⟩
              rw [Int.toNat_natCast, y9, ny, rm, x8]
              refine ⟨fun w => ihE (q2 + 1) (fun k a' ha' => by rw [show q2 + 1 + k = q2 + (k + 1) by omega]; exact hE (k + 1) a' ha') (by omega) (hle.imp (fun u => by omega) id), fun w => ?_⟩
              have px : (s.k a)[(c % 13 - 1).toNat]? = some x := by rw [show (c % 13 - 1).toNat = q2 by omega]; exact x0
              rw [px] at e
              have e : nmV Ss h s i c = if s.d 3 x = 1 then none else some (vlN Ss h s x) := e
              rw [if_neg (by omega)] at e
              exact m_valueOf hI hFd hB (by omega) ht (hC x xc) (hW x xc) ⟨_, rfl, h1 _ e⟩
          exact parts (s.k a) 0 (fun k a' ha' => by rw [Nat.zero_add]; exact ha') (by omega) (Or.inl (by omega))
        · rw [if_pos z] at e
          have e : nmV Ss h s i c = if s.d 3 a = 1 then none else some (vlN Ss h s a) := e
          rw [if_neg f1] at e
          exact m_valueOf hI hFd hB (by omega) ht (hC a ac) (hW a ac) ⟨_, rfl, h1 _ e⟩
        · refine rest ea ?_
          rw [e]
          by_cases z : c % 13 = 0
          · rw [if_pos z]; show (if s.d 3 a = 1 then none else some (vlN Ss h s a)) = none; rw [if_pos f1]
          · rw [if_neg z]
            have k3 := (hk F hF).resolve_left z
            rw [(hBk a ac (by rw [e0]; exact k3)).1 f1]
            rfl
  refine AC.of mo_X12_named_ (Nat.le_of_ble_eq_true rfl) (bk_X12_named__0 ⟨lc, ⟨by omega, by omega⟩, ?_⟩)
  rw [Int.toNat_natCast, n8, dv]
  refine m_field hb b2 (by omega) (by omega) ⟨lc, ?_⟩
  rw [n11, show 14 * (20 * (b : Int) + s.d 7 i) + c / 13 = ((280 * b : Nat) : Int) + (14 * s.d 7 i + c / 13) by omega]
  exact loop (s.k i) 0 (fun k a ha => by rw [Nat.zero_add]; exact ha) (by omega) hS.2 (by unfold nmV luN; rfl)
end T3
