/-! trees: nodes by numbers; kind, from, to, fault, met, parent, field, struct, part, how far from node 0 -/
abbrev ND := Nat → Nat → Int
abbrev TS := Nat × ND × (Nat → List Nat)
abbrev TS.c (s : TS) : Nat := s.1
abbrev TS.d (s : TS) : ND := s.2.1
abbrev TS.k (s : TS) : Nat → List Nat := s.2.2
def upN (nd : ND) (f i : Nat) (v : Int) : ND := fun f' i' => if f' = f ∧ i' = i then v else nd f' i'
abbrev TS.w (s : TS) (f i : Nat) (v : Int) : TS := (s.c, upN s.d f i v, s.k)
def iniN (s : TS) (what par place fld : Int) (f : Nat) : Int := if f = 0 then what else if f = 1 then place else if f = 2 then place else if f = 5 then par else if f = 6 then fld else if f = 7 then -1 else if f = 9 then (if par < 0 then 0 else s.d 9 par.toNat + 1) else 0
def mkN (s : TS) (what par place fld : Int) : TS := (s.c + 1, fun f i => if i = s.c then iniN s what par place fld f else s.d f i, fun i => if i = s.c then [] else if par = (i : Int) then s.k i ++ [s.c] else s.k i)
def gF (Ss : List Stc) (fl : Int) : Option Fld := if fl < 0 then none else (Ss[(fl / 14).toNat]?).bind (fun S => S.2.1[(fl % 14).toNat]?)
/-- the bytes at p read by a type -/
def rdP (h : Int → Int) (t : Int64) (p : Int) : Int64 := rv (fun i => h (if tbg t = 0 then p + tw t - 1 - i else p + i)) (tw t).toNat
def sgn (t : Int64) (v : Int64) : Int64 := if tsg t = 0 then v else j_shr (j_shl v (64 - 8 * tw t)) (64 - 8 * tw t)
/-- the VALUE of a node -/
def vlN (Ss : List Stc) (h : Int → Int) (s : TS) (i : Nat) : Int64 :=
  if s.d 3 i = 1 then 0 else if s.d 0 i = 2 then i2j ((s.k i).length : Int) else
  match gF Ss (s.d 6 i) with
  | none => 0
  | some F => if s.d 0 i = 5 then i2j (s.d 2 i - s.d 1 i - (if F.e1 = none then 1 else 0))
    else if s.d 0 i = 1 ∨ s.d 0 i = 7 ∨ s.d 0 i = 10 then sgn F.ty (rdP h F.ty (s.d 1 i))
    else if s.d 0 i = 3 then rdP h F.ty (s.d 1 i)
    else if s.d 0 i = 4 then (match F.es[(s.d 8 i - 1).toNat]? with
      | some e => j_ushr (rdP h F.ty (s.d 1 i)) e.2.2 &&& mkv e.2.1.toInt
      | none => 0)
    else 0
def oN (no : Nat → Nat) (v : Int) : Option Nat := if v < 0 then none else some (no v.toNat)
def oF (fo : Nat → Nat → Nat) (v : Int) : Option Nat := if v < 0 then none else some (fo (v / 14).toNat (v % 14).toNat)
/-- a node's name -/
def nmN (Ss : List Stc) (s : TS) (i : Nat) : Int64 :=
  if s.d 6 i < 0 then (match Ss[(s.d 7 i).toNat]? with
    | some S => S.1
    | none => 0)
  else match gF Ss (s.d 6 i) with
  | none => 0
  | some F => if s.d 0 i = 4 then (match F.es[(s.d 8 i - 1).toNat]? with
      | some e => e.1
      | none => 0)
    else if s.d 0 i = 1 ∧ F.ki = 2 then 0 else F.nm
/-- a node in the class -/
def NdC (σ : St) (no : Nat → Nat) (fo : Nat → Nat → Nat) (Ss : List Stc) (s : TS) (i : Nat) : Prop :=
  gI σ 501 (no i) 0 = s.d 0 i ∧ gI σ 502 (no i) 0 = s.d 1 i ∧ gI σ 503 (no i) 0 = s.d 2 i ∧ gI σ 504 (no i) 0 = s.d 3 i ∧ gI σ 505 (no i) 0 = s.d 4 i ∧ gR σ 507 (no i) 0 = oN no (s.d 5 i) ∧ gR σ 513 (no i) 0 = oF fo (s.d 6 i) ∧ gI σ 514 (no i) 0 = s.d 7 i ∧ gI σ 511 (no i) 0 = ((s.k i).length : Int) ∧ gR σ 508 (no i) 0 = (s.k i)[0]?.map no ∧ gR σ 509 (no i) 0 = (s.k i).getLast?.map no ∧ (∀ j a, (s.k i)[j]? = some a → gR σ 510 (no a) 0 = (s.k i)[j + 1]?.map no) ∧ gI σ 512 (no i) 0 = s.d 9 i ∧
  (s.d 0 i = 4 → ∀ F e, gF Ss (s.d 6 i) = some F → F.es[(s.d 8 i - 1).toNat]? = some e → gI σ 515 (no i) 0 = e.2.2 ∧ gI σ 516 (no i) 0 = e.2.1.toInt)
/-- a node in the reference, tree t, base b -/
def oI (t : Nat) (v : Int) : Int := if v < 0 then -1 else ((400 * t : Nat) : Int) + v
def NdR (σ : St) (m t b : Nat) (s : TS) (i : Nat) : Prop :=
  gI σ 1267 m (400 * t + i) = s.d 0 i ∧ gI σ 1268 m (400 * t + i) = s.d 1 i ∧ gI σ 1269 m (400 * t + i) = s.d 2 i ∧ gI σ 1272 m (400 * t + i) = s.d 3 i ∧ gI σ 1279 m (400 * t + i) = s.d 4 i ∧ gI σ 1270 m (400 * t + i) = oI t (s.d 5 i) ∧ gI σ 1274 m (400 * t + i) = (if s.d 6 i < 0 then -1 else ((280 * b : Nat) : Int) + s.d 6 i) ∧ gI σ 1273 m (400 * t + i) = s.d 7 i ∧ gI σ 1275 m (400 * t + i) = s.d 8 i ∧ gI σ 1271 m (400 * t + i) = ((s.k i).length : Int) ∧ gI σ 1276 m (400 * t + i) = (match (s.k i)[0]? with
    | some a => ((400 * t + a : Nat) : Int)
    | none => -1) ∧ gI σ 1277 m (400 * t + i) = (match (s.k i).getLast? with
    | some a => ((400 * t + a : Nat) : Int)
    | none => -1) ∧ (∀ j a, (s.k i)[j]? = some a → gI σ 1278 m (400 * t + a) = (match (s.k i)[j + 1]? with
    | some a' => ((400 * t + a' : Nat) : Int)
    | none => -1)) ∧ (gI σ 1278 m (400 * t + i) = -1 ∨ 400 * (t : Int) ≤ gI σ 1278 m (400 * t + i) ∧ gI σ 1278 m (400 * t + i) < 400 * (t : Int) + 400) ∧ (gI σ 1279 m (400 * t + i) = 0 ∨ gI σ 1279 m (400 * t + i) = 1)
/-- what a node is -/
def isNu (k : Int) : Prop := k = 1 ∨ k = 3 ∨ k = 4 ∨ k = 7 ∨ k = 10
def NdW (Ss : List Stc) (len : Int) (s : TS) (i : Nat) : Prop :=
  (0 ≤ s.d 1 i ∧ s.d 1 i ≤ s.d 2 i ∧ s.d 2 i ≤ len) ∧ (0 ≤ s.d 0 i ∧ s.d 0 i ≤ 10) ∧
  (s.d 6 i = -1 ∧ s.d 0 i = 0 ∨ 0 ≤ s.d 6 i ∧ ∃ F, gF Ss (s.d 6 i) = some F ∧ (s.d 0 i = F.ki ∧ ¬ F.ki = 4 ∨ s.d 0 i = 4 ∧ F.ki = 3 ∧ 1 ≤ s.d 8 i ∧ s.d 8 i ≤ F.es.length ∨ s.d 0 i = 1 ∧ F.ki = 2 ∧ F.st = -1) ∧ (isNu (s.d 0 i) → TyR F.ty ∧ (¬ s.d 3 i = 1 → s.d 1 i + tw F.ty ≤ len)) ∧ (s.d 0 i = 5 → F.e1 = none → ¬ s.d 3 i = 1 → s.d 1 i + 1 ≤ s.d 2 i)) ∧
  (s.k i).length ≤ 400 ∧ (s.d 0 i = 0 → 0 ≤ s.d 7 i ∧ s.d 7 i < Ss.length)
theorem gF_some {Ss : List Stc} {fl : Int} {F : Fld} (h : gF Ss fl = some F) : 0 ≤ fl ∧ ∃ S, Ss[(fl / 14).toNat]? = some S ∧ S.2.1[(fl % 14).toNat]? = some F := by
  unfold gF at h
  by_cases c : fl < 0
  · rw [if_pos c] at h; cases h
  · rw [if_neg c] at h
    cases e : Ss[(fl / 14).toNat]? with
    | none => rw [e] at h; cases h
    | some S => rw [e] at h; exact ⟨by omega, S, rfl, h⟩
theorem gF_at {Ss : List Stc} {s k : Nat} {S : Stc} {F : Fld} (hS : Ss[s]? = some S) (hF : S.2.1[k]? = some F) (hk : k < 14) : gF Ss (14 * (s : Int) + k) = some F := by
  unfold gF
  rw [if_neg (by omega), show ((14 * (s : Int) + (k : Int)) / 14).toNat = s by omega, show ((14 * (s : Int) + (k : Int)) % 14).toNat = k by omega, hS]
  exact hF
theorem ty_and : ∀ n : Nat, n < 64 → i_and (n : Int) 15 = (n : Int) % 16 ∧ (i_and (n : Int) 32 ≤ 0 ↔ (n : Int) / 32 % 2 = 0) ∧ (i_and (n : Int) 16 ≤ 0 ↔ (n : Int) / 16 % 2 = 0) := by decide
theorem ty_bit3 {t : Int64} (h : TyR t) : i_and t.toInt 15 = tw t ∧ (i_and t.toInt 32 ≤ 0 ↔ tbg t = 0) ∧ (i_and t.toInt 16 ≤ 0 ↔ tsg t = 0) := by
  obtain ⟨h1, h2, h3, h4⟩ := h
  have := ty_and t.toInt.toNat (by omega)
  rw [show ((t.toInt.toNat : Nat) : Int) = t.toInt by omega] at this
  refine ⟨this.1, ?_, ?_⟩
  · rw [this.2.1]; unfold tbg; split <;> omega
  · rw [this.2.2]; unfold tsg; split <;> omega
section T1
variable {g : GP} {l : Launch} {d : Nat} {σ : St} {m b t a i dd c : Nat} {no : Nat → Nat} {so : Nat → Nat} {fo : Nat → Nat → Nat} {En : List Enm} {Ss : List Stc} {s : TS} {h : Int → Int} {len : Int}
theorem x_read {p w bg : Int} {P : Int64 → St → Prop} (hL : LC 3 σ a) (h2 : gI σ 304 a 0 ≤ 2000) (h0 : 0 ≤ p) (hw : 0 ≤ w) (h1 : p + w ≤ gI σ 304 a 0) (hP : P (rv (fun i => gI σ 301 a (if bg = 0 then p + w - 1 - i else p + i).toNat) w.toNat) σ) : ACj g l d MX3_read [vR 3 (some a), vI p, vI w, vI bg] σ P := by
  have loop : ∀ (j : Nat) (v : Int64) (k : Int), k = w - j → 0 ≤ k → v = rv (fun i => gI σ 301 a (if bg = 0 then p + w - 1 - i else p + i).toNat) k.toNat →
      AW g l d MX3_read 22 [some (vR 3 (some a)), some (vI p), some (vI w), some (vI bg), some (vJ v), none, some (vI k)] [] σ (fun v σ' => ∃ r, v = some (vJ r) ∧ P r σ') := by
    intro j
    induction j with
    | zero =>
      intro v k hk hk0 hv'
      obtain rfl : k = w := by omega
      refine bk_X3_read_22 ⟨fun _ => ⟨_, rfl, ?_⟩, fun q => absurd (Int.le_refl _) q⟩
      rw [hv']; exact hP
    | succ j ih =>
      intro v k hk hk0 hv'
      have es : rv (fun i => gI σ 301 a (if bg = 0 then p + w - 1 - i else p + i).toNat) (k + 1).toNat = j_shl v 8 ||| i2j (gI σ 301 a (if bg = 0 then p + w - 1 - k else p + k).toNat) := by
        rw [show (k + 1).toNat = k.toNat + 1 by omega, hv']
        show j_shl (rv _ k.toNat) 8 ||| i2j (gI σ 301 a (if bg = 0 then p + w - 1 - (k.toNat : Int) else p + (k.toNat : Int)).toNat) = _
        rw [show ((k.toNat : Nat) : Int) = k by omega]
      refine bk_X3_read_22 ⟨fun q => absurd q (by omega), fun _ => ⟨hL, fun q => ⟨⟨by omega, by omega⟩, ⟨by omega, by omega⟩, ⟨by omega, by omega⟩, ⟨by omega, by omega⟩, ⟨by omega, by omega⟩, ih _ _ (by omega) (by omega) ?_⟩, fun q => ⟨⟨by omega, by omega⟩, ⟨by omega, by omega⟩, ⟨by omega, by omega⟩, ih _ _ (by omega) (by omega) ?_⟩⟩⟩
      · rw [es, if_pos q]
      · rw [es, if_neg q]
  exact AC.of mo_X3_read (Nat.le_of_ble_eq_true rfl) (bk_X3_read_0 ⟨fun q => absurd q (by omega), fun _ => ⟨⟨by omega, by omega⟩, fun _ => loop w.toNat 0 0 (by omega) (by omega) rfl, fun q => absurd h1 q⟩⟩)
theorem x_hasNumber {r : Nat} {k : Int} {P : Int → St → Prop} (hk : gI σ 501 r 0 = k) (h1 : isNu k → P 1 σ) (h0 : ¬ isNu k → P 0 σ) : ACi g l d MX5_hasNumber [vR 5 (some r)] σ P := by
  refine AC.of mo_X5_hasNumber (Nat.le_of_ble_eq_true rfl) (bk_X5_hasNumber_0 ?_)
  rw [hk]
  unfold isNu at h1 h0
  exact ⟨fun z => ⟨_, rfl, h1 (by omega)⟩, fun z => ⟨fun z => ⟨_, rfl, h1 (by omega)⟩, fun z => ⟨fun z => ⟨_, rfl, h1 (by omega)⟩, fun z => ⟨fun z => ⟨_, rfl, h1 (by omega)⟩, fun z => ⟨fun z => ⟨_, rfl, h0 (by omega)⟩, fun z => ⟨_, rfl, h1 (by omega)⟩⟩⟩⟩⟩⟩
theorem x_signs {P : Int → St → Prop} (hN : NdC σ no fo Ss s i) (hW : NdW Ss len s i) (hlen : len ≤ 2000) (k5 : s.d 0 i = 5) (hF : ∀ F, gF Ss (s.d 6 i) = some F → FC σ dd c (fo (s.d 6 i / 14).toNat (s.d 6 i % 14).toNat) F) (h : ∀ F, gF Ss (s.d 6 i) = some F → P (if s.d 3 i = 1 then 0 else s.d 2 i - s.d 1 i - (if F.e1 = none then 1 else 0)) σ) : ACi g l d MX5_signs [vR 5 (some (no i))] σ P := by
  obtain ⟨n1, n2, n3, n4, n5, n6, n7, n8, n9, n10, n11, n12, n13, n14⟩ := hN
  obtain ⟨w1, w2, w3, w4, w5⟩ := hW
  rcases w3 with w3 | ⟨q0, F, q1, q2, q3, q4⟩
  · omega
  have hh := h F q1
  have fc := hF F q1
  have ng : gI σ 209 (fo (s.d 6 i / 14).toNat (s.d 6 i % 14).toNat) 0 = -1 ↔ F.e1 = none := by
    have := fc.e1
    cases e : F.e1 with
    | none => rw [e] at this; exact ⟨fun _ => rfl, fun _ => this⟩
    | some N =>
      rw [e] at this
      obtain ⟨nb, h1, _⟩ := this
      exact ⟨fun q => by omega, fun q => absurd q (by simp)⟩
  have s23 : ∀ y : Int, (y = 1 ∧ F.e1 = none ∨ y = 0 ∧ ¬ F.e1 = none) → AW g l d MX5_signs 23 [some (vR 5 (some (no i))), none] [vI y] σ (fun v σ' => ∃ r, v = some (vI r) ∧ P r σ') := by
    intro y hy
    refine bk_X5_signs_23 ?_
    rw [n4, n3, n2]
    refine ⟨fun q => ⟨⟨by omega, by omega⟩, fun z => ⟨⟨by omega, by omega⟩, _, rfl, ?_⟩, fun z => ⟨⟨by omega, by omega⟩, _, rfl, ?_⟩⟩, fun q => ⟨_, rfl, ?_⟩⟩
    · rw [if_neg q, if_neg (by rcases hy with u | u; omega; exact u.2)] at hh; exact hh
    · rw [if_neg q, if_pos (by rcases hy with u | u; exact u.2; omega)] at hh; exact hh
    · rw [if_pos q] at hh; exact hh
  refine AC.of mo_X5_signs (Nat.le_of_ble_eq_true rfl) (bk_X5_signs_0 ?_)
  rw [n7]
  unfold oF
  rw [if_neg (by omega)]
  refine ⟨(fun q => nomatch q), fun r q => ?_⟩
  obtain rfl : fo (s.d 6 i / 14).toNat (s.d 6 i % 14).toNat = r := by simpa using q
  exact ⟨fun z => s23 0 (Or.inr ⟨rfl, fun w => z (ng.mpr w)⟩), fun z => s23 1 (Or.inl ⟨rfl, ng.mp z⟩)⟩
theorem x_reading {P : Int64 → St → Prop} (hL : LC 3 σ a) (h304 : gI σ 304 a 0 = len) (hlen : len ≤ 2000) (hh : ∀ p : Int, 0 ≤ p → p < len → gI σ 301 a p.toNat = h p) (hN : NdC σ no fo Ss s i) (hW : NdW Ss len s i) (hF : ∀ F, gF Ss (s.d 6 i) = some F → FC σ dd c (fo (s.d 6 i / 14).toNat (s.d 6 i % 14).toNat) F) (hP : P (vlN Ss h s i) σ) : ACj g l (d + 1) MX5_reading [vR 5 (some (no i)), vR 3 (some a)] σ P := by
  have hN' := hN
  have hW' := hW
  obtain ⟨n1, n2, n3, n4, n5, n6, n7, n8, n9, n10, n11, n12, n13, n14⟩ := hN
  obtain ⟨w1, w2, w3, w4, w5⟩ := hW
  unfold vlN at hP
  refine AC.of mo_X5_reading (Nat.le_of_ble_eq_true rfl) (bk_X5_reading_0 ?_)
  rw [n4, n1, n9]
  refine ⟨fun q => ⟨fun q2 => ⟨fun q5 => ?_, fun q5 => ?_⟩, fun q2 => ⟨_, rfl, ?_⟩⟩, fun q => ⟨_, rfl, ?_⟩⟩
  · rw [if_neg q, if_neg q2] at hP
    rcases w3 with w3 | ⟨q0, F, q1, q2', q3, q4⟩
    · have e0 : gF Ss (s.d 6 i) = none := by unfold gF; rw [if_pos (by omega)]
      rw [e0] at hP
      exact x_hasNumber n1 (fun nn => by unfold isNu at nn; omega) (fun nn => ⟨fun _ => ⟨_, rfl, hP⟩, fun z => absurd rfl z⟩)
    rw [q1] at hP
    have fc := hF F q1
    have hP : P (if s.d 0 i = 5 then i2j (s.d 2 i - s.d 1 i - (if F.e1 = none then 1 else 0)) else if s.d 0 i = 1 ∨ s.d 0 i = 7 ∨ s.d 0 i = 10 then sgn F.ty (rdP h F.ty (s.d 1 i)) else if s.d 0 i = 3 then rdP h F.ty (s.d 1 i) else if s.d 0 i = 4 then (match F.es[(s.d 8 i - 1).toNat]? with
      | some e => j_ushr (rdP h F.ty (s.d 1 i)) e.2.2 &&& mkv e.2.1.toInt
      | none => 0) else 0) σ := hP
    rw [if_neg q5] at hP
    refine x_hasNumber n1 (fun nn => ⟨fun z => absurd z (by decide), fun _ => ?_⟩) (fun nn => ⟨fun _ => ⟨_, rfl, ?_⟩, fun z => absurd rfl z⟩)
    · obtain ⟨ty, tl⟩ := q3 nn
      have tl := tl q
      have ty1 := ty.1
      rw [n7]
      unfold oF
      rw [if_neg (by omega)]
      refine ⟨(fun q => nomatch q), fun r qr => ⟨a, rfl, ?_⟩⟩
      obtain rfl : fo (s.d 6 i / 14).toNat (s.d 6 i % 14).toNat = r := by simpa using qr
      rw [n2, fc.xtw, fc.xbg]
      refine x_read hL (by omega) w1.1 (by omega) (by omega) ?_
      have er : rv (fun j => gI σ 301 a (if tbg F.ty = 0 then s.d 1 i + tw F.ty - 1 - j else s.d 1 i + j).toNat) (tw F.ty).toNat = rdP h F.ty (s.d 1 i) := by
        unfold rdP
        refine rv_congr (fun j j0 j1 => ?_)
        have := hh (if tbg F.ty = 0 then s.d 1 i + tw F.ty - 1 - j else s.d 1 i + j) (by split <;> omega) (by split <;> omega)
        exact this
      rw [er, n1, n7]
      unfold oF
      rw [if_neg (by omega)]
      refine ⟨fun z4 => ⟨_, rfl, ?_⟩, fun z4 => ?_⟩
      · rw [fc.xtw, fc.xsg]
        have ty2 := ty.2.1
        refine ⟨⟨by omega, by omega⟩, ⟨by omega, by omega⟩, fun z18 hz => ⟨fun z3 => ⟨_, rfl, ?_⟩, fun z3 => ⟨fun zs => ⟨_, rfl, ?_⟩, fun zs => ⟨_, rfl, ?_⟩⟩⟩⟩
        · rw [if_neg (by omega), if_pos z3] at hP; exact hP
        · unfold isNu at nn
          rw [if_pos (by omega)] at hP
          unfold sgn at hP
          rw [if_pos zs] at hP; exact hP
        · unfold isNu at nn
          rw [if_pos (by omega)] at hP
          unfold sgn at hP
          rw [if_neg zs, ← hz] at hP; exact hP
      · rw [if_neg (by omega), if_neg (by omega), if_pos z4] at hP
        have k3 : 1 ≤ s.d 8 i ∧ s.d 8 i ≤ F.es.length := by
          rcases q2' with u | u | u
          · omega
          · exact ⟨u.2.2.1, u.2.2.2⟩
          · omega
        cases he : F.es[(s.d 8 i - 1).toNat]? with
        | none => rw [List.getElem?_eq_none_iff] at he; omega
        | some e =>
          rw [he] at hP
          obtain ⟨z1, z2⟩ := n14 z4 F e q1 he
          rw [z1, z2]
          exact x_lowBits ⟨_, rfl, hP⟩
    · unfold isNu at nn
      rw [if_neg (by omega), if_neg (by omega), if_neg (by omega)] at hP
      exact hP
  · rw [if_neg q, if_neg q2] at hP
    refine x_signs hN' hW' hlen q5 hF (fun F hF' => ⟨_, rfl, ?_⟩)
    rw [hF'] at hP
    have hP : P (if s.d 0 i = 5 then i2j (s.d 2 i - s.d 1 i - (if F.e1 = none then 1 else 0)) else _) σ := hP
    rw [if_pos q5] at hP
    rw [if_neg q]; exact hP
  · rw [if_neg q, if_pos q2] at hP; exact hP
  · rw [if_pos q] at hP; exact hP
end T1
