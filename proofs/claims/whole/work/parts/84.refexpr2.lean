/-! the reference's expressions: its run against what is read -/
def RF (σ0 τ : St) (m b Z : Nat) (e : Int × Int) : Prop := Frm (RFr m) σ0 τ ∧ (∀ j f : Nat, j < b ∨ Z ≤ j → 1242 ≤ f → f ≤ 1245 → gI τ f m j = gI σ0 f m j ∧ gJ τ f m j = gJ σ0 f m j) ∧ gI τ 1251 m 0 = e.1 ∧ gI τ 1252 m 0 = e.2
theorem ck_pos {X : Txt} {i : Nat} {n : Int} (h : 0 < n) : 0 < (ck X i n).1 := by
  show 0 < if X.k i = 1 then 1 else n
  split <;> omega
section M16
variable {g : GP} {l : Launch} {d : Nat} {σ0 τ : St} {m b Z i : Nat} {X : Txt} {N : List Nd} {W : List Int} {H : List Nat} {n : Nat}
theorem r_must {y k : Int} {P : Int → St → Prop} (hX : X.OK) (hT : RT τ m X i) (hb : gI τ 1251 m 0 = 0) (hk : 0 < k) (hy : y = 0 ∨ y = 1) (h1 : y = 1 → P 1 τ) (h0 : y = 0 → ∀ τ', Frm (fun f r => r = m ∧ (f = 1251 ∨ f = 1252)) τ τ' → gI τ' 1251 m 0 = (ck X i k).1 → gI τ' 1252 m 0 = (ck X i k).2 → P 0 τ') : ACi g l (d + 1) MX12_must [vR 12 (some m), vI y, vI k] τ P := by
  have hs := (hT.sort hX).2.2.1
  have hp := ck_pos (X := X) (i := i) hk
  refine AC.of mo_X12_must (Nat.le_of_ble_eq_true rfl) (bk_X12_must_0 ⟨fun z => ⟨fun q => absurd hb q, fun _ => ⟨_, rfl, h1 (by omega)⟩⟩, fun z => ?_⟩)
  have fin : ∀ v, (ck X i k).1 = v → ∃ r, some (vI 0) = some (vI r) ∧ P r (sI (sI τ 1251 m 0 v) 1252 m 0 (gI τ 1214 m 0)) := fun v e => ⟨_, rfl, h0 z _ ((Frm.sI (by simp)).trans (Frm.sI (by simp))) (by rw [gI_sI, if_neg (by simp), gI_slf, e]) (by rw [gI_slf]; exact hT.2.2.2.2.1)⟩
  refine AC.of mo_X12_fault (Nat.le_of_ble_eq_true rfl) (bk_X12_fault_0 ⟨fun _ => ⟨fun q => ⟨rfl, ?_⟩, fun q => ⟨rfl, ?_⟩⟩, fun q => absurd (by omega) q⟩)
  · have e : (ck X i k).1 = k := if_neg (fun c => q (hs.mpr c))
    refine ⟨fun _ => fin k e, fun c => ?_⟩
    rw [gI_sI, if_neg (by simp), gI_slf] at c
    omega
  · have e : (ck X i k).1 = 1 := if_pos (hs.mp q)
    refine ⟨fun _ => fin 1 e, fun c => ?_⟩
    rw [gI_sI, if_neg (by simp), gI_slf] at c
    omega
theorem RS.fault (s : RS σ0 τ m X b Z i N W H n) {τ' : St} {e : Int × Int} (hF : Frm (fun f r => r = m ∧ (f = 1251 ∨ f = 1252)) τ τ') (e1 : gI τ' 1251 m 0 = e.1) (e2 : gI τ' 1252 m 0 = e.2) : RF σ0 τ' m b Z e :=
  ⟨s.F.trans (hF.mono (fun f r z => ⟨z.1, by have := z.2; omega⟩)), fun j f hj f0 f1 => by rw [hF.I (fun q => by omega), hF.J (fun q => by omega)]; exact s.A j f hj f0 f1, e1, e2⟩
theorem r_isOpen {P : Int → St → Prop} (s : RS σ0 τ m X b Z i N W H n) (hw : W.length ≤ 127) (h1 : (18 : Int) ∈ W → P 1 τ) (h0 : ¬ (18 : Int) ∈ W → P 0 τ) : ACi g l d MX12_isOpen [vR 12 (some m)] τ P := by
  have sw := s.w
  have loop : ∀ (j k : Nat), k + j = W.length → (∀ q, q < k → ¬ W[q]? = some 18) → AW g l d MX12_isOpen 2 [some (vR 12 (some m)), some (vI (k : Int))] [] τ (fun v σ' => ∃ r, v = some (vI r) ∧ P r σ') := by
    intro j
    induction j with
    | zero =>
      intro k hk hq
      refine bk_X12_isOpen_2 ⟨fun _ => ⟨_, rfl, h0 (fun hm => ?_)⟩, fun q => absurd (by omega) q⟩
      obtain ⟨q, hq1, hq2⟩ := List.getElem_of_mem hm
      exact hq q (by omega) (by rw [List.getElem?_eq_getElem hq1, hq2])
    | succ j ih =>
      intro k hk hq
      have hlt : k < W.length := by omega
      have ew := s.ws k W[k] (List.getElem?_eq_getElem hlt)
      refine bk_X12_isOpen_2 ⟨fun q => absurd q (by omega), fun _ => ⟨s.T.1, ⟨by omega, by omega⟩, fun q => ⟨⟨by omega, by omega⟩, ih (k + 1) (by omega) (fun a ha => ?_)⟩, fun q => ⟨_, rfl, h1 ?_⟩⟩⟩
      · by_cases e : a = k
        · rw [e, List.getElem?_eq_getElem hlt]
          rw [show ((k : Int)).toNat = k by omega, ew] at q
          intro c
          exact q (Option.some.inj c)
        · exact hq a (by omega)
      · rw [show ((k : Int)).toNat = k by omega, ew] at q
        rw [← q]
        exact List.getElem_mem hlt
  exact AC.of mo_X12_isOpen (Nat.le_of_ble_eq_true rfl) (bk_X12_isOpen_0 (loop W.length 0 (by omega) (fun q hq => absurd hq (by omega))))
/-- one operand is read -/
theorem r_single {ln : Int64 → Int} {P : Int → St → Prop} (hX : X.OK) (s : RS σ0 τ m X b Z i N W H n) (h9 : b + N.length < Z) (hZ : Z ≤ 9000) (hln : ∀ w, -1 ≤ ln w ∧ ln w ≤ 1000)
    (HL : ∀ τ i, Frm (RFr m) σ0 τ → RT τ m X i → X.k i = 2 → ∀ d (P : Int → St → Prop), P (if ln (X.v i) = -1 then -1 else cv (ln (X.v i))) τ → ACi g l (d + 1) MX12_lookedUp [vR 12 (some m)] τ P)
    (hno : ¬ (X.k i = 40 ∨ X.k i = 45 ∨ X.k i = 226))
    (hok : ∀ x τ', rl X ln 1 none 5 n i N = some (.ok (X.nx i, N ++ [x])) → RS σ0 τ' m X b Z (X.nx i) (N ++ [x]) W H n → P ((b + N.length : Nat) : Int) τ')
    (her : ∀ e τ', rl X ln 1 none 5 n i N = some (.error e) → 0 < e.1 → RF σ0 τ' m b Z e → P (-1) τ') : ACi g l (d + 4) MX12_single [vR 12 (some m)] τ P := by
  have hT := s.T
  have hs := hT.sort hX
  have r0 : rl X ln 1 none 5 n i N = if X.k i = 2 then if ln (X.v i) = -1 then some (.error (ck X i 4)) else some (.ok (X.nx i, N ++ [⟨2, i2j (ln (X.v i)), 0, 0⟩])) else if X.k i = 3 ∨ X.k i = 212 ∨ X.k i = 222 ∨ X.k i = 223 then some (.ok (X.nx i, N ++ [⟨X.k i, X.v i, 0, 0⟩])) else some (.error (ck X i 2)) := by
    rw [rl, if_neg (by decide), if_neg hno]
  have nx : ∀ (x : Nd) (τ1 : St) (v : Int), v = ((b + N.length : Nat) : Int) → rl X ln 1 none 5 n i N = some (.ok (X.nx i, N ++ [x])) → RS σ0 τ1 m X b Z i (N ++ [x]) W H n → ACv g l (d + 3) MX12_next [vR 12 (some m)] τ1 (fun σ5 => ∃ r, some (vI v) = some (vI r) ∧ P r σ5) := fun x τ1 v hv hr s1 =>
    r_next hX s1.T (fun σ' hF hT' => ⟨_, rfl, by rw [hv]; exact hok x σ' hr (s1.next hF hT')⟩)
  have s85 : ∀ y : Int, (X.k i = 212 ∧ y = 2 ∨ X.k i = 222 ∧ y = 3 ∨ X.k i = 223 ∧ y = 4) → AW g l (d + 4) MX12_single 85 [some (vR 12 (some m)), none, none] [vI y, vR 12 (some m)] τ (fun v σ' => ∃ r, v = some (vI r) ∧ P r σ') := by
    intro y hy
    have hr : rl X ln 1 none 5 n i N = some (.ok (X.nx i, N ++ [⟨X.k i, X.v i, 0, 0⟩])) := by rw [r0, if_neg (by omega), if_pos (by omega)]
    have lf : isLf (X.k i) := Or.inr (by omega)
    refine bk_X12_single_85 ⟨m, rfl, r_node (x := ⟨X.k i, X.v i, 0, 0⟩) s h9 hZ ?_ (if_pos lf).symm (if_pos (Or.inl lf)).symm ?_ (fun τ1 s1 => nx _ τ1 _ rfl hr s1)⟩
    · show y = opR (X.k i)
      rcases hy with ⟨e, rfl⟩ | ⟨e, rfl⟩ | ⟨e, rfl⟩ <;> rw [e] <;> decide
    · show (0 : Int64) = if X.k i = 3 then X.v i else if X.k i = 2 then i2j (cv (X.v i).toInt) else 0
      rw [if_neg (by omega), if_neg (by omega)]
  have s55 : (X.k i = 212 ∨ X.k i = 222 ∨ X.k i = 223) → AW g l (d + 4) MX12_single 55 [some (vR 12 (some m)), none, none] [] τ (fun v σ' => ∃ r, v = some (vI r) ∧ P r σ') := by
    intro hy
    refine bk_X12_single_55 (r_isWord (j := 12) hX hT (by decide) (by decide) ?_)
    by_cases k1 : X.k i = 200 + ((12 : Nat) : Int)
    · rw [if_pos k1]
      exact ⟨fun z => absurd z (by decide), fun _ => s85 2 (by omega)⟩
    rw [if_neg k1]
    refine ⟨fun _ => r_isWord (j := 22) hX hT (by decide) (by decide) ?_, fun z => absurd rfl z⟩
    by_cases k2 : X.k i = 200 + ((22 : Nat) : Int)
    · rw [if_pos k2]
      exact ⟨fun z => absurd z (by decide), fun _ => s85 3 (by omega)⟩
    rw [if_neg k2]
    exact ⟨fun _ => s85 4 (by omega), fun z => absurd rfl z⟩
  have s124 : ∀ (x2 y : Int), X.k i = 2 → x2 = (if ln (X.v i) = -1 then -1 else cv (ln (X.v i))) → (y = 0 ∧ ln (X.v i) = -1 ∨ y = 1 ∧ ¬ ln (X.v i) = -1) → AW g l (d + 4) MX12_single 124 [some (vR 12 (some m)), none, some (vI x2)] [vI y, vR 12 (some m)] τ (fun v σ' => ∃ r, v = some (vI r) ∧ P r σ') := by
    intro x2 y k2 hx2 hy
    have lm := hln (X.v i)
    refine bk_X12_single_124 ⟨m, rfl, r_must hX hT s.bd (by decide) (by omega) (fun q => ⟨fun _ => ?_, fun z => absurd z (by decide)⟩) (fun q τ' hF e1 e2 => ⟨fun z => absurd rfl z, fun _ => ⟨_, rfl, her (ck X i 4) τ' ?_ (ck_pos (by decide)) (s.fault hF e1 e2)⟩⟩)⟩
    · have ne : ¬ ln (X.v i) = -1 := by omega
      have hr : rl X ln 1 none 5 n i N = some (.ok (X.nx i, N ++ [⟨2, i2j (ln (X.v i)), 0, 0⟩])) := by rw [r0, if_pos k2, if_neg ne]
      rw [if_neg ne] at hx2
      refine r_node (x := ⟨2, i2j (ln (X.v i)), 0, 0⟩) s h9 hZ (by show (1 : Int) = opR 2; decide) (by show (-1 : Int) = if isLf 2 then -1 else _; rw [if_pos (by decide)]) (by show (-1 : Int) = if isLf 2 ∨ isUn 2 then -1 else _; rw [if_pos (by decide)]) ?_ (fun τ1 s1 => nx _ τ1 _ rfl hr s1)
      show i2j x2 = if (2 : Int) = 3 then _ else if (2 : Int) = 2 then i2j (cv (i2j (ln (X.v i))).toInt) else 0
      rw [if_neg (by decide), if_pos rfl, i2j_toInt, w32_id (by omega) (by omega), hx2]
    · rw [r0, if_pos k2, if_pos (by omega)]
  refine AC.of mo_X12_single (Nat.le_of_ble_eq_true rfl) (bk_X12_single_0 ⟨fun z2 => ?_, fun z2 => ?_⟩)
  · have k3 : ¬ X.k i = 3 := fun e => z2 (hs.2.1.mpr e)
    refine r_isWord (j := 12) hX hT (by decide) (by decide) ?_
    by_cases k1 : X.k i = 200 + ((12 : Nat) : Int)
    · rw [if_pos k1]
      exact ⟨fun _ => s55 (by omega), fun z => absurd z (by decide)⟩
    rw [if_neg k1]
    refine ⟨fun z => absurd rfl z, fun _ => r_isWord (j := 22) hX hT (by decide) (by decide) ?_⟩
    by_cases k2 : X.k i = 200 + ((22 : Nat) : Int)
    · rw [if_pos k2]
      exact ⟨fun _ => s55 (by omega), fun z => absurd z (by decide)⟩
    rw [if_neg k2]
    refine ⟨fun z => absurd rfl z, fun _ => r_isWord (j := 23) hX hT (by decide) (by decide) ?_⟩
    by_cases k4 : X.k i = 200 + ((23 : Nat) : Int)
    · rw [if_pos k4]
      exact ⟨fun z => absurd z (by decide), fun _ => s55 (by omega)⟩
    rw [if_neg k4]
    refine ⟨fun _ => r_isName hX hT ?_, fun z => absurd rfl z⟩
    by_cases kn : X.k i = 2
    · rw [if_pos kn]
      refine r_must hX hT s.bd (by decide) (by decide) (fun _ => ⟨fun _ => HL τ i s.F hT kn _ _ ?_, fun z => absurd z (by decide)⟩) (fun q => absurd q (by decide))
      have lm := hln (X.v i)
      by_cases e : ln (X.v i) = -1
      · rw [if_pos e]
        exact ⟨fun _ => s124 _ 0 kn (if_pos e).symm (by omega), fun z => absurd (by decide) z⟩
      · rw [if_neg e]
        have : 0 ≤ cv (ln (X.v i)) := by unfold cv; omega
        exact ⟨fun z => absurd z (by omega), fun _ => s124 _ 1 kn (if_neg e).symm (by omega)⟩
    · rw [if_neg kn]
      refine r_must hX hT s.bd (by decide) (by decide) (fun q => absurd q (by decide)) (fun _ τ' hF e1 e2 => ⟨fun z => absurd rfl z, fun _ => ⟨_, rfl, her (ck X i 2) τ' ?_ (ck_pos (by decide)) (s.fault hF e1 e2)⟩⟩)
      rw [r0, if_neg kn, if_neg (by omega)]
  · have k3 : X.k i = 3 := hs.2.1.mp z2
    have hr : rl X ln 1 none 5 n i N = some (.ok (X.nx i, N ++ [⟨X.k i, X.v i, 0, 0⟩])) := by rw [r0, if_neg (by omega), if_pos (by omega)]
    have lf : isLf (X.k i) := Or.inr (by omega)
    refine r_node (x := ⟨X.k i, X.v i, 0, 0⟩) s h9 hZ ?_ (if_pos lf).symm (if_pos (Or.inl lf)).symm ?_ (fun τ1 s1 => nx _ τ1 _ rfl hr s1)
    · show (0 : Int) = opR (X.k i)
      rw [k3]; decide
    · show gJ τ 1217 m 0 = if X.k i = 3 then X.v i else _
      rw [if_pos k3, hs.2.2.2.1 k3]
end M16
