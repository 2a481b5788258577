/-! the reference's expressions: by levels -/
theorem rl_leaf {X : Txt} {ln : Int64 → Int} {f n i : Nat} {N : List Nd} (h : ¬ (X.k i = 40 ∨ X.k i = 45 ∨ X.k i = 226)) : rl X ln (f + 1) none 5 n i N = rl X ln 1 none 5 n i N := by
  have l5 : ¬ (5 : Nat) < 5 := by decide
  rw [rl, if_neg l5, if_neg h]
  show _ = rl X ln (0 + 1) none 5 n i N
  rw [rl, if_neg l5, if_neg h]
/-- where an expr stops before an operator: at a second comparison alone -/
def SO (L : Nat) (k : Int) (P : List (Int × Nat)) : Prop := ∀ M : Nat, L ≤ M → lv k = M → M = 2 ∧ ∃ P1 oc lc P2, P = P1 ++ (oc, lc) :: P2 ∧ (∀ p ∈ P1, 3 ≤ lv p.1) ∧ lv oc = 2
section M17
variable (g : GP) (l : Launch) (d : Nat) (m b : Nat) (Q : Option AV → St → Prop)
def AF (τ : St) : Prop := ((¬ (gI τ 1251 m 0) = 0 → AW g l (d + 6) MX12_either 17 [some (vR 12 (some m)), some (vI (b : Int)), some (vI 0)] [] τ Q) ∧ ((gI τ 1251 m 0) = 0 → ACi g l (d + 5) MX12_goesOn [vR 12 (some m)] τ (fun v6 σ5 => ((v6 = 0 → AW g l (d + 6) MX12_either 17 [some (vR 12 (some m)), some (vI (b : Int)), some (vI 0)] [] σ5 Q) ∧ (¬ v6 = 0 → AW g l (d + 6) MX12_either 17 [some (vR 12 (some m)), some (vI (b : Int)), some (vI 1)] [] σ5 Q)))))
def OP (τ : St) : Prop := AW g l (d + 5) MX12_operand 2 [some (vR 12 (some m)), some (vI 0), none] [] τ (fun v σ' => v = none ∧ AF g l d m b Q σ')
def GO (τ : St) : Prop := AW g l (d + 5) MX12_goesOn 0 [some (vR 12 (some m)), none, none] [] τ (fun v σ' => ∃ r, v = some (vI r) ∧ ((r = 0 → AW g l (d + 6) MX12_either 17 [some (vR 12 (some m)), some (vI (b : Int)), some (vI 0)] [] σ' Q) ∧ (¬ r = 0 → AW g l (d + 6) MX12_either 17 [some (vR 12 (some m)), some (vI (b : Int)), some (vI 1)] [] σ' Q)))
variable {g l d m b Q}
variable {σ0 τ : St} {Z : Nat} {X : Txt}
theorem e_fault {x2 : Int} (h : 0 < gI τ 1251 m 0) (hQ : Q (some (vI (-1))) τ) : AW g l (d + 6) MX12_either 17 [some (vR 12 (some m)), some (vI (b : Int)), some (vI x2)] [] τ Q := by
  have s55 : AW g l (d + 6) MX12_either 55 [some (vR 12 (some m)), some (vI (b : Int)), none] [] τ Q := bk_X12_either_55 ⟨fun q => absurd q (by omega), fun _ => hQ⟩
  exact bk_X12_either_17 ⟨fun _ => s55, fun _ => ⟨fun _ => s55, fun q => absurd q (by omega)⟩⟩
theorem af_fault (h : 0 < gI τ 1251 m 0) (hQ : Q (some (vI (-1))) τ) : AF g l d m b Q τ := ⟨fun _ => e_fault h hQ, fun q => absurd q (by omega)⟩
theorem af_go (h : gI τ 1251 m 0 = 0) (hG : GO g l d m b Q τ) : AF g l d m b Q τ := ⟨fun q => absurd h q, fun _ => AC.of mo_X12_goesOn (Nat.le_of_ble_eq_true rfl) hG⟩
theorem e_opr (h : gI τ 1251 m 0 = 0) (hO : OP g l d m b Q τ) : AW g l (d + 6) MX12_either 17 [some (vR 12 (some m)), some (vI (b : Int)), some (vI 1)] [] τ Q :=
  bk_X12_either_17 ⟨fun q => absurd q (by decide), fun _ => ⟨fun q => absurd h q, fun _ => AC.of mo_X12_operand (Nat.le_of_ble_eq_true rfl) (bk_X12_operand_0 hO)⟩⟩
theorem op_fault (h : 0 < gI τ 1251 m 0) (hQ : Q (some (vI (-1))) τ) : OP g l d m b Q τ := by
  have s126 : AW g l (d + 5) MX12_operand 126 [some (vR 12 (some m)), none, none] [] τ (fun v σ' => v = none ∧ AF g l d m b Q σ') := bk_X12_operand_126 ⟨fun q => absurd q (by omega), fun _ => ⟨rfl, af_fault h hQ⟩⟩
  exact bk_X12_operand_2 ⟨fun q => absurd rfl q, fun _ => ⟨fun _ => s126, fun q => absurd q (by omega)⟩⟩
theorem mem_wP {W : List Int} {a : Int} : ∀ P : List (Int × Nat), a ∈ W → a ∈ wP W P
  | [], h => h
  | p :: P, h => List.mem_append_left _ (mem_wP P h)
/-- the expr ends here: all that waits is joined -/
theorem go_end {i n : Nat} {N0 : List Nd} {W : List Int} {H : List Nat} {Pt : List (Int × Nat)} (hX : X.OK) (s : RS σ0 τ m X b Z i N0 (wP W Pt) (hP H Pt ++ [N0.length - 1]) n) (hw : W.length + Pt.length ≤ 127) (hh : H.length + Pt.length ≤ 126) (h9 : b + N0.length + Pt.length ≤ Z) (hZ : Z ≤ 9000) (h1 : 1 ≤ N0.length) (hP0 : ∀ p ∈ Pt, 0 ≤ lv p.1) (hS : SO 0 (X.k i) Pt) (hW : ∀ o, W.getLast? = some o → o = 18)
    (h41 : X.k i = 41 → ¬ (18 : Int) ∈ wP W Pt) (hp : ∀ τ', RS σ0 τ' m X b Z i (jn N0 Pt) W (H ++ [(jn N0 Pt).length - 1]) n → ((¬ (gI τ' 1260 m 0) = 0 → AW g l (d + 6) MX12_either 82 [some (vR 12 (some m)), some (vI (b : Int)), none] [vI 0, vR 12 (some m)] τ' Q) ∧ ((gI τ' 1260 m 0) = 0 → AW g l (d + 6) MX12_either 82 [some (vR 12 (some m)), some (vI (b : Int)), none] [vI 1, vR 12 (some m)] τ' Q))) : GO g l d m b Q τ := by
  have fin : ∀ (N1 : List Nd) (P1 : List (Int × Nat)) (τ1 : St), jn N1 P1 = jn N0 Pt → RS σ0 τ1 m X b Z i N1 (wP W P1) (hP H P1 ++ [N1.length - 1]) n → W.length + P1.length ≤ 127 → H.length + P1.length ≤ 126 → b + N1.length + P1.length ≤ Z → 1 ≤ N1.length → (∀ p ∈ P1, 0 ≤ lv p.1) → AW g l (d + 6) MX12_either 17 [some (vR 12 (some m)), some (vI (b : Int)), some (vI 0)] [] τ1 Q := by
    intro N1 P1 τ1 e s1 a1 a2 a3 a4 a5
    refine bk_X12_either_17 ⟨fun _ => bk_X12_either_55 ⟨fun _ => AC.of mo_X12_joinAll (Nat.le_of_ble_eq_true rfl) (j_flush P1 [] N1 τ1 (by rw [List.append_nil]; exact s1) (by rw [List.append_nil]; exact a1) (by rw [List.append_nil]; exact a2) a3 hZ a4 (fun p hp => ⟨a5 p hp, by have := a5 p hp; omega⟩) (fun τ2 s2 => ?_)), fun q => absurd (by rw [s1.bd]; decide) q⟩, fun q => absurd rfl q⟩
    rw [e] at s2
    exact j_stop s2 (by show W.length ≤ 127; omega) (fun o ho => Or.inl (hW o ho)) ⟨rfl, hp τ2 s2⟩
  have s54 : AW g l (d + 5) MX12_goesOn 54 [some (vR 12 (some m)), none, none] [] τ (fun v σ' => ∃ r, v = some (vI r) ∧ ((r = 0 → AW g l (d + 6) MX12_either 17 [some (vR 12 (some m)), some (vI (b : Int)), some (vI 0)] [] σ' Q) ∧ (¬ r = 0 → AW g l (d + 6) MX12_either 17 [some (vR 12 (some m)), some (vI (b : Int)), some (vI 1)] [] σ' Q))) := by
    refine bk_X12_goesOn_54 (r_operator hX s.T ?_)
    by_cases c : 0 ≤ lv (X.k i)
    · rw [if_pos c]
      obtain ⟨t1, t2, t3, t4, t5, t6⟩ := st_lv c
      obtain ⟨M2, P1, oc, lc, P2, eP, b1, b2⟩ := hS (lv (X.k i)).toNat (by omega) (by omega)
      refine ⟨fun _ => r_strength ?_, fun q => absurd q (by omega)⟩
      rw [t1]
      refine ⟨fun q => absurd (by omega) q, fun _ => bk_X12_goesOn_83 ⟨m, rfl, AC.of mo_X12_joinAll (Nat.le_of_ble_eq_true rfl) ?_⟩⟩
      have eL : Pt.length = P1.length + (P2.length + 1) := by rw [eP, List.length_append]; rfl
      rw [eP] at s
      refine j_flush (t := 4) P1 ((oc, lc) :: P2) N0 τ s (by rw [← eP]; exact hw) (by rw [← eP]; exact hh) (by omega) hZ h1 (fun p hp => ⟨by have := b1 p hp; omega, by have := b1 p hp; omega⟩) (fun τ2 s2 => ?_)
      have sc2 := st_lv (o := oc) (by omega)
      have w2 := s2.w
      rw [wP_len] at w2
      have w2 : gI τ2 1260 m 0 = ((W.length + (P2.length + 1) : Nat) : Int) := w2
      have lj := jn_len P1 N0
      refine j_stop s2 (by rw [wP_len]; show W.length + (P2.length + 1) ≤ 127; omega) (fun o ho => ?_) ⟨rfl, fun q => absurd (by omega) q, fun _ => ⟨fun q => absurd q (by omega), fun _ => ⟨s2.T.1, ⟨by omega, by omega⟩, ⟨by omega, by omega⟩, r_strength ?_⟩⟩⟩
      · have : o = opR oc := by
          have : (wP W P2 ++ [opR oc]).getLast? = some o := ho
          rw [List.getLast?_append] at this
          simp at this
          exact this.symm
        rw [this]; exact Or.inr (by omega)
      · have et : gI τ2 1258 m (gI τ2 1260 m 0 - 1).toNat = opR oc := by
          have := s2.ws (wP W P2).length (opR oc) app_at
          rw [wP_len] at this
          rw [show (gI τ2 1260 m 0 - 1).toNat = W.length + P2.length by omega]; exact this
        rw [et, sc2.1, b2]
        refine ⟨fun q => absurd rfl q, fun _ => ⟨_, rfl, fun _ => ?_, fun q => absurd rfl q⟩⟩
        refine fin (jn N0 P1) ((oc, lc) :: P2) τ2 ?_ s2 (by show W.length + (P2.length + 1) ≤ 127; omega) (by show H.length + (P2.length + 1) ≤ 126; omega) (by show b + (jn N0 P1).length + (P2.length + 1) ≤ Z; omega) (by omega) (fun p hp => hP0 p (by rw [eP]; exact List.mem_append_right _ hp))
        have jj : ∀ (A B : List (Int × Nat)) (N : List Nd), jn N (A ++ B) = jn (jn N A) B := by
          intro A
          induction A with
          | nil => intro B N; rfl
          | cons a A ih => intro B N; exact ih B _
        rw [eP, jj]
    · rw [if_neg c]
      exact ⟨fun q => absurd rfl q, fun _ => ⟨_, rfl, fun _ => fin N0 Pt τ rfl s hw hh h9 h1 hP0, fun q => absurd rfl q⟩⟩
  refine bk_X12_goesOn_0 (r_isSign hX s.T (by decide) (by decide) ?_)
  by_cases k41 : X.k i = 41
  · rw [if_pos k41]
    exact ⟨fun q => absurd q (by decide), fun _ => r_isOpen s (by rw [wP_len]; exact hw) (fun q => absurd q (h41 k41)) (fun _ => ⟨fun _ => s54, fun q => absurd rfl q⟩)⟩
  · rw [if_neg k41]
    exact ⟨fun _ => s54, fun q => absurd rfl q⟩
theorem un_cons {N : List Nd} {u : Int} {U : List Int} : un N (u :: U) = un (N ++ [⟨u, 0, N.length - 1, 0⟩]) U := rfl
theorem r_rl {ln : Int64 → Int} (hX : X.OK) (h0 : ∀ i, i ≤ X.K → (X.k i = 0 ↔ i = X.K)) (hZ : Z ≤ 9000) (hln : ∀ w, -1 ≤ ln w ∧ ln w ≤ 1000)
    (HL : ∀ τ i, Frm (RFr m) σ0 τ → RT τ m X i → X.k i = 2 → ∀ d (P : Int → St → Prop), P (if ln (X.v i) = -1 then -1 else cv (ln (X.v i))) τ → ACi g l (d + 1) MX12_lookedUp [vR 12 (some m)] τ P) : ∀ f : Nat,
    (∀ (n i : Nat) (N : List Nd) (W U : List Int) (H : List Nat) (τ : St) r, rl X ln f none 5 n i N = some r → i ≤ X.K → RS σ0 τ m X b Z i N (wU W U) H n → U.length ≤ n → (∀ u ∈ U, isUn u) → (∀ o, W.getLast? = some o → o = 18 ∨ stR o < 6) → W.length + U.length ≤ 6 * n + 5 → H.length ≤ 5 * n + 5 → n ≤ 15 → b + N.length + U.length + (X.K - i) ≤ Z →
      (∀ i' N', r = .ok (i', N') → ∀ τ', RS σ0 τ' m X b Z i' (un N' U) W (H ++ [(un N' U).length - 1]) (n - U.length) → GO g l d m b Q τ') → (∀ e, r = .error e → 0 < e.1 → ∀ τ', RF σ0 τ' m b Z e → Q (some (vI (-1))) τ') → OP g l d m b Q τ) ∧
    (∀ (L n i : Nat) (N : List Nd) (W : List Int) (H : List Nat) (τ : St) r, L ≤ 5 → rl X ln f none L n i N = some r → i ≤ X.K → RS σ0 τ m X b Z i N W H n → (∀ o, W.getLast? = some o → o = 18 ∨ stR o < L + 1) → W.length ≤ 6 * n + L → H.length ≤ 5 * n + L → n ≤ 15 → b + N.length + (X.K - i) ≤ Z →
      (∀ i' N', r = .ok (i', N') → ∀ τ' N0 Pt, N' = jn N0 Pt → RS σ0 τ' m X b Z i' N0 (wP W Pt) (hP H Pt ++ [N0.length - 1]) n → 1 ≤ N0.length → (∀ p ∈ Pt, (L : Int) ≤ lv p.1) → SO L (X.k i') Pt → Pt.length ≤ 5 - L → GO g l d m b Q τ') → (∀ e, r = .error e → 0 < e.1 → ∀ τ', RF σ0 τ' m b Z e → Q (some (vI (-1))) τ') → OP g l d m b Q τ) ∧
    (∀ (cc L n i : Nat) (N : List Nd) (W : List Int) (H : List Nat) (τ : St) (N0 : List Nd) (Pt : List (Int × Nat)) r, L < 5 → rl X ln f (some cc) L n i N = some r → i ≤ X.K → N = jn N0 Pt → RS σ0 τ m X b Z i N0 (wP W Pt) (hP H Pt ++ [N0.length - 1]) n → 1 ≤ N0.length → (∀ p ∈ Pt, (L : Int) ≤ lv p.1) → (0 < cc → L = 2 → ∀ p ∈ Pt, 3 ≤ lv p.1) → (0 < cc → SO (L + 1) (X.k i) Pt) → (cc = 0 → SO L (X.k i) Pt) → (¬ L = 2 → X.K - i ≤ cc) → (L = 2 → cc ≤ 1) → Pt.length ≤ 5 - L → (∀ o, W.getLast? = some o → o = 18 ∨ stR o < L + 1) → W.length ≤ 6 * n + L → H.length ≤ 5 * n + L → n ≤ 15 → b + N.length + (X.K - i) ≤ Z →
      (∀ i' N', r = .ok (i', N') → ∀ τ' N0 Pt, N' = jn N0 Pt → RS σ0 τ' m X b Z i' N0 (wP W Pt) (hP H Pt ++ [N0.length - 1]) n → 1 ≤ N0.length → (∀ p ∈ Pt, (L : Int) ≤ lv p.1) → SO L (X.k i') Pt → Pt.length ≤ 5 - L → GO g l d m b Q τ') → (∀ e, r = .error e → 0 < e.1 → ∀ τ', RF σ0 τ' m b Z e → Q (some (vI (-1))) τ') → GO g l d m b Q τ) := by
  have nxK : ∀ i, i ≤ X.K → ¬ X.k i = 0 → X.nx i = i + 1 ∧ i + 1 ≤ X.K := fun i hi hk => by
    have := h0 i hi
    have : i < X.K := by omega
    exact ⟨if_pos this, by omega⟩
  intro f
  induction f with
  | zero => exact ⟨fun _ _ _ _ _ _ _ _ h => absurd h (by simp [rl]), fun _ _ _ _ _ _ _ _ _ h => absurd h (by simp [rl]), fun _ _ _ _ _ _ _ _ _ _ _ _ h => absurd h (by simp [rl])⟩
  | succ f ih =>
    obtain ⟨ihA, ihB, ihC⟩ := ih
    have hA : ∀ (n i : Nat) (N : List Nd) (W U : List Int) (H : List Nat) (τ : St) r, rl X ln (f + 1) none 5 n i N = some r → i ≤ X.K → RS σ0 τ m X b Z i N (wU W U) H n → U.length ≤ n → (∀ u ∈ U, isUn u) → (∀ o, W.getLast? = some o → o = 18 ∨ stR o < 6) → W.length + U.length ≤ 6 * n + 5 → H.length ≤ 5 * n + 5 → n ≤ 15 → b + N.length + U.length + (X.K - i) ≤ Z →
      (∀ i' N', r = .ok (i', N') → ∀ τ', RS σ0 τ' m X b Z i' (un N' U) W (H ++ [(un N' U).length - 1]) (n - U.length) → GO g l d m b Q τ') → (∀ e, r = .error e → 0 < e.1 → ∀ τ', RF σ0 τ' m b Z e → Q (some (vI (-1))) τ') → OP g l d m b Q τ := by
      intro n i N W U H τ r h hi s hUn hU hW lW lH hn hB hOK hER
      have lw := wU_len (W := W) U
      have s56 : ∀ o : Int, (X.k i = 45 ∧ o = 5 ∨ X.k i = 226 ∧ o = 6 ∨ X.k i = 40 ∧ o = 18) → AW g l (d + 5) MX12_operand 56 [some (vR 12 (some m)), some (vI 0), none] [vI o] τ (fun v σ' => v = none ∧ AF g l d m b Q σ') := by
        intro o ho
        have op : X.k i = 40 ∨ X.k i = 45 ∨ X.k i = 226 := by omega
        obtain ⟨x1, x2⟩ := nxK i hi (by omega)
        rw [rl, if_neg (by decide), if_pos op] at h
        have sd := s.dp
        refine bk_X12_operand_56 ⟨fun _ => ⟨fun z => ?_, fun z => ?_⟩, fun q => absurd q (by omega)⟩
        · rw [if_pos (by omega)] at h
          cases h
          refine bk_X12_operand_82 ⟨m, rfl, r_must hX s.T s.bd (by decide) (by decide) (fun q => absurd q (by decide)) (fun _ τ' hF e1 e2 => ⟨fun _ => ?_, fun q => absurd rfl q⟩)⟩
          have := ck_pos (X := X) (i := i) (n := 5) (by decide)
          exact op_fault (by omega) (hER _ rfl this τ' (s.fault hF e1 e2))
        · have n15 : ¬ 15 ≤ n := by omega
          rw [if_neg n15] at h
          refine bk_X12_operand_82 ⟨m, rfl, r_must hX s.T s.bd (by decide) (by decide) (fun _ => ⟨fun q => absurd q (by decide), fun _ => ?_⟩) (fun q => absurd q (by decide))⟩
          have sw := s.w
          refine ⟨⟨by omega, by omega⟩, s.T.1, ⟨by omega, by omega⟩, ⟨by omega, by omega⟩, ?_⟩
          have s1 := (s.deep (v := gI τ 1255 m 0 + 1) (n' := n + 1) (by omega)).push (o := o) (k := (gI τ 1260 m 0).toNat) (v := gI τ 1260 m 0 + 1) (by omega) (by omega)
          refine r_next hX s1.T (fun τ2 hF2 hT2 => ?_)
          have s2 := s1.next hF2 hT2
          by_cases k40 : X.k i = 40
          · rw [if_pos k40] at h
            obtain rfl : o = 18 := by omega
            cases h1 : rl X ln f none 0 (n + 1) (X.nx i) N with
            | none => rw [h1] at h; exact absurd h (by simp)
            | some r1 =>
              rw [h1] at h
              have ok := fun i1 N1 (e : r1 = .ok (i1, N1)) => rl_ok h0 _ _ _ _ _ _ i1 N1 (by rw [← e]; exact h1) (by omega) (by omega) (by omega)
              refine ihB 0 (n + 1) (X.nx i) N (wU W U ++ [18]) H τ2 r1 (by omega) h1 (by omega) s2 (fun o ho => Or.inl ?_) (by rw [app_l]; omega) (by omega) (by omega) (by omega) (fun i1 N1 e1 τ' N0 Pt eN s3 l0 hPt hSO lPt => ?_) (fun e er ep τ' hR => ?_)
              · rw [List.getLast?_append] at ho
                simp at ho
                exact ho.symm
              · obtain ⟨b1, b2, b3, M1, b4, b5, _⟩ := ok i1 N1 e1
                have b5 := b5 rfl
                rw [e1] at h
                have lj := jn_len Pt N0
                rw [← eN] at lj
                have h : (if X.k i1 = 41 then some (.ok (X.nx i1, N1)) else some (.error (ck X i1 2)) : RX) = some r := h
                by_cases k41 : X.k i1 = 41
                · rw [if_pos k41] at h
                  obtain ⟨y1, y2⟩ := nxK i1 b2 (by omega)
                  refine bk_X12_goesOn_0 (r_isSign hX s3.T (by decide) (by decide) ?_)
                  rw [if_pos k41]
                  have lwP := wP_len (W := wU W U ++ [18]) Pt
                  rw [app_l] at lwP
                  refine ⟨fun q => absurd q (by decide), fun _ => r_isOpen s3 (by omega) (fun _ => ⟨fun q => absurd q (by decide), fun _ => AC.of mo_X12_joinAll (Nat.le_of_ble_eq_true rfl) ?_⟩) (fun q => absurd (mem_wP Pt (List.mem_append_right _ (by simp))) q)⟩
                  refine j_flush (t := 1) Pt [] N0 τ' (by rw [List.append_nil]; exact s3) (by rw [List.append_nil, app_l]; omega) (by rw [List.append_nil]; omega) (by omega) hZ l0 (fun p hp => ⟨by have := hPt p hp; omega, by have := hPt p hp; omega⟩) (fun τ4 s4 => ?_)
                  rw [← eN] at s4
                  have s4 : RS σ0 τ4 m X b Z i1 N1 (wU W U ++ [18]) (H ++ [N1.length - 1]) (n + 1) := s4
                  have sw4 := s4.w
                  rw [app_l] at sw4
                  have sd4 := s4.dp
                  refine j_stop s4 (by rw [app_l]; omega) (fun o ho => Or.inl ?_) ⟨rfl, ⟨by omega, by omega⟩, ⟨by omega, by omega⟩, ?_⟩
                  · rw [List.getLast?_append] at ho
                    simp at ho
                    exact ho.symm
                  have s5 := (s4.pop (v := gI τ4 1260 m 0 - 1) (by omega)).deep (v := gI τ4 1255 m 0 - 1) (n' := n) (by omega)
                  refine r_next hX s5.T (fun τ6 hF6 hT6 => AC.of mo_X12_joinAll (Nat.le_of_ble_eq_true rfl) ?_)
                  have s6 := s5.next hF6 hT6
                  refine j_unf U N1 (n - U.length) τ6 (by rw [show n - U.length + U.length = n by omega]; exact s6) (by omega) (by omega) (by omega) hZ (by omega) hU (by decide) (by omega) (fun τ7 s7 => ?_)
                  refine j_stop s7 (by omega) hW ⟨rfl, ?_⟩
                  cases h
                  exact hOK _ _ rfl τ7 s7
                · rw [if_neg k41] at h
                  cases h
                  refine go_end hX s3 (by rw [app_l]; omega) (by omega) (by omega) hZ l0 (fun p hp => by have := hPt p hp; omega) hSO (fun o ho => ?_) (fun q => absurd q k41) (fun τ4 s4 => ⟨fun _ => ?_, fun q => ?_⟩)
                  · rw [List.getLast?_append] at ho
                    simp at ho
                    exact ho.symm
                  · refine bk_X12_either_82 ⟨m, rfl, r_must hX s4.T s4.bd (by decide) (by decide) (fun q => absurd q (by decide)) (fun _ τ5 hF e1 e2 => ⟨fun q => absurd rfl q, fun _ => hER _ rfl (ck_pos (by decide)) τ5 (s4.fault hF e1 e2)⟩)⟩
                  · have := s4.w
                    rw [app_l] at this
                    omega
              · rw [er] at h
                cases h
                exact hER e rfl ep τ' hR
          · rw [if_neg k40] at h
            cases h1 : rl X ln f none 5 (n + 1) (X.nx i) N with
            | none => rw [h1] at h; exact absurd h (by simp)
            | some r1 =>
              rw [h1] at h
              have hu : ∃ u, isUn u ∧ opR u = o ∧ u = (if X.k i = 45 then 5 else 226) := by
                by_cases k45 : X.k i = 45
                · rw [if_pos k45]
                  exact ⟨5, Or.inl rfl, by rw [show o = 5 by omega]; decide, rfl⟩
                · rw [if_neg k45]
                  exact ⟨226, Or.inr rfl, by rw [show o = 6 by omega]; decide, rfl⟩
              obtain ⟨u, u1, u2, u3⟩ := hu
              rw [← u2] at s2
              refine ihA (n + 1) (X.nx i) N W (u :: U) H τ2 r1 h1 (by omega) s2 (by show U.length + 1 ≤ n + 1; omega) (fun w hw => ?_) hW (by show W.length + (U.length + 1) ≤ _; omega) (by omega) (by omega) (by show b + N.length + (U.length + 1) + (X.K - X.nx i) ≤ Z; omega) (fun i1 N1 e1 τ' s3 => ?_) (fun e er ep τ' hR => ?_)
              · rcases List.mem_cons.mp hw with rfl | hw
                · exact u1
                · exact hU w hw
              · rw [e1] at h
                have h : (some (.ok (i1, N1 ++ [⟨if X.k i = 45 then 5 else 226, 0, N1.length - 1, 0⟩])) : RX) = some r := h
                rw [← u3] at h
                cases h
                refine hOK _ _ rfl τ' ?_
                rw [un_cons, show n + 1 - (u :: U).length = n - U.length by show n + 1 - (U.length + 1) = _; omega] at s3
                exact s3
              · rw [er] at h
                cases h
                exact hER e rfl ep τ' hR
      by_cases op : X.k i = 40 ∨ X.k i = 45 ∨ X.k i = 226
      · refine bk_X12_operand_2 ⟨fun q => absurd rfl q, fun _ => ⟨fun q => absurd s.bd q, fun _ => r_isSign hX s.T (by decide) (by decide) ?_⟩⟩
        by_cases k45 : X.k i = 45
        · rw [if_pos k45]
          exact ⟨fun q => absurd q (by decide), fun _ => s56 5 (by omega)⟩
        rw [if_neg k45]
        refine ⟨fun _ => r_isWord (j := 26) hX s.T (by decide) (by decide) ?_, fun q => absurd rfl q⟩
        by_cases k226 : X.k i = 200 + ((26 : Nat) : Int)
        · rw [if_pos k226]
          exact ⟨fun q => absurd q (by decide), fun _ => s56 6 (by omega)⟩
        rw [if_neg k226]
        refine ⟨fun _ => r_isSign hX s.T (by decide) (by decide) ?_, fun q => absurd rfl q⟩
        rw [if_pos (by omega)]
        exact ⟨fun q => absurd q (by decide), fun _ => s56 18 (by omega)⟩
      · refine bk_X12_operand_2 ⟨fun q => absurd rfl q, fun _ => ⟨fun q => absurd s.bd q, fun _ => r_isSign hX s.T (by decide) (by decide) ?_⟩⟩
        rw [if_neg (by omega)]
        refine ⟨fun _ => r_isWord (j := 26) hX s.T (by decide) (by decide) ?_, fun q => absurd rfl q⟩
        rw [if_neg (by omega)]
        refine ⟨fun _ => r_isSign hX s.T (by decide) (by decide) ?_, fun q => absurd rfl q⟩
        rw [if_neg (by omega)]
        refine ⟨fun _ => bk_X12_operand_56 ⟨fun q => absurd rfl q, fun _ => bk_X12_operand_2 ⟨fun _ => bk_X12_operand_126 ⟨fun _ => ?_, fun q => absurd (by rw [s.bd]; decide) q⟩, fun q => absurd q (by decide)⟩⟩, fun q => absurd rfl q⟩
        have hno : i = X.K ∨ b + N.length < Z := by omega
        rw [rl_leaf op] at h
        by_cases hK : i = X.K
        · -- at the end nothing can be read
          have k0 := (h0 i hi).mpr hK
          have hr : rl X ln 1 none 5 n i N = some (.error (ck X i 2)) := by
            rw [rl, if_neg (by decide), if_neg op, if_neg (by omega), if_neg (by omega)]
          rw [hr] at h
          cases h
          have hs := s.T.sort hX
          refine AC.of mo_X12_single (Nat.le_of_ble_eq_true rfl) (bk_X12_single_0 ⟨fun _ => r_isWord (j := 12) hX s.T (by decide) (by decide) ?_, fun z2 => absurd (hs.2.1.mp z2) (by omega)⟩)
          rw [if_neg (by omega)]
          refine ⟨fun z => absurd rfl z, fun _ => r_isWord (j := 22) hX s.T (by decide) (by decide) ?_⟩
          rw [if_neg (by omega)]
          refine ⟨fun z => absurd rfl z, fun _ => r_isWord (j := 23) hX s.T (by decide) (by decide) ?_⟩
          rw [if_neg (by omega)]
          refine ⟨fun _ => r_isName hX s.T ?_, fun z => absurd rfl z⟩
          rw [if_neg (by omega)]
          refine r_must hX s.T s.bd (by decide) (by decide) (fun q => absurd q (by decide)) (fun _ τ' hF e1 e2 => ⟨fun z => absurd rfl z, fun _ => ⟨_, rfl, ?_⟩⟩)
          have := ck_pos (X := X) (i := i) (n := 2) (by decide)
          exact ⟨fun q => absurd q (by omega), fun _ => ⟨rfl, af_fault (by omega) (hER _ rfl this τ' (s.fault hF e1 e2))⟩⟩
        · refine r_single hX s (by omega) hZ hln HL op (fun x τ1 hr s1 => ⟨fun _ => ?_, fun q => absurd (by rw [s1.bd]; decide) q⟩) (fun e τ1 hr ep hR => ?_)
          · have sh := s1.h
            have lN : (N ++ [x]).length = N.length + 1 := app_l
            refine ⟨s1.T.1, ⟨by omega, by omega⟩, ⟨by omega, by omega⟩, AC.of mo_X12_joinAll (Nat.le_of_ble_eq_true rfl) ?_⟩
            have s2 : RS σ0 (sI (sI τ1 1259 m (gI τ1 1261 m 0).toNat ((b + N.length : Nat) : Int)) 1261 m 0 (gI τ1 1261 m 0 + 1)) m X b Z (X.nx i) (N ++ [x]) (wU W U) (H ++ [(N ++ [x]).length - 1]) n :=
              RS.hold (V := []) (by rw [List.append_nil]; exact s1) (by omega) (by rw [lN]; omega) (by omega)
            refine j_unf U (N ++ [x]) (n - U.length) _ (by rw [show n - U.length + U.length = n by omega]; exact s2) (by omega) (by omega) (by omega) hZ (by omega) hU (by decide) (by omega) (fun τ7 s7 => ?_)
            refine j_stop s7 (by omega) hW ⟨rfl, rfl, af_go s7.bd ?_⟩
            rw [hr] at h
            cases h
            exact hOK _ _ rfl τ7 s7
          · rw [hr] at h
            cases h
            have := hR.2.2.1
            exact ⟨fun q => absurd q (by omega), fun _ => ⟨rfl, af_fault (by omega) (hER _ rfl ep τ1 hR)⟩⟩
    refine ⟨hA, ?_, ?_⟩
    · intro L n i N W H τ r hL h hi s hW lW lH hn hB hOK hER
      by_cases hL5 : L < 5
      · rw [rl, if_pos hL5] at h
        cases h1 : rl X ln f none (L + 1) n i N with
        | none => rw [h1] at h; exact absurd h (by simp)
        | some r1 =>
          rw [h1] at h
          have ok := fun i1 N1 (e : r1 = .ok (i1, N1)) => rl_ok h0 _ _ _ _ _ _ i1 N1 (by rw [← e]; exact h1) hi (by omega) (by omega)
          refine ihB (L + 1) n i N W H τ r1 (by omega) h1 hi s (fun o ho => (hW o ho).imp id (fun z => by omega)) (by omega) (by omega) hn hB (fun i1 N1 e1 τ' N0 Pt eN s3 l0 hPt hSO lPt => ?_) (fun e er ep τ' hR => ?_)
          · obtain ⟨b1, b2, b3, M1, b4, b5, _⟩ := ok i1 N1 e1
            have b5 := b5 rfl
            rw [e1] at h
            have h : rl X ln f (some (if L = 2 then 1 else 3000)) L n i1 N1 = some r := h
            have hK3 := hX.hKn
            have hn3 := hX.h3
            refine ihC _ L n i1 N1 W H τ' N0 Pt r hL5 h b2 eN s3 l0 (fun p hp => by have := hPt p hp; omega) (fun _ e p hp => by have := hPt p hp; omega) (fun _ => hSO) (fun q => ?_) (fun q => ?_) (fun q => ?_) (by omega) hW lW lH hn (by omega) hOK hER
            · split at q <;> omega
            · rw [if_neg q]; omega
            · rw [if_pos q]; omega
          · rw [er] at h
            cases h
            exact hER e rfl ep τ' hR
      · obtain rfl : L = 5 := by omega
        have ok := fun i1 N1 (e : r = .ok (i1, N1)) => rl_ok h0 _ _ _ _ _ _ i1 N1 (by rw [← e]; exact h) hi (by omega) (by omega)
        refine hA n i N W [] H τ r h hi s (Nat.zero_le _) (fun u hu => absurd hu (by simp)) (fun o ho => (hW o ho).imp id (fun z => by omega)) (by show W.length + 0 ≤ _; omega) (by omega) hn (by show b + N.length + 0 + (X.K - i) ≤ Z; omega) (fun i' N' e τ' s' => ?_) hER
        obtain ⟨b1, b2, b3, M1, b4, b5, _⟩ := ok i' N' e
        have b5 := b5 rfl
        have l1 : N'.length = N.length + M1.length := by rw [b4, List.length_append]
        exact hOK i' N' e τ' N' [] rfl s' (by omega) (fun p hp => absurd hp (by simp)) (fun M hM e => by have := (lv_ge e).2.2.2; omega) (Nat.zero_le _)
    · intro cc L n i N W H τ N0 Pt r hL5 h hi eN s l0 hPt hP3 hS1 hS0 hcK hc2 lPt hW lW lH hn hB hOK hER
      rw [rl] at h
      by_cases hc : 0 < cc ∧ lv (X.k i) = L
      · rw [if_pos hc] at h
        obtain ⟨k0, kl, ku, k4⟩ := lv_ge hc.2
        obtain ⟨x1, x2⟩ := nxK i hi k0
        have lj := jn_len Pt N0
        rw [← eN] at lj
        have lc : 0 ≤ lv (X.k i) := by omega
        obtain ⟨t1, t2, t3, t4, t5, t6⟩ := st_lv lc
        have k41 : ¬ X.k i = 41 := fun e => by rw [e] at lc; exact absurd lc (by decide)
        have s119 : ∀ τ2, RS σ0 τ2 m X b Z i N W (H ++ [N.length - 1]) n → AW g l (d + 5) MX12_goesOn 119 [some (vR 12 (some m)), some (vI (opR (X.k i))), none] [] τ2 (fun v σ' => ∃ r, v = some (vI r) ∧ ((r = 0 → AW g l (d + 6) MX12_either 17 [some (vR 12 (some m)), some (vI (b : Int)), some (vI 0)] [] σ' Q) ∧ (¬ r = 0 → AW g l (d + 6) MX12_either 17 [some (vR 12 (some m)), some (vI (b : Int)), some (vI 1)] [] σ' Q))) := by
          intro τ2 s2
          have sw := s2.w
          have s3 := s2.push (o := opR (X.k i)) (k := (gI τ2 1260 m 0).toNat) (v := gI τ2 1260 m 0 + 1) (by omega) (by omega)
          refine bk_X12_goesOn_119 ⟨s2.T.1, ⟨by omega, by omega⟩, ⟨by omega, by omega⟩, r_next hX s3.T (fun τ4 hF4 hT4 => ⟨_, rfl, fun q => absurd q (by decide), fun _ => ?_⟩)⟩
          have s4 := s3.next hF4 hT4
          refine e_opr s4.bd ?_
          cases h1 : rl X ln f none (L + 1) n (X.nx i) N with
          | none => rw [h1] at h; exact absurd h (by simp)
          | some r1 =>
            rw [h1] at h
            have ok := fun i1 N1 (e : r1 = .ok (i1, N1)) => rl_ok h0 _ _ _ _ _ _ i1 N1 (by rw [← e]; exact h1) (by omega) (by omega) (by omega)
            refine ihB (L + 1) n (X.nx i) N (W ++ [opR (X.k i)]) (H ++ [N.length - 1]) τ4 r1 (by omega) h1 (by omega) s4 (fun o ho => Or.inr ?_) (by rw [app_l]; omega) (by rw [app_l]; omega) hn (by omega) (fun i1 N1 e1 τ5 N5 P5 eN5 s5 l5 hP5 hSO5 lP5 => ?_) (fun e er ep τ' hR => ?_)
            · rw [List.getLast?_append] at ho
              simp at ho
              rw [← ho, t1]; omega
            · obtain ⟨b1, b2, b3, M1, b4, b5, _⟩ := ok i1 N1 e1
              have b5 := b5 rfl
              rw [e1] at h
              have h : rl X ln f (some (cc - 1)) L n i1 (N1 ++ [⟨X.k i, 0, N.length - 1, N1.length - 1⟩]) = some r := h
              refine ihC (cc - 1) L n i1 _ W H τ5 N5 (P5 ++ [(X.k i, N.length - 1)]) r hL5 h b2 ?_ ?_ l5 (fun p hp => ?_) (fun q e => ?_) (fun q M hM e => ?_) (fun q M hM e => ?_) (fun q => ?_) (fun q => by have := hc2 q; omega) (by rw [app_l]; omega) hW lW lH hn (by rw [app_l]; omega) hOK hER
              · rw [jn_app, ← eN5]
              · rw [wP_app, hP_app]; exact s5
              · rcases List.mem_append.mp hp with hp | hp
                · have := hP5 p hp; omega
                · rw [List.mem_singleton.mp hp]
                  show (L : Int) ≤ lv (X.k i)
                  omega
              · have := hc2 e; omega
              · obtain ⟨e2, Q1, oc, lcc, Q2, a1, a2, a3⟩ := hSO5 M hM e
                exact ⟨e2, Q1, oc, lcc, Q2 ++ [(X.k i, N.length - 1)], by rw [a1, List.append_assoc]; rfl, a2, a3⟩
              · by_cases eL : M = L
                · by_cases L2 : L = 2
                  · exact ⟨by omega, P5, X.k i, N.length - 1, [], rfl, fun p hp => by have := hP5 p hp; omega, by omega⟩
                  · have := hcK L2
                    have ei : i1 = X.K := by omega
                    have kz := (h0 i1 b2).mpr ei
                    rw [kz] at e
                    have : lv 0 = -1 := by decide
                    omega
                · obtain ⟨e2, Q1, oc, lcc, Q2, a1, a2, a3⟩ := hSO5 M (by omega) e
                  exact ⟨e2, Q1, oc, lcc, Q2 ++ [(X.k i, N.length - 1)], by rw [a1, List.append_assoc]; rfl, a2, a3⟩
              · have := hcK q; omega
            · rw [er] at h
              cases h
              exact hER e rfl ep τ' hR
        refine bk_X12_goesOn_0 (r_isSign hX s.T (by decide) (by decide) ?_)
        rw [if_neg k41]
        refine ⟨fun _ => bk_X12_goesOn_54 (r_operator hX s.T ?_), fun q => absurd rfl q⟩
        rw [if_pos lc]
        refine ⟨fun _ => r_strength ?_, fun q => absurd q (by omega)⟩
        rw [t1]
        have flush : ∀ t : Int, (∀ p ∈ Pt, t ≤ lv p.1 + 1) → (L : Int) + 1 ≤ t → AW g l (d + 5) MX12_goesOn 83 [some (vR 12 (some m)), some (vI (opR (X.k i))), some (vI (lv (X.k i) + 1))] [vI t, vR 12 (some m)] τ (fun v σ' => ∃ r, v = some (vI r) ∧ ((r = 0 → AW g l (d + 6) MX12_either 17 [some (vR 12 (some m)), some (vI (b : Int)), some (vI 0)] [] σ' Q) ∧ (¬ r = 0 → AW g l (d + 6) MX12_either 17 [some (vR 12 (some m)), some (vI (b : Int)), some (vI 1)] [] σ' Q))) := by
          intro t ht htL
          refine bk_X12_goesOn_83 ⟨m, rfl, AC.of mo_X12_joinAll (Nat.le_of_ble_eq_true rfl) ?_⟩
          refine j_flush (t := t) Pt [] N0 τ (by rw [List.append_nil]; exact s) (by rw [List.append_nil]; omega) (by rw [List.append_nil]; omega) (by omega) hZ l0 (fun p hp => ⟨by have := hPt p hp; omega, ht p hp⟩) (fun τ2 s2 => ?_)
          rw [← eN] at s2
          have s2 : RS σ0 τ2 m X b Z i N W (H ++ [N.length - 1]) n := s2
          have sw2 := s2.w
          refine j_stop s2 (by omega) (fun o ho => (hW o ho).imp id (fun z => by omega)) ⟨rfl, fun _ => s119 τ2 s2, fun e3 => ⟨fun _ => s119 τ2 s2, fun q => ⟨s2.T.1, ⟨by omega, by omega⟩, ⟨by omega, by omega⟩, r_strength ?_⟩⟩⟩
          refine ⟨fun _ => s119 τ2 s2, fun q3 => ?_⟩
          have hlt : W.length - 1 < W.length := by omega
          have ew := s2.ws (W.length - 1) W[W.length - 1] (List.getElem?_eq_getElem hlt)
          rw [show (gI τ2 1260 m 0 - 1).toNat = W.length - 1 by omega, ew] at q3
          rcases hW W[W.length - 1] (by rw [List.getLast?_eq_getElem?, List.getElem?_eq_getElem hlt]) with z | z
          · rw [z] at q3; exact absurd q3 (by decide)
          · omega
        refine ⟨fun q3 => flush _ (fun p hp => by have := hPt p hp; omega) (by omega), fun q3 => flush 4 (fun p hp => by have := hP3 hc.1 (by omega) p hp; omega) (by omega)⟩
      · rw [if_neg hc] at h
        cases h
        refine hOK i N rfl τ N0 Pt eN s l0 hPt (fun M hM e => ?_) lPt
        by_cases c0 : cc = 0
        · exact hS0 c0 M hM e
        · exact hS1 (by omega) M (by omega) e
end M17
