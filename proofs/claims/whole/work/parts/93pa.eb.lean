/-! the places of faults are within the text -/
def EB (e : Int × Int) : Prop := 0 ≤ e.2 ∧ e.2 ≤ 3000
def EBr {α : Type} (r : Rd α) : Prop := ∀ e, r = .error e → EB e
theorem EBr.k {α : Type} {a : α} : EBr (.ok a : Rd α) := fun _ h => by cases h
theorem EBr.bx {α β : Type} {r : Rd α} {k : α → Rd β} (h : EBr r) (hk : ∀ a, EBr (k a)) : EBr (bx r k) := fun e he => by
  cases r with
  | error x => cases he; exact h _ rfl
  | ok a => exact hk a e he
theorem EB.ck {X : Txt} (hX : X.OK) {i : Nat} {n : Int} : EB (ck X i n) := by
  have := qs_ge (T := X.T) (n := X.n) hX.h0 i
  have h3 := hX.h3
  exact ⟨this.1, by show X.q i ≤ 3000; exact Int.le_trans this.2 h3⟩
theorem EBr.ck {α : Type} {X : Txt} (hX : X.OK) {i : Nat} {n : Int} : EBr (.error (ck X i n) : Rd α) := fun e h => by
  cases h; exact EB.ck hX
theorem EBr.z {α : Type} : EBr (.error (0, 0) : Rd α) := fun e h => by cases h; exact ⟨by decide, by decide⟩
theorem EBr.ite {α : Type} {p : Prop} [Decidable p] {a b : Rd α} (ha : EBr a) (hb : EBr b) : EBr (if p then a else b) := by
  by_cases c : p
  · rw [if_pos c]; exact ha
  · rw [if_neg c]; exact hb
section M34
variable {X : Txt} {En : List Enm} {Ss : List Stc} {Fs : List Fld}
theorem rl_eb (hX : X.OK) {ln : Int64 → Int} : ∀ (f : Nat) (c : Option Nat) (L n i : Nat) (N : List Nd) (e : Int × Int), rl X ln f c L n i N = some (.error e) → EB e := by
  intro f
  induction f with
  | zero => intro c L n i N e h; unfold rl at h; cases h
  | succ f ih =>
    intro c L n i N e h
    cases c with
    | none =>
      unfold rl at h
      by_cases c1 : L < 5
      · rw [if_pos c1] at h
        cases r : rl X ln f none (L + 1) n i N with
        | none => rw [r] at h; cases h
        | some x =>
          rw [r] at h
          cases x with
          | error y => cases h; exact ih _ _ _ _ _ _ r
          | ok y => exact ih _ _ _ _ _ _ h
      rw [if_neg c1] at h
      by_cases c2 : X.k i = 40 ∨ X.k i = 45 ∨ X.k i = 226
      · rw [if_pos c2] at h
        by_cases c3 : 15 ≤ n
        · rw [if_pos c3] at h; cases h; exact EB.ck hX
        rw [if_neg c3] at h
        by_cases c4 : X.k i = 40
        · rw [if_pos c4] at h
          cases r : rl X ln f none 0 (n + 1) (X.nx i) N with
          | none => rw [r] at h; cases h
          | some x =>
            rw [r] at h
            cases x with
            | error y => cases h; exact ih _ _ _ _ _ _ r
            | ok y =>
              have h : (if X.k y.1 = 41 then some (.ok (X.nx y.1, y.2)) else some (.error (ck X y.1 2)) : RX) = some (.error e) := h
              by_cases c5 : X.k y.1 = 41
              · rw [if_pos c5] at h; cases h
              · rw [if_neg c5] at h; cases h; exact EB.ck hX
        rw [if_neg c4] at h
        cases r : rl X ln f none 5 (n + 1) (X.nx i) N with
        | none => rw [r] at h; cases h
        | some x =>
          rw [r] at h
          cases x with
          | error y => cases h; exact ih _ _ _ _ _ _ r
          | ok y => cases h
      rw [if_neg c2] at h
      by_cases c6 : X.k i = 2
      · rw [if_pos c6] at h
        by_cases c7 : ln (X.v i) = -1
        · rw [if_pos c7] at h; cases h; exact EB.ck hX
        · rw [if_neg c7] at h; cases h
      rw [if_neg c6] at h
      by_cases c8 : X.k i = 3 ∨ X.k i = 212 ∨ X.k i = 222 ∨ X.k i = 223
      · rw [if_pos c8] at h; cases h
      · rw [if_neg c8] at h; cases h; exact EB.ck hX
    | some c =>
      unfold rl at h
      by_cases c1 : 0 < c ∧ lv (X.k i) = L
      · rw [if_pos c1] at h
        cases r : rl X ln f none (L + 1) n (X.nx i) N with
        | none => rw [r] at h; cases h
        | some x =>
          rw [r] at h
          cases x with
          | error y => cases h; exact ih _ _ _ _ _ _ r
          | ok y => exact ih _ _ _ _ _ _ h
      · rw [if_neg c1] at h; cases h
theorem rx_eb (hX : X.OK) (i : Nat) : EBr (rx X Fs i) := fun e h => by
  unfold rx at h
  cases r : rl X (fun w => opn Fs w 0) (7 * (X.K - i) + 8) none 0 0 i [] with
  | none => rw [r] at h; cases h; exact ⟨by decide, by decide⟩
  | some x =>
    rw [r] at h
    have h : x = .error e := h
    rw [h] at r
    exact rl_eb hX _ _ _ _ _ _ _ r
theorem tk_eb (hX : X.OK) (i : Nat) (w : Int) : EBr (tk X i w) := EBr.ite EBr.k (EBr.ck hX)
theorem tN_eb (hX : X.OK) (i : Nat) (a b : Int) : EBr (tN X i a b) := EBr.ite (EBr.ite EBr.k (EBr.ck hX)) (EBr.ck hX)
theorem tS_eb (hX : X.OK) (i : Nat) : EBr (tS X i) := EBr.ite (EBr.ite EBr.k (EBr.ck hX)) (EBr.ite EBr.k (EBr.ck hX))
theorem tT_eb (hX : X.OK) (i : Nat) : EBr (tT X i) := EBr.ite EBr.k (EBr.ck hX)
theorem tI_eb (hX : X.OK) (L : List Int64) (i : Nat) : EBr (tI X L i) := EBr.ite (EBr.ite (EBr.ck hX) EBr.k) (EBr.ck hX)
theorem tO_eb (hX : X.OK) (F : Fld) (i : Nat) : EBr (tO X Fs F i) := EBr.ite (EBr.ite (EBr.ck hX) EBr.k) (EBr.ck hX)
theorem tC_eb (hX : X.OK) (i : Nat) : EBr (tC X Ss i) := EBr.ite EBr.k (EBr.ite (EBr.ite (EBr.ck hX) EBr.k) (EBr.ck hX))
theorem tW_eb (hX : X.OK) (i : Nat) : EBr (tW X En Ss i) := EBr.ite (EBr.ite EBr.k (EBr.ck hX)) (EBr.ck hX)
theorem rTail_eb (hX : X.OK) (F : Fld) (i : Nat) : EBr (rTail X En Ss Fs F i) :=
  EBr.ite (EBr.bx (tI_eb hX _ _) (fun _ => EBr.k)) (EBr.ite (EBr.ite (EBr.ite EBr.k (EBr.ck hX)) (EBr.bx (rx_eb hX _) (fun _ => EBr.bx (tk_eb hX _ _) (fun _ => EBr.k)))) EBr.k)
theorem rPart_eb (hX : X.OK) (F : Fld) (bit : Int) (i : Nat) : EBr (rPart X Fs F bit i) :=
  EBr.bx (tO_eb hX _ _) (fun _ => EBr.ite (EBr.bx (tk_eb hX _ _) (fun _ => EBr.bx (tN_eb hX _ _ _) (fun _ => EBr.k))) (EBr.ck hX))
theorem rParts_eb (hX : X.OK) : ∀ (f : Nat) (F : Fld) (bit : Int) (i : Nat), EBr (rParts X Fs f F bit i)
  | 0, _, _, _ => EBr.z
  | f + 1, F, bit, i => EBr.bx (rPart_eb hX _ _ _) (fun _ => EBr.ite (rParts_eb hX f _ _ _) EBr.k)
theorem rCase_eb (hX : X.OK) (F : Fld) (i : Nat) : EBr (rCase X Ss F i) :=
  EBr.ite (EBr.ite (EBr.bx (tS_eb hX _) (fun _ => EBr.bx (tk_eb hX _ _) (fun _ => EBr.bx (tI_eb hX _ _) (fun _ => EBr.bx (tk_eb hX _ _) (fun _ => EBr.k))))) (EBr.ck hX)) (EBr.ck hX)
theorem rCases_eb (hX : X.OK) : ∀ (f : Nat) (F : Fld) (i : Nat), EBr (rCases X Ss f F i)
  | 0, _, _ => EBr.z
  | f + 1, F, i => EBr.bx (rCase_eb hX _ _) (fun _ => EBr.ite (rCases_eb hX f _ _) EBr.k)
theorem rByte_eb (hX : X.OK) (F : Fld) (i : Nat) : EBr (rByte X F i) :=
  EBr.ite (EBr.ite (EBr.ite EBr.k (EBr.bx (tN_eb hX _ _ _) (fun _ => EBr.k))) (EBr.ck hX)) (EBr.ck hX)
theorem rBytes_eb (hX : X.OK) : ∀ (f : Nat) (F : Fld) (i : Nat), EBr (rBytes X f F i)
  | 0, _, _ => EBr.z
  | f + 1, F, i => EBr.bx (rByte_eb hX _ _) (fun _ => EBr.ite (rBytes_eb hX f _ _) EBr.k)
theorem rCore_eb (hX : X.OK) (F : Fld) (i : Nat) : EBr (rCore X En Ss Fs F i) := by
  unfold rCore
  refine EBr.ite ?_ (EBr.ite ?_ (EBr.ite ?_ (EBr.ite ?_ (EBr.ite ?_ (EBr.ite ?_ (EBr.ite ?_ (EBr.ite ?_ ?_)))))))
  · exact EBr.bx (tT_eb hX _) (fun _ => EBr.bx (tO_eb hX _ _) (fun _ => rTail_eb hX _ _))
  · exact EBr.bx (tI_eb hX _ _) (fun _ => EBr.bx (tO_eb hX _ _) (fun _ => rTail_eb hX _ _))
  · exact EBr.bx (tT_eb hX _) (fun _ => EBr.bx (tO_eb hX _ _) (fun _ => EBr.bx (tk_eb hX _ _) (fun _ => EBr.bx (rParts_eb hX _ _ _ _) (fun _ => EBr.bx (tk_eb hX _ _) (fun _ => EBr.k)))))
  · exact EBr.bx (tO_eb hX _ _) (fun _ => EBr.ite (EBr.bx (rx_eb hX _) (fun _ => EBr.bx (tk_eb hX _ _) (fun _ => EBr.k))) (EBr.bx (tk_eb hX _ _) (fun _ => EBr.bx (tN_eb hX _ _ _) (fun _ => EBr.k))))
  · exact EBr.bx (tO_eb hX _ _) (fun _ => EBr.bx (tk_eb hX _ _) (fun _ => EBr.bx (rx_eb hX _) (fun _ => EBr.bx (tk_eb hX _ _) (fun _ => EBr.bx (rCases_eb hX _ _ _) (fun _ => EBr.ite (EBr.bx (tI_eb hX _ _) (fun _ => EBr.bx (tk_eb hX _ _) (fun _ => EBr.bx (tk_eb hX _ _) (fun _ => EBr.k)))) (EBr.bx (tk_eb hX _ _) (fun _ => EBr.k)))))))
  · exact EBr.bx (tk_eb hX _ _) (fun _ => EBr.bx (tO_eb hX _ _) (fun _ => EBr.bx (tk_eb hX _ _) (fun _ => EBr.bx (tT_eb hX _) (fun _ => EBr.bx (EBr.ite (EBr.bx (rx_eb hX _) (fun _ => EBr.k)) EBr.k) (fun _ => EBr.ite (EBr.bx (tN_eb hX _ _ _) (fun _ => EBr.k)) EBr.k)))))
  · exact EBr.bx (tN_eb hX _ _ _) (fun _ => EBr.k)
  · exact EBr.bx (tO_eb hX _ _) (fun _ => EBr.bx (tk_eb hX _ _) (fun _ => rBytes_eb hX _ _ _))
  · exact EBr.ite (EBr.bx (tT_eb hX _) (fun _ => EBr.bx (tO_eb hX _ _) (fun _ => EBr.bx (tk_eb hX _ _) (fun _ => EBr.bx (rx_eb hX _) (fun _ => EBr.bx (tk_eb hX _ _) (fun _ => EBr.bx (rx_eb hX _) (fun _ => EBr.k))))))) (EBr.ck hX)
theorem rField_eb (hX : X.OK) (i : Nat) : EBr (rField X En Ss Fs i) :=
  EBr.bx (EBr.ite EBr.k (tC_eb hX _)) (fun _ => EBr.ite (EBr.bx (EBr.ite (EBr.bx (rx_eb hX _) (fun _ => EBr.bx (tk_eb hX _ _) (fun _ => EBr.bx (tC_eb hX _) (fun _ => EBr.k)))) EBr.k) (fun _ => EBr.bx (rCore_eb hX _ _) (fun _ => EBr.bx (tk_eb hX _ _) (fun _ => EBr.k)))) (EBr.ck hX))
theorem rFields_eb (hX : X.OK) : ∀ (f : Nat) (Fs : List Fld) (i : Nat), EBr (rFields X En Ss f Fs i)
  | 0, _, _ => EBr.z
  | f + 1, Fs, i => EBr.ite EBr.k (EBr.bx (rField_eb hX _) (fun _ => rFields_eb hX f _ _))
theorem rStr_eb (hX : X.OK) (i : Nat) : EBr (rStr X En Ss i) := EBr.ite (EBr.bx (tW_eb hX _) (fun _ => EBr.bx (tk_eb hX _ _) (fun _ => EBr.bx (rFields_eb hX _ _ _) (fun _ => EBr.k)))) (EBr.ck hX)
theorem rPair_eb (hX : X.OK) (Ps : List Ent) (i : Nat) : EBr (rPair X Ps i) := EBr.ite (EBr.ite (EBr.ite (EBr.bx (tk_eb hX _ _) (fun _ => EBr.bx (tS_eb hX _) (fun _ => EBr.k))) (EBr.ck hX)) (EBr.ck hX)) (EBr.ck hX)
theorem rPairs_eb (hX : X.OK) : ∀ (f : Nat) (Ps : List Ent) (i : Nat), EBr (rPairs X f Ps i)
  | 0, _, _ => EBr.z
  | f + 1, Ps, i => EBr.bx (rPair_eb hX _ _) (fun _ => EBr.ite (rPairs_eb hX f _ _) EBr.k)
theorem rEnm_eb (hX : X.OK) (i : Nat) : EBr (rEnm X En Ss i) := EBr.ite (EBr.bx (tW_eb hX _) (fun _ => EBr.bx (tk_eb hX _ _) (fun _ => EBr.bx (rPairs_eb hX _ _ _) (fun _ => EBr.bx (tk_eb hX _ _) (fun _ => EBr.k))))) (EBr.ck hX)
theorem rItems_eb (hX : X.OK) : ∀ (f : Nat) (En : List Enm) (Ss : List Stc) (i : Nat), EBr (rItems X f En Ss i)
  | 0, _, _, _ => EBr.z
  | f + 1, En, Ss, i => EBr.ite (EBr.bx (rEnm_eb hX _) (fun _ => EBr.ite EBr.k (rItems_eb hX f _ _ _))) (EBr.ite (EBr.bx (rStr_eb hX _) (fun _ => EBr.ite EBr.k (rItems_eb hX f _ _ _))) (EBr.ck hX))
/-! the places of the aims -/
def AP (F : Fld) : Prop := 0 ≤ F.ap ∧ F.ap ≤ 3000
def OB (r : Rd (Nat × Fld)) : Prop := ∀ q, r = .ok q → AP q.2
theorem OB.er {e : Int × Int} : OB (.error e) := fun q h => by cases h
theorem OB.k {j : Nat} {F : Fld} (h : AP F) : OB (.ok (j, F)) := fun q hq => by cases hq; exact h
theorem OB.bx {α : Type} {r : Rd α} {k : α → Rd (Nat × Fld)} (hk : ∀ a, r = .ok a → OB (k a)) : OB (bx r k) := fun q hq => by
  cases r with
  | error x => cases hq
  | ok a => exact hk a rfl q hq
theorem OB.ite {p : Prop} [Decidable p] {a b : Rd (Nat × Fld)} (ha : OB a) (hb : OB b) : OB (if p then a else b) := by
  by_cases c : p
  · rw [if_pos c]; exact ha
  · rw [if_neg c]; exact hb
theorem rTail_ap {F : Fld} (h : AP F) (i : Nat) : OB (rTail X En Ss Fs F i) := OB.ite (OB.bx (fun _ _ => OB.k h)) (OB.ite (OB.ite (OB.ite (OB.k h) OB.er) (OB.bx (fun _ _ => OB.bx (fun _ _ => OB.k h)))) (OB.k h))
theorem rParts_ap : ∀ (f : Nat) {F : Fld} (bit : Int) (i : Nat), AP F → OB (rParts X Fs f F bit i)
  | 0, _, _, _, _ => OB.er
  | f + 1, F, bit, i, h => OB.bx (fun r hr => by
    have ha : AP r.2.1 := by
      unfold rPart at hr
      obtain ⟨q, _, e2⟩ := bx_inv hr
      by_cases c : F.es.length < 12
      · rw [if_pos c] at e2
        obtain ⟨j, _, e4⟩ := bx_inv e2
        obtain ⟨n, _, e6⟩ := bx_inv e4
        cases e6; exact h
      · rw [if_neg c] at e2; cases e2
    exact OB.ite (rParts_ap f _ _ ha) (OB.k ha))
theorem rCase_ap {F : Fld} (h : AP F) (i : Nat) : OB (rCase X Ss F i) := OB.ite (OB.ite (OB.bx (fun _ _ => OB.bx (fun _ _ => OB.bx (fun _ _ => OB.bx (fun _ _ => OB.k h))))) OB.er) OB.er
theorem rCases_ap : ∀ (f : Nat) {F : Fld} (i : Nat), AP F → OB (rCases X Ss f F i)
  | 0, _, _, _ => OB.er
  | f + 1, F, i, h => OB.bx (fun r hr => OB.ite (rCases_ap f _ (rCase_ap h i r hr)) (OB.k (rCase_ap h i r hr)))
theorem rByte_ap {F : Fld} (h : AP F) (i : Nat) : OB (rByte X F i) := OB.ite (OB.ite (OB.ite (OB.k h) (OB.bx (fun _ _ => OB.k h))) OB.er) OB.er
theorem rBytes_ap : ∀ (f : Nat) {F : Fld} (i : Nat), AP F → OB (rBytes X f F i)
  | 0, _, _, _ => OB.er
  | f + 1, F, i, h => OB.bx (fun r hr => OB.ite (rBytes_ap f _ (rByte_ap h i r hr)) (OB.k (rByte_ap h i r hr)))
theorem rCore_ap (hX : X.OK) {F : Fld} (h : AP F) (i : Nat) : OB (rCore X En Ss Fs F i) := by
  unfold rCore
  refine OB.ite ?_ (OB.ite ?_ (OB.ite ?_ (OB.ite ?_ (OB.ite ?_ (OB.ite ?_ (OB.ite ?_ (OB.ite ?_ ?_)))))))
  · exact OB.bx (fun _ _ => OB.bx (fun _ _ => by refine rTail_ap ?_ _; exact h))
  · exact OB.bx (fun _ _ => OB.bx (fun _ _ => by refine rTail_ap ?_ _; exact h))
  · exact OB.bx (fun _ _ => OB.bx (fun _ _ => OB.bx (fun _ _ => OB.bx (fun r hr => OB.bx (fun _ _ => OB.k (by refine rParts_ap 13 _ _ ?_ r hr; exact h))))))
  · exact OB.bx (fun _ _ => OB.ite (OB.bx (fun _ _ => OB.bx (fun _ _ => OB.k h))) (OB.bx (fun _ _ => OB.bx (fun _ _ => OB.k h))))
  · exact OB.bx (fun _ _ => OB.bx (fun _ _ => OB.bx (fun _ _ => OB.bx (fun _ _ => OB.bx (fun r hr => by
      have ha : AP r.2 := by refine rCases_ap 9 _ ?_ r hr; exact h
      exact OB.ite (OB.bx (fun _ _ => OB.bx (fun _ _ => OB.bx (fun _ _ => OB.k ha)))) (OB.bx (fun _ _ => OB.k ha)))))))
  · have ha : 0 ≤ X.q (X.nx i) ∧ X.q (X.nx i) ≤ 3000 := EB.ck (n := 0) hX
    exact OB.bx (fun _ _ => OB.bx (fun _ _ => OB.bx (fun _ _ => OB.bx (fun _ _ => OB.bx (fun _ _ => OB.ite (OB.bx (fun _ _ => OB.k ha)) (OB.k ha))))))
  · exact OB.bx (fun _ _ => OB.k h)
  · exact OB.bx (fun _ _ => OB.bx (fun _ _ => by refine rBytes_ap 17 _ ?_; exact h))
  · exact OB.ite (OB.bx (fun _ _ => OB.bx (fun _ _ => OB.bx (fun _ _ => OB.bx (fun _ _ => OB.bx (fun _ _ => OB.bx (fun _ _ => OB.k h))))))) OB.er
theorem ap0 : AP fld0 := ⟨(by decide : (0 : Int) ≤ 0), (by decide : (0 : Int) ≤ 3000)⟩
theorem rField_ap (hX : X.OK) (i : Nat) : OB (rField X En Ss Fs i) :=
  OB.bx (fun _ _ => OB.ite (OB.bx (fun r hr => by
    have ha : AP r.2 := by
      by_cases c : X.k i = 202
      · rw [if_pos c] at hr
        obtain ⟨q, _, e2⟩ := bx_inv hr
        obtain ⟨j, _, e4⟩ := bx_inv e2
        obtain ⟨n, _, e6⟩ := bx_inv e4
        cases e6; exact ap0
      · rw [if_neg c] at hr; cases hr; exact ap0
    exact OB.bx (fun q hq => OB.bx (fun _ _ => OB.k (rCore_ap hX ha _ q hq))))) OB.er)
theorem rFields_ap (hX : X.OK) : ∀ (f : Nat) (Fs : List Fld) (i : Nat) (q : Nat × List Fld), rFields X En Ss f Fs i = .ok q → (∀ F ∈ Fs, AP F) → ∀ F ∈ q.2, AP F
  | 0, _, _, _, h, _ => by cases h
  | f + 1, Fs, i, q, h, hF => by
    rw [rFields] at h
    by_cases c : X.k i = 125
    · rw [if_pos c] at h; cases h; exact hF
    · rw [if_neg c] at h
      obtain ⟨r, r1, r2⟩ := bx_inv h
      refine rFields_ap hX f _ _ q r2 (fun F hm => ?_)
      rcases List.mem_append.mp hm with hm | hm
      · exact hF F hm
      · rw [List.mem_singleton] at hm; rw [hm]; exact rField_ap hX i r r1
theorem rItems_ap (hX : X.OK) : ∀ (f : Nat) (En : List Enm) (Ss : List Stc) (i : Nat) (q : List Enm × List Stc), rItems X f En Ss i = .ok q → (∀ S ∈ Ss, ∀ F ∈ S.2.1, AP F) → ∀ S ∈ q.2, ∀ F ∈ S.2.1, AP F
  | 0, _, _, _, _, h, _ => by cases h
  | f + 1, En, Ss, i, q, h, hS => by
    rw [rItems] at h
    by_cases c : X.k i = 200
    · rw [if_pos c] at h
      obtain ⟨r, r1, r2⟩ := bx_inv h
      by_cases c2 : X.k r.1 = 0
      · rw [if_pos c2] at r2; cases r2; exact hS
      · rw [if_neg c2] at r2; exact rItems_ap hX f _ _ _ q r2 hS
    · rw [if_neg c] at h
      by_cases c1 : X.k i = 201
      · rw [if_pos c1] at h
        obtain ⟨r, r1, r2⟩ := bx_inv h
        have hS' : ∀ S ∈ Ss ++ [r.2], ∀ F ∈ S.2.1, AP F := fun S hm => by
          rcases List.mem_append.mp hm with hm | hm
          · exact hS S hm
          · rw [List.mem_singleton] at hm
            unfold rStr at r1
            by_cases c3 : Ss.length < 20
            · rw [if_pos c3] at r1
              obtain ⟨q1, _, r3⟩ := bx_inv r1
              obtain ⟨j, _, r4⟩ := bx_inv r3
              obtain ⟨q2, r5, r6⟩ := bx_inv r4
              cases r6
              rw [hm]
              exact rFields_ap hX 15 [] _ q2 r5 (fun F hF => absurd hF (by simp))
            · rw [if_neg c3] at r1; cases r1
        by_cases c2 : X.k r.1 = 0
        · rw [if_pos c2] at r2; cases r2; exact hS'
        · rw [if_neg c2] at r2; exact rItems_ap hX f _ _ _ q r2 hS'
      · rw [if_neg c1] at h; cases h
theorem rDesc_eb (hX : X.OK) : EBr (rDesc X) := fun e h => by
  unfold rDesc at h
  cases r : rItems X (X.K + 1) [] [] 0 with
  | error x => rw [r, bx_er] at h; cases h; exact rItems_eb hX _ _ _ _ _ r
  | ok q =>
    rw [r, bx_ok] at h
    have ap := rItems_ap hX _ _ _ _ q r (fun S hS => absurd hS (by simp))
    have hF : ∀ (Ns : List Int64) (Fs : List Fld), (∀ F ∈ Fs, AP F) → EBr (aimF Ns Fs) := fun Ns Fs => by
      induction Fs with
      | nil => intro _; exact EBr.k
      | cons F Fs ih => exact fun hh => EBr.bx (by
          show EBr (aim Ns F)
          unfold aim
          refine EBr.ite (EBr.ite ?_ EBr.k) EBr.k
          intro e he; cases he; exact hh F List.mem_cons_self) (fun _ => EBr.bx (ih (fun G hG => hh G (List.mem_cons_of_mem _ hG))) (fun _ => EBr.k))
    have hS : ∀ (Ns : List Int64) (Ss : List Stc), (∀ S ∈ Ss, ∀ F ∈ S.2.1, AP F) → EBr (aimS Ns Ss) := fun Ns Ss => by
      induction Ss with
      | nil => intro _; exact EBr.k
      | cons S Ss ih => exact fun hh => EBr.bx (hF Ns _ (hh S List.mem_cons_self)) (fun _ => EBr.bx (ih (fun G hG => hh G (List.mem_cons_of_mem _ hG))) (fun _ => EBr.k))
    exact EBr.bx (hS _ _ ap) (fun _ => EBr.k) e h
end M34
