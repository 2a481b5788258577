/-! the names in exprs -/
theorem aimO_k {Ns : List Int64} {F : Fld} : (aimO Ns F).ki = F.ki ∧ (aimO Ns F).ot = F.ot ∧ (aimO Ns F).es = F.es ∧ (aimO Ns F).e1 = F.e1 ∧ (aimO Ns F).ec = F.ec ∧ (aimO Ns F).e2 = F.e2 ∧ (aimO Ns F).ty = F.ty ∧ (aimO Ns F).nu = F.nu ∧ (aimO Ns F).pr = F.pr ∧ (aimO Ns F).nm = F.nm ∧ (¬ F.ki = 7 → (aimO Ns F).st = F.st) ∧ (F.ki = 7 → (aimO Ns F).st = idx Ns F.an 0) := by
  unfold aimO
  by_cases c : F.ki = 7
  · rw [if_pos c]; exact ⟨rfl, rfl, rfl, rfl, rfl, rfl, rfl, rfl, rfl, rfl, fun q => absurd c q, fun _ => rfl⟩
  · rw [if_neg c]; exact ⟨rfl, rfl, rfl, rfl, rfl, rfl, rfl, rfl, rfl, rfl, fun _ => rfl, fun q => absurd q c⟩
section WN
variable {X : Txt} {En : List Enm} {Ss : List Stc} {Fs : List Fld} {i : Nat}
theorem rl_nm {ln : Int64 → Int} (h0 : ∀ i, i ≤ X.K → (X.k i = 0 ↔ i = X.K)) : ∀ (f : Nat) (c : Option Nat) (L n i : Nat) (N : List Nd) (i' : Nat) (N' : List Nd), rl X ln f c L n i N = some (.ok (i', N')) → i ≤ X.K → L ≤ 5 → n ≤ 15 → (∀ x ∈ N, x.o = 2 → ∃ w, ¬ ln w = -1 ∧ x.v = i2j (ln w)) → ∀ x ∈ N', x.o = 2 → ∃ w, ¬ ln w = -1 ∧ x.v = i2j (ln w) := by
  intro f
  induction f with
  | zero => intro c L n i N i' N' h; exact absurd h (by simp [rl])
  | succ f ih =>
    intro c L n i N i' N' h hi hL hn hP
    have nxK : ∀ i, i ≤ X.K → X.nx i ≤ X.K := fun i hi => by unfold Txt.nx; split <;> omega
    have add : ∀ (M : List Nd) (y : Nd), (∀ x ∈ M, x.o = 2 → ∃ w, ¬ ln w = -1 ∧ x.v = i2j (ln w)) → (y.o = 2 → ∃ w, ¬ ln w = -1 ∧ y.v = i2j (ln w)) → ∀ x ∈ M ++ [y], x.o = 2 → ∃ w, ¬ ln w = -1 ∧ x.v = i2j (ln w) := fun M y hM hy x hx => by
      rcases List.mem_append.mp hx with hx | hx
      · exact hM x hx
      · rw [List.mem_singleton.mp hx]; exact hy
    cases c with
    | none =>
      rw [rl] at h
      by_cases hL5 : L < 5
      · rw [if_pos hL5] at h
        cases h1 : rl X ln f none (L + 1) n i N with
        | none => rw [h1] at h; exact absurd h (by simp)
        | some r1 =>
          rw [h1] at h
          match r1, h, h1 with
          | .error e, h, h1 => exact absurd h (by simp)
          | .ok (i1, N1), h, h1 =>
            obtain ⟨a1, a2, _⟩ := rl_ok h0 _ _ _ _ _ _ _ _ h1 hi (by omega) hn
            exact ih _ _ _ _ _ _ _ h a2 hL hn (ih _ _ _ _ _ _ _ h1 hi (by omega) hn hP)
      · rw [if_neg hL5] at h
        by_cases op : X.k i = 40 ∨ X.k i = 45 ∨ X.k i = 226
        · rw [if_pos op] at h
          by_cases n15 : 15 ≤ n
          · rw [if_pos n15] at h; exact absurd h (by simp)
          rw [if_neg n15] at h
          by_cases k40 : X.k i = 40
          · rw [if_pos k40] at h
            cases h1 : rl X ln f none 0 (n + 1) (X.nx i) N with
            | none => rw [h1] at h; exact absurd h (by simp)
            | some r1 =>
              rw [h1] at h
              match r1, h, h1 with
              | .error e, h, h1 => exact absurd h (by simp)
              | .ok (i1, N1), h, h1 =>
                have h : (if X.k i1 = 41 then some (.ok (X.nx i1, N1)) else some (.error (ck X i1 2)) : RX) = some (.ok (i', N')) := h
                by_cases k41 : X.k i1 = 41
                · rw [if_pos k41] at h
                  simp only [Option.some.injEq, Except.ok.injEq, Prod.mk.injEq] at h
                  rw [← h.2]
                  exact ih _ _ _ _ _ _ _ h1 (nxK i hi) (by omega) (by omega) hP
                · rw [if_neg k41] at h; exact absurd h (by simp)
          · rw [if_neg k40] at h
            cases h1 : rl X ln f none 5 (n + 1) (X.nx i) N with
            | none => rw [h1] at h; exact absurd h (by simp)
            | some r1 =>
              rw [h1] at h
              match r1, h, h1 with
              | .error e, h, h1 => exact absurd h (by simp)
              | .ok (i1, N1), h, h1 =>
                have h : (some (.ok (i1, N1 ++ [⟨if X.k i = 45 then 5 else 226, 0, N1.length - 1, 0⟩])) : RX) = some (.ok (i', N')) := h
                simp only [Option.some.injEq, Except.ok.injEq, Prod.mk.injEq] at h
                rw [← h.2]
                exact add _ _ (ih _ _ _ _ _ _ _ h1 (nxK i hi) (by omega) (by omega) hP) (fun e => absurd e (by show ¬ (if X.k i = 45 then (5 : Int) else 226) = 2; split <;> decide))
        · rw [if_neg op] at h
          by_cases k2 : X.k i = 2
          · rw [if_pos k2] at h
            by_cases e : ln (X.v i) = -1
            · rw [if_pos e] at h; exact absurd h (by simp)
            · rw [if_neg e] at h
              simp only [Option.some.injEq, Except.ok.injEq, Prod.mk.injEq] at h
              rw [← h.2]
              exact add _ _ hP (fun _ => ⟨X.v i, e, rfl⟩)
          · rw [if_neg k2] at h
            by_cases pl : X.k i = 3 ∨ X.k i = 212 ∨ X.k i = 222 ∨ X.k i = 223
            · rw [if_pos pl] at h
              simp only [Option.some.injEq, Except.ok.injEq, Prod.mk.injEq] at h
              rw [← h.2]
              exact add _ _ hP (fun e => absurd (show X.k i = 2 from e) k2)
            · rw [if_neg pl] at h; exact absurd h (by simp)
    | some c =>
      rw [rl] at h
      by_cases hc : 0 < c ∧ lv (X.k i) = L
      · rw [if_pos hc] at h
        obtain ⟨k0, kl, ku, k4⟩ := lv_ge hc.2
        cases h1 : rl X ln f none (L + 1) n (X.nx i) N with
        | none => rw [h1] at h; exact absurd h (by simp)
        | some r1 =>
          rw [h1] at h
          match r1, h, h1 with
          | .error e, h, h1 => exact absurd h (by simp)
          | .ok (i1, N1), h, h1 =>
            obtain ⟨a1, a2, _⟩ := rl_ok h0 _ _ _ _ _ _ _ _ h1 (nxK i hi) (by omega) hn
            refine ih _ _ _ _ _ _ _ h a2 hL hn (add _ _ (ih _ _ _ _ _ _ _ h1 (nxK i hi) (by omega) hn hP) (fun e => absurd (Or.inl e) kl))
      · rw [if_neg hc] at h
        simp only [Option.some.injEq, Except.ok.injEq, Prod.mk.injEq] at h
        rw [← h.2]; exact hP
def OpW (Fs : List Fld) (c : Int) : Prop := 0 ≤ c ∧ c ≤ 1000 ∧ ∃ F, Fs[(c / 13).toNat]? = some F ∧ (c % 13 = 0 ∧ (F.ki = 1 ∨ F.ki = 10 ∨ F.ki = 7) ∨ F.ki = 3 ∧ 1 ≤ c % 13 ∧ c % 13 ≤ F.es.length)
theorem opn_at {w : Int64} : ∀ (Fs : List Fld) (f : Int), 0 ≤ f → opn Fs w f = -1 ∨ ∃ (j : Nat) (F : Fld), Fs[j]? = some F ∧ (opn Fs w f = 13 * (f + j) ∧ (F.ki = 1 ∨ F.ki = 10 ∨ F.ki = 7) ∨ F.ki = 3 ∧ ∃ p : Int, 0 ≤ p ∧ p < F.es.length ∧ opn Fs w f = 13 * (f + j) + 1 + p)
  | [], _, _ => Or.inl rfl
  | F :: Fs, f, h0 => by
    rw [opn]
    by_cases c : (F.ki = 1 ∨ F.ki = 10 ∨ F.ki = 7) ∧ F.nm = w
    · rw [if_pos c]
      exact Or.inr ⟨0, F, rfl, Or.inl ⟨by omega, c.1⟩⟩
    · rw [if_neg c]
      by_cases c2 : F.ki = 3 ∧ ¬ idx (F.es.map (fun e => e.1)) w 0 = -1
      · rw [if_pos c2]
        have ig := idx_ge (w := w) (F.es.map (fun e => e.1)) 0 (by decide)
        rw [List.length_map] at ig
        exact Or.inr ⟨0, F, rfl, Or.inr ⟨c2.1, idx (F.es.map (fun e => e.1)) w 0, by omega, by omega, by omega⟩⟩
      · rw [if_neg c2]
        rcases opn_at (w := w) Fs (f + 1) (by omega) with z | ⟨j, G, h1, h2⟩
        · exact Or.inl z
        · refine Or.inr ⟨j + 1, G, h1, ?_⟩
          rcases h2 with ⟨e, k⟩ | ⟨k, p, p0, p1, e⟩
          · exact Or.inl ⟨by omega, k⟩
          · exact Or.inr ⟨k, p, p0, p1, by omega⟩
def F12 (Fs : List Fld) : Prop := Fs.length ≤ 14 ∧ ∀ F ∈ Fs, F.es.length ≤ 16 ∧ (F.ki = 3 → F.es.length ≤ 12)
def XN (Fs : List Fld) (e : Exr) : Prop := ∀ N, e = some N → ∀ x ∈ N, x.o = 2 → OpW Fs x.v.toInt
theorem rx_xn (hX : X.OK) (hF : F12 Fs) {r : Nat × List Nd} (hi : i ≤ X.K) (h : rx X Fs i = .ok r) : XN Fs (some r.2) := by
  unfold rx at h
  cases e : rl X (fun w => opn Fs w 0) (7 * (X.K - i) + 8) none 0 0 i [] with
  | none => rw [e] at h; cases h
  | some q =>
    rw [e] at h
    have h : q = .ok r := h
    rw [h] at e
    have nm := rl_nm (ln := fun w => opn Fs w 0) hX.k0 _ _ _ _ _ _ r.1 r.2 e hi (by omega) (by omega) (fun x hx => absurd hx (by simp))
    intro N hN x hx ho
    cases hN
    obtain ⟨w, w1, w2⟩ := nm x hx ho
    have w2 : x.v = i2j (opn Fs w 0) := w2
    have og := opn_ge (w := w) Fs 0 (by decide) (by have := hF.1; omega) (fun G hG => (hF.2 G hG).1)
    rw [w2, i2j_toInt, w32_id (by omega) (by omega)]
    rcases opn_at (w := w) Fs 0 (by decide) with z | ⟨j, G, h1, h2⟩
    · exact absurd z w1
    · have l12 := (hF.2 G (List.mem_of_getElem? h1)).2
      rcases h2 with ⟨e, k⟩ | ⟨k, p, p0, p1, e⟩
      · refine ⟨by omega, by omega, G, ?_, Or.inl ⟨by omega, k⟩⟩
        rw [show (opn Fs w 0 / 13).toNat = j by omega]; exact h1
      · have := l12 k
        refine ⟨by omega, by omega, G, ?_, Or.inr ⟨k, by omega, by omega⟩⟩
        rw [show (opn Fs w 0 / 13).toNat = j by omega]; exact h1
def XNf (Fs : List Fld) (F : Fld) : Prop := XN Fs F.ec ∧ XN Fs F.e1 ∧ XN Fs F.e2
theorem XN_none : XN Fs none := fun N h => absurd h (by simp)
def OQ (Q : Fld → Prop) (r : Rd (Nat × Fld)) : Prop := ∀ q, r = .ok q → Q q.2
theorem OQ.er {Q : Fld → Prop} {e : Int × Int} : OQ Q (.error e) := fun q h => by cases h
theorem OQ.k {Q : Fld → Prop} {j : Nat} {F : Fld} (h : Q F) : OQ Q (.ok (j, F)) := fun q hq => by cases hq; exact h
theorem OQ.bx {Q : Fld → Prop} {α : Type} {r : Rd α} {k : α → Rd (Nat × Fld)} (hk : ∀ a, r = .ok a → OQ Q (k a)) : OQ Q (bx r k) := fun q hq => by
  cases r with
  | error x => cases hq
  | ok a => exact hk a rfl q hq
theorem OQ.ite {Q : Fld → Prop} {p : Prop} [Decidable p] {a b : Rd (Nat × Fld)} (ha : OQ Q a) (hb : OQ Q b) : OQ Q (if p then a else b) := by
  by_cases c : p
  · rw [if_pos c]; exact ha
  · rw [if_neg c]; exact hb
theorem rTail_xn (hX : X.OK) (hF : F12 Fs) {F : Fld} (h : XNf Fs F) (hi : i ≤ X.K) : OQ (XNf Fs) (rTail X En Ss Fs F i) := OQ.ite (OQ.bx (fun _ _ => OQ.k h)) (OQ.ite (OQ.ite (OQ.ite (OQ.k h) OQ.er) (OQ.bx (fun r hr => OQ.bx (fun _ _ => OQ.k ⟨h.1, rx_xn hX hF (nx_le hi) hr, h.2.2⟩)))) (OQ.k h))
theorem rParts_xn : ∀ (f : Nat) {F : Fld} (bit : Int) (i : Nat), XNf Fs F → OQ (XNf Fs) (rParts X Fs f F bit i)
  | 0, _, _, _, _ => OQ.er
  | f + 1, F, bit, i, h => OQ.bx (fun r hr => by
    have ha : XNf Fs r.2.1 := by
      unfold rPart at hr
      obtain ⟨q, _, e2⟩ := bx_inv hr
      by_cases c : F.es.length < 12
      · rw [if_pos c] at e2
        obtain ⟨j, _, e4⟩ := bx_inv e2
        obtain ⟨n, _, e6⟩ := bx_inv e4
        cases e6; exact h
      · rw [if_neg c] at e2; cases e2
    exact OQ.ite (rParts_xn f _ _ ha) (OQ.k ha))
theorem rCase_xn {F : Fld} (h : XNf Fs F) (i : Nat) : OQ (XNf Fs) (rCase X Ss F i) := OQ.ite (OQ.ite (OQ.bx (fun _ _ => OQ.bx (fun _ _ => OQ.bx (fun _ _ => OQ.bx (fun _ _ => OQ.k h))))) OQ.er) OQ.er
theorem rCases_xn : ∀ (f : Nat) {F : Fld} (i : Nat), XNf Fs F → OQ (XNf Fs) (rCases X Ss f F i)
  | 0, _, _, _ => OQ.er
  | f + 1, F, i, h => OQ.bx (fun r hr => OQ.ite (rCases_xn f _ (rCase_xn h i r hr)) (OQ.k (rCase_xn h i r hr)))
theorem rByte_xn {F : Fld} (h : XNf Fs F) (i : Nat) : OQ (XNf Fs) (rByte X F i) := OQ.ite (OQ.ite (OQ.ite (OQ.k h) (OQ.bx (fun _ _ => OQ.k h))) OQ.er) OQ.er
theorem rBytes_xn : ∀ (f : Nat) {F : Fld} (i : Nat), XNf Fs F → OQ (XNf Fs) (rBytes X f F i)
  | 0, _, _, _ => OQ.er
  | f + 1, F, i, h => OQ.bx (fun r hr => OQ.ite (rBytes_xn f _ (rByte_xn h i r hr)) (OQ.k (rByte_xn h i r hr)))
theorem tk_K {w : Int} {j : Nat} (hi : i ≤ X.K) (h : tk X i w = .ok j) : j ≤ X.K := by rw [(tk_ok h).2]; exact nx_le hi
theorem tT_K {q : Nat × Int64} (hi : i ≤ X.K) (h : tT X i = .ok q) : q.1 ≤ X.K := by rw [(tT_ok h).2]; exact nx_le hi
theorem tO_K {F : Fld} {q : Nat × Int64} (hi : i ≤ X.K) (h : tO X Fs F i = .ok q) : q.1 ≤ X.K := by rw [(tO_ok h).2]; exact nx_le hi
theorem tI_K {L : List Int64} {q : Nat × Int} (hi : i ≤ X.K) (h : tI X L i = .ok q) : q.1 ≤ X.K := by rw [(tI_ok h).2.1]; exact nx_le hi
theorem rCore_xn (hX : X.OK) (hF : F12 Fs) {F : Fld} (h : XNf Fs F) (h1n : F.e1 = none) (hi : i ≤ X.K) : OQ (XNf Fs) (rCore X En Ss Fs F i) := by
  unfold rCore
  refine OQ.ite ?_ (OQ.ite ?_ (OQ.ite ?_ (OQ.ite ?_ (OQ.ite ?_ (OQ.ite ?_ (OQ.ite ?_ (OQ.ite ?_ ?_)))))))
  · exact OQ.bx (fun _ a => OQ.bx (fun _ b => by refine rTail_xn hX hF ?_ (tO_K (tT_K hi a) b); exact h))
  · exact OQ.bx (fun _ a => OQ.bx (fun _ b => by refine rTail_xn hX hF ?_ (tO_K (tI_K hi a) b); exact h))
  · exact OQ.bx (fun _ _ => OQ.bx (fun _ _ => OQ.bx (fun _ _ => OQ.bx (fun r hr => OQ.bx (fun _ _ => OQ.k (by refine rParts_xn 13 _ _ ?_ r hr; exact h))))))
  · exact OQ.bx (fun q a => OQ.ite (OQ.bx (fun r hr => OQ.bx (fun _ _ => OQ.k ⟨h.1, rx_xn hX hF (nx_le (tO_K (nx_le hi) a)) hr, h.2.2⟩))) (OQ.bx (fun _ _ => OQ.bx (fun _ _ => OQ.k h))))
  · exact OQ.bx (fun q a => OQ.bx (fun j b => OQ.bx (fun e he => OQ.bx (fun j2 _ => OQ.bx (fun r hr => by
      have ha : XNf Fs r.2 := by
        refine rCases_xn 9 _ ?_ r hr
        exact ⟨h.1, rx_xn hX hF (tk_K (tO_K (nx_le hi) a) b) he, h.2.2⟩
      exact OQ.ite (OQ.bx (fun _ _ => OQ.bx (fun _ _ => OQ.bx (fun _ _ => OQ.k ha)))) (OQ.bx (fun _ _ => OQ.k ha)))))))
  · exact OQ.bx (fun j a => OQ.bx (fun q b => OQ.bx (fun j2 c => OQ.bx (fun r e => OQ.bx (fun x hx => by
      have hr : r.1 ≤ X.K := tT_K (tk_K (tO_K (tk_K (nx_le hi) a) b) c) e
      have ha : XN Fs x.2 := by
        by_cases k : X.k r.1 = 211
        · rw [if_pos k] at hx
          obtain ⟨y, y1, y2⟩ := bx_inv hx
          cases y2
          exact rx_xn hX hF (nx_le hr) y1
        · rw [if_neg k] at hx
          cases hx
          exact XN_none
      exact OQ.ite (OQ.bx (fun _ _ => OQ.k ⟨h.1, ha, h.2.2⟩)) (OQ.k ⟨h.1, ha, h.2.2⟩))))))
  · exact OQ.bx (fun _ _ => OQ.k h)
  · exact OQ.bx (fun _ _ => OQ.bx (fun _ _ => by refine rBytes_xn 17 _ ?_; exact h))
  · exact OQ.ite (OQ.bx (fun r a => OQ.bx (fun q b => OQ.bx (fun j c => OQ.bx (fun e he => OQ.bx (fun j2 e2 => OQ.bx (fun x hx => by
      have h1 : j ≤ X.K := tk_K (tO_K (tT_K (nx_le (nx_le hi)) a) b) c
      have h2 := rx_ge hX h1 he
      exact OQ.k ⟨h.1, rx_xn hX hF h1 he, rx_xn hX hF (tk_K h2.2 e2) hx⟩))))))) OQ.er
theorem rField_xn (hX : X.OK) (hF : F12 Fs) (hi : i ≤ X.K) : OQ (XNf Fs) (rField X En Ss Fs i) :=
  OQ.bx (fun _ _ => OQ.ite (OQ.bx (fun r hr => by
    have ha : XNf Fs r.2 ∧ r.2.e1 = none ∧ r.1 ≤ X.K := by
      by_cases c : X.k i = 202
      · rw [if_pos c] at hr
        obtain ⟨q, q1, e2⟩ := bx_inv hr
        obtain ⟨j, j1, e4⟩ := bx_inv e2
        obtain ⟨n, _, e6⟩ := bx_inv e4
        cases e6
        have h2 := rx_ge hX (nx_le hi) q1
        exact ⟨⟨rx_xn hX hF (nx_le hi) q1, XN_none, XN_none⟩, rfl, tk_K h2.2 j1⟩
      · rw [if_neg c] at hr; cases hr; exact ⟨⟨XN_none, XN_none, XN_none⟩, rfl, hi⟩
    exact OQ.bx (fun q hq => OQ.bx (fun _ _ => OQ.k (rCore_xn hX hF ha.1 ha.2.1 ha.2.2 q hq))))) OQ.er)
def WNf (Fs : List Fld) : Prop := ∀ k F, Fs[k]? = some F → XNf (Fs.take k) F
def WNs (Ss : List Stc) : Prop := ∀ S ∈ Ss, WNf S.2.1
theorem WF_12 {nE : Nat} {Ss : List Stc} {F : Fld} (h : WFf nE Ss F) : F.es.length ≤ 16 ∧ (F.ki = 3 → F.es.length ≤ 12) := by
  refine ⟨h.2.2.2.1, fun k => ?_⟩
  rcases h.2.2.2.2 with q | q | q | q | q | q | q | q | q | q
  · omega
  · omega
  · omega
  · exact q.2.2.2.2.2.2
  · omega
  · omega
  · omega
  · omega
  · omega
  · omega
theorem rFields_xn (hX : X.OK) : ∀ (f : Nat) (Fs : List Fld) (i : Nat) (q : Nat × List Fld), i ≤ X.K → rFields X En Ss f Fs i = .ok q → (∀ F ∈ Fs, WFf En.length Ss F) → Fs.length ≤ 14 → WNf Fs → WNf q.2
  | 0, _, _, _, _, h, _, _, _ => by cases h
  | f + 1, Fs, i, q, hi, h, hw, h14, hn => by
    rw [rFields] at h
    by_cases c : X.k i = 125
    · rw [if_pos c] at h; cases h; exact hn
    · rw [if_neg c] at h
      obtain ⟨r, r1, r2⟩ := bx_inv h
      obtain ⟨w1, w2, w3, w4⟩ := rField_wf hX hi r1
      have x1 := rField_xn hX ⟨h14, fun F hF => WF_12 (hw F hF)⟩ hi r r1
      refine rFields_xn hX f _ _ q w2 r2 (fun F hm => ?_) (by rw [app_l]; omega) (fun k F hF => ?_)
      · rcases List.mem_append.mp hm with hm | hm
        · exact hw F hm
        · rw [List.mem_singleton] at hm; rw [hm]; exact w1
      · rcases Nat.lt_trichotomy k Fs.length with z | z | z
        · rw [List.getElem?_append_left z] at hF
          rw [List.take_append_of_le_length (by omega)]
          exact hn k F hF
        · rw [z, app_at] at hF
          cases hF
          rw [z, List.take_left']
          · exact x1
          · rfl
        · rw [List.getElem?_eq_none (by rw [app_l]; omega)] at hF
          exact absurd hF (by simp)
theorem rItems_xn (hX : X.OK) : ∀ (f : Nat) (En : List Enm) (Ss : List Stc) (i : Nat) (q : List Enm × List Stc), i ≤ X.K → rItems X f En Ss i = .ok q → WNs Ss → WNs q.2
  | 0, _, _, _, _, _, h, _ => by cases h
  | f + 1, En, Ss, i, q, hi, h, hS => by
    rw [rItems] at h
    by_cases c : X.k i = 200
    · rw [if_pos c] at h
      obtain ⟨r, r1, r2⟩ := bx_inv h
      have wf := rEnm_wf hX hi (by omega) r1
      by_cases c2 : X.k r.1 = 0
      · rw [if_pos c2] at r2; cases r2; exact hS
      · rw [if_neg c2] at r2; exact rItems_xn hX f _ _ _ q wf.2.1 r2 hS
    · rw [if_neg c] at h
      by_cases c1 : X.k i = 201
      · rw [if_pos c1] at h
        obtain ⟨r, r1, r2⟩ := bx_inv h
        have wf := rStr_wf hX hi (by omega) r1
        have hS' : WNs (Ss ++ [r.2]) := fun S hm => by
          rcases List.mem_append.mp hm with hm | hm
          · exact hS S hm
          · rw [List.mem_singleton] at hm
            unfold rStr at r1
            by_cases c3 : Ss.length < 20
            · rw [if_pos c3] at r1
              obtain ⟨q1, t1, r3⟩ := bx_inv r1
              obtain ⟨j, j1, r4⟩ := bx_inv r3
              obtain ⟨q2, r5, r6⟩ := bx_inv r4
              cases r6
              rw [hm]
              have q1K : q1.1 ≤ X.K := by rw [(tW_ok t1).2]; exact nx_le (nx_le hi)
              exact rFields_xn hX 15 [] _ q2 (tk_K q1K j1) r5 (fun F hF => absurd hF (by simp)) (by show 0 ≤ 14; omega) (fun k F hF => absurd hF (by simp))
            · rw [if_neg c3] at r1; cases r1
        by_cases c2 : X.k r.1 = 0
        · rw [if_pos c2] at r2; cases r2; exact hS'
        · rw [if_neg c2] at r2; exact rItems_xn hX f _ _ _ q wf.2.1 r2 hS'
      · rw [if_neg c1] at h; cases h
/-- the aims change no names -/
theorem OpW_aim {Ns : List Int64} {c : Int} (h : OpW Fs c) : OpW (Fs.map (aimO Ns)) c := by
  obtain ⟨h1, h2, F, h3, h4⟩ := h
  refine ⟨h1, h2, aimO Ns F, by rw [List.getElem?_map, h3]; rfl, ?_⟩
  obtain ⟨k1, k2, k3, _⟩ := aimO_k (Ns := Ns) (F := F)
  rw [k1, k3]; exact h4
theorem WNs_aim {Ss0 Ss : List Stc} (h : WNs Ss0) (ha : aimS (Ss0.map (fun s => s.1)) Ss0 = .ok Ss) : WNs Ss := by
  obtain ⟨c1, _⟩ := aimS_ok _ _ ha
  intro S hS
  rw [c1] at hS
  obtain ⟨S0, h0, e⟩ := List.mem_map.mp hS
  rw [← e]
  intro k G hG
  have hG : (S0.2.1.map (aimO (Ss0.map (fun s => s.1))))[k]? = some G := hG
  rw [List.getElem?_map] at hG
  cases hF : S0.2.1[k]? with
  | none => rw [hF] at hG; exact absurd hG (by simp)
  | some F =>
    rw [hF] at hG
    have hG : aimO (Ss0.map (fun s => s.1)) F = G := Option.some.inj hG
    obtain ⟨x1, x2, x3⟩ := h S0 h0 k F hF
    obtain ⟨_, _, _, k4, k5, k6, _⟩ := aimO_k (Ns := Ss0.map (fun s => s.1)) (F := F)
    show XNf ((S0.2.1.map (aimO (Ss0.map (fun s => s.1)))).take k) G
    rw [← hG, ← List.map_take]
    refine ⟨fun N hN x hx ho => OpW_aim (x1 N (by rw [← k5]; exact hN) x hx ho), fun N hN x hx ho => OpW_aim (x2 N (by rw [← k4]; exact hN) x hx ho), fun N hN x hx ho => OpW_aim (x3 N (by rw [← k6]; exact hN) x hx ho)⟩
end WN
