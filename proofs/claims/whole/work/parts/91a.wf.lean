/-! what is read is well made -/
def NumB (X : Txt) : Prop := ∀ i, i ≤ X.K → X.k i = 3 → 0 ≤ (X.v i).toInt
def WFx (e : Exr) : Prop := ∀ N, e = some N → 1 ≤ N.length ∧ skr 102 N 0 [] = some [N.length - 1] ∧ ∀ x ∈ N, x.o = 3 → 0 ≤ x.v.toInt
def TyR (t : Int64) : Prop := 1 ≤ tw t ∧ tw t ≤ 8 ∧ 0 ≤ t.toInt ∧ t.toInt < 64
/-- the parts of bits, the lowest first -/
def BiO : List Ent → Int → Int → Prop
  | [], at_, w => at_ ≤ w
  | e :: es, at_, w => IsN e.1 ∧ 1 ≤ e.2.1.toInt ∧ e.2.1.toInt ≤ 64 ∧ e.2.2 = at_ ∧ BiO es (at_ + e.2.1.toInt) w
def WK (nE : Nat) (Ss : List Stc) (F : Fld) : Prop :=
  (F.ki = 0 ∧ IsN F.nm ∧ 0 ≤ F.st ∧ F.st < Ss.length ∧ F.pr = -1) ∨
  (F.ki = 1 ∧ IsN F.nm ∧ TyR F.ty ∧ F.st = -1 ∧ -1 ≤ F.pr ∧ F.pr < nE) ∨
  (F.ki = 2 ∧ IsN F.nm ∧ F.pr = -1 ∧ (F.st = -1 ∧ TyR F.ty ∨ 0 ≤ F.st ∧ F.st < Ss.length ∧ (F.e1 = none → 0 < szS Ss F.st))) ∨
  (F.ki = 3 ∧ IsN F.nm ∧ F.pr = -1 ∧ TyR F.ty ∧ F.st = -1 ∧ BiO F.es 0 (8 * tw F.ty) ∧ F.es.length ≤ 12) ∨
  (F.ki = 5 ∧ IsN F.nm ∧ F.pr = -1 ∧ F.st = -1 ∧ (F.e1 = none → 0 ≤ F.nu.toInt ∧ F.nu.toInt ≤ 255)) ∨
  (F.ki = 6 ∧ IsN F.nm ∧ F.pr = -1 ∧ F.st = -1 ∧ (∃ N, F.e1 = some N) ∧ -1 ≤ F.ot ∧ F.ot < Ss.length ∧ ∀ e ∈ F.es, 0 ≤ e.2.2 ∧ e.2.2 < Ss.length) ∨
  (F.ki = 7 ∧ IsN F.nm ∧ F.pr = -1 ∧ TyR F.ty ∧ F.st = -1 ∧ 1 ≤ F.nu.toInt ∧ F.nu.toInt ≤ 4096 ∧ IsN F.an) ∨
  (F.ki = 8 ∧ F.nm = 0 ∧ F.pr = -1 ∧ F.st = -1 ∧ 1 ≤ F.nu.toInt ∧ F.nu.toInt ≤ 64) ∨
  (F.ki = 9 ∧ IsN F.nm ∧ F.pr = -1 ∧ F.st = -1 ∧ ∀ e ∈ F.es, -1 ≤ e.2.1.toInt ∧ e.2.1.toInt ≤ 255) ∨
  (F.ki = 10 ∧ IsN F.nm ∧ F.pr = -1 ∧ TyR F.ty ∧ F.st = -1 ∧ 217 ≤ F.nu.toInt ∧ F.nu.toInt ≤ 220 ∧ (∃ N, F.e1 = some N) ∧ ∃ N, F.e2 = some N)
def WFf (nE : Nat) (Ss : List Stc) (F : Fld) : Prop := WFx F.ec ∧ WFx F.e1 ∧ WFx F.e2 ∧ F.es.length ≤ 16 ∧ WK nE Ss F
theorem WFx_none : WFx none := fun N h => absurd h (by simp)
section WF
variable {X : Txt} {En : List Enm} {Ss : List Stc} {Fs : List Fld} {i : Nat}
theorem rl_nn {ln : Int64 → Int} (hN : NumB X) (h0 : ∀ i, i ≤ X.K → (X.k i = 0 ↔ i = X.K)) : ∀ (f : Nat) (c : Option Nat) (L n i : Nat) (N : List Nd) (i' : Nat) (N' : List Nd), rl X ln f c L n i N = some (.ok (i', N')) → i ≤ X.K → L ≤ 5 → n ≤ 15 → (∀ x ∈ N, x.o = 3 → 0 ≤ x.v.toInt) → ∀ x ∈ N', x.o = 3 → 0 ≤ x.v.toInt := by
  intro f
  induction f with
  | zero => intro c L n i N i' N' h; exact absurd h (by simp [rl])
  | succ f ih =>
    intro c L n i N i' N' h hi hL hn hP
    have nxK : ∀ i, i ≤ X.K → X.nx i ≤ X.K := fun i hi => by unfold Txt.nx; split <;> omega
    have add : ∀ (M : List Nd) (y : Nd), (∀ x ∈ M, x.o = 3 → 0 ≤ x.v.toInt) → (y.o = 3 → 0 ≤ y.v.toInt) → ∀ x ∈ M ++ [y], x.o = 3 → 0 ≤ x.v.toInt := fun M y hM hy x hx => by
      rcases List.mem_append.mp hx with hx | hx
      · exact hM x hx
      · rw [List.mem_singleton.mp hx]; exact hy
    cases c with
    | none =>
      rw [rl] at h
      by_cases hL5 : L < 5
      · rw [if_pos hL5] at h
        cases h1 : rl X ln f none (L + 1) n i N with
        | none => rw [h1] at h; exact absurd h (by simp)
        | some r1 =>
          rw [h1] at h
          match r1, h, h1 with
          | .error e, h, h1 => exact absurd h (by simp)
          | .ok (i1, N1), h, h1 =>
            obtain ⟨a1, a2, _⟩ := rl_ok h0 _ _ _ _ _ _ _ _ h1 hi (by omega) hn
            exact ih _ _ _ _ _ _ _ h a2 hL hn (ih _ _ _ _ _ _ _ h1 hi (by omega) hn hP)
      · rw [if_neg hL5] at h
        by_cases op : X.k i = 40 ∨ X.k i = 45 ∨ X.k i = 226
        · rw [if_pos op] at h
          by_cases n15 : 15 ≤ n
          · rw [if_pos n15] at h; exact absurd h (by simp)
          rw [if_neg n15] at h
          by_cases k40 : X.k i = 40
          · rw [if_pos k40] at h
            cases h1 : rl X ln f none 0 (n + 1) (X.nx i) N with
            | none => rw [h1] at h; exact absurd h (by simp)
            | some r1 =>
              rw [h1] at h
              match r1, h, h1 with
              | .error e, h, h1 => exact absurd h (by simp)
              | .ok (i1, N1), h, h1 =>
                have h : (if X.k i1 = 41 then some (.ok (X.nx i1, N1)) else some (.error (ck X i1 2)) : RX) = some (.ok (i', N')) := h
                by_cases k41 : X.k i1 = 41
                · rw [if_pos k41] at h
                  simp only [Option.some.injEq, Except.ok.injEq, Prod.mk.injEq] at h
                  rw [← h.2]
                  exact ih _ _ _ _ _ _ _ h1 (nxK i hi) (by omega) (by omega) hP
                · rw [if_neg k41] at h; exact absurd h (by simp)
          · rw [if_neg k40] at h
            cases h1 : rl X ln f none 5 (n + 1) (X.nx i) N with
            | none => rw [h1] at h; exact absurd h (by simp)
            | some r1 =>
              rw [h1] at h
              match r1, h, h1 with
              | .error e, h, h1 => exact absurd h (by simp)
              | .ok (i1, N1), h, h1 =>
                have h : (some (.ok (i1, N1 ++ [⟨if X.k i = 45 then 5 else 226, 0, N1.length - 1, 0⟩])) : RX) = some (.ok (i', N')) := h
                simp only [Option.some.injEq, Except.ok.injEq, Prod.mk.injEq] at h
                rw [← h.2]
                exact add _ _ (ih _ _ _ _ _ _ _ h1 (nxK i hi) (by omega) (by omega) hP) (fun e => absurd e (by show ¬ (if X.k i = 45 then (5 : Int) else 226) = 3; split <;> decide))
        · rw [if_neg op] at h
          by_cases k2 : X.k i = 2
          · rw [if_pos k2] at h
            by_cases e : ln (X.v i) = -1
            · rw [if_pos e] at h; exact absurd h (by simp)
            · rw [if_neg e] at h
              simp only [Option.some.injEq, Except.ok.injEq, Prod.mk.injEq] at h
              rw [← h.2]
              exact add _ _ hP (fun e => absurd e (by show ¬ (2 : Int) = 3; decide))
          · rw [if_neg k2] at h
            by_cases pl : X.k i = 3 ∨ X.k i = 212 ∨ X.k i = 222 ∨ X.k i = 223
            · rw [if_pos pl] at h
              simp only [Option.some.injEq, Except.ok.injEq, Prod.mk.injEq] at h
              rw [← h.2]
              exact add _ _ hP (fun e => hN i hi e)
            · rw [if_neg pl] at h; exact absurd h (by simp)
    | some c =>
      rw [rl] at h
      by_cases hc : 0 < c ∧ lv (X.k i) = L
      · rw [if_pos hc] at h
        obtain ⟨k0, kl, ku, k4⟩ := lv_ge hc.2
        cases h1 : rl X ln f none (L + 1) n (X.nx i) N with
        | none => rw [h1] at h; exact absurd h (by simp)
        | some r1 =>
          rw [h1] at h
          match r1, h, h1 with
          | .error e, h, h1 => exact absurd h (by simp)
          | .ok (i1, N1), h, h1 =>
            obtain ⟨a1, a2, _⟩ := rl_ok h0 _ _ _ _ _ _ _ _ h1 (nxK i hi) (by omega) hn
            refine ih _ _ _ _ _ _ _ h a2 hL hn (add _ _ (ih _ _ _ _ _ _ _ h1 (nxK i hi) (by omega) hn hP) (fun e => absurd (Or.inr (Or.inl e)) kl))
      · rw [if_neg hc] at h
        simp only [Option.some.injEq, Except.ok.injEq, Prod.mk.injEq] at h
        rw [← h.2]; exact hP
theorem rx_wf (hX : X.OK) (hN : NumB X) {r : Nat × List Nd} (hi : i ≤ X.K) (h : rx X Fs i = .ok r) : WFx (some r.2) ∧ i < r.1 ∧ r.1 ≤ X.K := by
  unfold rx at h
  obtain ⟨q, hq⟩ := rl_tot (ln := fun w => opn Fs w 0) hX.k0 (7 * (X.K - i) + 8) none 0 0 i [] hi (by omega) (by omega) (fun _ => by omega) (fun q => absurd rfl q)
  rw [hq] at h
  have h : q = .ok r := h
  rw [h] at hq
  obtain ⟨a1, a2, a3, M, a4, a5, _⟩ := rl_ok hX.k0 _ _ _ _ _ _ r.1 r.2 hq hi (by omega) (by omega)
  obtain ⟨b1, b2, b3⟩ := a5 rfl
  have eM : r.2 = M := by rw [a4]; rfl
  refine ⟨fun N e => ?_, b1, a2⟩
  cases e
  rw [eM]
  have := b3 102 [] (by unfold need; decide)
  refine ⟨b2, ?_, fun x hx => rl_nn hN hX.k0 _ _ _ _ _ _ r.1 r.2 hq hi (by omega) (by omega) (fun x hx => absurd hx (by simp)) x (by rw [eM]; exact hx)⟩
  rw [show ([] : List Nd).length + M.length - 1 = M.length - 1 by show 0 + M.length - 1 = _; omega] at this
  exact this
end WF
