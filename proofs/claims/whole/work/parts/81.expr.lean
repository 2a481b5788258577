/-! expressions: a node by the class's step and operand, and its kids' numbers -/
abbrev Nd := Int × Int64 × Nat × Nat
abbrev Nd.o (x : Nd) : Int := x.1
abbrev Nd.v (x : Nd) : Int64 := x.2.1
abbrev Nd.a (x : Nd) : Nat := x.2.2.1
abbrev Nd.b (x : Nd) : Nat := x.2.2.2
def lv (k : Int) : Int :=
  if k = 225 then 0 else if k = 224 then 1 else if k = 61 ∨ k = 60 ∨ k = 62 then 2 else if k = 43 ∨ k = 45 then 3 else if k = 42 ∨ k = 47 ∨ k = 37 ∨ k = 38 then 4 else -1
/-- the fault at a token -/
def ck (X : Txt) (i : Nat) (n : Int) : Int × Int := (if X.k i = 1 then 1 else n, X.q i)
abbrev RX := Option (Except (Int × Int) (Nat × List Nd))
/-- how an expr is read: a level, or (some c) the rest of one, c operators at most -/
def rl (X : Txt) (ln : Int64 → Int) : Nat → Option Nat → Nat → Nat → Nat → List Nd → RX
  | 0, _, _, _, _, _ => none
  | f + 1, none, L, n, i, N =>
    if L < 5 then
      match rl X ln f none (L + 1) n i N with
      | none => none
      | some (.error e) => some (.error e)
      | some (.ok r) => rl X ln f (some (if L = 2 then 1 else 3000)) L n r.1 r.2
    else if X.k i = 40 ∨ X.k i = 45 ∨ X.k i = 226 then
      if 15 ≤ n then some (.error (ck X i 5))
      else if X.k i = 40 then
        match rl X ln f none 0 (n + 1) (X.nx i) N with
        | none => none
        | some (.error e) => some (.error e)
        | some (.ok r) => if X.k r.1 = 41 then some (.ok (X.nx r.1, r.2)) else some (.error (ck X r.1 2))
      else
        match rl X ln f none 5 (n + 1) (X.nx i) N with
        | none => none
        | some (.error e) => some (.error e)
        | some (.ok r) => some (.ok (r.1, r.2 ++ [⟨if X.k i = 45 then 5 else 226, 0, r.2.length - 1, 0⟩]))
    else if X.k i = 2 then
      if ln (X.v i) = -1 then some (.error (ck X i 4)) else some (.ok (X.nx i, N ++ [⟨2, i2j (ln (X.v i)), 0, 0⟩]))
    else if X.k i = 3 ∨ X.k i = 212 ∨ X.k i = 222 ∨ X.k i = 223 then some (.ok (X.nx i, N ++ [⟨X.k i, X.v i, 0, 0⟩]))
    else some (.error (ck X i 2))
  | f + 1, some c, L, n, i, N =>
    if 0 < c ∧ lv (X.k i) = L then
      match rl X ln f none (L + 1) n (X.nx i) N with
      | none => none
      | some (.error e) => some (.error e)
      | some (.ok r) => rl X ln f (some (c - 1)) L n r.1 (r.2 ++ [⟨X.k i, 0, N.length - 1, r.2.length - 1⟩])
    else some (.ok (i, N))
/-! the stack of those that wait while the steps are gone through -/
abbrev isLf (o : Int) : Prop := o = 2 ∨ o = 3 ∨ o = 212 ∨ o = 222 ∨ o = 223
abbrev isUn (o : Int) : Prop := o = 5 ∨ o = 226
def sk1 (B j : Nat) (x : Nd) (s : List Nat) : Option (List Nat) :=
  if isLf x.o then (if s.length < B then some (j :: s) else none)
  else if isUn x.o then (match s with
    | t :: r => if x.a = t then some (j :: r) else none
    | [] => none)
  else if 0 ≤ lv x.o then (match s with
    | t :: u :: r => if x.a = u ∧ x.b = t then some (j :: r) else none
    | _ => none)
  else none
def skr (B : Nat) : List Nd → Nat → List Nat → Option (List Nat)
  | [], _, s => some s
  | x :: M, j, s => (sk1 B j x s).bind (skr B M (j + 1))
theorem skr_app {B : Nat} : ∀ (M M' : List Nd) (j : Nat) (s : List Nat), skr B (M ++ M') j s = (skr B M j s).bind (skr B M' (j + M.length))
  | [], M', j, s => rfl
  | x :: M, M', j, s => by
    show (sk1 B j x s).bind (skr B (M ++ M') (j + 1)) = ((sk1 B j x s).bind (skr B M (j + 1))).bind (skr B M' (j + (M.length + 1)))
    cases h : sk1 B j x s with
    | none => rfl
    | some s' =>
      show skr B (M ++ M') (j + 1) s' = (skr B M (j + 1) s').bind (skr B M' (j + (M.length + 1)))
      rw [skr_app M M' (j + 1) s', show j + 1 + M.length = j + (M.length + 1) by omega]
/-- how many wait at most -/
def need (L n : Nat) : Nat := 5 * (15 - n) + 1 + (5 - L)
theorem lv_ge {k : Int} {L : Nat} (h : lv k = L) : ¬ k = 0 ∧ ¬ isLf k ∧ ¬ isUn k ∧ L ≤ 4 := by
  unfold lv at h
  unfold isLf isUn
  split at h
  · omega
  split at h
  · omega
  split at h
  · omega
  split at h
  · omega
  split at h
  · omega
  · omega
section RL
variable {X : Txt} {ln : Int64 → Int}
/-- what is read stands behind what was there; the root is the last -/
theorem rl_ok (h0 : ∀ i, i ≤ X.K → (X.k i = 0 ↔ i = X.K)) : ∀ (f : Nat) (c : Option Nat) (L n i : Nat) (N : List Nd) (i' : Nat) (N' : List Nd), rl X ln f c L n i N = some (.ok (i', N')) → i ≤ X.K → L ≤ 5 → n ≤ 15 →
    i ≤ i' ∧ i' ≤ X.K ∧ N'.length + i ≤ N.length + i' ∧ ∃ M, N' = N ++ M ∧
      (c = none → i < i' ∧ 1 ≤ M.length ∧ ∀ B s, s.length + need L n ≤ B → skr B M N.length s = some ((N.length + M.length - 1) :: s)) ∧
      (∀ c', c = some c' → L < 5 → 1 ≤ N.length → ∀ B s, s.length + need L n ≤ B → skr B M N.length ((N.length - 1) :: s) = some ((N.length + M.length - 1) :: s)) := by
  intro f
  induction f with
  | zero => intro c L n i N i' N' h; exact absurd h (by simp [rl])
  | succ f ih =>
    intro c L n i N i' N' h hi hL hn
    have nxK : ∀ i, i ≤ X.K → ¬ X.k i = 0 → X.nx i = i + 1 ∧ i + 1 ≤ X.K := fun i hi hk => by
      have := h0 i hi
      have : i < X.K := by omega
      exact ⟨if_pos this, by omega⟩
    have leaf : ∀ x : Nd, isLf x.o → ¬ X.k i = 0 → X.nx i = i' → N ++ [x] = N' → c = none → i ≤ i' ∧ i' ≤ X.K ∧ N'.length + i ≤ N.length + i' ∧ ∃ M, N' = N ++ M ∧
      (c = none → i < i' ∧ 1 ≤ M.length ∧ ∀ B s, s.length + need L n ≤ B → skr B M N.length s = some ((N.length + M.length - 1) :: s)) ∧
      (∀ c', c = some c' → L < 5 → 1 ≤ N.length → ∀ B s, s.length + need L n ≤ B → skr B M N.length ((N.length - 1) :: s) = some ((N.length + M.length - 1) :: s)) := by
      intro x hx hk e1 e2 hc
      obtain ⟨a, b⟩ := nxK i hi hk
      refine ⟨by omega, by omega, by rw [← e2, List.length_append]; show N.length + 1 + i ≤ _; omega, [x], e2.symm, fun _ => ⟨by omega, Nat.le_refl _, fun B s hs => ?_⟩, fun c' q => by rw [hc] at q; exact absurd q (by simp)⟩
      show (sk1 B N.length x s).bind _ = _
      unfold sk1
      rw [if_pos hx, if_pos (by unfold need at hs; omega)]
      rfl
    cases c with
    | none =>
      rw [rl] at h
      by_cases hL5 : L < 5
      · rw [if_pos hL5] at h
        cases h1 : rl X ln f none (L + 1) n i N with
        | none => rw [h1] at h; exact absurd h (by simp)
        | some r1 =>
          rw [h1] at h
          match r1, h, h1 with
          | .error e, h, h1 => exact absurd h (by simp)
          | .ok (i1, N1), h, h1 =>
            have h : rl X ln f (some (if L = 2 then 1 else 3000)) L n i1 N1 = some (.ok (i', N')) := h
            obtain ⟨a1, a2, a3, M1, a4, a5, _⟩ := ih _ _ _ _ _ _ _ h1 hi (by omega) hn
            obtain ⟨a6, a7, a8⟩ := a5 rfl
            obtain ⟨b1, b2, b3, M2, b4, _, b5⟩ := ih _ _ _ _ _ _ _ h a2 (by omega) hn
            have l1 : N1.length = N.length + M1.length := by rw [a4, List.length_append]
            refine ⟨by omega, b2, by omega, M1 ++ M2, by rw [b4, a4, List.append_assoc], fun _ => ⟨by omega, by rw [List.length_append]; omega, fun B s hs => ?_⟩, fun c' q => absurd q (by simp)⟩
            rw [skr_app, a8 B s (by unfold need at hs ⊢; omega)]
            show skr B M2 (N.length + M1.length) _ = _
            have := b5 _ rfl hL5 (by omega) B s hs
            rw [l1] at this
            rw [this, List.length_append, show N.length + M1.length + M2.length - 1 = N.length + (M1.length + M2.length) - 1 by omega]
      · rw [if_neg hL5] at h
        obtain rfl : L = 5 := by omega
        by_cases op : X.k i = 40 ∨ X.k i = 45 ∨ X.k i = 226
        · rw [if_pos op] at h
          obtain ⟨x1, x2⟩ := nxK i hi (by omega)
          by_cases n15 : 15 ≤ n
          · rw [if_pos n15] at h; exact absurd h (by simp)
          rw [if_neg n15] at h
          by_cases k40 : X.k i = 40
          · rw [if_pos k40] at h
            cases h1 : rl X ln f none 0 (n + 1) (X.nx i) N with
            | none => rw [h1] at h; exact absurd h (by simp)
            | some r1 =>
              rw [h1] at h
              match r1, h, h1 with
              | .error e, h, h1 => exact absurd h (by simp)
              | .ok (i1, N1), h, h1 =>
                have h : (if X.k i1 = 41 then some (.ok (X.nx i1, N1)) else some (.error (ck X i1 2)) : RX) = some (.ok (i', N')) := h
                obtain ⟨a1, a2, a3, M1, a4, a5, _⟩ := ih _ _ _ _ _ _ _ h1 (by omega) (by omega) (by omega)
                obtain ⟨a6, a7, a8⟩ := a5 rfl
                by_cases k41 : X.k i1 = 41
                · rw [if_pos k41] at h
                  obtain ⟨y1, y2⟩ := nxK i1 a2 (by omega)
                  simp only [Option.some.injEq, Except.ok.injEq, Prod.mk.injEq] at h
                  obtain ⟨h, rfl⟩ := h
                  refine ⟨by omega, by omega, by omega, M1, a4, fun _ => ⟨by omega, a7, fun B s hs => a8 B s (by unfold need at hs ⊢; omega)⟩, fun c' q => absurd q (by simp)⟩
                · rw [if_neg k41] at h; exact absurd h (by simp)
          · rw [if_neg k40] at h
            cases h1 : rl X ln f none 5 (n + 1) (X.nx i) N with
            | none => rw [h1] at h; exact absurd h (by simp)
            | some r1 =>
              rw [h1] at h
              match r1, h, h1 with
              | .error e, h, h1 => exact absurd h (by simp)
              | .ok (i1, N1), h, h1 =>
                have h : (some (.ok (i1, N1 ++ [⟨if X.k i = 45 then 5 else 226, 0, N1.length - 1, 0⟩])) : RX) = some (.ok (i', N')) := h
                obtain ⟨a1, a2, a3, M1, a4, a5, _⟩ := ih _ _ _ _ _ _ _ h1 (by omega) (by omega) (by omega)
                obtain ⟨a6, a7, a8⟩ := a5 rfl
                simp only [Option.some.injEq, Except.ok.injEq, Prod.mk.injEq] at h
                obtain ⟨rfl, hh⟩ := h
                have l1 : N1.length = N.length + M1.length := by rw [a4, List.length_append]
                have uo : ¬ isLf (if X.k i = 45 then 5 else 226 : Int) ∧ isUn (if X.k i = 45 then 5 else 226 : Int) := by
                  split <;> exact ⟨by decide, by decide⟩
                refine ⟨by omega, by omega, by rw [← hh, List.length_append]; show N1.length + 1 + i ≤ _; omega, M1 ++ [⟨if X.k i = 45 then 5 else 226, 0, N1.length - 1, 0⟩], by rw [← hh, a4, List.append_assoc], fun _ => ⟨by omega, by rw [List.length_append]; omega, fun B s hs => ?_⟩, fun c' q => absurd q (by simp)⟩
                rw [skr_app, a8 B s (by unfold need at hs ⊢; omega)]
                show (sk1 B (N.length + M1.length) _ _).bind _ = _
                unfold sk1
                rw [if_neg uo.1, if_pos uo.2]
                show (if N1.length - 1 = N.length + M1.length - 1 then some _ else none : Option (List Nat)).bind _ = _
                rw [if_pos (by omega), List.length_append]
                show some _ = some _
                rw [show N.length + (M1.length + [(⟨if X.k i = 45 then 5 else 226, 0, N1.length - 1, 0⟩ : Nd)].length) - 1 = N.length + M1.length by show N.length + (M1.length + 1) - 1 = _; omega]
        · rw [if_neg op] at h
          by_cases k2 : X.k i = 2
          · rw [if_pos k2] at h
            by_cases e : ln (X.v i) = -1
            · rw [if_pos e] at h; exact absurd h (by simp)
            · rw [if_neg e] at h
              simp only [Option.some.injEq, Except.ok.injEq, Prod.mk.injEq] at h
              exact leaf _ (Or.inl rfl) (by omega) h.1 h.2 rfl
          · rw [if_neg k2] at h
            by_cases pl : X.k i = 3 ∨ X.k i = 212 ∨ X.k i = 222 ∨ X.k i = 223
            · rw [if_pos pl] at h
              simp only [Option.some.injEq, Except.ok.injEq, Prod.mk.injEq] at h
              exact leaf _ (Or.inr pl) (by omega) h.1 h.2 rfl
            · rw [if_neg pl] at h; exact absurd h (by simp)
    | some c =>
      rw [rl] at h
      by_cases hc : 0 < c ∧ lv (X.k i) = L
      · rw [if_pos hc] at h
        obtain ⟨k0, kl, ku, k4⟩ := lv_ge hc.2
        obtain ⟨x1, x2⟩ := nxK i hi k0
        cases h1 : rl X ln f none (L + 1) n (X.nx i) N with
        | none => rw [h1] at h; exact absurd h (by simp)
        | some r1 =>
          rw [h1] at h
          match r1, h, h1 with
          | .error e, h, h1 => exact absurd h (by simp)
          | .ok (i1, N1), h, h1 =>
            have h : rl X ln f (some (c - 1)) L n i1 (N1 ++ [⟨X.k i, 0, N.length - 1, N1.length - 1⟩]) = some (.ok (i', N')) := h
            obtain ⟨a1, a2, a3, M1, a4, a5, _⟩ := ih _ _ _ _ _ _ _ h1 (by omega) (by omega) hn
            obtain ⟨a6, a7, a8⟩ := a5 rfl
            obtain ⟨b1, b2, b3, M2, b4, _, b5⟩ := ih _ _ _ _ _ _ _ h a2 hL hn
            have l1 : N1.length = N.length + M1.length := by rw [a4, List.length_append]
            have l2 : (N1 ++ [(⟨X.k i, 0, N.length - 1, N1.length - 1⟩ : Nd)]).length = N1.length + 1 := by rw [List.length_append]; rfl
            rw [l2] at b3
            refine ⟨by omega, b2, by omega, M1 ++ ([⟨X.k i, 0, N.length - 1, N1.length - 1⟩] ++ M2), by rw [b4, a4]; simp only [List.append_assoc], fun q => absurd q (by simp), fun c' _ hL5 hN1 B s hs => ?_⟩
            rw [skr_app, a8 B _ (by show s.length + 1 + _ ≤ _; unfold need at hs ⊢; omega)]
            show skr B ([_] ++ M2) (N.length + M1.length) _ = _
            rw [skr_app]
            show (skr B [_] (N.length + M1.length) _).bind _ = _
            have e1 : skr B [(⟨X.k i, 0, N.length - 1, N1.length - 1⟩ : Nd)] (N.length + M1.length) ((N.length + M1.length - 1) :: (N.length - 1) :: s) = some ((N.length + M1.length) :: s) := by
              show (sk1 B (N.length + M1.length) _ _).bind _ = _
              unfold sk1
              rw [if_neg kl, if_neg ku, if_pos (by show 0 ≤ lv (X.k i); rw [hc.2]; omega)]
              show (if N.length - 1 = N.length - 1 ∧ N1.length - 1 = N.length + M1.length - 1 then some _ else none : Option (List Nat)).bind _ = _
              rw [if_pos ⟨rfl, by omega⟩]
              rfl
            rw [e1]
            have := b5 _ rfl hL5 (by omega) B s hs
            rw [l2, l1, show N.length + M1.length + 1 - 1 = N.length + M1.length by omega] at this
            show skr B M2 (N.length + M1.length + 1) ((N.length + M1.length) :: s) = _
            rw [this, List.length_append, List.length_append, show N.length + M1.length + 1 + M2.length - 1 = N.length + (M1.length + ([(⟨X.k i, 0, N.length - 1, N1.length - 1⟩ : Nd)].length + M2.length)) - 1 by show _ = N.length + (M1.length + (1 + M2.length)) - 1; omega]
      · rw [if_neg hc] at h
        simp only [Option.some.injEq, Except.ok.injEq, Prod.mk.injEq] at h
        obtain ⟨rfl, rfl⟩ := h
        refine ⟨Nat.le_refl _, hi, by omega, [], by simp, fun q => absurd q (by simp), fun c' _ hL5 hN B s _ => by simp [skr]⟩
/-- with fuel enough it comes to an end -/
theorem rl_tot (h0 : ∀ i, i ≤ X.K → (X.k i = 0 ↔ i = X.K)) : ∀ (f : Nat) (c : Option Nat) (L n i : Nat) (N : List Nd), i ≤ X.K → L ≤ 5 → n ≤ 15 → (c = none → 7 * (X.K - i) + (6 - L) + 1 ≤ f) → (¬ c = none → 7 * (X.K - i) + (6 - L) ≤ f ∧ L < 5) → ∃ r, rl X ln f c L n i N = some r := by
  intro f
  induction f with
  | zero =>
    intro c L n i N hi hL hn hc hc'
    cases c with
    | none => exact absurd (hc rfl) (by omega)
    | some c => exact absurd (hc' (by simp)) (by omega)
  | succ f ih =>
    intro c L n i N hi hL hn hc hc'
    have nxK : ∀ i, i ≤ X.K → ¬ X.k i = 0 → X.nx i = i + 1 ∧ i + 1 ≤ X.K := fun i hi hk => by
      have := h0 i hi
      have : i < X.K := by omega
      exact ⟨if_pos this, by omega⟩
    cases c with
    | none =>
      have hc := hc rfl
      rw [rl]
      by_cases hL5 : L < 5
      · rw [if_pos hL5]
        obtain ⟨r1, h1⟩ := ih none (L + 1) n i N hi (by omega) hn (fun _ => by omega) (fun q => absurd rfl q)
        rw [h1]
        match r1, h1 with
        | .error e, h1 => exact ⟨_, rfl⟩
        | .ok (i1, N1), h1 =>
          obtain ⟨a1, a2, a3, M1, a4, a5, _⟩ := rl_ok h0 _ _ _ _ _ _ _ _ h1 hi (by omega) hn
          have := (a5 rfl).1
          exact ih _ L n i1 N1 a2 hL hn (fun q => absurd q (by simp)) (fun _ => ⟨by omega, hL5⟩)
      · rw [if_neg hL5]
        by_cases op : X.k i = 40 ∨ X.k i = 45 ∨ X.k i = 226
        · rw [if_pos op]
          obtain ⟨x1, x2⟩ := nxK i hi (by omega)
          by_cases n15 : 15 ≤ n
          · rw [if_pos n15]; exact ⟨_, rfl⟩
          rw [if_neg n15]
          by_cases k40 : X.k i = 40
          · rw [if_pos k40]
            obtain ⟨r1, h1⟩ := ih none 0 (n + 1) (X.nx i) N (by omega) (by omega) (by omega) (fun _ => by omega) (fun q => absurd rfl q)
            rw [h1]
            match r1 with
            | .error e => exact ⟨_, rfl⟩
            | .ok (i1, N1) =>
              show ∃ r, (if X.k i1 = 41 then some (.ok (X.nx i1, N1)) else some (.error (ck X i1 2)) : RX) = some r
              split
              · exact ⟨_, rfl⟩
              · exact ⟨_, rfl⟩
          · rw [if_neg k40]
            obtain ⟨r1, h1⟩ := ih none 5 (n + 1) (X.nx i) N (by omega) (by omega) (by omega) (fun _ => by omega) (fun q => absurd rfl q)
            rw [h1]
            match r1 with
            | .error e => exact ⟨_, rfl⟩
            | .ok (i1, N1) => exact ⟨_, rfl⟩
        · rw [if_neg op]
          split
          · split
            · exact ⟨_, rfl⟩
            · exact ⟨_, rfl⟩
          · split
            · exact ⟨_, rfl⟩
            · exact ⟨_, rfl⟩
    | some c =>
      obtain ⟨hc, hL5⟩ := hc' (by simp)
      rw [rl]
      by_cases hcc : 0 < c ∧ lv (X.k i) = L
      · rw [if_pos hcc]
        obtain ⟨k0, kl, ku, k4⟩ := lv_ge hcc.2
        obtain ⟨x1, x2⟩ := nxK i hi k0
        obtain ⟨r1, h1⟩ := ih none (L + 1) n (X.nx i) N (by omega) (by omega) hn (fun _ => by omega) (fun q => absurd rfl q)
        rw [h1]
        match r1, h1 with
        | .error e, h1 => exact ⟨_, rfl⟩
        | .ok (i1, N1), h1 =>
          obtain ⟨a1, a2, a3, M1, a4, a5, _⟩ := rl_ok h0 _ _ _ _ _ _ _ _ h1 (by omega) (by omega) hn
          have := (a5 rfl).1
          exact ih _ L n i1 _ a2 hL hn (fun q => absurd q (by simp)) (fun _ => ⟨by omega, hL5⟩)
      · rw [if_neg hcc]; exact ⟨_, rfl⟩
end RL
