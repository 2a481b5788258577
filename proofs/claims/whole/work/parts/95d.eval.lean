/-! exprs worked out -/
def opV (o : Int) (a b : Int64) : Int64 :=
  if o = 37 then j_rem a b else if o = 42 then a * b else if o = 43 then a + b else if o = 45 then a - b else if o = 47 then a / b else if o = 60 then (if b.toInt ≤ a.toInt then 0 else 1) else if o = 61 then (if a = b then 1 else 0) else if o = 62 then (if a.toInt ≤ b.toInt then 0 else 1) else if o = 224 then (if a = 0 then 0 else if b = 0 then 0 else 1) else if o = 225 then (if a = 0 then (if b = 0 then 0 else 1) else 1) else a &&& b
/-- one node: what is before it is in R -/
def vN (here len frm : Int) (nm : Int → Option Int64) (x : Nd) (R : List Int64) : Option Int64 :=
  if x.o = 3 then some x.v else if x.o = 2 then nm x.v.toInt else if x.o = 212 then some (i2j here) else if x.o = 222 then some (i2j (len - here)) else if x.o = 223 then some (i2j frm)
  else if x.o = 5 then some (-(R.getD x.a 0)) else if x.o = 226 then some (if R.getD x.a 0 = 0 then 1 else 0)
  else if (x.o = 47 ∨ x.o = 37) ∧ R.getD x.b 0 = 0 then none else some (opV x.o (R.getD x.a 0) (R.getD x.b 0))
def evN (here len frm : Int) (nm : Int → Option Int64) : List Nd → List Int64 → Option (List Int64)
  | [], R => some R
  | x :: N, R => match vN here len frm nm x R with
    | none => none
    | some v => evN here len frm nm N (R ++ [v])
def evE (here len frm : Int) (nm : Int → Option Int64) (N : List Nd) : Option Int64 := match evN here len frm nm N [] with
  | none => none
  | some R => some (R.getD (N.length - 1) 0)
theorem app_gD {R : List Int64} {v : Int64} {j : Nat} (h : j < R.length) : (R ++ [v]).getD j 0 = R.getD j 0 := by
  rw [List.getD_eq_getElem?_getD, List.getD_eq_getElem?_getD, List.getElem?_append_left h]
theorem app_gL {R : List Int64} {v : Int64} : (R ++ [v]).getD R.length 0 = v := by
  rw [List.getD_eq_getElem?_getD, List.getElem?_append_right (Nat.le_refl _), Nat.sub_self]; rfl
section T4
variable {g : GP} {l : Launch} {d : Nat} {σ : St} {m b t a i dd c rk : Nat} {no : Nat → Nat} {so : Nat → Nat} {fo : Nat → Nat → Nat} {En : List Enm} {Ss : List Stc} {s : TS} {h : Int → Int} {len im here : Int}
abbrev RkF (rk f r : Nat) : Prop := r = rk ∧ (700 ≤ f ∧ f ≤ 702)
theorem x_joined {o : Int} {a b : Int64} {P : Int64 → St → Prop} (h0 : (o = 47 ∨ o = 37) → ¬ b = 0) (hP : P (opV o a b) σ) : ACj g l d MX7_joined [vI o, vJ a, vJ b] σ P := by
  unfold opV at hP
  refine AC.of mo_X7_joined (Nat.le_of_ble_eq_true rfl) (bk_X7_joined_0 ⟨fun z => ⟨h0 (Or.inr z), _, rfl, ?_⟩, fun z => ⟨_, rfl, ?_⟩, fun z => ⟨_, rfl, ?_⟩, fun z => ⟨_, rfl, ?_⟩, fun z => ⟨h0 (Or.inl z), _, rfl, ?_⟩, fun z => ⟨fun w => ⟨_, rfl, ?_⟩, fun w => ⟨_, rfl, ?_⟩⟩, fun z => ⟨fun w => ⟨_, rfl, ?_⟩, fun w => ⟨_, rfl, ?_⟩⟩, fun z => ⟨fun w => ⟨_, rfl, ?_⟩, fun w => ⟨_, rfl, ?_⟩⟩, fun z => ⟨fun w => ⟨_, rfl, ?_⟩, fun w => ⟨fun u => ⟨_, rfl, ?_⟩, fun u => ⟨_, rfl, ?_⟩⟩⟩, fun z => ⟨fun w => ⟨_, rfl, ?_⟩, fun w => ⟨fun u => ⟨_, rfl, ?_⟩, fun u => ⟨_, rfl, ?_⟩⟩⟩, fun z1 z2 z3 z4 z5 z6 z7 z8 z9 z10 => ⟨_, rfl, ?_⟩⟩)
  · rw [if_pos z] at hP; exact hP
  · rw [if_neg (by omega), if_pos z] at hP; exact hP
  · rw [if_neg (by omega), if_neg (by omega), if_pos z] at hP; exact hP
  · rw [if_neg (by omega), if_neg (by omega), if_neg (by omega), if_pos z] at hP; exact hP
  · rw [if_neg (by omega), if_neg (by omega), if_neg (by omega), if_neg (by omega), if_pos z] at hP; exact hP
  · rw [if_neg (by omega), if_neg (by omega), if_neg (by omega), if_neg (by omega), if_neg (by omega), if_pos z, if_pos w] at hP; exact hP
  · rw [if_neg (by omega), if_neg (by omega), if_neg (by omega), if_neg (by omega), if_neg (by omega), if_pos z, if_neg w] at hP; exact hP
  · rw [if_neg (by omega), if_neg (by omega), if_neg (by omega), if_neg (by omega), if_neg (by omega), if_neg (by omega), if_pos z, if_neg w] at hP; exact hP
  · rw [if_neg (by omega), if_neg (by omega), if_neg (by omega), if_neg (by omega), if_neg (by omega), if_neg (by omega), if_pos z, if_pos w] at hP; exact hP
  · rw [if_neg (by omega), if_neg (by omega), if_neg (by omega), if_neg (by omega), if_neg (by omega), if_neg (by omega), if_neg (by omega), if_pos z, if_pos w] at hP; exact hP
  · rw [if_neg (by omega), if_neg (by omega), if_neg (by omega), if_neg (by omega), if_neg (by omega), if_neg (by omega), if_neg (by omega), if_pos z, if_neg w] at hP; exact hP
  · rw [if_neg (by omega), if_neg (by omega), if_neg (by omega), if_neg (by omega), if_neg (by omega), if_neg (by omega), if_neg (by omega), if_neg (by omega), if_pos z, if_pos w] at hP; exact hP
  · rw [if_neg (by omega), if_neg (by omega), if_neg (by omega), if_neg (by omega), if_neg (by omega), if_neg (by omega), if_neg (by omega), if_neg (by omega), if_pos z, if_neg w, if_pos u] at hP; exact hP
  · rw [if_neg (by omega), if_neg (by omega), if_neg (by omega), if_neg (by omega), if_neg (by omega), if_neg (by omega), if_neg (by omega), if_neg (by omega), if_pos z, if_neg w, if_neg u] at hP; exact hP
  · rw [if_neg (by omega), if_neg (by omega), if_neg (by omega), if_neg (by omega), if_neg (by omega), if_neg (by omega), if_neg (by omega), if_neg (by omega), if_neg (by omega), if_pos z, if_neg w] at hP; exact hP
  · rw [if_neg (by omega), if_neg (by omega), if_neg (by omega), if_neg (by omega), if_neg (by omega), if_neg (by omega), if_neg (by omega), if_neg (by omega), if_neg (by omega), if_pos z, if_pos w, if_pos u] at hP; exact hP
  · rw [if_neg (by omega), if_neg (by omega), if_neg (by omega), if_neg (by omega), if_neg (by omega), if_neg (by omega), if_neg (by omega), if_neg (by omega), if_neg (by omega), if_pos z, if_pos w, if_neg u] at hP; exact hP
  · rw [if_neg z1, if_neg z2, if_neg z3, if_neg z4, if_neg z5, if_neg z6, if_neg z7, if_neg z8, if_neg z9, if_neg z10] at hP; exact hP
/-- the stack holds the values of S, its top first -/
def StV (τ : St) (rk : Nat) (R : List Int64) (S : List Nat) : Prop := gI τ 702 rk 0 = (S.length : Int) ∧ ∀ q n, S[q]? = some n → n < R.length ∧ gJ τ 701 rk (S.length - 1 - q) = R.getD n 0
theorem StV.ap {τ : St} {R : List Int64} {S : List Nat} {v : Int64} (h : StV τ rk R S) : StV τ rk (R ++ [v]) S := by
  refine ⟨h.1, fun q n hn => ?_⟩
  obtain ⟨a, b⟩ := h.2 q n hn
  exact ⟨by rw [app_l]; omega, by rw [app_gD a]; exact b⟩
theorem StV.push {τ : St} {R : List Int64} {S : List Nat} {v : Int64} {k : Int} (h : StV τ rk R S) (hk : k = (S.length : Int) + 1) : StV (sI (sJ τ 701 rk S.length v) 702 rk 0 k) rk (R ++ [v]) (R.length :: S) := by
  refine ⟨by rw [gI_slf, hk, List.length_cons]; omega, fun q n hn => ?_⟩
  have e : (R.length :: S).length = S.length + 1 := rfl
  show n < (R ++ [v]).length ∧ gJ (sJ τ 701 rk S.length v) 701 rk _ = _
  match q, hn with
  | 0, hn =>
    have hn : some R.length = some n := hn
    cases hn
    rw [app_l, app_gL, e, show S.length + 1 - 1 - 0 = S.length by omega, gJ_slf]
    exact ⟨by omega, rfl⟩
  | q + 1, hn =>
    have hn : S[q]? = some n := hn
    have lt := (List.getElem?_eq_some_iff.mp hn).1
    obtain ⟨a, b⟩ := h.2 q n hn
    rw [app_l, app_gD a, e, gJ_sJ, if_neg (by omega), show S.length + 1 - 1 - (q + 1) = S.length - 1 - q by omega]
    exact ⟨by omega, b⟩
theorem StV.top {τ : St} {R : List Int64} {S : List Nat} {v : Int64} {n0 : Nat} (h : StV τ rk R (n0 :: S)) : StV (sJ τ 701 rk S.length v) rk (R ++ [v]) (R.length :: S) := by
  refine ⟨h.1, fun q n hn => ?_⟩
  have e : (R.length :: S).length = S.length + 1 := rfl
  match q, hn with
  | 0, hn =>
    have hn : some R.length = some n := hn
    cases hn
    rw [app_l, app_gL, e, show S.length + 1 - 1 - 0 = S.length by omega, gJ_slf]
    exact ⟨by omega, rfl⟩
  | q + 1, hn =>
    have hn : S[q]? = some n := hn
    have lt := (List.getElem?_eq_some_iff.mp hn).1
    obtain ⟨a, b⟩ := h.2 (q + 1) n hn
    have e2 : (n0 :: S).length = S.length + 1 := rfl
    rw [e2] at b
    rw [app_l, app_gD a, e, gJ_sJ, if_neg (by omega)]
    exact ⟨by omega, b⟩
theorem NdC.ag {σ' : St} (hN : NdC σ no fo Ss s i) (hA : ∀ f r j, 501 ≤ f → f ≤ 516 → Agr σ σ' f r j) : NdC σ' no fo Ss s i := by
  obtain ⟨n1, n2, n3, n4, n5, n6, n7, n8, n9, n10, n11, n12, n13, n14⟩ := hN
  have I : ∀ f r j, 501 ≤ f → f ≤ 516 → gI σ' f r j = gI σ f r j := fun f r j z0 z1 => (hA f r j z0 z1).1
  have R : ∀ f r j, 501 ≤ f → f ≤ 516 → gR σ' f r j = gR σ f r j := fun f r j z0 z1 => (hA f r j z0 z1).2.2
  refine ⟨by rw [I _ _ _ (by decide) (by decide)]; exact n1, by rw [I _ _ _ (by decide) (by decide)]; exact n2, by rw [I _ _ _ (by decide) (by decide)]; exact n3, by rw [I _ _ _ (by decide) (by decide)]; exact n4, by rw [I _ _ _ (by decide) (by decide)]; exact n5, by rw [R _ _ _ (by decide) (by decide)]; exact n6, by rw [R _ _ _ (by decide) (by decide)]; exact n7, by rw [I _ _ _ (by decide) (by decide)]; exact n8, by rw [I _ _ _ (by decide) (by decide)]; exact n9, by rw [R _ _ _ (by decide) (by decide)]; exact n10, by rw [R _ _ _ (by decide) (by decide)]; exact n11, fun j a ha => by rw [R _ _ _ (by decide) (by decide)]; exact n12 j a ha, by rw [I _ _ _ (by decide) (by decide)]; exact n13, fun q F e hF he => by rw [I 515 _ _ (by decide) (by decide), I 516 _ _ (by decide) (by decide)]; exact n14 q F e hF he⟩
/-- the fields in the class -/
def FdC (σ : St) (dd c : Nat) (fo : Nat → Nat → Nat) (Ss : List Stc) : Prop := ∀ fl F, gF Ss fl = some F → FC σ dd c (fo (fl / 14).toNat (fl % 14).toNat) F
/-- where exprs are worked out in the class -/
def EvC (σ : St) (a dd c : Nat) (so : Nat → Nat) (fo : Nat → Nat → Nat) (no : Nat → Nat) (Ss : List Stc) (s : TS) (len : Int) (h : Int → Int) : Prop :=
  (LC 3 σ a ∧ gI σ 304 a 0 = len ∧ (0 ≤ len ∧ len ≤ 2000) ∧ ∀ p : Int, 0 ≤ p → p < len → gI σ 301 a p.toNat = h p) ∧ DSh σ dd so fo ∧ FdC σ dd c fo Ss ∧ (∀ a', a' < s.c → NdC σ no fo Ss s a') ∧ ∀ a', a' < s.c → NdW Ss len s a' ∧ (s.k a').length ≤ 400 ∧ ∀ x ∈ s.k a', x < s.c
theorem EvC.wk {σ' : St} (hE : EvC σ a dd c so fo no Ss s len h) (hF : Frm (RkF rk) σ σ') : EvC σ' a dd c so fo no Ss s len h := by
  obtain ⟨⟨e1, e2, e3, e4⟩, e5, e6, e7, e8⟩ := hE
  have n : ∀ f r, f < 700 ∨ 702 < f → ¬ RkF rk f r := fun f r z q => by omega
  exact ⟨⟨hF.lc e1, by rw [hF.I (n _ _ (by omega))]; exact e2, e3, fun p p0 p1 => by rw [hF.I (n _ _ (by omega))]; exact e4 p p0 p1⟩, e5.gen hF (fun f r z => n f r (by omega)), fun fl F hf => (e6 fl F hf).frm hF (fun f z0 z1 => n f _ (by omega)) (Mo.frm hF (fun f z => n f _ (by omega)) (fun f z0 z1 => n f _ (by omega))), fun a' ha => (e7 a' ha).ag (fun f r j z0 z1 => hF.2.2.2 f r (n f r (by omega)) j), e8⟩
theorem x_work {N : List Nd} {nb cd : Nat} {P : Int64 → St → Prop} (hL7 : LC 7 σ rk) (hL0 : LC 0 σ c) (hcn : CN σ c nb N) (hend : gI σ 0 c (nb + N.length) = 0) (hcnt : ((nb + N.length : Nat) : Int) < gI σ 2 c 0) (h3 : gI σ 2 c 0 ≤ 3001) (hw : WFx (some N)) (hE : EvC σ a dd cd so fo no Ss s len h) (hi : i < s.c) (hS : StK Ss s i) (h7 : 0 ≤ s.d 7 i ∧ s.d 7 i < 20) (hhere : 0 ≤ here ∧ here ≤ len) (hx : ∀ x ∈ N, x.o = 2 → 0 ≤ x.v.toInt ∧ x.v.toInt ≤ 1000)
    (h1 : ∀ v, evE here len (s.d 1 i) (nmV Ss h s i) N = some v → ∀ σ', Frm (RkF rk) σ σ' → gI σ' 700 rk 0 = 0 → P v σ') (h0 : evE here len (s.d 1 i) (nmV Ss h s i) N = none → ∀ v σ', Frm (RkF rk) σ σ' → gI σ' 700 rk 0 = 1 → P v σ') : ACj g l (d + 4) MX7_work [vR 7 (some rk), vR 0 (some c), vI (nb : Int), vR 5 (some (no i)), vI here, vR 3 (some a)] σ P := by
  obtain ⟨wl, wk, _⟩ := hw N rfl
  have so' := skr_o _ _ _ _ wk
  have n7 : ∀ f r, f < 700 ∨ 702 < f → ¬ RkF rk f r := fun f r z q => by omega
  have o00 : i_or 0 0 = 0 := by decide
  have o10 : i_or 1 0 = 1 := by decide
  have o11 : i_or 1 1 = 1 := by decide
  -- a failure
  have fail : ∀ (τ : St) (k : Int), Frm (RkF rk) σ τ → gI τ 700 rk 0 = 1 → evE here len (s.d 1 i) (nmV Ss h s i) N = none → AW g l (d + 4) MX7_work 21 [some (vR 7 (some rk)), some (vR 0 (some c)), none, some (vR 5 (some (no i))), some (vI here), some (vR 3 (some a)), some (vI k), none, none] [] τ (fun v σ' => ∃ r, v = some (vJ r) ∧ P r σ') := by
    intro τ k hF h700 hn
    have F2 : ∀ v, Frm (RkF rk) σ (sI τ 700 rk 0 v) := fun v => hF.trans (Frm.sI ⟨rfl, by omega⟩)
    refine bk_X7_work_21 ⟨fun _ => bk_X7_work_259 ?_, fun w => absurd w (by omega)⟩
    rw [h700, o10, o11]
    exact ⟨fun _ => ⟨Or.inr rfl, fun w => absurd w (by decide), fun _ => ⟨_, rfl, h0 hn _ _ (F2 1) (gI_slf _ _ _ _ _)⟩⟩, fun _ => ⟨Or.inr rfl, fun w => absurd w (by decide), fun _ => ⟨_, rfl, h0 hn _ _ (F2 1) (gI_slf _ _ _ _ _)⟩⟩⟩
  have evn : evN here len (s.d 1 i) (nmV Ss h s i) N [] = none → evE here len (s.d 1 i) (nmV Ss h s i) N = none := fun e => by unfold evE; rw [e]
  have loop : ∀ (M : List Nd) (j : Nat) (R : List Int64) (S : List Nat) (τ : St), (∀ k x, M[k]? = some x → N[j + k]? = some x) → j + M.length = N.length → R.length = j → Frm (RkF rk) σ τ → gI τ 700 rk 0 = 0 → StV τ rk R S → S.length ≤ 102 → skr 102 M j S = some [N.length - 1] → evN here len (s.d 1 i) (nmV Ss h s i) N [] = evN here len (s.d 1 i) (nmV Ss h s i) M R → AW g l (d + 4) MX7_work 21 [some (vR 7 (some rk)), some (vR 0 (some c)), none, some (vR 5 (some (no i))), some (vI here), some (vR 3 (some a)), some (vI ((nb + j : Nat) : Int)), none, none] [] τ (fun v σ' => ∃ r, v = some (vJ r) ∧ P r σ') := by
    intro M
    induction M with
    | nil =>
      intro j R S τ _ hj hR hF h700 hV hl2 hk hev
      have hj : j + 0 = N.length := hj
      have hk : some S = some [N.length - 1] := hk
      cases hk
      have hev : evN here len (s.d 1 i) (nmV Ss h s i) N [] = some R := hev
      have v1 := (hV.2 0 (N.length - 1) rfl).2
      have v702 : gI τ 702 rk 0 = 1 := hV.1
      have e0 : gI τ 0 c (nb + j) = 0 := by rw [hF.I (n7 _ _ (by omega)), show nb + j = nb + N.length by omega]; exact hend
      have e2 : gI τ 2 c 0 = gI σ 2 c 0 := hF.I (n7 _ _ (by omega)) 0
      refine bk_X7_work_21 ⟨fun w => absurd h700 w, fun _ => ⟨c, rfl, fun w => absurd w (by omega), fun _ => ⟨hF.lc hL0, ⟨by omega, by omega⟩, fun _ => bk_X7_work_259 ?_, fun w => absurd (by rw [Int.toNat_natCast]; exact e0) w⟩⟩⟩
      rw [v702, h700, o00]
      refine ⟨fun _ => ⟨Or.inl rfl, fun _ => ⟨hF.lc hL7, _, rfl, ?_⟩, fun w => absurd rfl w⟩, fun w => absurd rfl w⟩
      refine h1 _ ?_ _ (hF.trans (Frm.sI ⟨rfl, by omega⟩)) (gI_slf _ _ _ _ _)
      unfold evE
      rw [hev]
      have v1 : gJ τ 701 rk 0 = R.getD (N.length - 1) 0 := v1
      rw [v1]
    | cons x M ih =>
      intro j R S τ hM hj hR hF h700 hV hl2 hk hev
      have hj : j + (M.length + 1) = N.length := hj
      have c0 := hM 0 x rfl
      rw [Nat.add_zero] at c0
      have xm := List.mem_of_getElem? c0
      have xo := so' x xm
      obtain ⟨cn1, cn2⟩ := hcn j x c0
      have e0 : gI τ 0 c (nb + j) = x.o := by rw [hF.I (n7 _ _ (by omega))]; exact cn1
      have e1 : gJ τ 1 c (nb + j) = x.v := by rw [hF.J (n7 _ _ (by omega))]; exact cn2
      have e2 : gI τ 2 c 0 = gI σ 2 c 0 := hF.I (n7 _ _ (by omega)) 0
      have hk : (sk1 102 j x S).bind (skr 102 M (j + 1)) = some [N.length - 1] := hk
      cases hs1 : sk1 102 j x S with
      | none => rw [hs1] at hk; cases hk
      | some S1 =>
      rw [hs1] at hk
      have hk : skr 102 M (j + 1) S1 = some [N.length - 1] := hk
      have EE := hE.wk hF
      -- on with a value
      have go : ∀ (v : Int64) (τ' : St), vN here len (s.d 1 i) (nmV Ss h s i) x R = some v → Frm (RkF rk) σ τ' → gI τ' 700 rk 0 = 0 → StV τ' rk (R ++ [v]) S1 → S1.length ≤ 102 → R32 (((nb + j : Nat) : Int) + 1) ∧ AW g l (d + 4) MX7_work 21 [some (vR 7 (some rk)), some (vR 0 (some c)), none, some (vR 5 (some (no i))), some (vI here), some (vR 3 (some a)), some (vI (((nb + j : Nat) : Int) + 1)), none, none] [] τ' (fun v σ' => ∃ r, v = some (vJ r) ∧ P r σ') := fun v τ' hv hF' h7' hV' hl' => by
        refine ⟨⟨by omega, by omega⟩, ?_⟩
        rw [show ((nb + j : Nat) : Int) + 1 = ((nb + (j + 1) : Nat) : Int) by omega]
        refine ih (j + 1) (R ++ [v]) S1 τ' (fun k y hy => by rw [show j + 1 + k = j + (k + 1) by omega]; exact hM (k + 1) y hy) (by omega) (by rw [app_l]; omega) hF' h7' hV' hl' hk ?_
        rw [hev, evN, hv]
      have no' : vN here len (s.d 1 i) (nmV Ss h s i) x R = none → evE here len (s.d 1 i) (nmV Ss h s i) N = none := fun hv => evn (by rw [hev, evN, hv])
      -- one operand
      have un1 : isUn x.o → ACv g l (d + 3) MX7_workOne [vR 7 (some rk), vI x.o] τ (fun σ17 => R32 (((nb + j : Nat) : Int) + 1) ∧ AW g l (d + 4) MX7_work 21 [some (vR 7 (some rk)), some (vR 0 (some c)), none, some (vR 5 (some (no i))), some (vI here), some (vR 3 (some a)), some (vI (((nb + j : Nat) : Int) + 1)), none, none] [] σ17 (fun v σ' => ∃ r, v = some (vJ r) ∧ P r σ')) := fun un => by
        unfold sk1 at hs1
        unfold isUn at un
        rw [if_neg (by unfold isLf; omega), if_pos un] at hs1
        match S, hV, hl2, hs1 with
        | [], _, _, hs1 => cases hs1
        | n0 :: S0, hV, hl2, hs1 =>
          have hs1 : (if x.a = n0 then some (j :: S0) else none) = some S1 := hs1
          have hl2 : S0.length + 1 ≤ 102 := hl2
          by_cases xa : x.a = n0
          · rw [if_pos xa] at hs1
            cases hs1
            obtain ⟨t1, t2⟩ := hV.2 0 n0 rfl
            have dl : gI τ 702 rk 0 = (S0.length : Int) + 1 := by rw [hV.1, List.length_cons]; omega
            have t2 : gJ τ 701 rk S0.length = R.getD n0 0 := t2
            have tp : ∀ v, StV (sJ τ 701 rk S0.length v) rk (R ++ [v]) (j :: S0) := fun v => by rw [← hR]; exact hV.top
            refine AC.of mo_X7_workOne (Nat.le_of_ble_eq_true rfl) (bk_X7_workOne_0 ?_)
            rw [dl, show ((S0.length : Int) + 1 - 1).toNat = S0.length by omega, t2]
            refine ⟨fun _ => ⟨hF.lc hL7, ⟨by omega, by omega⟩, ⟨by omega, by omega⟩, fun k5 => ⟨fun z => ⟨rfl, go 0 _ ?_ (hF.trans (Frm.sJ ⟨rfl, by omega⟩)) h700 (tp _) (by show S0.length + 1 ≤ 102; omega)⟩, fun z => ⟨rfl, go 1 _ ?_ (hF.trans (Frm.sJ ⟨rfl, by omega⟩)) h700 (tp _) (by show S0.length + 1 ≤ 102; omega)⟩⟩, fun k5 => ⟨rfl, go (-(R.getD n0 0)) _ ?_ (hF.trans (Frm.sJ ⟨rfl, by omega⟩)) h700 (tp _) (by show S0.length + 1 ≤ 102; omega)⟩⟩, fun w => absurd (by omega) w⟩
            · unfold vN
              rw [if_neg (by omega), if_neg (by omega), if_neg (by omega), if_neg (by omega), if_neg (by omega), if_neg k5, if_pos (by omega), xa, if_neg z]
            · unfold vN
              rw [if_neg (by omega), if_neg (by omega), if_neg (by omega), if_neg (by omega), if_neg (by omega), if_neg k5, if_pos (by omega), xa, if_pos z]
            · unfold vN
              rw [if_neg (by omega), if_neg (by omega), if_neg (by omega), if_neg (by omega), if_neg (by omega), if_pos k5, xa]
          · rw [if_neg xa] at hs1; cases hs1
      -- a leaf
      have up : isLf x.o → ∀ (v : Int64) (τ1 : St), vN here len (s.d 1 i) (nmV Ss h s i) x R = some v → Frm (RkF rk) σ τ1 → gI τ1 700 rk 0 = 0 → StV τ1 rk R S → ACv g l (d + 3) MX7_stackUp [vR 7 (some rk), vJ v] τ1 (fun σ15 => R32 (((nb + j : Nat) : Int) + 1) ∧ AW g l (d + 4) MX7_work 21 [some (vR 7 (some rk)), some (vR 0 (some c)), none, some (vR 5 (some (no i))), some (vI here), some (vR 3 (some a)), some (vI (((nb + j : Nat) : Int) + 1)), none, none] [] σ15 (fun v σ' => ∃ r, v = some (vJ r) ∧ P r σ')) := fun lf v τ1 hv hF1 h71 hV1 => by
        unfold sk1 at hs1
        rw [if_pos lf] at hs1
        by_cases l102 : S.length < 102
        · rw [if_pos l102] at hs1
          cases hs1
          refine AC.of mo_X7_stackUp (Nat.le_of_ble_eq_true rfl) (bk_X7_stackUp_0 ⟨hF1.lc hL7, ?_⟩)
          rw [hV1.1, Int.toNat_natCast]
          refine ⟨fun _ => ⟨⟨by omega, by omega⟩, ⟨by omega, by omega⟩, rfl, go v _ hv (hF1.trans ((Frm.sJ ⟨rfl, by omega⟩).trans (Frm.sI ⟨rfl, by omega⟩))) ?_ ?_ (by show S.length + 1 ≤ 102; omega)⟩, fun w => absurd (by omega) w⟩
          · rw [gI_sI, if_neg (by simp)]; exact h71
          · rw [← hR]; exact hV1.push rfl
        · rw [if_neg l102] at hs1; cases hs1
      refine bk_X7_work_21 ⟨fun w => absurd h700 w, fun _ => ⟨c, rfl, fun w => absurd w (by omega), fun _ => ⟨hF.lc hL0, ⟨by omega, by omega⟩, ?_⟩⟩⟩
      rw [Int.toNat_natCast, e0, e1]
      refine ⟨fun w => absurd w xo, fun _ => ⟨fun k2 => ⟨no i, rfl, ?_⟩, fun k3 => up (Or.inr (Or.inl k3)) x.v τ (by unfold vN; rw [if_pos k3]) hF h700 hV, fun k5 => ?_, fun k => up (Or.inr (Or.inr (Or.inl k))) _ τ (by unfold vN; rw [if_neg (by omega), if_neg (by omega), if_pos k]) hF h700 hV, fun k => ⟨a, rfl, ?_⟩, fun k => ⟨no i, rfl, ?_⟩, fun k6 => ?_, fun z2 z3 z5 z12 z22 z23 z26 => ?_⟩⟩
      · -- a name
        obtain ⟨x0, x1⟩ := hx x xm k2
        have hv : vN here len (s.d 1 i) (nmV Ss h s i) x R = nmV Ss h s i x.v.toInt := by unfold vN; rw [if_neg (by omega), if_pos k2]
        rw [j2i_eq, w32_id (by omega) (by omega)]
        refine x_kidMeant EE.2.2.2.1 (fun a' ha => (EE.2.2.2.2 a' ha).2.1) hi hS h7 EE.2.1 ⟨x0, x1⟩ ?_
        have bad : ∀ (n : Option Nat) (y : Int), y = 1 → nmV Ss h s i x.v.toInt = none → AW g l (d + 4) MX7_work 210 [some (vR 7 (some rk)), some (vR 0 (some c)), none, some (vR 5 (some (no i))), some (vI here), some (vR 3 (some a)), some (vI ((nb + j : Nat) : Int)), none, some (vR 5 n)] [vI y, vR 7 (some rk)] τ (fun v σ' => ∃ r, v = some (vJ r) ∧ P r σ') := fun n y hy en => by
          have F3 : Frm (RkF rk) σ (sI τ 700 rk 0 1) := hF.trans (Frm.sI ⟨rfl, by omega⟩)
          have ee := no' (by rw [hv]; exact en)
          rw [hy]
          refine bk_X7_work_210 ⟨rk, rfl, Or.inr rfl, fun w => absurd w (by rw [gI_slf]; decide), fun _ => AC.of mo_X7_stackUp (Nat.le_of_ble_eq_true rfl) (bk_X7_stackUp_0 ⟨F3.lc hL7, ?_⟩)⟩
          have v7 : gI (sI τ 700 rk 0 1) 702 rk 0 = (S.length : Int) := by rw [gI_sI, if_neg (by simp)]; exact hV.1
          rw [v7, Int.toNat_natCast]
          refine ⟨fun _ => ⟨⟨by omega, by omega⟩, ⟨by omega, by omega⟩, rfl, ⟨by omega, by omega⟩, fail _ _ (F3.trans ((Frm.sJ ⟨rfl, by omega⟩).trans (Frm.sI ⟨rfl, by omega⟩))) ?_ ee⟩, fun _ => ⟨rfl, ⟨by omega, by omega⟩, fail _ _ (F3.trans (Frm.sI ⟨rfl, by omega⟩)) (gI_slf _ _ _ _ _) ee⟩⟩
          rw [gI_sI, if_neg (by simp)]; show gI (sI τ 700 rk 0 1) 700 rk 0 = 1; rw [gI_slf]
        cases hlu : luN s i x.v.toInt with
        | none =>
          refine ⟨fun _ => bad _ 1 rfl (by unfold nmV; rw [hlu]), (fun _ w => nomatch w)⟩
        | some n =>
          -- the node
          have nc : n < s.c := by
            unfold luN at hlu
            cases hf : (s.k i).find? (fun a => s.d 6 a == 14 * s.d 7 i + x.v.toInt / 13) with
            | none => rw [hf] at hlu; cases hlu
            | some a1 =>
              rw [hf] at hlu
              have hlu : (if x.v.toInt % 13 = 0 then some a1 else (s.k a1)[(x.v.toInt % 13 - 1).toNat]?) = some n := hlu
              have a1c := (hS.1 a1 (List.mem_of_find?_eq_some hf)).1
              by_cases z : x.v.toInt % 13 = 0
              · rw [if_pos z] at hlu; cases hlu; exact a1c
              · rw [if_neg z] at hlu
                exact (EE.2.2.2.2 a1 a1c).2.2 n (List.mem_of_getElem? hlu)
          refine ⟨(fun w => nomatch w), fun r hr => ?_⟩
          obtain rfl : no n = r := by simpa using hr
          have nd := EE.2.2.2.1 n nc
          rw [nd.2.2.2.1]
          refine ⟨fun f1 => ?_, fun f1 => bad _ 1 rfl (by unfold nmV; rw [hlu]; show (if s.d 3 n = 1 then none else _) = none; rw [if_pos f1])⟩
          have env : nmV Ss h s i x.v.toInt = some (vlN Ss h s n) := by unfold nmV; rw [hlu]; show (if s.d 3 n = 1 then none else _) = _; rw [if_neg f1]
          have F3 : Frm (RkF rk) σ (sI τ 700 rk 0 0) := hF.trans (Frm.sI ⟨rfl, by omega⟩)
          have E3 := hE.wk F3
          refine bk_X7_work_210 ⟨rk, rfl, Or.inl rfl, fun _ => ⟨no n, rfl, x_reading E3.1.1 E3.1.2.1 E3.1.2.2.1.2 E3.1.2.2.2 (E3.2.2.2.1 n nc) (E3.2.2.2.2 n nc).1 (E3.2.2.1 _) (up (Or.inl k2) _ _ (by rw [hv]; exact env) F3 (gI_slf _ _ _ _ _) ⟨by rw [gI_sI, if_neg (by simp)]; exact hV.1, hV.2⟩)⟩, fun w => absurd (gI_slf _ _ _ _ _) w⟩
      · exact un1 (Or.inl k5)
      · exact ⟨by rw [hF.I (n7 _ _ (by omega)), hE.1.2.1]; exact ⟨by omega, by have := hE.1.2.2.1; omega⟩, by rw [hF.I (n7 304 _ (by omega)), hE.1.2.1]; exact up (Or.inr (Or.inr (Or.inr (Or.inl k)))) _ τ (by unfold vN; rw [if_neg (by omega), if_neg (by omega), if_neg (by omega), if_pos k]) hF h700 hV⟩
      · rw [(EE.2.2.2.1 i hi).2.1]
        exact up (Or.inr (Or.inr (Or.inr (Or.inr k)))) _ τ (by unfold vN; rw [if_neg (by omega), if_neg (by omega), if_neg (by omega), if_neg (by omega), if_pos k]) hF h700 hV
      · exact un1 (Or.inr k6)
      · -- two
        unfold sk1 at hs1
        have lvx : 0 ≤ lv x.o := by
          by_cases z : 0 ≤ lv x.o
          · exact z
          · rw [if_neg (by unfold isLf; omega), if_neg (by unfold isUn; omega), if_neg z] at hs1; cases hs1
        rw [if_neg (by unfold isLf; omega), if_neg (by unfold isUn; omega), if_pos lvx] at hs1
        match S, hV, hl2, hs1 with
        | [], _, _, hs1 => cases hs1
        | [_], _, _, hs1 => cases hs1
        | n0 :: n1 :: S0, hV, hl2, hs1 =>
          have hs1 : (if x.a = n1 ∧ x.b = n0 then some (j :: S0) else none) = some S1 := hs1
          by_cases xab : x.a = n1 ∧ x.b = n0
          · rw [if_pos xab] at hs1
            cases hs1
            have hl2 : S0.length + 1 + 1 ≤ 102 := hl2
            obtain ⟨t1, t2⟩ := hV.2 0 n0 rfl
            obtain ⟨u1, u2⟩ := hV.2 1 n1 rfl
            have dl : gI τ 702 rk 0 = (S0.length : Int) + 2 := by rw [hV.1, List.length_cons, List.length_cons]; omega
            have t2 : gJ τ 701 rk (S0.length + 1) = R.getD n0 0 := t2
            have u2 : gJ τ 701 rk S0.length = R.getD n1 0 := u2
            have hvb : vN here len (s.d 1 i) (nmV Ss h s i) x R = if (x.o = 47 ∨ x.o = 37) ∧ R.getD n0 0 = 0 then none else some (opV x.o (R.getD n1 0) (R.getD n0 0)) := by
              unfold vN
              rw [if_neg z3, if_neg z2, if_neg z12, if_neg z22, if_neg z23, if_neg z5, if_neg z26, xab.1, xab.2]
            have F4 : Frm (RkF rk) σ (sI τ 702 rk 0 ((S0.length : Int) + 1)) := hF.trans (Frm.sI ⟨rfl, by omega⟩)
            have s72 : ¬ ((x.o = 47 ∨ x.o = 37) ∧ R.getD n0 0 = 0) → AW g l (d + 3) MX7_workTwo 72 [some (vR 7 (some rk)), some (vI x.o), some (vJ (R.getD n1 0)), none, some (vJ (R.getD n0 0)), none] [] (sI τ 702 rk 0 ((S0.length : Int) + 1)) (fun v σ' => v = none ∧ (R32 (((nb + j : Nat) : Int) + 1) ∧ AW g l (d + 4) MX7_work 21 [some (vR 7 (some rk)), some (vR 0 (some c)), none, some (vR 5 (some (no i))), some (vI here), some (vR 3 (some a)), some (vI (((nb + j : Nat) : Int) + 1)), none, none] [] σ' (fun v σ' => ∃ r, v = some (vJ r) ∧ P r σ'))) := fun nz => by
              refine bk_X7_workTwo_72 ?_
              rw [gI_slf, show ((S0.length : Int) + 1 - 1).toNat = S0.length by omega]
              refine ⟨F4.lc hL7, ⟨by omega, by omega⟩, x_joined (fun q w => nz ⟨q, w⟩) ⟨F4.lc hL7, ⟨by omega, by omega⟩, rfl, go (opV x.o (R.getD n1 0) (R.getD n0 0)) _ (by rw [hvb, if_neg nz]) (F4.trans (Frm.sJ ⟨rfl, by omega⟩)) (by show gI (sI τ 702 rk 0 ((S0.length : Int) + 1)) 700 rk 0 = 0; rw [gI_sI, if_neg (by simp)]; exact h700) ?_ (by show S0.length + 1 ≤ 102; omega)⟩⟩
              have hV2 : StV (sI τ 702 rk 0 ((S0.length : Int) + 1)) rk R (n1 :: S0) := by
                refine ⟨by rw [gI_slf, List.length_cons]; omega, fun q n hn => ?_⟩
                have := hV.2 (q + 1) n hn
                rw [List.length_cons] at this
                refine ⟨this.1, ?_⟩
                have e2 := this.2
                rw [show (n1 :: S0).length + 1 - 1 - (q + 1) = (n1 :: S0).length - 1 - q by omega] at e2
                exact e2
              have := hV2.top (v := opV x.o (R.getD n1 0) (R.getD n0 0))
              rw [hR] at this
              exact this
            refine AC.of mo_X7_workTwo (Nat.le_of_ble_eq_true rfl) (bk_X7_workTwo_0 ?_)
            rw [dl, show ((S0.length : Int) + 2 - 1).toNat = S0.length + 1 by omega, show ((S0.length : Int) + 2 - 1 - 1).toNat = S0.length by omega, t2, u2, show (S0.length : Int) + 2 - 1 = (S0.length : Int) + 1 by omega]
            have dz : R.getD n0 0 = 0 → (x.o = 47 ∨ x.o = 37) → (none : Option AV) = none ∧ (R32 (((nb + j : Nat) : Int) + 1) ∧ AW g l (d + 4) MX7_work 21 [some (vR 7 (some rk)), some (vR 0 (some c)), none, some (vR 5 (some (no i))), some (vI here), some (vR 3 (some a)), some (vI (((nb + j : Nat) : Int) + 1)), none, none] [] (sI (sI τ 702 rk 0 ((S0.length : Int) + 1)) 700 rk 0 1) (fun v σ' => ∃ r, v = some (vJ r) ∧ P r σ')) := fun z q => ⟨rfl, ⟨by omega, by omega⟩, fail _ _ (F4.trans (Frm.sI ⟨rfl, by omega⟩)) (gI_slf _ _ _ _ _) (no' (by rw [hvb, if_pos ⟨q, z⟩]))⟩
            refine ⟨fun _ => ⟨⟨by omega, by omega⟩, hF.lc hL7, ⟨by omega, by omega⟩, ⟨by omega, by omega⟩, ⟨by omega, by omega⟩, fun k47 => ⟨fun z => s72 (fun q => z q.2), fun z => dz z (Or.inl k47)⟩, fun k47 => ⟨fun k37 => s72 (fun q => by have := q.1; omega), fun k37 => ⟨fun z => s72 (fun q => z q.2), fun z => dz z (Or.inr k37)⟩⟩⟩, fun w => absurd (by omega) w⟩
          · rw [if_neg xab] at hs1; cases hs1
  -- the start
  have F5 : Frm (RkF rk) σ (sI (sI σ 700 rk 0 0) 702 rk 0 0) := (Frm.sI ⟨rfl, by omega⟩).trans (Frm.sI ⟨rfl, by omega⟩)
  refine AC.of mo_X7_work (Nat.le_of_ble_eq_true rfl) (bk_X7_work_0 ⟨fun _ => ?_, fun w => absurd (by omega) w⟩)
  have st := loop N 0 [] [] (sI (sI σ 700 rk 0 0) 702 rk 0 0) (fun k x hx => by rw [Nat.zero_add]; exact hx) (by omega) rfl F5 (by rw [gI_sI, if_neg (by simp), gI_slf]) ⟨by rw [gI_slf]; rfl, fun q n hn => absurd hn (by simp)⟩ (by show 0 ≤ 102; omega) wk rfl
  rw [Nat.add_zero] at st
  exact st
end T4
