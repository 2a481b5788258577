/-! The abstract values, the store by fields, the world that a heap holds -/
abbrev AV : Type := (Int ⊕ Int64) ⊕ ((Nat × Option Nat) ⊕ (Nat × Nat))
abbrev vI (x : Int) : AV := .inl (.inl x)
abbrev vJ (x : Int64) : AV := .inl (.inr x)
abbrev vR (c : Nat) (q : Option Nat) : AV := .inr (.inl (c, q))
abbrev vA (f r : Nat) : AV := .inr (.inr (f, r))
abbrev St : Type := (Nat → Nat → Nat → Int) × (Nat → Nat → Nat → Int64) × (Nat → Nat → Nat → Option Nat) × (Nat → Nat → Nat) × Nat × Nat
def gI (σ : St) (f r i : Nat) : Int := σ.1 f r i
def gJ (σ : St) (f r i : Nat) : Int64 := σ.2.1 f r i
def gR (σ : St) (f r i : Nat) : Option Nat := σ.2.2.1 f r i
def gL (σ : St) (f r : Nat) : Nat := σ.2.2.2.1 f r
def hs (σ : St) : Nat := σ.2.2.2.2.1
def sl (σ : St) : Nat := σ.2.2.2.2.2
def sI (σ : St) (f r i : Nat) (v : Int) : St := (fun f' r' i' => if f' = f ∧ r' = r ∧ i' = i then v else σ.1 f' r' i', σ.2)
def sJ (σ : St) (f r i : Nat) (v : Int64) : St := (σ.1, fun f' r' i' => if f' = f ∧ r' = r ∧ i' = i then v else σ.2.1 f' r' i', σ.2.2)
def sR (σ : St) (f r i : Nat) (v : Option Nat) : St := (σ.1, σ.2.1, fun f' r' i' => if f' = f ∧ r' = r ∧ i' = i then v else σ.2.2.1 f' r' i', σ.2.2.2)
/-- a new object of n slots at the heap's end -/
def sNew (σ : St) (n : Nat) : St := (fun f r i => if r = hs σ then 0 else σ.1 f r i, fun f r i => if r = hs σ then 0 else σ.2.1 f r i, fun f r i => if r = hs σ then none else σ.2.2.1 f r i, fun f r => if r = hs σ then 0 else σ.2.2.2.1 f r, hs σ + 1, sl σ + n)
/-- a new array of n places at the heap's end, in the field f of r -/
def sArr (σ : St) (f r n : Nat) : St := (fun f' r' i => if f' = f ∧ r' = r then 0 else σ.1 f' r' i, fun f' r' i => if f' = f ∧ r' = r then 0 else σ.2.1 f' r' i, fun f' r' i => if f' = f ∧ r' = r then none else σ.2.2.1 f' r' i, fun f' r' => if f' = f ∧ r' = r then n else σ.2.2.2.1 f' r', hs σ + 1, sl σ + n)
def w32 (x : Int) : Int := (x + 2147483648) % 4294967296 - 2147483648
theorem w32_bmod (x : Int) : x.bmod (2 ^ 32) = w32 x := by
  have h : ((2 ^ 32 : Nat) : Int) = 4294967296 := by decide
  unfold w32
  rw [Int.bmod_def, h]
  split <;> omega
theorem w32_id {x : Int} (h1 : -2147483648 ≤ x) (h2 : x < 2147483648) : w32 x = x := by unfold w32; omega
theorem w32_toInt (x : Int32) : w32 x.toInt = x.toInt := w32_id (by have := Int32.le_toInt x; simpa using this) (by have := Int32.toInt_lt x; simpa using this)
theorem toInt_ofInt (x : Int) : (Int32.ofInt x).toInt = w32 x := by rw [Int32.toInt_ofInt, ← w32_bmod]
theorem ofInt_toInt' (x : Int32) : Int32.ofInt x.toInt = x := by simp
abbrev KM : Type := Nat → Option (Nat ⊕ (Nat × Nat))
def KLe (K K' : KM) : Prop := ∀ a x, K a = some x → K' a = some x
theorem KLe.rfl {K : KM} : KLe K K := fun _ _ h => h
theorem KLe.trans {K K' K'' : KM} (h : KLe K K') (h' : KLe K' K'') : KLe K K'' := fun a x q => h' a x (h a x q)
/-- the types of the fields: class 100 * ci, slot k -/
def TYT (ci : Nat) : Nat → FieldType := match ci with
  | 0 => tyX0 | 1 => tyX1 | 2 => tyX2 | 3 => tyX3 | 4 => tyX4 | 5 => tyX5 | 6 => tyX6 | 7 => tyX7 | 8 => tyX8 | 9 => tyX9 | 10 => tyX10 | 11 => tyX11 | _ => tyX12
def TYF (f : Nat) : FieldType := TYT (f / 100) (f % 100)
/-- the class of what a field of references (or an array of them) holds -/
def CIX (C : String) : Nat := (vwCl.map (·.1)).idxOf C
abbrev GP : Type := va_G × (FieldType → ClassId) × State × Nat × Nat × (Nat → Int32)
abbrev gD (g : GP) : va_G := g.1
abbrev gC (g : GP) : FieldType → ClassId := g.2.1
abbrev gS (g : GP) : State := g.2.2.1
abbrev gB (g : GP) : Nat := g.2.2.1.heap.size
/-- the two String constants of the class, and their rows of bytes -/
def STm (f : Nat) : Term := if f < 9300 then .string "OverlayViewer$Tape" (f - 9000) else .field (.string "OverlayViewer$Tape" (f - 9300)) "java/lang/String" "value" "[B"
def VR (g : GP) (K : KM) (a : AV) (v : Value) : Prop := match a with
  | .inl (.inl x) => ∃ y : Int32, v = .int y ∧ y.toInt = x
  | .inl (.inr x) => v = .long x
  | .inr (.inl (_, none)) => v = .null
  | .inr (.inl (c, some q)) => v = .ref q ∧ K q = some (.inl c)
  | .inr (.inr (f, r)) => if f = 9999 then v = .ref g.2.2.2.1 else if 9000 ≤ f then ∃ q, v = .ref q ∧ (STm f).eval #[] (gS g) none [] (gS g) = some (.ref q) else ∃ q, v = .ref q ∧ K q = some (.inr (f, r))
theorem VR.mono {g : GP} {K K' : KM} (h : KLe K K') {a : AV} {v : Value} (hv : VR g K a v) : VR g K' a v := by
  match a, hv with
  | .inl (.inl x), hv => exact hv
  | .inl (.inr x), hv => exact hv
  | .inr (.inl (_, none)), hv => exact hv
  | .inr (.inl (c, some q)), hv => exact ⟨hv.1, h _ _ hv.2⟩
  | .inr (.inr (f, r)), hv =>
    unfold VR at hv ⊢
    dsimp only at hv ⊢
    split
    · rename_i h1; rw [if_pos h1] at hv; exact hv
    · rename_i h1
      rw [if_neg h1] at hv
      split
      · rename_i h2; rw [if_pos h2] at hv; exact hv
      · rename_i h2
        rw [if_neg h2] at hv
        obtain ⟨q, e, hq⟩ := hv
        exact ⟨q, e, h _ _ hq⟩
def SV (g : GP) (K : KM) : List AV → List Value → Prop
  | [], [] => True
  | a :: S, v :: st => VR g K a v ∧ SV g K S st
  | _, _ => False
theorem SV.mono {g : GP} {K K' : KM} (h : KLe K K') : ∀ {S : List AV} {st : List Value}, SV g K S st → SV g K' S st
  | [], [], _ => trivial
  | _ :: _, _ :: _, hv => ⟨VR.mono h hv.1, SV.mono h hv.2⟩
  | [], _ :: _, hv => hv
  | _ :: _, [], hv => hv
theorem SV.cons {g : GP} {K : KM} {a : AV} {S : List AV} {st : List Value} (h : SV g K (a :: S) st) : ∃ v st', st = v :: st' ∧ VR g K a v ∧ SV g K S st' := by
  cases st with
  | nil => exact absurd h (by simp [SV])
  | cons v st' => exact ⟨v, st', rfl, h.1, h.2⟩
theorem SV.nil {g : GP} {K : KM} {st : List Value} (h : SV g K [] st) : st = [] := by
  cases st with
  | nil => rfl
  | cons v st' => exact absurd h (by simp [SV])
theorem SV.app {g : GP} {K : KM} : ∀ {A B : List AV} {st : List Value}, SV g K (A ++ B) st → ∃ sa sb, st = sa ++ sb ∧ SV g K A sa ∧ SV g K B sb
  | [], B, st, h => ⟨[], st, rfl, trivial, h⟩
  | a :: A, B, st, h => by
    obtain ⟨v, st', rfl, h1, h2⟩ := SV.cons (S := A ++ B) h
    obtain ⟨sa, sb, rfl, h3, h4⟩ := SV.app h2
    exact ⟨v :: sa, sb, rfl, ⟨h1, h3⟩, h4⟩
theorem SV.append {g : GP} {K : KM} : ∀ {A B : List AV} {sa sb : List Value}, SV g K A sa → SV g K B sb → SV g K (A ++ B) (sa ++ sb)
  | [], _, [], _, _, h => h
  | _ :: _, _, _ :: _, _, h1, h => ⟨h1.1, SV.append h1.2 h⟩
  | [], _, _ :: _, _, h1, _ => h1.elim
  | _ :: _, _, [], _, h1, _ => h1.elim
theorem SV.rev {g : GP} {K : KM} : ∀ {A : List AV} {sa : List Value}, SV g K A sa → SV g K A.reverse sa.reverse
  | [], [], _ => trivial
  | a :: A, v :: sa, h => by
    rw [List.reverse_cons, List.reverse_cons]
    exact SV.append (SV.rev h.2) ⟨h.1, trivial⟩
  | [], _ :: _, h => h.elim
  | _ :: _, [], h => h.elim
def catA : AV → Nat
  | .inl (.inr _) => 2
  | _ => 1
theorem VR.cat {g : GP} {K : KM} {a : AV} {v : Value} (h : VR g K a v) : v.category = catA a := by
  match a, h with
  | .inl (.inl x), ⟨y, e, _⟩ => subst e; rfl
  | .inl (.inr x), h => have h : v = .long x := h; subst h; rfl
  | .inr (.inl (_, none)), h => have h : v = .null := h; subst h; rfl
  | .inr (.inl (c, some q)), h => have h := h.1; subst h; rfl
  | .inr (.inr (f, r)), h =>
    unfold VR at h
    dsimp only at h
    split at h
    · subst h; rfl
    · split at h
      · obtain ⟨q, e, _⟩ := h; subst e; rfl
      · obtain ⟨q, e, _⟩ := h; subst e; rfl
theorem SV.cats {g : GP} {K : KM} : ∀ {S : List AV} {st : List Value}, SV g K S st → (st.map fun v => v.category).sum = (S.map catA).sum
  | [], [], _ => rfl
  | a :: S, v :: st, h => by
    have h2 := SV.cats h.2
    simp only [List.map_cons, List.sum_cons, VR.cat h.1, h2]
  | [], _ :: _, h => h.elim
  | _ :: _, [], h => h.elim
theorem SV.len {g : GP} {K : KM} : ∀ {S : List AV} {st : List Value}, SV g K S st → st.length = S.length
  | [], [], _ => rfl
  | _ :: _, _ :: _, h => by rw [List.length_cons, List.length_cons, SV.len h.2]
  | [], _ :: _, h => h.elim
  | _ :: _, [], h => h.elim
/-- the locals -/
def LV (g : GP) (K : KM) (ls : Array Slot) (nL : Nat) (L : List (Option AV)) : Prop := ∃ lv : List (Nat × Value), lv_has ls nL lv ∧ ∀ i a, L[i]? = some (some a) → ∃ v, (i, v) ∈ lv ∧ VR g K a v
theorem LV.mono {g : GP} {K K' : KM} (h : KLe K K') {ls : Array Slot} {nL : Nat} {L : List (Option AV)} (hl : LV g K ls nL L) : LV g K' ls nL L := by
  obtain ⟨lv, h1, h2⟩ := hl
  exact ⟨lv, h1, fun i a ha => by obtain ⟨v, q1, q2⟩ := h2 i a ha; exact ⟨v, q1, VR.mono h q2⟩⟩
theorem LV.at {g : GP} {K : KM} {ls : Array Slot} {nL : Nat} {L : List (Option AV)} (hl : LV g K ls nL L) {i : Nat} {a : AV} (h : L[i]? = some (some a)) : ∃ v, ls[i]? = some (.val v) ∧ VR g K a v := by
  obtain ⟨lv, h1, h2⟩ := hl
  obtain ⟨v, q1, q2⟩ := h2 i a h
  exact ⟨v, h1.2.2 (i, v) q1, q2⟩
def killp (L : List (Option AV)) (i : Nat) : List (Option AV) := match i with
  | 0 => L
  | j + 1 => match L[j]? with
    | some (some (.inl (.inr _))) => L.set j none
    | _ => L
def st1 (L : List (Option AV)) (i : Nat) (a : AV) : List (Option AV) := (killp L i).set i (some a)
def st2 (L : List (Option AV)) (i : Nat) (a : AV) : List (Option AV) := ((killp L i).set (i + 1) none).set i (some a)
theorem killp_at {L : List (Option AV)} {i j : Nat} {a : AV} (h : (killp L i)[j]? = some (some a)) : L[j]? = some (some a) ∧ (j + 1 = i → catA a = 1) := by
  unfold killp at h
  cases i with
  | zero => exact ⟨h, fun q => by omega⟩
  | succ k =>
    dsimp only at h
    split at h
    · rename_i y hy
      rw [List.getElem?_set] at h
      split at h
      · split at h <;> cases h
      · rename_i hne
        exact ⟨h, fun q => absurd (by omega) hne⟩
    · rename_i hne
      refine ⟨h, fun q => ?_⟩
      have hk : j = k := by omega
      subst hk
      match a, h with
      | .inl (.inl x), _ => rfl
      | .inl (.inr x), h => exact absurd h (hne x)
      | .inr x, _ => rfl
theorem LV.st1 {g : GP} {K : KM} {nL : Nat} {L : List (Option AV)} {lv : List (Nat × Value)} (h2 : ∀ i a, L[i]? = some (some a) → ∃ v, (i, v) ∈ lv ∧ VR g K a v) {i : Nat} {a : AV} {v : Value} (hv : VR g K a v)
    {ls' : Array Slot} (h : lv_has ls' nL ((i, v) :: lv.filter (fun q => !(q.1 == i) && !(q.1 + 1 == i && q.2.category == 2)))) : LV g K ls' nL (st1 L i a) := by
  refine ⟨_, h, fun j b hb => ?_⟩
  have hb : ((killp L i).set i (some a))[j]? = some (some b) := hb
  rw [List.getElem?_set] at hb
  split at hb
  · rename_i hij
    split at hb
    · cases hb; exact ⟨v, by rw [hij]; exact List.mem_cons_self, hv⟩
    · cases hb
  · rename_i hij
    obtain ⟨q1, q2⟩ := killp_at hb
    obtain ⟨w, hw1, hw2⟩ := h2 j b q1
    refine ⟨w, List.mem_cons_of_mem _ (List.mem_filter.mpr ⟨hw1, ?_⟩), hw2⟩
    have hc := VR.cat hw2
    simp only [Bool.and_eq_true, Bool.not_eq_true', beq_eq_false_iff_ne, ne_eq, Bool.and_eq_false_iff]
    refine ⟨fun e => hij e.symm, ?_⟩
    by_cases hj : j + 1 = i
    · right; rw [hc, q2 hj]; decide
    · left; exact hj
theorem LV.st2 {g : GP} {K : KM} {nL : Nat} {L : List (Option AV)} {lv : List (Nat × Value)} (h2 : ∀ i a, L[i]? = some (some a) → ∃ v, (i, v) ∈ lv ∧ VR g K a v) {i : Nat} {a : AV} {v : Value} (hv : VR g K a v)
    {ls' : Array Slot} (h : lv_has ls' nL ((i, v) :: lv.filter (fun q => !(q.1 == i) && (!(q.1 == i + 1) && !(q.1 + 1 == i && q.2.category == 2))))) : LV g K ls' nL (st2 L i a) := by
  refine ⟨_, h, fun j b hb => ?_⟩
  have hb : (((killp L i).set (i + 1) none).set i (some a))[j]? = some (some b) := hb
  rw [List.getElem?_set] at hb
  split at hb
  · rename_i hij
    split at hb
    · cases hb; exact ⟨v, by rw [hij]; exact List.mem_cons_self, hv⟩
    · cases hb
  · rename_i hij
    rw [List.getElem?_set] at hb
    split at hb
    · split at hb <;> cases hb
    · rename_i hij2
      obtain ⟨q1, q2⟩ := killp_at hb
      obtain ⟨w, hw1, hw2⟩ := h2 j b q1
      refine ⟨w, List.mem_cons_of_mem _ (List.mem_filter.mpr ⟨hw1, ?_⟩), hw2⟩
      have hc := VR.cat hw2
      simp only [Bool.and_eq_true, Bool.not_eq_true', beq_eq_false_iff_ne, ne_eq, Bool.and_eq_false_iff]
      refine ⟨fun e => hij e.symm, fun e => hij2 e.symm, ?_⟩
      by_cases hj : j + 1 = i
      · right; rw [hc, q2 hj]; decide
      · left; exact hj
