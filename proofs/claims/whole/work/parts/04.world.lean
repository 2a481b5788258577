def nsl (H : Heap) (n : Nat) : Nat := ((H.toList.drop n).map (·.slots.size)).sum
theorem nsl_push (H : Heap) (c : Cell) {n : Nat} (h : n ≤ H.size) : nsl (H.push c) n = nsl H n + c.slots.size := by
  unfold nsl
  rw [Array.toList_push, List.drop_append_of_le_length (by simpa using h), List.map_append, List.sum_append]
  simp
theorem nsl_map {H H' : Heap} (hz : H'.size = H.size) (h : ∀ (q : Nat) (c : Cell), H[q]? = some c → ∃ c' : Cell, H'[q]? = some c' ∧ c'.slots.size = c.slots.size) : H'.toList.map (·.slots.size) = H.toList.map (·.slots.size) := by
  apply List.ext_getElem?
  intro i
  rw [List.getElem?_map, List.getElem?_map, Array.getElem?_toList, Array.getElem?_toList]
  cases hc : H[i]? with
  | none =>
    have h1 : H.size ≤ i := by simpa using hc
    have h2 : H'[i]? = none := by simp; omega
    rw [h2]
  | some c =>
    obtain ⟨c', e1, e2⟩ := h i c hc
    rw [e1]
    simp [e2]
theorem nsl_same {H H' : Heap} (hz : H'.size = H.size) (h : ∀ (q : Nat) (c : Cell), H[q]? = some c → ∃ c' : Cell, H'[q]? = some c' ∧ c'.slots.size = c.slots.size) (n : Nat) : nsl H' n = nsl H n := by
  unfold nsl
  rw [List.map_drop, List.map_drop, nsl_map hz h]
theorem nsl_add {H H0 : Heap} {n : Nat} (hn : n ≤ H0.size) (hz : H0.size ≤ H.size) (h : ∀ (q : Nat) (c : Cell), H0[q]? = some c → ∃ c' : Cell, H[q]? = some c' ∧ c'.slots.size = c.slots.size) : nsl H n = nsl H0 n + nsl H H0.size := by
  have e0 : (H.toList.map (·.slots.size)).take H0.size = H0.toList.map (·.slots.size) := by
    apply List.ext_getElem?
    intro i
    rw [List.getElem?_take]
    split
    · rename_i hi
      rw [List.getElem?_map, List.getElem?_map, Array.getElem?_toList, Array.getElem?_toList]
      obtain ⟨c', e1, e2⟩ := h i H0[i] (by simp [hi])
      rw [e1]
      simp [hi, e2]
    · rename_i hi
      rw [List.getElem?_map, Array.getElem?_toList]
      have : H0[i]? = none := by simp; omega
      rw [this]; rfl
  unfold nsl
  rw [List.map_drop, List.map_drop, List.map_drop, ← e0]
  generalize H.toList.map (·.slots.size) = L at *
  have hL : n ≤ (L.take H0.size).length := by rw [e0]; simpa using hn
  rw [← List.sum_append, ← List.drop_append_of_le_length hL, List.take_append_drop]
section TG
variable {p : Program} {l : Launch} {e : Env} {R : Room} {s : State} {m : MethodId} {args : Array Value} {below : List Frame} {meth : Method} {c : Code} {H : Heap} {locs : List Loc} {cells slots : Nat} {Q : State → Prop} {g : JFrame}
theorem W.tight (k : W p l e R s m args below meth c H locs (H.size - s.heap.size) (nsl H s.heap.size) Q g) : W p l e R s m args below meth c H locs cells slots Q g := by
  intro T hT X
  obtain ⟨a1, a2, a3, a4, a5, a6⟩ := X.same
  have hh : (T.setVm s.vm).heap = H := hT
  rw [hh] at a2
  exact k T hT { X with same := ⟨a1, by rw [hh]; exact a2, by rw [hh]; omega, a4, by rw [hh]; exact Nat.le_refl _, a6⟩ }
theorem W.adds {n : Nat} (hn : n ≤ s.heap.size) (k : nsl H n = nsl s.heap n + nsl H s.heap.size → s.heap.size ≤ H.size → W p l e R s m args below meth c H locs cells slots Q g) : W p l e R s m args below meth c H locs cells slots Q g := by
  intro T hT X
  obtain ⟨a1, a2, a3, a4, a5, a6⟩ := X.same
  have hh : (T.setVm s.vm).heap = H := hT
  rw [hh] at a2 a6
  exact k (nsl_add hn a2 (fun q c hq => by obtain ⟨c', e1, -, e2, -⟩ := a6 q c hq; exact ⟨c', e1, e2⟩)) a2 T hT X
end TG
def ATS : List FieldType := [.int, .long, .boolean, .object "OverlayViewer$Image", .object "OverlayViewer$Layer", .object "OverlayViewer$Structure", .object "OverlayViewer$Field", .object "OverlayViewer$Node", .object "OverlayViewer$Tree"]
def KA (g : GP) (s : State) : Prop := ∀ t ∈ ATS, ArrOfT s (gC g t) t ∧ va_RA s (gC g t) t
theorem KA.moved {g : GP} {u U : State} (hvm : u.vm.Alike U.vm) (h : KA g u) : KA g U := fun t ht => ⟨arrOfT_moved hvm (h t ht).1, (h t ht).2.moved hvm⟩
def XV (K : KM) (t : FieldType) (σ : St) (f a i : Nat) (v : Value) : Prop := match t with
  | .int => ∃ x : Int32, v = .int x ∧ x.toInt = gI σ f a i
  | .boolean => ∃ x : Int32, v = .int x ∧ x.toInt = gI σ f a i
  | .long => v = .long (gJ σ f a i)
  | .object C => match gR σ f a i with
    | none => v = .null
    | some q => v = .ref q ∧ K q = some (.inl (CIX C))
  | .array _ => (gL σ f a = 0 ∧ v = .null) ∨ (∃ q, v = .ref q ∧ K q = some (.inr (f, a)) ∧ gL σ f a ≠ 0)
  | _ => False
/-- the heap H holds the store σ; K: what lies at an address -/
def Wd (g : GP) (σ : St) (K : KM) (H : Heap) : Prop :=
  (H.size = hs σ ∧ nsl H (gB g) = sl σ ∧ gB g ≤ hs σ ∧ hs σ ≤ gB g + 600000 ∧ sl σ ≤ 7302250 ∧ ∀ q, q < gB g → H[q]? = (gS g).heap[q]?) ∧
  (∀ a x, K a = some x → gB g ≤ a ∧ a < H.size) ∧
  (∀ q q' x, K q = some (.inr x) → K q' = some (.inr x) → q = q') ∧
  (∀ a ci, K a = some (.inl ci) → ∃ (r : vw_C) (V : Nat → Value), vwCl[ci]? = some r ∧ t_OB a ((gD g).1 ci) r.2.2 ((gD g).2 ci) H V ∧ ∀ k, k < r.2.2 → XV K (TYF (100 * ci + k)) σ (100 * ci + k) a 0 (V k)) ∧
  (∀ q f a, K q = some (.inr (f, a)) → ∃ (t : FieldType) (V : Nat → Value), TYF f = .array t ∧ t ∈ ATS ∧ gL σ f a ≠ 0 ∧ K a = some (.inl (f / 100)) ∧ H[q]? = some (arrV (gC g t) (gL σ f a) V) ∧ ∀ i, i < gL σ f a → XV K t σ f a i (V i))
/-- the words that are carried along -/
def okWord (w : Cond) : Bool := goodWord w || (match w with
  | .methodLinkNest _ _ _ _ => true
  | .arrayOver (.object _) => true
  | _ => false)
def lw_use : List Cond := lw_tbl.filter okWord
theorem okw_moved {w : Cond} (h : okWord w = true) {args a' : Array Value} {s U : State} (hW : s.WarmedH U.vm) (hb : w.before args s = true) : w.before a' U = true := by
  unfold okWord at h
  rw [Bool.or_eq_true] at h
  rcases h with h | h
  · exact word_at hW (good_of_word h) hb
  · split at h
    · exact va_Nw.use rfl (va_Nw.warmM hW (va_Nw.of rfl hb))
    · exact va_AO.use (va_AO.moved hW.alike (va_AO.of hb))
    · cases h
theorem use_moved {args a' : Array Value} {s U : State} (hW : s.WarmedH U.vm) (hb : ∀ w ∈ lw_use, w.before args s = true) : ∀ w ∈ lw_use, w.before a' U = true := fun w hw => okw_moved (List.mem_filter.mp hw).2 hW (hb w hw)
abbrev MD : Type := MethodName × ByteArray × Nat × Option FieldType
def EnvOK (g : GP) (d : Nat) (M : MD) (p : Program) (R : Room) (s : State) (m : MethodId) (args : Array Value) (meth : Method) (c : Code) : Prop :=
  p.tables.exec = Jvm.exec ∧ c.code = M.2.1 ∧ c.maxLocals = M.2.2.1 ∧ meth.sig.returnType = M.2.2.2 ∧ meth.locks = false ∧ meth.name = M.1.name ∧ s.vm.findClass M.1.cls = some m.cls ∧ (∀ w ∈ lw_use, w.before args s = true) ∧ va_K (gD g) vwCl [] s ∧ KA g s ∧
  d ≤ R.frames ∧ 60 * d ≤ R.locals ∧ gB g ≤ s.heap.size ∧ s.heap.size + R.cells = gB g + 600000 ∧ nsl s.heap (gB g) + R.slots = 7302250 ∧ (gS g).WarmedH s.vm
def RV (g : GP) (K : KM) (v : Option AV) (st : List Value) : Prop := match v with
  | none => st = []
  | some a => ∃ w, st = [w] ∧ VR g K a w
def rop (v : Option AV) : Instr := match v with
  | none => .return_
  | some (.inl (.inl _)) => .ireturn
  | some (.inl (.inr _)) => .lreturn
  | some (.inr _) => .areturn
def okr (ret : Option FieldType) (v : Option AV) : Prop := match v with
  | none => ret = none
  | some (.inl (.inl x)) => ret = some .int ∨ (ret = some .boolean ∧ (x = 0 ∨ x = 1)) ∨ (ret = some .char ∧ 0 ≤ x ∧ x < 65536) ∨ (ret = some .byte ∧ -128 ≤ x ∧ x < 128)
  | some (.inl (.inr _)) => ret = some .long
  | some (.inr _) => ∃ n, ret = some (.object n)
def Ret (g : GP) (M : MD) (Q : Option AV → St → Prop) (K0 : KM) (p : Program) (l : Launch) (e : Env) (R : Room) (s : State) (m : MethodId) (args : Array Value) (below : List Frame) (meth : Method) (c : Code) (Z : State → Prop) : Prop :=
  ∀ (v : Option AV) (σ' : St) (K' : KM) (H' : Heap) (locs' : List Loc) (ls : Array Slot) (st : List Value) (pc : Nat), Q v σ' → Wd g σ' K' H' → KLe K0 K' → va_S (fun q => gB g ≤ q) s.heap H' locs' → RV g K' v st → okr M.2.2.2 v → decode M.2.1 pc = .ok (rop v, 1) →
    W p l e R s m args below meth c H' locs' (H'.size - s.heap.size) (nsl H' s.heap.size) Z (F0 m pc ls st)
/-- from pc, with these locals, this stack, this store: the method returns, and Q -/
def AW (g : GP) (l : Launch) (d : Nat) (M : MD) (pc : Nat) (L : List (Option AV)) (S : List AV) (σ : St) (Q : Option AV → St → Prop) : Prop :=
  ∀ (p : Program) (e : Env) (R : Room) (s : State) (m : MethodId) (args : Array Value) (below : List Frame) (meth : Method) (c : Code) (Z : State → Prop) (K0 K : KM) (H : Heap) (locs : List Loc) (ls : Array Slot) (st : List Value),
    EnvOK g d M p R s m args meth c → Ret g M Q K0 p l e R s m args below meth c Z → Wd g σ K H → KLe K0 K → va_S (fun q => gB g ≤ q) s.heap H locs → LV g K ls M.2.2.1 L → SV g K S st →
    W p l e R s m args below meth c H locs (H.size - s.heap.size) (nsl H s.heap.size) Z (F0 m pc ls st)
def inA : List AV → List (Option AV)
  | [] => []
  | a :: A => if catA a = 2 then some a :: none :: inA A else some a :: inA A
def inL (A : List AV) (n : Nat) : List (Option AV) := inA A ++ List.replicate (n - (inA A).length) none
def wsM (M : MD) : List Cond := [.code M.1 M.2.1 M.2.2.1 M.2.2.2]
def rmA (g : GP) (d : Nat) (σ : St) : Room := { frames := d, cells := gB g + 600000 - hs σ, slots := 7302250 - sl σ, locals := 60 * d }
def PcA (g : GP) (σ : St) (K : KM) (vals : List Value) : Array Value → State → Prop := fun a U => a = vals.toArray ∧ Wd g σ K U.heap ∧ va_K (gD g) vwCl [] U ∧ KA g U ∧ (gS g).WarmedH U.vm ∧ ∀ w ∈ lw_use, w.before a U = true
def QcA (g : GP) (K : KM) (Q : Option AV → St → Prop) : Array Value → State → Outcome → State → Prop := fun _ st o t =>
  (∃ (v : Option AV) (σ' : St) (K' : KM) (rv : Option Value), o = .returned rv ∧ RV g K' v rv.toList ∧ Wd g σ' K' t.heap ∧ KLe K K' ∧ Q v σ') ∧ va_F (fun q => gB g ≤ q) st t
/-- the method M, called with these values: it returns, and Q -/
def AC (g : GP) (l : Launch) (d : Nat) (M : MD) (A : List AV) (σ : St) (Q : Option AV → St → Prop) : Prop :=
  ∀ (K : KM) (vals : List Value), SV g K A vals → Met l M.1 (wsM M) (rmA g d σ) (PcA g σ K vals) (QcA g K Q) (gB g + 600000 - hs σ) (7302250 - sl σ) (fun q => gB g ≤ q)
theorem inA_len {g : GP} {K : KM} : ∀ {A : List AV} {vals : List Value}, SV g K A vals → (lg_sl vals).length = (inA A).length
  | [], [], _ => rfl
  | a :: A, v :: vals, h => by
    have h2 := inA_len h.2
    have hc := VR.cat h.1
    unfold lg_sl at h2 ⊢
    rw [List.flatMap_cons, List.length_append, h2]
    rw [show inA (a :: A) = if catA a = 2 then some a :: none :: inA A else some a :: inA A from rfl, hc]
    split <;> simp <;> omega
  | [], _ :: _, h => h.elim
  | _ :: _, [], h => h.elim
theorem inA_at {g : GP} {K : KM} : ∀ {A : List AV} {vals : List Value} (k : Nat), SV g K A vals → ∀ i a, (inA A)[i]? = some (some a) → ∃ v, (k + i, v) ∈ lv_args k vals ∧ VR g K a v
  | [], _, _, _, i, a, hi => by simp [inA] at hi
  | b :: A, v :: vals, k, h, i, a, hi => by
    have hc := VR.cat h.1
    unfold inA at hi
    unfold lv_args
    rw [hc]
    split at hi
    · rename_i h2
      rw [if_pos h2]
      match i, hi with
      | 0, hi =>
        have hi : b = a := by simpa using hi
        subst hi
        exact ⟨v, List.mem_cons_self, h.1⟩
      | 1, hi => simp at hi
      | j + 2, hi =>
        have hi : (inA A)[j]? = some (some a) := by simpa using hi
        obtain ⟨w, q1, q2⟩ := inA_at (k + 2) h.2 j a hi
        exact ⟨w, List.mem_cons_of_mem _ (by rw [show k + (j + 2) = k + 2 + j by omega]; exact q1), q2⟩
    · rename_i h2
      rw [if_neg h2]
      match i, hi with
      | 0, hi =>
        have hi : b = a := by simpa using hi
        subst hi
        exact ⟨v, List.mem_cons_self, h.1⟩
      | j + 1, hi =>
        have hi : (inA A)[j]? = some (some a) := by simpa using hi
        obtain ⟨w, q1, q2⟩ := inA_at (k + 1) h.2 j a hi
        exact ⟨w, List.mem_cons_of_mem _ (by rw [show k + (j + 1) = k + 1 + j by omega]; exact q1), q2⟩
  | _ :: _, [], _, h, _, _, _ => h.elim
theorem LV.entry {g : GP} {K : KM} {A : List AV} {vals : List Value} {n : Nat} (h : SV g K A vals) (hn : (inA A).length ≤ n) : LV g K ((lg_sl vals ++ List.replicate (n - (lg_sl vals).length) Slot.unset).toArray) n (inL A n) := by
  refine ⟨lv_args 0 vals, lv_entry vals (by rw [inA_len h]; exact hn), fun i a hi => ?_⟩
  unfold inL at hi
  rw [List.getElem?_append] at hi
  split at hi
  · have := inA_at 0 h i a hi
    rw [Nat.zero_add] at this
    exact this
  · rw [List.getElem?_replicate] at hi
    split at hi <;> simp at hi
