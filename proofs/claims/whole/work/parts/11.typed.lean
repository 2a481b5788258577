/-! calls by the type of their answer; what a label forgets; the script -/
def ACi (g : GP) (l : Launch) (d : Nat) (M : MD) (A : List AV) (σ : St) (P : Int → St → Prop) : Prop := AC g l d M A σ (fun v σ' => ∃ r, v = some (vI r) ∧ P r σ')
def ACj (g : GP) (l : Launch) (d : Nat) (M : MD) (A : List AV) (σ : St) (P : Int64 → St → Prop) : Prop := AC g l d M A σ (fun v σ' => ∃ r, v = some (vJ r) ∧ P r σ')
def ACr (g : GP) (l : Launch) (d : Nat) (M : MD) (ci : Nat) (A : List AV) (σ : St) (P : Option Nat → St → Prop) : Prop := AC g l d M A σ (fun v σ' => ∃ r, v = some (vR ci r) ∧ P r σ')
def ACv (g : GP) (l : Launch) (d : Nat) (M : MD) (A : List AV) (σ : St) (P : St → Prop) : Prop := AC g l d M A σ (fun v σ' => v = none ∧ P σ')
def fgt : List (Option AV) → List (Option AV) → Prop
  | [], _ => True
  | none :: A, _ :: B => fgt A B
  | some a :: A, some b :: B => a = b ∧ fgt A B
  | none :: A, [] => fgt A []
  | some _ :: _, _ => False
theorem fgt_at : ∀ {A B : List (Option AV)} {i : Nat} {a : AV}, fgt A B → A[i]? = some (some a) → B[i]? = some (some a)
  | [], _, i, a, _, h => by simp at h
  | none :: A, _ :: B, 0, a, _, h => by simp at h
  | none :: A, _ :: B, i + 1, a, hf, h => by
    have := fgt_at (A := A) (B := B) (i := i) (a := a) hf (by simpa using h)
    simpa using this
  | some x :: A, some y :: B, 0, a, hf, h => by
    have : x = a := by simpa using h
    rw [← this, hf.1]; rfl
  | some x :: A, some y :: B, i + 1, a, hf, h => by
    have := fgt_at (A := A) (B := B) (i := i) (a := a) hf.2 (by simpa using h)
    simpa using this
  | none :: A, [], 0, a, _, h => by simp at h
  | none :: A, [], i + 1, a, hf, h => by
    have := fgt_at (A := A) (B := []) (i := i) (a := a) hf (by simpa using h)
    simp at this
  | some _ :: _, none :: _, _, _, hf, _ => hf.elim
  | some _ :: _, [], _, _, hf, _ => hf.elim
section R7
variable {g : GP} {l : Launch} {d : Nat} {M : MD} {pc : Nat} {L : List (Option AV)} {S : List AV} {σ : St} {Q : Option AV → St → Prop}
theorem ACi.mono {A : List AV} {P P' : Int → St → Prop} (h : ∀ r σ', P r σ' → P' r σ') (k : ACi g l d M A σ P) : ACi g l d M A σ P' := AC.mono (fun _ _ ⟨r, e, q⟩ => ⟨r, e, h _ _ q⟩) k
theorem ACj.mono {A : List AV} {P P' : Int64 → St → Prop} (h : ∀ r σ', P r σ' → P' r σ') (k : ACj g l d M A σ P) : ACj g l d M A σ P' := AC.mono (fun _ _ ⟨r, e, q⟩ => ⟨r, e, h _ _ q⟩) k
theorem ACr.mono {ci : Nat} {A : List AV} {P P' : Option Nat → St → Prop} (h : ∀ r σ', P r σ' → P' r σ') (k : ACr g l d M ci A σ P) : ACr g l d M ci A σ P' := AC.mono (fun _ _ ⟨r, e, q⟩ => ⟨r, e, h _ _ q⟩) k
theorem ACv.mono {A : List AV} {P P' : St → Prop} (h : ∀ σ', P σ' → P' σ') (k : ACv g l d M A σ P) : ACv g l d M A σ P' := AC.mono (fun _ _ ⟨e, q⟩ => ⟨e, h _ q⟩) k
theorem aw_fgt {L' : List (Option AV)} (h : fgt L' L) (k : AW g l d M pc L' S σ Q) : AW g l d M pc L S σ Q := by
  intro p e R s m args below meth c Z K0 K H locs ls st E hR hW hK hS hL hSt
  obtain ⟨lv, h1, h2⟩ := hL
  exact k p e R s m args below meth c Z K0 K H locs ls st E hR hW hK hS ⟨lv, h1, fun i a ha => h2 i a (fgt_at h ha)⟩ hSt
theorem aw_invVi {n idx ci r : Nat} {q : Option Nat} {M' : MD} (As : List AV) (hq : q = some r) (hM : MOK M' n) (hn : As.length = n) (hl : Cond.methodLink M.1.cls idx M'.1 ∈ lw_use) (hi : Cond.instanceMethod M'.1 ∈ lw_use) (hs' : Cond.selects M'.1.cls M'.1 M'.1 ∈ lw_use) (hci : (vwCl[ci]?).map (·.1) = some M'.1.cls) (hd : decode M.2.1 pc = .ok (.invokevirtual idx, 3)) {S0 : List AV} (hS0 : S0 = As.reverse ++ vR ci q :: S) (hcat : (S.map catA).sum ≤ 8)
    (k : ACi g l d M' (vR ci (some r) :: As) σ (fun r' σ' => AW g l (d + 1) M (pc + 3) L (vI r' :: S) σ' Q)) : AW g l (d + 1) M pc L S0 σ Q := by
  subst hq
  exact aw_invV As hM hn hl hi hs' hci hd hS0 hcat (AC.mono (fun _ _ ⟨_, e, k'⟩ => by subst e; exact k') k)
theorem aw_invVj {n idx ci r : Nat} {q : Option Nat} {M' : MD} (As : List AV) (hq : q = some r) (hM : MOK M' n) (hn : As.length = n) (hl : Cond.methodLink M.1.cls idx M'.1 ∈ lw_use) (hi : Cond.instanceMethod M'.1 ∈ lw_use) (hs' : Cond.selects M'.1.cls M'.1 M'.1 ∈ lw_use) (hci : (vwCl[ci]?).map (·.1) = some M'.1.cls) (hd : decode M.2.1 pc = .ok (.invokevirtual idx, 3)) {S0 : List AV} (hS0 : S0 = As.reverse ++ vR ci q :: S) (hcat : (S.map catA).sum ≤ 8)
    (k : ACj g l d M' (vR ci (some r) :: As) σ (fun r' σ' => AW g l (d + 1) M (pc + 3) L (vJ r' :: S) σ' Q)) : AW g l (d + 1) M pc L S0 σ Q := by
  subst hq
  exact aw_invV As hM hn hl hi hs' hci hd hS0 hcat (AC.mono (fun _ _ ⟨_, e, k'⟩ => by subst e; exact k') k)
theorem aw_invVr {cr : Nat} {n idx ci r : Nat} {q : Option Nat} {M' : MD} (As : List AV) (hq : q = some r) (hM : MOK M' n) (hn : As.length = n) (hl : Cond.methodLink M.1.cls idx M'.1 ∈ lw_use) (hi : Cond.instanceMethod M'.1 ∈ lw_use) (hs' : Cond.selects M'.1.cls M'.1 M'.1 ∈ lw_use) (hci : (vwCl[ci]?).map (·.1) = some M'.1.cls) (hd : decode M.2.1 pc = .ok (.invokevirtual idx, 3)) {S0 : List AV} (hS0 : S0 = As.reverse ++ vR ci q :: S) (hcat : (S.map catA).sum ≤ 8)
    (k : ACr g l d M' cr (vR ci (some r) :: As) σ (fun r' σ' => AW g l (d + 1) M (pc + 3) L (vR cr r' :: S) σ' Q)) : AW g l (d + 1) M pc L S0 σ Q := by
  subst hq
  exact aw_invV As hM hn hl hi hs' hci hd hS0 hcat (AC.mono (fun _ _ ⟨_, e, k'⟩ => by subst e; exact k') k)
theorem aw_invVv {n idx ci r : Nat} {q : Option Nat} {M' : MD} (As : List AV) (hq : q = some r) (hM : MOK M' n) (hn : As.length = n) (hl : Cond.methodLink M.1.cls idx M'.1 ∈ lw_use) (hi : Cond.instanceMethod M'.1 ∈ lw_use) (hs' : Cond.selects M'.1.cls M'.1 M'.1 ∈ lw_use) (hci : (vwCl[ci]?).map (·.1) = some M'.1.cls) (hd : decode M.2.1 pc = .ok (.invokevirtual idx, 3)) {S0 : List AV} (hS0 : S0 = As.reverse ++ vR ci q :: S) (hcat : (S.map catA).sum ≤ 8)
    (k : ACv g l d M' (vR ci (some r) :: As) σ (fun σ' => AW g l (d + 1) M (pc + 3) L S σ' Q)) : AW g l (d + 1) M pc L S0 σ Q := by
  subst hq
  exact aw_invV As hM hn hl hi hs' hci hd hS0 hcat (AC.mono (fun _ _ ⟨e, k'⟩ => by subst e; exact k') k)
theorem aw_invIv {n idx ci r : Nat} {M' : MD} (As : List AV) (hM : MOK M' n) (hn : As.length = n) (hmn : M'.1.name = "<init>" ∧ M'.2.2.2 = none) (hl : Cond.methodLink M.1.cls idx M'.1 ∈ lw_use) (hi : Cond.instanceMethod M'.1 ∈ lw_use) (hd : decode M.2.1 pc = .ok (.invokespecial idx, 3)) {S0 : List AV} (hS0 : S0 = As.reverse ++ vR ci (some r) :: S) (hcat : (S.map catA).sum ≤ 8)
    (k : ACv g l d M' (vR ci (some r) :: As) σ (fun σ' => AW g l (d + 1) M (pc + 3) L S σ' Q)) : AW g l (d + 1) M pc L S0 σ Q := aw_invI As hM hn hmn hl hi hd hS0 hcat (AC.mono (fun _ _ ⟨e, k'⟩ => by subst e; exact k') k)
theorem aw_invSi {n idx : Nat} {M' : MD} (As : List AV) (hM : MOK M' n) (hn : As.length = n) (hl : Cond.methodLink M.1.cls idx M'.1 ∈ lw_use) (hi : Cond.static M'.1 ∈ lw_use) (hd : decode M.2.1 pc = .ok (.invokestatic idx, 3)) {S0 : List AV} (hS0 : S0 = As.reverse ++ S) (hcat : (S.map catA).sum ≤ 8)
    (k : ACi g l d M' As σ (fun r' σ' => AW g l (d + 1) M (pc + 3) L (vI r' :: S) σ' Q)) : AW g l (d + 1) M pc L S0 σ Q := aw_invS As hM hn hl hi hd hS0 hcat (AC.mono (fun _ _ ⟨_, e, k'⟩ => by subst e; exact k') k)
theorem aw_invSj {n idx : Nat} {M' : MD} (As : List AV) (hM : MOK M' n) (hn : As.length = n) (hl : Cond.methodLink M.1.cls idx M'.1 ∈ lw_use) (hi : Cond.static M'.1 ∈ lw_use) (hd : decode M.2.1 pc = .ok (.invokestatic idx, 3)) {S0 : List AV} (hS0 : S0 = As.reverse ++ S) (hcat : (S.map catA).sum ≤ 8)
    (k : ACj g l d M' As σ (fun r' σ' => AW g l (d + 1) M (pc + 3) L (vJ r' :: S) σ' Q)) : AW g l (d + 1) M pc L S0 σ Q := aw_invS As hM hn hl hi hd hS0 hcat (AC.mono (fun _ _ ⟨_, e, k'⟩ => by subst e; exact k') k)
theorem aw_invSv {n idx : Nat} {M' : MD} (As : List AV) (hM : MOK M' n) (hn : As.length = n) (hl : Cond.methodLink M.1.cls idx M'.1 ∈ lw_use) (hi : Cond.static M'.1 ∈ lw_use) (hd : decode M.2.1 pc = .ok (.invokestatic idx, 3)) {S0 : List AV} (hS0 : S0 = As.reverse ++ S) (hcat : (S.map catA).sum ≤ 8)
    (k : ACv g l d M' As σ (fun σ' => AW g l (d + 1) M (pc + 3) L S σ' Q)) : AW g l (d + 1) M pc L S0 σ Q := aw_invS As hM hn hl hi hd hS0 hcat (AC.mono (fun _ _ ⟨e, k'⟩ => by subst e; exact k') k)
theorem aw_invINv {n idx ci r : Nat} {M' : MD} {host : String} (As : List AV) (hM : MOK M' n) (hn : As.length = n) (hmn : M'.1.name = "<init>" ∧ M'.2.2.2 = none) (hl : Cond.methodLinkNest M.1.cls idx M'.1 host ∈ lw_use) (hi : Cond.instanceMethod M'.1 ∈ lw_use) (hd : decode M.2.1 pc = .ok (.invokespecial idx, 3)) {S0 : List AV} (hS0 : S0 = As.reverse ++ vR ci (some r) :: S) (hcat : (S.map catA).sum ≤ 8)
    (k : ACv g l d M' (vR ci (some r) :: As) σ (fun σ' => AW g l (d + 1) M (pc + 3) L S σ' Q)) : AW g l (d + 1) M pc L S0 σ Q := aw_invIN As hM hn hmn hl hi hd hS0 hcat (AC.mono (fun _ _ ⟨e, k'⟩ => by subst e; exact k') k)
theorem aw_invSNi {n idx : Nat} {M' : MD} {host : String} (As : List AV) (hM : MOK M' n) (hn : As.length = n) (hl : Cond.methodLinkNest M.1.cls idx M'.1 host ∈ lw_use) (hi : Cond.static M'.1 ∈ lw_use) (hd : decode M.2.1 pc = .ok (.invokestatic idx, 3)) {S0 : List AV} (hS0 : S0 = As.reverse ++ S) (hcat : (S.map catA).sum ≤ 8)
    (k : ACi g l d M' As σ (fun r' σ' => AW g l (d + 1) M (pc + 3) L (vI r' :: S) σ' Q)) : AW g l (d + 1) M pc L S0 σ Q := aw_invSN As hM hn hl hi hd hS0 hcat (AC.mono (fun _ _ ⟨_, e, k'⟩ => by subst e; exact k') k)
theorem aw_invSNj {n idx : Nat} {M' : MD} {host : String} (As : List AV) (hM : MOK M' n) (hn : As.length = n) (hl : Cond.methodLinkNest M.1.cls idx M'.1 host ∈ lw_use) (hi : Cond.static M'.1 ∈ lw_use) (hd : decode M.2.1 pc = .ok (.invokestatic idx, 3)) {S0 : List AV} (hS0 : S0 = As.reverse ++ S) (hcat : (S.map catA).sum ≤ 8)
    (k : ACj g l d M' As σ (fun r' σ' => AW g l (d + 1) M (pc + 3) L (vJ r' :: S) σ' Q)) : AW g l (d + 1) M pc L S0 σ Q := aw_invSN As hM hn hl hi hd hS0 hcat (AC.mono (fun _ _ ⟨_, e, k'⟩ => by subst e; exact k') k)
theorem aw_invSNv {n idx : Nat} {M' : MD} {host : String} (As : List AV) (hM : MOK M' n) (hn : As.length = n) (hl : Cond.methodLinkNest M.1.cls idx M'.1 host ∈ lw_use) (hi : Cond.static M'.1 ∈ lw_use) (hd : decode M.2.1 pc = .ok (.invokestatic idx, 3)) {S0 : List AV} (hS0 : S0 = As.reverse ++ S) (hcat : (S.map catA).sum ≤ 8)
    (k : ACv g l d M' As σ (fun σ' => AW g l (d + 1) M (pc + 3) L S σ' Q)) : AW g l (d + 1) M pc L S0 σ Q := aw_invSN As hM hn hl hi hd hS0 hcat (AC.mono (fun _ _ ⟨e, k'⟩ => by subst e; exact k') k)
theorem aw_getI' {f r idx : Nat} {q : Option Nat} {C nm ds : String} {fin : Bool} (hq : q = some r) (hF : FOK f .int C nm ds fin) (hlink : Cond.fieldLink M.1.cls idx C nm ds ∈ lw_use) (hd : decode M.2.1 pc = .ok (.getfield idx, 3)) (k : AW g l d M (pc + 3) L (vI (gI σ f r 0) :: S) σ Q) : AW g l d M pc L (vR (f / 100) q :: S) σ Q := by
  subst hq
  exact aw_getI hF hlink hd k
theorem aw_getZ' {f r idx : Nat} {q : Option Nat} {C nm ds : String} {fin : Bool} (hq : q = some r) (hF : FOK f .boolean C nm ds fin) (hlink : Cond.fieldLink M.1.cls idx C nm ds ∈ lw_use) (hd : decode M.2.1 pc = .ok (.getfield idx, 3)) (k : AW g l d M (pc + 3) L (vI (gI σ f r 0) :: S) σ Q) : AW g l d M pc L (vR (f / 100) q :: S) σ Q := by
  subst hq
  exact aw_getZ hF hlink hd k
theorem aw_getJ' {f r idx : Nat} {q : Option Nat} {C nm ds : String} {fin : Bool} (hq : q = some r) (hF : FOK f .long C nm ds fin) (hlink : Cond.fieldLink M.1.cls idx C nm ds ∈ lw_use) (hd : decode M.2.1 pc = .ok (.getfield idx, 3)) (k : AW g l d M (pc + 3) L (vJ (gJ σ f r 0) :: S) σ Q) : AW g l d M pc L (vR (f / 100) q :: S) σ Q := by
  subst hq
  exact aw_getJ hF hlink hd k
theorem aw_getR' {f r idx ci : Nat} {q : Option Nat} {C nm ds D : String} {fin : Bool} (hq : q = some r) (hF : FOK f (.object D) C nm ds fin) (hci : CIX D = ci) (hlink : Cond.fieldLink M.1.cls idx C nm ds ∈ lw_use) (hd : decode M.2.1 pc = .ok (.getfield idx, 3)) (k : AW g l d M (pc + 3) L (vR ci (gR σ f r 0) :: S) σ Q) : AW g l d M pc L (vR (f / 100) q :: S) σ Q := by
  subst hq
  exact aw_getR hF hci hlink hd k
theorem aw_getA' {f r idx : Nat} {q : Option Nat} {t : FieldType} {C nm ds : String} {fin : Bool} (hq : q = some r) (hF : FOK f (.array t) C nm ds fin) (hf : f < 9000) (hlink : Cond.fieldLink M.1.cls idx C nm ds ∈ lw_use) (hd : decode M.2.1 pc = .ok (.getfield idx, 3)) (hn : gL σ f r ≠ 0) (k : AW g l d M (pc + 3) L (vA f r :: S) σ Q) : AW g l d M pc L (vR (f / 100) q :: S) σ Q := by
  subst hq
  exact aw_getA hF hf hlink hd hn k
theorem aw_putI' {f r idx : Nat} {q : Option Nat} {C nm ds : String} {fin : Bool} {x : Int} (hq : q = some r) (hF : FOK f .int C nm ds fin) (hfin : fin = false ∨ (M.1.name = "<init>" ∧ M.1.cls = C)) (hlink : Cond.fieldLink M.1.cls idx C nm ds ∈ lw_use) (hd : decode M.2.1 pc = .ok (.putfield idx, 3)) (k : AW g l d M (pc + 3) L S (sI σ f r 0 x) Q) : AW g l d M pc L (vI x :: vR (f / 100) q :: S) σ Q := by
  subst hq
  exact aw_putI hF hfin hlink hd k
theorem aw_putZ' {f r idx : Nat} {q : Option Nat} {C nm ds : String} {fin : Bool} {x : Int} (hq : q = some r) (hF : FOK f .boolean C nm ds fin) (hfin : fin = false ∨ (M.1.name = "<init>" ∧ M.1.cls = C)) (hlink : Cond.fieldLink M.1.cls idx C nm ds ∈ lw_use) (hd : decode M.2.1 pc = .ok (.putfield idx, 3)) (hz : x = 0 ∨ x = 1) (k : AW g l d M (pc + 3) L S (sI σ f r 0 x) Q) : AW g l d M pc L (vI x :: vR (f / 100) q :: S) σ Q := by
  subst hq
  exact aw_putZ hF hfin hlink hd hz k
theorem aw_putJ' {f r idx : Nat} {q : Option Nat} {C nm ds : String} {fin : Bool} {x : Int64} (hq : q = some r) (hF : FOK f .long C nm ds fin) (hfin : fin = false ∨ (M.1.name = "<init>" ∧ M.1.cls = C)) (hlink : Cond.fieldLink M.1.cls idx C nm ds ∈ lw_use) (hd : decode M.2.1 pc = .ok (.putfield idx, 3)) (k : AW g l d M (pc + 3) L S (sJ σ f r 0 x) Q) : AW g l d M pc L (vJ x :: vR (f / 100) q :: S) σ Q := by
  subst hq
  exact aw_putJ hF hfin hlink hd k
theorem aw_putR' {f r idx ci : Nat} {q x : Option Nat} {C nm ds D : String} {fin : Bool} (hq : q = some r) (hF : FOK f (.object D) C nm ds fin) (hci : CIX D = ci) (hfin : fin = false ∨ (M.1.name = "<init>" ∧ M.1.cls = C)) (hlink : Cond.fieldLink M.1.cls idx C nm ds ∈ lw_use) (hd : decode M.2.1 pc = .ok (.putfield idx, 3)) (k : AW g l d M (pc + 3) L S (sR σ f r 0 x) Q) : AW g l d M pc L (vR ci x :: vR (f / 100) q :: S) σ Q := by
  subst hq
  exact aw_putR hF hci hfin hlink hd k
theorem aw_aastore' {f r ci n : Nat} {q : Option Nat} {i : Int} {D : String} (hq : q = some n) (hf : f < 9000) (ht : TYF f = .array (.object D)) (hci : CIX D = ci) (hcl : (vwCl[ci]?).map (·.1) = some D) (hd : decode M.2.1 pc = .ok (.aastore, 1)) (h0 : 0 ≤ i) (h1 : i < gL σ f r) (k : AW g l d M (pc + 1) L S (sR σ f r i.toNat (some n)) Q) : AW g l d M pc L (vR ci q :: vI i :: vA f r :: S) σ Q := by
  subst hq
  exact aw_aastore hf ht hci hcl hd h0 h1 k
theorem aw_sld {i : Int} (hX : va_X g.2.2.2.1 g.2.2.2.2.1 g.2.2.2.2.2 (gS g) (gS g).heap) (hb : g.2.2.2.1 < gB g) (hd : decode M.2.1 pc = .ok (.iaload, 1)) (h0 : 0 ≤ i) (h1 : i < g.2.2.2.2.1) (k : AW g l d M (pc + 1) L (vI (g.2.2.2.2.2 i.toNat).toInt :: S) σ Q) : AW g l d M pc L (vI i :: vA 9999 0 :: S) σ Q := by
  intro p e R s m args below meth c Z K0 K H locs ls st E hR hW hK hS hL hSt
  obtain ⟨v, w, st', hq, ⟨y, hv1, hv2⟩, hw, hSt'⟩ := SV.cons2 hSt
  have hw : w = .ref g.2.2.2.1 := hw
  subst hq hv1 hw
  obtain ⟨j1, j2, j3⟩ := in_of hv2 h0 h1
  obtain ⟨scr, x1, x2, x3, x4, x5⟩ := hX
  have x1' : H[g.2.2.2.1]? = some scr := by rw [hW.1.2.2.2.2.2 _ hb]; exact x1
  have harr : s.isArrayOf scr .int := State.isArrayOf_alike E.2.2.2.2.2.2.2.2.2.2.2.2.2.2.2.alike x2
  refine W.iald (v := .int (g.2.2.2.2.2 i.toNat)) E.1 E.2.1 x1' harr x3 (by rw [x4]; exact j1) (by rw [j2]; exact x5 _ j3) rfl rfl hd ?_
  exact k p e R s m args below meth c Z K0 K H locs ls _ E hR hW hK hS hL ⟨⟨_, rfl, rfl⟩, hSt'⟩
theorem aw_slen (hX : va_X g.2.2.2.1 g.2.2.2.2.1 g.2.2.2.2.2 (gS g) (gS g).heap) (hb : g.2.2.2.1 < gB g) (hn : g.2.2.2.2.1 < 2147483648) (hd : decode M.2.1 pc = .ok (.arraylength, 1)) (k : AW g l d M (pc + 1) L (vI (g.2.2.2.2.1 : Int) :: S) σ Q) : AW g l d M pc L (vA 9999 0 :: S) σ Q := by
  intro p e R s m args below meth c Z K0 K H locs ls st E hR hW hK hS hL hSt
  obtain ⟨w, st', hq, hw, hSt'⟩ := SV.cons hSt
  have hw : w = .ref g.2.2.2.1 := hw
  subst hq hw
  obtain ⟨scr, x1, x2, x3, x4, x5⟩ := hX
  have x1' : H[g.2.2.2.1]? = some scr := by rw [hW.1.2.2.2.2.2 _ hb]; exact x1
  have harr : s.isArrayOf scr .int := State.isArrayOf_alike E.2.2.2.2.2.2.2.2.2.2.2.2.2.2.2.alike x2
  refine W.alen (n := Int32.ofNat g.2.2.2.2.1) E.1 E.2.1 x1' harr (by rw [x4]) rfl rfl hd ?_
  refine k p e R s m args below meth c Z K0 K H locs ls _ E hR hW hK hS hL ⟨⟨_, rfl, ?_⟩, hSt'⟩
  exact nI_toInt hn
end R7
