/-! the class's names -/
theorem idx_ge {w : Int64} : ∀ (L : List Int64) (j : Int), 0 ≤ j → idx L w j = -1 ∨ (j ≤ idx L w j ∧ idx L w j < j + L.length)
  | [], j, _ => Or.inl rfl
  | a :: L, j, h => by
    unfold idx
    have e : ((a :: L).length : Int) = L.length + 1 := by rw [List.length_cons]; omega
    by_cases c : a = w
    · rw [if_pos c]; exact Or.inr ⟨by omega, by omega⟩
    · rw [if_neg c]
      rcases idx_ge (w := w) L (j + 1) (by omega) with z | z
      · exact Or.inl z
      · exact Or.inr ⟨by omega, by omega⟩
theorem idx_sh {w : Int64} : ∀ (L : List Int64) (j j' : Int), 0 ≤ j → 0 ≤ j' → (idx L w j = -1 ∧ idx L w j' = -1) ∨ (idx L w j - j = idx L w j' - j' ∧ j ≤ idx L w j)
  | [], j, j', _, _ => Or.inl ⟨rfl, rfl⟩
  | a :: L, j, j', h, h' => by
    unfold idx
    by_cases c : a = w
    · rw [if_pos c, if_pos c]; exact Or.inr ⟨by omega, by omega⟩
    · rw [if_neg c, if_neg c]
      rcases idx_sh (w := w) L (j + 1) (j' + 1) (by omega) (by omega) with z | z
      · exact Or.inl z
      · exact Or.inr ⟨by omega, by omega⟩
theorem idx_any {w : Int64} : ∀ (es : List Ent) (j : Int), 0 ≤ j → ((es.any (fun e => e.1 == w)) = true ↔ ¬ idx (es.map (fun e => e.1)) w j = -1)
  | [], j, _ => by simp [idx]
  | e :: es, j, h => by
    rw [List.any_cons, List.map_cons]
    unfold idx
    by_cases c : e.1 = w
    · rw [if_pos c]
      simp only [c, beq_self_eq_true, Bool.true_or, true_iff]
      omega
    · rw [if_neg c, ← idx_any es (j + 1) (by omega)]
      simp [c]
section X16
variable {g : GP} {l : Launch} {d : Nat} {σ : St} {p t dd c : Nat} {so : Nat → Nat} {fo : Nat → Nat → Nat} {X : Txt} {En : List Enm} {Ss : List Stc} {Fs : List Fld}
theorem x_structNamed {w : Int64} {P : Int → St → Prop} (hL : LC 1 σ dd) (hS : DSh σ dd so fo) (hD : DCo σ dd c so fo En Ss) (h : P (idx (Ss.map (fun s => s.1)) w 0) σ) : ACi g l d MX1_structureNamed [vR 1 (some dd), vJ w] σ P := by
  have n20 := hD.2.1
  have loop : ∀ (L : List Stc) (j : Nat), (∀ k S, L[k]? = some S → gJ σ 800 (so (j + k)) 0 = S.1) → j + L.length = Ss.length → P (idx (L.map (fun s => s.1)) w j) σ → AW g l d MX1_structureNamed 2 [some (vR 1 (some dd)), some (vJ w), none, some (vI (j : Int))] [] σ (fun v σ' => ∃ r, v = some (vI r) ∧ P r σ') := by
    intro L
    induction L with
    | nil =>
      intro j _ hj hP
      have hj : j + 0 = Ss.length := hj
      refine bk_X1_structureNamed_2 ⟨fun _ => ⟨_, rfl, hP⟩, fun q => absurd (by rw [hD.1]; omega) q⟩
    | cons S L ih =>
      intro j hn hj hP
      have hj : j + (L.length + 1) = Ss.length := hj
      obtain ⟨b1, b2, b3⟩ := hS.1 j (by omega)
      have e := hn 0 S rfl
      rw [List.map_cons, idx] at hP
      refine bk_X1_structureNamed_2 ⟨fun q => absurd q (by rw [hD.1]; omega), fun _ => ⟨hL, ⟨by omega, by omega⟩, so j, b1, fun q => ⟨⟨by omega, by omega⟩, ?_⟩, fun q => ⟨_, rfl, ?_⟩⟩⟩
      · rw [Nat.add_zero] at e
        rw [if_neg (by rw [← e]; exact q)] at hP
        have := ih (j + 1) (fun k S' hS' => by rw [show j + 1 + k = j + (k + 1) by omega]; exact hn (k + 1) S' hS') (by omega)
        exact this hP
      · rw [Nat.add_zero] at e
        rw [if_pos (by rw [← e]; exact q)] at hP
        exact hP
  exact AC.of mo_X1_structureNamed (Nat.le_of_ble_eq_true rfl) (bk_X1_structureNamed_0 (loop Ss 0 (fun k S hk => by rw [Nat.zero_add]; exact (hD.2.2.2.2.2 k S hk).1) (by omega) h))
theorem x_enumNamed {w : Int64} {P : Int → St → Prop} (hL : LC 1 σ dd) (hD : DCo σ dd c so fo En Ss) (h : P (idx (En.map (fun s => s.1)) w 0) σ) : ACi g l d MX1_enumNamed [vR 1 (some dd), vJ w] σ P := by
  have n8 := hD.2.2.2.1
  have e5 := hD.2.2.1
  have loop : ∀ (L : List Enm) (j : Nat), (∀ k S, L[k]? = some S → gJ σ 102 dd (j + k) = S.1) → j + L.length = En.length → P (idx (L.map (fun s => s.1)) w j) σ → AW g l d MX1_enumNamed 2 [some (vR 1 (some dd)), some (vJ w), none, some (vI (j : Int))] [] σ (fun v σ' => ∃ r, v = some (vI r) ∧ P r σ') := by
    intro L
    induction L with
    | nil =>
      intro j _ hj hP
      have hj : j + 0 = En.length := hj
      refine bk_X1_enumNamed_2 ⟨fun _ => ⟨_, rfl, hP⟩, fun q => absurd (by omega) q⟩
    | cons S L ih =>
      intro j hn hj hP
      have hj : j + (L.length + 1) = En.length := hj
      have e := hn 0 S rfl
      rw [Nat.add_zero] at e
      rw [List.map_cons, idx] at hP
      refine bk_X1_enumNamed_2 ⟨fun q => absurd q (by omega), fun _ => ⟨hL, ⟨by omega, by omega⟩, fun q => ⟨⟨by omega, by omega⟩, ?_⟩, fun q => ⟨_, rfl, ?_⟩⟩⟩
      · rw [show ((j : Int)).toNat = j by omega, e] at q
        rw [if_neg q] at hP
        exact ih (j + 1) (fun k S' hS' => by rw [show j + 1 + k = j + (k + 1) by omega]; exact hn (k + 1) S' hS') (by omega) hP
      · rw [show ((j : Int)).toNat = j by omega, e] at q
        rw [if_pos q] at hP
        exact hP
  exact AC.of mo_X1_enumNamed (Nat.le_of_ble_eq_true rfl) (bk_X1_enumNamed_0 (loop En 0 (fun k S hk => by rw [Nat.zero_add]; exact (hD.2.2.2.2.1 k S hk).1) (by omega) h))
theorem x_entryNamed {w : Int64} {a n : Int} {es : List Ent} {P : Int → St → Prop} (hL : LC 1 σ dd) (h3 : gI σ 109 dd 0 ≤ 3000) (hE : EC σ dd a n es) (h1 : idx (es.map (fun e => e.1)) w 0 = -1 → P (-1) σ) (h0 : ¬ idx (es.map (fun e => e.1)) w 0 = -1 → P (a + idx (es.map (fun e => e.1)) w 0) σ) : ACi g l d MX1_entryNamed [vR 1 (some dd), vI a, vI n, vJ w] σ P := by
  obtain ⟨b, rfl, rfl, hb, hv⟩ := hE
  have loop : ∀ (L : List Ent) (j : Nat), (∀ k S, L[k]? = some S → gJ σ 106 dd (b + j + k) = S.1) → j + L.length = es.length → (idx (L.map (fun e => e.1)) w j = -1 → P (-1) σ) → (¬ idx (L.map (fun e => e.1)) w j = -1 → P (b + idx (L.map (fun e => e.1)) w j) σ) → AW g l d MX1_entryNamed 3 [some (vR 1 (some dd)), some (vI (b : Int)), some (vI (es.length : Int)), some (vJ w), none, some (vI ((b + j : Nat) : Int))] [] σ (fun v σ' => ∃ r, v = some (vI r) ∧ P r σ') := by
    intro L
    induction L with
    | nil =>
      intro j _ hj hP _
      have hj : j + 0 = es.length := hj
      refine bk_X1_entryNamed_3 ⟨⟨by omega, by omega⟩, fun _ => ⟨_, rfl, hP rfl⟩, fun q => absurd (by omega) q⟩
    | cons S L ih =>
      intro j hn hj hP hP0
      have hj : j + (L.length + 1) = es.length := hj
      have e := hn 0 S rfl
      rw [Nat.add_zero] at e
      rw [List.map_cons, idx] at hP hP0
      refine bk_X1_entryNamed_3 ⟨⟨by omega, by omega⟩, fun q => absurd q (by omega), fun _ => ⟨fun q => absurd q (by omega), fun _ => ⟨hL, ⟨by omega, by omega⟩, fun q => ⟨⟨by omega, by omega⟩, ?_⟩, fun q => ⟨_, rfl, ?_⟩⟩⟩⟩
      · rw [show (((b + j : Nat) : Int)).toNat = b + j by omega, e] at q
        rw [if_neg q] at hP hP0
        exact ih (j + 1) (fun k S' hS' => by rw [show b + (j + 1) + k = b + j + (k + 1) by omega]; exact hn (k + 1) S' hS') (by omega) hP hP0
      · rw [show (((b + j : Nat) : Int)).toNat = b + j by omega, e] at q
        rw [if_pos q] at hP0
        have := hP0 (by omega)
        rw [show ((b + j : Nat) : Int) = (b : Int) + (j : Int) by omega]
        exact this
  exact AC.of mo_X1_entryNamed (Nat.le_of_ble_eq_true rfl) (bk_X1_entryNamed_0 (loop es 0 (fun k S hk => by rw [Nat.add_zero]; exact (hv k S hk).1) (by omega) h1 h0))
theorem x_sizeOf {s : Int} {P : Int → St → Prop} (hL : LC 1 σ dd) (hS : DSh σ dd so fo) (hD : DCo σ dd c so fo En Ss) (h : P (szS Ss s) σ) : ACi g l d MX1_sizeOf [vR 1 (some dd), vI s] σ P := by
  have n20 := hD.2.1
  have e1 := hD.1
  unfold szS at h
  refine AC.of mo_X1_sizeOf (Nat.le_of_ble_eq_true rfl) (bk_X1_sizeOf_0 ⟨fun q => ⟨_, rfl, by rw [if_pos q] at h; exact h⟩, fun q => ⟨fun q2 => ⟨hL, ⟨by omega, by omega⟩, so s.toNat, (hS.1 s.toNat (by omega)).1, _, rfl, ?_⟩, fun q2 => ⟨_, rfl, ?_⟩⟩⟩)
  · rw [if_neg q] at h
    have hlt : s.toNat < Ss.length := by omega
    rw [List.getElem?_eq_getElem hlt] at h
    rw [(hD.2.2.2.2.2 s.toNat _ (List.getElem?_eq_getElem hlt)).2.2.1]
    exact h
  · rw [if_neg q, List.getElem?_eq_none (by omega)] at h
    exact h
end X16
section X17
variable {g : GP} {l : Launch} {D : Nat} {σ0 σ : St} {p t dd c : Nat} {so : Nat → Nat} {fo : Nat → Nat → Nat} {X : Txt} {En : List Enm} {Ss : List Stc} {Fs : List Fld} {i a ne : Nat} {F : Fld}
theorem f_takeStruct {P : Int → St → Prop} (hD : 1 ≤ D) (hX : X.OK) (h : FS σ0 σ p t dd c so fo X En Ss Fs i a ne F) (h1 : ∀ v, tI X (Ss.map (fun s => s.1)) i = .ok (X.nx i, v) → 0 ≤ v → ∀ σ', FS σ0 σ' p t dd c so fo X En Ss Fs (X.nx i) 0 ne F → P v σ') (h0 : ∀ e, tI X (Ss.map (fun s => s.1)) i = .error e → ∀ σ', ER σ0 σ' p dd c so fo (fo Ss.length Fs.length) e → P (-1) σ') : ACi g l D MX6_takeStructure [vR 6 (some p)] σ P := by
  obtain ⟨d, rfl⟩ : ∃ d, D = d + 1 := ⟨D - 1, by omega⟩
  have ek := h.k
  have ev := h.v
  have ha := h.2.2.2.2.2.2.2.2.1
  have hcs := h.2.1
  have ig := idx_ge (w := X.v i) (Ss.map (fun s => s.1)) 0 (by decide)
  have s44 : ∀ y : Int, X.k i = 2 → (y = 0 ∧ idx (Ss.map (fun s => s.1)) (X.v i) 0 = -1 ∨ y = 1 ∧ ¬ idx (Ss.map (fun s => s.1)) (X.v i) 0 = -1) → AW g l (d + 1) MX6_takeStructure 44 [some (vR 6 (some p)), some (vI (idx (Ss.map (fun s => s.1)) (X.v i) 0))] [vI y, vR 6 (some p)] σ (fun v σ' => ∃ r, v = some (vI r) ∧ P r σ') := by
    intro y k2 hy
    refine bk_X6_takeStructure_44 ⟨p, rfl, c_check hX h.T (by omega) (fun q => ⟨fun _ => f_pass hX h (by omega) (fun σ2 s2 => ⟨_, rfl, h1 _ ?_ (by omega) σ2 s2⟩), fun z => absurd z (by decide)⟩) (fun q σ2 hF2 hf => ⟨fun z => absurd rfl z, fun _ => ⟨_, rfl, h0 (ck X i 4) ?_ σ2 (h.er hF2 hf)⟩⟩)⟩
    · unfold tI; rw [if_pos k2, if_neg (by omega)]
    · unfold tI; rw [if_pos k2, if_pos (by omega)]
  have s26 : ∀ y : Int, (y = 1 ∧ X.k i = 2 ∨ y = 0 ∧ ¬ X.k i = 2) → AW g l (d + 1) MX6_takeStructure 26 [some (vR 6 (some p)), some (vI (idx (Ss.map (fun s => s.1)) (X.v i) 0))] [vI y, vR 6 (some p)] σ (fun v σ' => ∃ r, v = some (vI r) ∧ P r σ') := by
    intro y hy
    refine bk_X6_takeStructure_26 ⟨p, rfl, c_check hX h.T (by omega) (fun q => ⟨fun z => absurd z (by decide), fun _ => ⟨fun z => s44 0 (by omega) (by omega), fun z => s44 1 (by omega) (by omega)⟩⟩) (fun q σ2 hF2 hf => ⟨fun _ => ⟨_, rfl, h0 (ck X i 2) ?_ σ2 (h.er hF2 hf)⟩, fun z => absurd rfl z⟩)⟩
    unfold tI; rw [if_neg (by omega)]
  refine AC.of mo_X6_takeStructure (Nat.le_of_ble_eq_true rfl) (bk_X6_takeStructure_0 ⟨dd, hcs.2.1, x_structNamed hcs.2.2.2.1 h.env.1 h.env.2.1 ?_⟩)
  rw [ek, ev]
  exact ⟨fun z => s26 0 (by omega), fun z => s26 1 (by omega)⟩
theorem f_takeEnum {P : Int → St → Prop} (hD : 1 ≤ D) (hX : X.OK) (h : FS σ0 σ p t dd c so fo X En Ss Fs i a ne F) (h1 : ∀ v, tI X (En.map (fun s => s.1)) i = .ok (X.nx i, v) → 0 ≤ v → ∀ σ', FS σ0 σ' p t dd c so fo X En Ss Fs (X.nx i) 0 ne F → P v σ') (h0 : ∀ e, tI X (En.map (fun s => s.1)) i = .error e → ∀ σ', ER σ0 σ' p dd c so fo (fo Ss.length Fs.length) e → P (-1) σ') : ACi g l D MX6_takeEnum [vR 6 (some p)] σ P := by
  obtain ⟨d, rfl⟩ : ∃ d, D = d + 1 := ⟨D - 1, by omega⟩
  have ek := h.k
  have ev := h.v
  have ha := h.2.2.2.2.2.2.2.2.1
  have hcs := h.2.1
  have ig := idx_ge (w := X.v i) (En.map (fun s => s.1)) 0 (by decide)
  have s44 : ∀ y : Int, X.k i = 2 → (y = 0 ∧ idx (En.map (fun s => s.1)) (X.v i) 0 = -1 ∨ y = 1 ∧ ¬ idx (En.map (fun s => s.1)) (X.v i) 0 = -1) → AW g l (d + 1) MX6_takeEnum 44 [some (vR 6 (some p)), some (vI (idx (En.map (fun s => s.1)) (X.v i) 0))] [vI y, vR 6 (some p)] σ (fun v σ' => ∃ r, v = some (vI r) ∧ P r σ') := by
    intro y k2 hy
    refine bk_X6_takeEnum_44 ⟨p, rfl, c_check hX h.T (by omega) (fun q => ⟨fun _ => f_pass hX h (by omega) (fun σ2 s2 => ⟨_, rfl, h1 _ ?_ (by omega) σ2 s2⟩), fun z => absurd z (by decide)⟩) (fun q σ2 hF2 hf => ⟨fun z => absurd rfl z, fun _ => ⟨_, rfl, h0 (ck X i 4) ?_ σ2 (h.er hF2 hf)⟩⟩)⟩
    · unfold tI; rw [if_pos k2, if_neg (by omega)]
    · unfold tI; rw [if_pos k2, if_pos (by omega)]
  have s26 : ∀ y : Int, (y = 1 ∧ X.k i = 2 ∨ y = 0 ∧ ¬ X.k i = 2) → AW g l (d + 1) MX6_takeEnum 26 [some (vR 6 (some p)), some (vI (idx (En.map (fun s => s.1)) (X.v i) 0))] [vI y, vR 6 (some p)] σ (fun v σ' => ∃ r, v = some (vI r) ∧ P r σ') := by
    intro y hy
    refine bk_X6_takeEnum_26 ⟨p, rfl, c_check hX h.T (by omega) (fun q => ⟨fun z => absurd z (by decide), fun _ => ⟨fun z => s44 0 (by omega) (by omega), fun z => s44 1 (by omega) (by omega)⟩⟩) (fun q σ2 hF2 hf => ⟨fun _ => ⟨_, rfl, h0 (ck X i 2) ?_ σ2 (h.er hF2 hf)⟩, fun z => absurd rfl z⟩)⟩
    unfold tI; rw [if_neg (by omega)]
  refine AC.of mo_X6_takeEnum (Nat.le_of_ble_eq_true rfl) (bk_X6_takeEnum_0 ⟨dd, hcs.2.1, x_enumNamed hcs.2.2.2.1 h.env.2.1 ?_⟩)
  rw [ek, ev]
  exact ⟨fun z => s26 0 (by omega), fun z => s26 1 (by omega)⟩
/-- is a name told already -/
theorem f_isTold {w : Int64} {P : Int → St → Prop} (hD : 1 ≤ D) (hX : X.OK) (h : FS σ0 σ p t dd c so fo X En Ss Fs i a ne F) (h1 : (Fs ++ [F]).any (tf w) = true → P 1 σ) (h0 : ¬ (Fs ++ [F]).any (tf w) = true → P 0 σ) : ACi g l D MX6_isTold [vR 6 (some p), vJ w] σ P := by
  obtain ⟨d, rfl⟩ : ∃ d, D = d + 1 := ⟨D - 1, by omega⟩
  obtain ⟨a1, a2, ⟨e1, e2, e3, e4, e5, e6, e7⟩, a4, a5, a6, a7, a8, a9, a10⟩ := h
  have h3 := hX.h3
  have hKn := hX.hKn
  have hiK := a2.1.2.2.2.1
  have all : ∀ k G, (Fs ++ [F])[k]? = some G → FC σ dd c (fo Ss.length k) G := fun k G hG => by
    rcases app_q hG with ⟨_, q⟩ | ⟨rfl, rfl⟩
    · exact e7 k G q
    · exact a5
  have loop : ∀ (L : List Fld) (j : Nat), (∀ k G, L[k]? = some G → FC σ dd c (fo Ss.length (j + k)) G) → j + L.length = Fs.length + 1 → (L.any (tf w) = true → P 1 σ) → (¬ L.any (tf w) = true → P 0 σ) → AW g l (d + 1) MX6_isTold 2 [some (vR 6 (some p)), some (vJ w), none, some (vI (j : Int)), none, none] [] σ (fun v σ' => ∃ r, v = some (vI r) ∧ P r σ') := by
    intro L
    induction L with
    | nil =>
      intro j _ hj hP1 hP0
      have hj : j + 0 = Fs.length + 1 := hj
      exact bk_X6_isTold_2 ⟨_, e4, fun _ => ⟨_, rfl, hP0 (by simp)⟩, fun q => absurd (by omega) q⟩
    | cons G L ih =>
      intro j hn hj hP1 hP0
      have hj : j + (L.length + 1) = Fs.length + 1 := hj
      obtain ⟨b1, b2, b3⟩ := e1.1 Ss.length e3
      obtain ⟨c1, c2⟩ := b3 j (by omega)
      have hG := hn 0 G rfl
      rw [Nat.add_zero] at hG
      rw [List.any_cons] at hP1 hP0
      have s66 : ∀ y : Int, (y = 0 ∧ (G.ki == 3 && G.es.any (fun e => e.1 == w)) = false ∨ y = 1 ∧ (G.ki == 3 && G.es.any (fun e => e.1 == w)) = true) → AW g l (d + 1) MX6_isTold 66 [some (vR 6 (some p)), some (vJ w), none, some (vI (j : Int)), some (vR 2 (gR σ 801 (so Ss.length) ((j : Int)).toNat)), none] [vI y] σ (fun v σ' => ∃ r, v = some (vI r) ∧ P r σ') := by
        intro y hy
        rw [show ((j : Int)).toNat = j by omega, c1]
        refine bk_X6_isTold_66 ⟨_, rfl, ?_⟩
        rw [hG.nm]
        refine ⟨fun q => ⟨_, rfl, hP1 ?_⟩, fun q => ⟨fun q2 => ⟨⟨by omega, by omega⟩, ?_⟩, fun q2 => ⟨_, rfl, hP1 ?_⟩⟩⟩
        · simp [tf, q]
        · have f0 : tf w G = false := by
            unfold tf
            rcases hy with hy | hy
            · rw [hy.2, Bool.or_false]
              simpa using q
            · omega
          rw [f0, Bool.false_or] at hP1 hP0
          exact ih (j + 1) (fun k G' hG' => by rw [show j + 1 + k = j + (k + 1) by omega]; exact hn (k + 1) G' hG') (by omega) hP1 hP0
        · have : (G.ki == 3 && G.es.any (fun e => e.1 == w)) = true := by
            rcases hy with hy | hy
            · omega
            · exact hy.2
          unfold tf
          rw [this]; simp
      refine bk_X6_isTold_2 ⟨_, e4, fun q => absurd q (by omega), fun _ => ⟨fun q => absurd q (by omega), fun _ => ⟨b2, ⟨by omega, by omega⟩, fo Ss.length j, c1, ?_⟩⟩⟩
      rw [hG.ki]
      refine ⟨fun q => s66 0 (Or.inl ⟨rfl, by simp [q]⟩), fun q => ⟨dd, a2.2.1, x_entryNamed a2.2.2.2.1 (by omega) hG.es (fun z => ⟨fun _ => s66 0 (Or.inl ⟨rfl, ?_⟩), fun z2 => absurd rfl z2⟩) (fun z => ⟨fun z2 => ?_, fun _ => s66 1 (Or.inr ⟨rfl, ?_⟩)⟩)⟩⟩
      · have : ¬ (G.es.any (fun e => e.1 == w)) = true := fun y => (idx_any (w := w) G.es 0 (by decide)).mp y z
        simp only [Bool.not_eq_true] at this
        rw [this, Bool.and_false]
      · have := idx_ge (w := w) (G.es.map (fun e => e.1)) 0 (by decide)
        obtain ⟨bb, hb1, _⟩ := hG.es
        omega
      · rw [(idx_any (w := w) G.es 0 (by decide)).mpr z, q]; rfl
  exact AC.of mo_X6_isTold (Nat.le_of_ble_eq_true rfl) (bk_X6_isTold_0 (loop (Fs ++ [F]) 0 (fun k G hG => by rw [Nat.zero_add]; exact all k G hG) (by rw [app_l]; omega) h1 h0))
theorem f_ownName {P : Int → St → Prop} (hD : 2 ≤ D) (hX : X.OK) (h : FS σ0 σ p t dd c so fo X En Ss Fs i a ne F) (h1 : tO X Fs F i = .ok (X.nx i, X.v i) → X.k i = 2 → ∀ σ', FS σ0 σ' p t dd c so fo X En Ss Fs (X.nx i) 0 ne (F.wNm (X.v i)) → P 1 σ') (h0 : ∀ e, tO X Fs F i = .error e → ∀ σ', ER σ0 σ' p dd c so fo (fo Ss.length Fs.length) e → P 0 σ') : ACi g l D MX6_takeOwnName [vR 6 (some p)] σ P := by
  obtain ⟨d, rfl⟩ : ∃ d, D = d + 1 := ⟨D - 1, by omega⟩
  have ek := h.k
  have ev := h.v
  have h10 := h.2.2.2.2.2.2.2.2.2
  have s38 : ∀ y : Int, X.k i = 2 → (y = 0 ∧ (Fs ++ [F]).any (tf (X.v i)) = true ∨ y = 1 ∧ ¬ (Fs ++ [F]).any (tf (X.v i)) = true) → AW g l (d + 1) MX6_takeOwnName 38 [some (vR 6 (some p))] [vI y, vR 6 (some p)] σ (fun v σ' => ∃ r, v = some (vI r) ∧ P r σ') := by
    intro y k2 hy
    refine bk_X6_takeOwnName_38 ⟨p, rfl, c_check hX h.T (by omega) (fun q => ⟨fun _ => ⟨_, h.r9, ?_⟩, fun z => absurd z (by decide)⟩) (fun q σ2 hF2 hf => ⟨fun z => absurd rfl z, fun _ => ⟨_, rfl, h0 (ck X i 3) ?_ σ2 (h.er hF2 hf)⟩⟩)⟩
    · have s1 := h.r (F' := F.wNm (X.v i)) (Frm.sJ (by simp)) (h.fc.wNm (v := X.v i)) (fun q => by rw [gI_sJ]; exact h10 q)
      rw [ev]
      refine f_pass hX s1 (by omega) (fun σ2 s2 => ⟨_, rfl, h1 ?_ k2 σ2 s2⟩)
      unfold tO; rw [if_pos k2, if_neg (by rcases hy with hy | hy; omega; exact hy.2)]
    · unfold tO; rw [if_pos k2, if_pos (by rcases hy with hy | hy; exact hy.2; omega)]
  have s14 : ∀ y : Int, (y = 1 ∧ X.k i = 2 ∨ y = 0 ∧ ¬ X.k i = 2) → AW g l (d + 1) MX6_takeOwnName 14 [some (vR 6 (some p))] [vI y, vR 6 (some p)] σ (fun v σ' => ∃ r, v = some (vI r) ∧ P r σ') := by
    intro y hy
    refine bk_X6_takeOwnName_14 ⟨p, rfl, c_check hX h.T (by omega) (fun q => ⟨fun z => absurd z (by decide), fun _ => ?_⟩) (fun q σ2 hF2 hf => ⟨fun _ => ⟨_, rfl, h0 (ck X i 2) ?_ σ2 (h.er hF2 hf)⟩, fun z => absurd rfl z⟩)⟩
    · rw [ev]
      exact f_isTold (by omega) hX h (fun z => ⟨fun _ => s38 0 (by omega) (Or.inl ⟨rfl, z⟩), fun q => absurd q (by decide)⟩) (fun z => ⟨fun q => absurd rfl q, fun _ => s38 1 (by omega) (Or.inr ⟨rfl, z⟩)⟩)
    · unfold tO; rw [if_neg (by omega)]
  refine AC.of mo_X6_takeOwnName (Nat.le_of_ble_eq_true rfl) (bk_X6_takeOwnName_0 ?_)
  rw [ek]
  exact ⟨fun z => s14 0 (by omega), fun z => s14 1 (by omega)⟩
end X17
