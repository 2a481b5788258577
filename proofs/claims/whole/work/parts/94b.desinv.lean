/-! descriptions: what other calls keep -/
def AgA (σ σ' : St) (lo hi r : Nat) : Prop := (∀ f, gL σ' f r = gL σ f r) ∧ ∀ f i, lo ≤ f → f ≤ hi → Agr σ σ' f r i
theorem AgA.I {σ σ' : St} {lo hi r : Nat} (h : AgA σ σ' lo hi r) {f : Nat} (h0 : lo ≤ f) (h1 : f ≤ hi) (i : Nat) : gI σ' f r i = gI σ f r i := (h.2 f i h0 h1).1
theorem AgA.J {σ σ' : St} {lo hi r : Nat} (h : AgA σ σ' lo hi r) {f : Nat} (h0 : lo ≤ f) (h1 : f ≤ hi) (i : Nat) : gJ σ' f r i = gJ σ f r i := (h.2 f i h0 h1).2.1
theorem AgA.R {σ σ' : St} {lo hi r : Nat} (h : AgA σ σ' lo hi r) {f : Nat} (h0 : lo ≤ f) (h1 : f ≤ hi) (i : Nat) : gR σ' f r i = gR σ f r i := (h.2 f i h0 h1).2.2
theorem AgA.lc {σ σ' : St} {lo hi r c : Nat} (h : AgA σ σ' lo hi r) (k : LC c σ r) : LC c σ' r := fun f e => (h.1 f).trans (k f e)
theorem AgA.of {P : Nat → Nat → Prop} {σ σ' : St} {lo hi r : Nat} (hF : Fr P σ σ') (hr : r < hs σ) (n : ∀ f, lo ≤ f → f ≤ hi → ¬ P f r) : AgA σ σ' lo hi r := ⟨fun f => (hF.2 f r hr).1, fun f i h0 h1 => (hF.2 f r hr).2 (n f h0 h1) i⟩
def AgD (σ σ' : St) (dd c : Nat) (so : Nat → Nat) (fo : Nat → Nat → Nat) : Prop :=
  AgA σ σ' 0 2 c ∧ AgA σ σ' 100 110 dd ∧ (∀ s, s < 20 → AgA σ σ' 800 804 (so s)) ∧ ∀ s k, s < 20 → k < 14 → AgA σ σ' 200 216 (fo s k)
section G1
variable {σ σ' : St} {dd c r m b fd lo : Nat} {so : Nat → Nat} {fo : Nat → Nat → Nat} {En : List Enm} {Ss : List Stc} {F : Fld}
theorem AgD.mo (h : AgD σ σ' dd c so fo) : Mo σ σ' dd c := by
  obtain ⟨h1, h2, _⟩ := h
  refine ⟨by rw [h1.I (by decide) (by decide)]; omega, fun j _ => ⟨h1.I (by decide) (by decide) j, h1.J (by decide) (by decide) j⟩, by rw [h2.I (by decide) (by decide)]; omega, fun j _ => ⟨h2.J (by decide) (by decide) j, h2.J (by decide) (by decide) j, h2.I (by decide) (by decide) j⟩⟩
theorem FC.ag (h : FC σ dd c r F) (hA : AgA σ σ' 200 216 r) (hM : Mo σ σ' dd c) : FC σ' dd c r F := by
  obtain ⟨a1, a2, a3, a4, a5, a6, a7, a8, a9, a10, a11, a12, a13, a14, a15⟩ := h
  have I : ∀ f i, 201 ≤ f → f ≤ 216 → gI σ' f r i = gI σ f r i := fun f i h0 h1 => hA.I (by omega) h1 i
  have J : ∀ f i, 201 ≤ f → f ≤ 216 → gJ σ' f r i = gJ σ f r i := fun f i h0 h1 => hA.J (by omega) h1 i
  refine ⟨?_, ?_, ?_, ?_, ?_, ?_, ?_, ?_, ?_, ?_, ?_, ?_, ?_, ?_, ?_⟩
  · rw [I _ _ (by decide) (by decide)]; exact a1
  · rw [J _ _ (by decide) (by decide)]; exact a2
  · rw [I _ _ (by decide) (by decide)]; exact a3
  · rw [I _ _ (by decide) (by decide)]; exact a4
  · rw [I _ _ (by decide) (by decide)]; exact a5
  · rw [I _ _ (by decide) (by decide)]; exact a6
  · rw [I _ _ (by decide) (by decide)]; exact a7
  · rw [I _ _ (by decide) (by decide)]; exact a8.mo hM
  · rw [I _ _ (by decide) (by decide)]; exact a9.mo hM
  · rw [I _ _ (by decide) (by decide)]; exact a10.mo hM
  · rw [J _ _ (by decide) (by decide)]; exact a11
  · rw [I _ _ (by decide) (by decide)]; exact a12
  · rw [I 213 _ (by decide) (by decide), I 214 _ (by decide) (by decide)]; exact a13.mo hM
  · rw [J _ _ (by decide) (by decide)]; exact a14
  · rw [I _ _ (by decide) (by decide)]; exact a15
theorem DSh.ag (h : DSh σ dd so fo) (hA : AgD σ σ' dd c so fo) : DSh σ' dd so fo := by
  refine ⟨fun s hs => ?_, h.2⟩
  obtain ⟨a, b, e⟩ := h.1 s hs
  refine ⟨by rw [hA.2.1.R (by decide) (by decide)]; exact a, (hA.2.2.1 s hs).lc b, fun k hk => ?_⟩
  obtain ⟨e1, e2⟩ := e k hk
  exact ⟨by rw [(hA.2.2.1 s hs).R (by decide) (by decide)]; exact e1, by rw [(hA.2.2.2 s k hs hk).I (by decide) (by decide)]; exact e2⟩
theorem DCo.ag (h : DCo σ dd c so fo En Ss) (hA : AgD σ σ' dd c so fo) : DCo σ' dd c so fo En Ss := by
  obtain ⟨a1, a2, a3, a4, a5, a6⟩ := h
  have d := hA.2.1
  refine ⟨by rw [d.I (by decide) (by decide)]; exact a1, a2, by rw [d.I (by decide) (by decide)]; exact a3, a4, fun e E hE => ?_, fun s S hS => ?_⟩
  · obtain ⟨b1, b2⟩ := a5 e E hE
    exact ⟨by rw [d.J (by decide) (by decide)]; exact b1, by rw [d.I (f := 103) (by decide) (by decide), d.I (f := 104) (by decide) (by decide)]; exact b2.mo hA.mo⟩
  · have ls := (List.getElem?_eq_some_iff.mp hS).1
    obtain ⟨b1, b2, b3, b4, b5⟩ := a6 s S hS
    have e := hA.2.2.1 s (by omega)
    refine ⟨by rw [e.J (by decide) (by decide)]; exact b1, by rw [e.I (by decide) (by decide)]; exact b2, by rw [e.I (by decide) (by decide)]; exact b3, b4, fun k F hk => (b5 k F hk).ag (hA.2.2.2 s k (by omega) ?_) hA.mo⟩
    have := (List.getElem?_eq_some_iff.mp hk).1
    omega
theorem Bt.ag {Q : Nat → Prop} (h : Bt σ r Q) (hA : AgA σ σ' 800 804 r) : Bt σ' r Q := by
  obtain ⟨u, h1, h2, h3⟩ := h
  exact ⟨u, h1, by rw [hA.I (by decide) (by decide)]; exact h2, h3⟩
/-- the reference's rows -/
theorem XR.ag {a : Int} {e : Exr} (h : XR σ m b a e) (hA : ∀ f i, (1219 ≤ f ∧ f ≤ 1245) ∨ f = 1262 → gI σ' f m i = gI σ f m i ∧ gJ σ' f m i = gJ σ f m i) : XR σ' m b a e := by
  match e, h with
  | none, h => exact h
  | some N, h =>
    obtain ⟨nb, h1, h2, h3, h4, h5, h6⟩ := h
    refine ⟨nb, h1, h2, h3, h4, fun j x hx => ?_, ?_⟩
    · rw [(hA 1242 _ (by decide)).1, (hA 1243 _ (by decide)).1, (hA 1244 _ (by decide)).1, (hA 1245 _ (by decide)).2]
      exact h5 j x hx
    · rw [(hA 1262 _ (by decide)).1]; exact h6
theorem FR.ag (h : FR σ m b fd F) (hA : ∀ f i, (1219 ≤ f ∧ f ≤ 1245) ∨ f = 1262 → gI σ' f m i = gI σ f m i ∧ gJ σ' f m i = gJ σ f m i) : FR σ' m b fd F := by
  obtain ⟨⟨a1, a2, a3, a4, a5, a6, a7, a8, a9, a10⟩, k1, k2, k3⟩ := h
  have I : ∀ f i, (1219 ≤ f ∧ f ≤ 1245) ∨ f = 1262 → gI σ' f m i = gI σ f m i := fun f i h0 => (hA f i h0).1
  have J : ∀ f i, (1219 ≤ f ∧ f ≤ 1245) ∨ f = 1262 → gJ σ' f m i = gJ σ f m i := fun f i h0 => (hA f i h0).2
  refine ⟨⟨?_, ?_, ?_, ?_, ?_, ?_, ?_, fun q => ?_, fun q => ?_, fun p e he => ?_⟩, ?_, fun q => ?_, fun q => ?_⟩
  · rw [I 1232 _ (by decide)]; exact a1.ag hA
  · rw [I 1233 _ (by decide)]; exact a2.ag hA
  · rw [I 1234 _ (by decide)]; exact a3.ag hA
  · rw [I 1230 _ (by decide)]; exact a4
  · rw [I 1236 _ (by decide)]; exact a5
  · rw [I 1231 _ (by decide)]; exact a6
  · rw [I 1237 _ (by decide)]; exact a7
  · rw [J 1238 _ (by decide)]; exact a8 q
  · rw [I 1229 _ (by decide)]; exact a9 q
  · rw [J 1239 _ (by decide), J 1240 _ (by decide), I 1241 _ (by decide)]; exact a10 p e he
  · rw [I 1228 _ (by decide)]; exact k1
  · rw [I 1235 _ (by decide)]; exact k2 q
  · rw [I 1235 _ (by decide)]; exact k3 q
theorem DR.ag (h : DR σ m b lo En Ss) (hA : ∀ f i, (1219 ≤ f ∧ f ≤ 1245) ∨ f = 1262 → gI σ' f m i = gI σ f m i ∧ gJ σ' f m i = gJ σ f m i) : DR σ' m b lo En Ss := by
  have I : ∀ f i, (1219 ≤ f ∧ f ≤ 1245) ∨ f = 1262 → gI σ' f m i = gI σ f m i := fun f i h0 => (hA f i h0).1
  have J : ∀ f i, (1219 ≤ f ∧ f ≤ 1245) ∨ f = 1262 → gJ σ' f m i = gJ σ f m i := fun f i h0 => (hA f i h0).2
  obtain ⟨a1, a2, a3, a4, a5, a6⟩ := h
  refine ⟨by rw [I _ _ (by decide)]; exact a1, a2, by rw [I _ _ (by decide)]; exact a3, a4, fun e E hE => ?_, fun s S hS => ?_⟩
  · obtain ⟨b1, b2, b3, b4⟩ := a5 e E hE
    exact ⟨by rw [J _ _ (by decide)]; exact b1, by rw [I _ _ (by decide)]; exact b2, b3, fun j x hj => by rw [J 1226 _ (by decide), J 1227 _ (by decide)]; exact b4 j x hj⟩
  · obtain ⟨b1, b2, b3, b4, b5⟩ := a6 s S hS
    refine ⟨by rw [J _ _ (by decide)]; exact b1, by rw [I _ _ (by decide)]; exact b2, by rw [I _ _ (by decide)]; exact b3, b4, fun k F hk => ⟨(b5 k F hk).1.ag hA, ?_⟩⟩
    have := (b5 k F hk).2
    unfold PL at *
    rw [I 1232 _ (by decide), I 1233 _ (by decide), I 1234 _ (by decide)]; exact this
end G1
/-- one of the class's two descriptions -/
def DSi (σ : St) (dd c : Nat) (so : Nat → Nat) (fo : Nat → Nat → Nat) : Prop :=
  LC 1 σ dd ∧ gR σ 110 dd 0 = some c ∧ LC 0 σ c ∧ DSh σ dd so fo ∧ dd < hs σ ∧ c < hs σ ∧ (∀ s, s < 20 → so s < hs σ) ∧ ∀ s k, s < 20 → k < 14 → fo s k < hs σ
/-- both, what they tell, and the reference's -/
abbrev DPa := Nat × Nat × (Nat → Nat) × (Nat → Nat → Nat)
def DsI (σ : St) (x m p : Nat) (A B : DPa) (En : List Enm) (Ss : List Stc) (b : Nat) : Prop :=
  (gR σ 1105 x 0 = some A.1 ∧ gR σ 1106 x 0 = some B.1 ∧ gR σ 1103 x 0 = some p ∧ p < hs σ ∧ x < hs σ ∧ m < hs σ ∧ LC 12 σ m) ∧
  (DSi σ A.1 A.2.1 A.2.2.1 A.2.2.2 ∧ DSi σ B.1 B.2.1 B.2.2.1 B.2.2.2) ∧
  (¬ A.1 = B.1 ∧ ¬ A.2.1 = B.2.1 ∧ (∀ s s', s < 20 → s' < 20 → ¬ A.2.2.1 s = B.2.2.1 s') ∧ ∀ s k s' k', s < 20 → k < 14 → s' < 20 → k' < 14 → ¬ A.2.2.2 s k = B.2.2.2 s' k') ∧
  (DCo σ A.1 A.2.1 A.2.2.1 A.2.2.2 En Ss ∧ (∀ s, s < Ss.length → Bt σ (A.2.2.1 s) (fun b => Wr Ss Ss.length s b)) ∧ gI σ 2 A.2.1 0 ≤ 3001 ∧ gI σ 109 A.1 0 ≤ 3000) ∧
  (gI σ 1218 m 0 = (b : Int) ∧ b < 2 ∧ DR σ m b (3000 * b + 3000) En Ss) ∧
  (WFe En ∧ ∃ Ss0, WFs En.length Ss0 ∧ aimS (Ss0.map (fun s => s.1)) Ss0 = .ok Ss) ∧
  gI σ 1111 x 0 = gI σ 1212 m 0 ∧ WNs Ss
theorem DSi.fr {P : Nat → Nat → Prop} {σ σ' : St} {dd c : Nat} {so : Nat → Nat} {fo : Nat → Nat → Nat} (h : DSi σ dd c so fo) (hF : Fr P σ σ') (n : ∀ f r, f ≤ 2 ∨ (100 ≤ f ∧ f ≤ 110) ∨ (200 ≤ f ∧ f ≤ 216) ∨ (800 ≤ f ∧ f ≤ 804) → ¬ P f r) : DSi σ' dd c so fo ∧ AgD σ σ' dd c so fo := by
  obtain ⟨a1, a2, a3, a4, a5, a6, a7, a8⟩ := h
  have ag : AgD σ σ' dd c so fo := ⟨AgA.of hF a6 (fun f z0 z1 => n f _ (by omega)), AgA.of hF a5 (fun f z0 z1 => n f _ (by omega)), fun s hs => AgA.of hF (a7 s hs) (fun f z0 z1 => n f _ (by omega)), fun s k hs hk => AgA.of hF (a8 s k hs hk) (fun f z0 z1 => n f _ (by omega))⟩
  exact ⟨⟨ag.2.1.lc a1, by rw [ag.2.1.R (by decide) (by decide)]; exact a2, ag.1.lc a3, a4.ag ag, Nat.lt_of_lt_of_le a5 hF.1, Nat.lt_of_lt_of_le a6 hF.1, fun s hs => Nat.lt_of_lt_of_le (a7 s hs) hF.1, fun s k hs hk => Nat.lt_of_lt_of_le (a8 s k hs hk) hF.1⟩, ag⟩
theorem DsI.fr {P : Nat → Nat → Prop} {σ σ' : St} {x m p b : Nat} {A B : DPa} {En : List Enm} {Ss : List Stc} (h : DsI σ x m p A B En Ss b) (hF : Fr P σ σ') (n : ∀ f r, f ≤ 2 ∨ (100 ≤ f ∧ f ≤ 110) ∨ (200 ≤ f ∧ f ≤ 216) ∨ (800 ≤ f ∧ f ≤ 804) ∨ f = 1103 ∨ f = 1105 ∨ f = 1106 ∨ f = 1111 ∨ f = 1212 ∨ (1218 ≤ f ∧ f ≤ 1245) ∨ f = 1262 → ¬ P f r) : DsI σ' x m p A B En Ss b := by
  obtain ⟨⟨a1, a2, a3, a4, a5, a6, a7⟩, ⟨b1, b2⟩, c, ⟨d1, d2, d3, d4⟩, ⟨e1, e2, e3⟩, w, v⟩ := h
  obtain ⟨f1, g1⟩ := b1.fr hF (fun f r z => n f r (by omega))
  obtain ⟨f2, g2⟩ := b2.fr hF (fun f r z => n f r (by omega))
  refine ⟨⟨by rw [hF.R a5 (n _ _ (by omega))]; exact a1, by rw [hF.R a5 (n _ _ (by omega))]; exact a2, by rw [hF.R a5 (n _ _ (by omega))]; exact a3, Nat.lt_of_lt_of_le a4 hF.1, Nat.lt_of_lt_of_le a5 hF.1, Nat.lt_of_lt_of_le a6 hF.1, hF.lc a6 a7⟩, ⟨f1, f2⟩, c, ⟨d1.ag g1, fun s hs => (d2 s hs).ag (g1.2.2.1 s (by have := d1.2.1; omega)), by rw [g1.1.I (by decide) (by decide)]; exact d3, by rw [g1.2.1.I (by decide) (by decide)]; exact d4⟩, ⟨by rw [hF.I a6 (n _ _ (by omega))]; exact e1, e2, e3.ag (fun f i z => ⟨hF.I a6 (n _ _ (by omega)) i, hF.J a6 (n _ _ (by omega)) i⟩)⟩, w, by rw [hF.I a5 (n _ _ (by omega)), hF.I a6 (n _ _ (by omega))]; exact v.1, v.2⟩
