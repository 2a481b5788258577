/-! the reference's parser within a field -/
/-- the aims so far: field, name, place -/
def AM (σ : St) (m : Nat) (L : List (Nat × Int64 × Int)) : Prop := gI σ 1250 m 0 = (L.length : Int) ∧ ∀ j x, L[j]? = some x → gI σ 1247 m j = (x.1 : Int) ∧ gJ σ 1249 m j = rho x.2.1 ∧ gI σ 1248 m j = x.2.2
/-- where a field begins -/
def E0 (σ0 : St) (m b lo : Nat) (En : List Enm) (Ss : List Stc) (Fs : List Fld) : Prop :=
  LC 12 σ0 m ∧ gI σ0 1253 m 0 = (b : Int) ∧ b < 2 ∧ gI σ0 1254 m 0 = (Ss.length : Int) ∧ DR σ0 m b lo En Ss ∧ Ss.length < 20 ∧ gI σ0 1222 m (20 * b + Ss.length) = (Fs.length : Int) ∧ Fs.length ≤ 14 ∧ (∀ k F, Fs[k]? = some F → FR σ0 m b (14 * (20 * b + Ss.length) + k) F ∧ PL σ0 m (14 * (20 * b + Ss.length) + k) lo) ∧ (∀ F ∈ Fs, WFf En.length Ss F) ∧ WFs En.length Ss ∧ WFe En
abbrev fdx (b : Nat) (Ss : List Stc) (Fs : List Fld) : Nat := 14 * (20 * b + Ss.length) + Fs.length
/-- within a field: at token i, nn nodes, the aims L, the field F so far -/
def GS (σ0 σ : St) (m : Nat) (X : Txt) (b fd lo la i nn : Nat) (L : List (Nat × Int64 × Int)) (F : Fld) (bg : Int × Int × Int) : Prop :=
  Out m (RFd b fd lo la) σ0 σ ∧ RT σ m X i ∧ gI σ 1251 m 0 = 0 ∧ gI σ 1255 m 0 = 0 ∧ gI σ 1246 m 0 = ((3000 * b + nn : Nat) : Int) ∧ nn ≤ i ∧ lo ≤ 3000 * b + nn ∧ PR σ m b fd F ∧ PL σ m fd (3000 * b + nn) ∧ AM σ m L ∧ la ≤ L.length ∧ gI σ 1256 m 0 = bg.1 ∧ gI σ 1228 m fd = bg.2.1 ∧ gI σ 1235 m fd = bg.2.2
def GE (σ0 σ : St) (m b fd lo la : Nat) (e : Int × Int) : Prop := Out m (RFd b fd lo la) σ0 σ ∧ 0 < e.1 ∧ gI σ 1251 m 0 = e.1 ∧ gI σ 1252 m 0 = e.2
theorem AM.out {σ σ' : St} {m : Nat} {R : Nat → Nat → Prop} {L : List (Nat × Int64 × Int)} (h : AM σ m L) (hO : Out m R σ σ') (h1 : ∀ i, ¬ R 1250 i) (h2 : ∀ f i, 1247 ≤ f → f ≤ 1249 → ¬ R f i) : AM σ' m L := by
  refine ⟨by rw [(hO.2 1250 0 (h1 0)).1]; exact h.1, fun j x hx => ?_⟩
  rw [(hO.2 1247 j (h2 _ _ (by decide) (by decide))).1, (hO.2 1249 j (h2 _ _ (by decide) (by decide))).2, (hO.2 1248 j (h2 _ _ (by decide) (by decide))).1]
  exact h.2 j x hx
/-- tokens alone -/
def RT5 (f _i : Nat) : Prop := 1213 ≤ f ∧ f ≤ 1217
theorem Out.nx {m : Nat} {a b : St} (h : Frm (fun f r => r = m ∧ (1213 ≤ f ∧ f ≤ 1217)) a b) : Out m RT5 a b := Out.of h (fun f r z => ⟨z.1, by omega, by omega, by omega⟩) (fun f i z => z.2)
section M18
variable {g : GP} {l : Launch} {D : Nat} {σ0 σ : St} {m b fd lo la i nn : Nat} {X : Txt} {L : List (Nat × Int64 × Int)} {F : Fld} {bg : Int × Int × Int}
theorem GS.lc (h : GS σ0 σ m X b fd lo la i nn L F bg) : LC 12 σ m := h.2.1.1
theorem GS.iK (h : GS σ0 σ m X b fd lo la i nn L F bg) : i ≤ X.K := h.2.1.2.2.2.1
/-- the tokens go on -/
theorem GS.nx {σ' : St} {i' : Nat} (h : GS σ0 σ m X b fd lo la i nn L F bg) (hF : Frm (fun f r => r = m ∧ (1213 ≤ f ∧ f ≤ 1217)) σ σ') (hT : RT σ' m X i') (hi : i ≤ i') : GS σ0 σ' m X b fd lo la i' nn L F bg := by
  obtain ⟨a1, a2, a3, a4, a5, a6, a7, a8, a9, a10, a11, a12⟩ := h
  have hO := Out.nx hF
  have n : ∀ f i, ¬ (1213 ≤ f ∧ f ≤ 1217) → ¬ RT5 f i := fun f i z q => z q
  obtain ⟨b1, b2⟩ := a8.out a9 hO (fun f i z _ _ _ => n f i (by omega)) (fun f z0 z1 => n f _ (by omega)) (fun f p z0 z1 _ => n f _ (by omega))
  exact ⟨a1.trans (hO.mono (fun f i z => Or.inl (Or.inl z))), hT, by rw [hF.I (fun q => by omega)]; exact a3, by rw [hF.I (fun q => by omega)]; exact a4, by rw [hF.I (fun q => by omega)]; exact a5, by omega, a7, b1, b2, a10.out hO (fun i => n _ _ (by omega)) (fun f i z0 z1 => n f i (by omega)), a11, ⟨by rw [hF.I (fun q => by omega)]; exact a12.1, by rw [hF.I (f := 1228) (fun q => by omega)]; exact a12.2.1, by rw [hF.I (f := 1235) (fun q => by omega)]; exact a12.2.2⟩⟩
theorem g_next {P : St → Prop} (hD : 2 ≤ D) (hX : X.OK) (h : GS σ0 σ m X b fd lo la i nn L F bg) (hp : ∀ σ', GS σ0 σ' m X b fd lo la (X.nx i) nn L F bg → P σ') : ACv g l D MX12_next [vR 12 (some m)] σ P := by
  obtain ⟨d, rfl⟩ : ∃ d, D = d + 2 := ⟨D - 2, by omega⟩
  exact r_next hX h.2.1 (fun σ' hF hT => hp σ' (h.nx hF hT nx_ge))
theorem GS.er {σ' : St} {e : Int × Int} (h : GS σ0 σ m X b fd lo la i nn L F bg) (hF : Frm (fun f r => r = m ∧ (f = 1251 ∨ f = 1252)) σ σ') (h0 : 0 < e.1) (e1 : gI σ' 1251 m 0 = e.1) (e2 : gI σ' 1252 m 0 = e.2) : GE σ0 σ' m b fd lo la e :=
  ⟨h.1.trans (Out.of hF (fun f r z => ⟨z.1, by omega, by omega, by omega⟩) (fun f i z => Or.inl (by unfold RTk; omega))), h0, e1, e2⟩
theorem g_must {y k : Int} {P : Int → St → Prop} (hD : 1 ≤ D) (hX : X.OK) (h : GS σ0 σ m X b fd lo la i nn L F bg) (hk : 0 < k) (hy : y = 0 ∨ y = 1) (h1 : y = 1 → P 1 σ) (h0 : y = 0 → ∀ σ', GE σ0 σ' m b fd lo la (ck X i k) → P 0 σ') : ACi g l D MX12_must [vR 12 (some m), vI y, vI k] σ P := by
  obtain ⟨d, rfl⟩ : ∃ d, D = d + 1 := ⟨D - 1, by omega⟩
  exact r_must hX h.2.1 h.2.2.1 hk hy h1 (fun q σ' hF e1 e2 => h0 q σ' (h.er hF (ck_pos hk) e1 e2))
/-- with a fault nothing is done any more -/
theorem d_must {y k : Int} {P : Int → St → Prop} (hD : 1 ≤ D) (h : 0 < gI σ 1251 m 0) (hp : P 0 σ) : ACi g l D MX12_must [vR 12 (some m), vI y, vI k] σ P := by
  obtain ⟨d, rfl⟩ : ∃ d, D = d + 1 := ⟨D - 1, by omega⟩
  exact AC.of mo_X12_must (Nat.le_of_ble_eq_true rfl) (bk_X12_must_0 ⟨fun _ => ⟨fun _ => ⟨_, rfl, hp⟩, fun q => absurd q (by omega)⟩, fun _ => AC.of mo_X12_fault (Nat.le_of_ble_eq_true rfl) (bk_X12_fault_0 ⟨fun q => absurd q (by omega), fun _ => ⟨rfl, fun _ => ⟨_, rfl, hp⟩, fun q => absurd q (by omega)⟩⟩)⟩)
theorem d_take {c : Int} {P : St → Prop} (hD : 2 ≤ D) (h : 0 < gI σ 1251 m 0) (hp : P σ) : ACv g l D MX12_take [vR 12 (some m), vI c] σ P := by
  obtain ⟨d, rfl⟩ : ∃ d, D = d + 1 := ⟨D - 1, by omega⟩
  exact AC.of mo_X12_take (Nat.le_of_ble_eq_true rfl) (bk_X12_take_0 (m_isSign (fun _ _ => d_must (by omega) h ⟨fun _ => ⟨rfl, hp⟩, fun q => absurd rfl q⟩) (fun _ => d_must (by omega) h ⟨fun _ => ⟨rfl, hp⟩, fun q => absurd rfl q⟩)))
theorem g_take {w : Int} {P : St → Prop} (hD : 3 ≤ D) (hX : X.OK) (h : GS σ0 σ m X b fd lo la i nn L F bg) (hw : 33 ≤ w ∧ w ≤ 125) (h1 : tk X i w = .ok (X.nx i) → ∀ σ', GS σ0 σ' m X b fd lo la (X.nx i) nn L F bg → P σ') (h0 : tk X i w = .error (ck X i 2) → ∀ σ', GE σ0 σ' m b fd lo la (ck X i 2) → P σ') : ACv g l D MX12_take [vR 12 (some m), vI w] σ P := by
  obtain ⟨d, rfl⟩ : ∃ d, D = d + 1 := ⟨D - 1, by omega⟩
  refine AC.of mo_X12_take (Nat.le_of_ble_eq_true rfl) (bk_X12_take_0 (r_isSign hX h.2.1 hw.1 hw.2 ?_))
  by_cases e : X.k i = w
  · rw [if_pos e]
    exact g_must (by omega) hX h (by decide) (by decide) (fun _ => ⟨fun q => absurd q (by decide), fun _ => g_next (by omega) hX h (fun σ' s' => ⟨rfl, h1 (if_pos e) σ' s'⟩)⟩) (fun q => absurd q (by decide))
  · rw [if_neg e]
    exact g_must (by omega) hX h (by decide) (by decide) (fun q => absurd q (by decide)) (fun _ σ' ge => ⟨fun _ => ⟨rfl, h0 (if_neg e) σ' ge⟩, fun q => absurd rfl q⟩)
theorem g_takeWord {j : Nat} {w : Int64} {P : St → Prop} (hD : 3 ≤ D) (hX : X.OK) (h : GS σ0 σ m X b fd lo la i nn L F bg) (hj : j < 27) (hw : KR.getD j 0 = w) (h1 : tk X i (200 + (j : Int)) = .ok (X.nx i) → ∀ σ', GS σ0 σ' m X b fd lo la (X.nx i) nn L F bg → P σ') (h0 : tk X i (200 + (j : Int)) = .error (ck X i 2) → ∀ σ', GE σ0 σ' m b fd lo la (ck X i 2) → P σ') : ACv g l D MX12_takeWord [vR 12 (some m), vJ w] σ P := by
  obtain ⟨d, rfl⟩ : ∃ d, D = d + 1 := ⟨D - 1, by omega⟩
  refine AC.of mo_X12_takeWord (Nat.le_of_ble_eq_true rfl) (bk_X12_takeWord_0 (r_isWord hX h.2.1 hj hw ?_))
  by_cases e : X.k i = 200 + (j : Int)
  · rw [if_pos e]
    exact g_must (by omega) hX h (by decide) (by decide) (fun _ => ⟨fun q => absurd q (by decide), fun _ => g_next (by omega) hX h (fun σ' s' => ⟨rfl, h1 (if_pos e) σ' s'⟩)⟩) (fun q => absurd q (by decide))
  · rw [if_neg e]
    exact g_must (by omega) hX h (by decide) (by decide) (fun q => absurd q (by decide)) (fun _ σ' ge => ⟨fun _ => ⟨rfl, h0 (if_neg e) σ' ge⟩, fun q => absurd rfl q⟩)
/-- a number with its sign -/
theorem g_signed {P : Int64 → St → Prop} (hD : 3 ≤ D) (hX : X.OK) (h : GS σ0 σ m X b fd lo la i nn L F bg) (h1 : ∀ j v, tS X i = .ok (j, v) → ∀ σ', GS σ0 σ' m X b fd lo la j nn L F bg → P v σ') (h0 : ∀ e, tS X i = .error e → ∀ v σ', GE σ0 σ' m b fd lo la e → P v σ') : ACj g l D MX12_signed [vR 12 (some m)] σ P := by
  obtain ⟨d, rfl⟩ : ∃ d, D = d + 1 := ⟨D - 1, by omega⟩
  have s38 : ∀ (σ1 : St) (j : Nat) (x y : Int), GS σ0 σ1 m X b fd lo la j nn L F bg → (x = 0 ∧ j = i ∧ ¬ X.k i = 45 ∨ x = 1 ∧ j = X.nx i ∧ X.k i = 45) → (y = 1 ∧ X.k j = 3 ∨ y = 0 ∧ ¬ X.k j = 3) → AW g l (d + 1) MX12_signed 38 [some (vR 12 (some m)), some (vI x), none, none] [vI y, vR 12 (some m)] σ1 (fun v σ' => ∃ r, v = some (vJ r) ∧ P r σ') := by
    intro σ1 j x y s1 hx hy
    refine bk_X12_signed_38 ⟨m, rfl, g_must (by omega) hX s1 (by decide) (by omega) (fun q => ⟨fun _ => ?_, fun z => absurd z (by decide)⟩) (fun q σ' ge => ⟨fun z => absurd rfl z, fun _ => ⟨_, rfl, h0 _ ?_ _ σ' ge⟩⟩)⟩
    · have k3 : X.k j = 3 := by omega
      have e7 := (s1.2.1.sort hX).2.2.2.1 k3
      rw [e7]
      refine ⟨fun z => g_next (by omega) hX s1 (fun σ2 s2 => ⟨_, rfl, h1 (X.nx j) _ ?_ σ2 s2⟩), fun z => g_next (by omega) hX s1 (fun σ2 s2 => ⟨_, rfl, h1 (X.nx j) _ ?_ σ2 s2⟩)⟩
      · have e : j = i := by omega
        unfold tS; rw [if_neg (by omega), ← e, if_pos k3]
      · have e : j = X.nx i := by omega
        unfold tS; rw [if_pos (by omega), ← e, if_pos k3]
    · unfold tS
      rcases hx with ⟨_, e, k⟩ | ⟨_, e, k⟩
      · rw [if_neg k, ← e, if_neg (by omega)]
      · rw [if_pos k, ← e, if_neg (by omega)]
  have s2 := fun (σ1 : St) (j : Nat) (s1 : GS σ0 σ1 m X b fd lo la j nn L F bg) => (s1.2.1.sort hX).2.1
  refine AC.of mo_X12_signed (Nat.le_of_ble_eq_true rfl) (bk_X12_signed_0 ⟨fun _ => r_isSign hX h.2.1 (by decide) (by decide) ?_, fun q => absurd (by rw [h.2.2.1]; decide) q⟩)
  by_cases k : X.k i = 45
  · rw [if_pos k]
    refine ⟨fun q => absurd q (by decide), fun _ => g_next (by omega) hX h (fun σ1 s1 => ?_)⟩
    have sr := s2 σ1 _ s1
    exact ⟨fun q => s38 σ1 _ 1 0 s1 (by omega) (Or.inr ⟨rfl, fun z => q (sr.mpr z)⟩), fun q => s38 σ1 _ 1 1 s1 (by omega) (Or.inl ⟨rfl, sr.mp q⟩)⟩
  · rw [if_neg k]
    have sr := s2 σ i h
    exact ⟨fun _ => ⟨fun q => s38 σ i 0 0 h (by omega) (Or.inr ⟨rfl, fun z => q (sr.mpr z)⟩), fun q => s38 σ i 0 1 h (by omega) (Or.inl ⟨rfl, sr.mp q⟩)⟩, fun q => absurd rfl q⟩
theorem d_signed {P : Int64 → St → Prop} (hD : 1 ≤ D) (h : 0 < gI σ 1251 m 0) (hp : P 0 σ) : ACj g l D MX12_signed [vR 12 (some m)] σ P := by
  obtain ⟨d, rfl⟩ : ∃ d, D = d + 1 := ⟨D - 1, by omega⟩
  exact AC.of mo_X12_signed (Nat.le_of_ble_eq_true rfl) (bk_X12_signed_0 ⟨fun q => absurd q (by omega), fun _ => ⟨_, rfl, hp⟩⟩)
/-- writes at the field -/
theorem GS.wI {f : Nat} {v : Int} {F' : Fld} (h : GS σ0 σ m X b fd lo la i nn L F bg) (hf : 1228 ≤ f ∧ f ≤ 1238 ∧ ¬ f = 1228 ∧ ¬ f = 1235) (hP : PR (sI σ f m fd v) m b fd F') (hL : PL (sI σ f m fd v) m fd (3000 * b + nn)) : GS σ0 (sI σ f m fd v) m X b fd lo la i nn L F' bg := by
  obtain ⟨a1, a2, a3, a4, a5, a6, a7, a8, a9, a10, a11, a12⟩ := h
  have hO : Out m (RFd b fd lo la) σ (sI σ f m fd v) := Out.sI (Or.inr (Or.inl ⟨hf.1, hf.2.1, rfl⟩)) (by omega)
  have hF : Frm (fun f' r => r = m ∧ f' = f) σ (sI σ f m fd v) := Frm.sI (by simp)
  exact ⟨a1.trans hO, a2.frm hF (fun f' z0 z1 q => by omega), by rw [hF.I (fun q => by omega)]; exact a3, by rw [hF.I (fun q => by omega)]; exact a4, by rw [hF.I (fun q => by omega)]; exact a5, a6, a7, hP, hL, ⟨by rw [hF.I (fun q => by omega)]; exact a10.1, fun j x hx => by rw [hF.I (f := 1247) (fun q => by omega), hF.J (f := 1249) (fun q => by omega), hF.I (f := 1248) (fun q => by omega)]; exact a10.2 j x hx⟩, a11, ⟨by rw [hF.I (fun q => by omega)]; exact a12.1, by rw [hF.I (f := 1228) (fun q => by omega)]; exact a12.2.1, by rw [hF.I (f := 1235) (fun q => by omega)]; exact a12.2.2⟩⟩
theorem GS.wJ {f : Nat} {v : Int64} {F' : Fld} (h : GS σ0 σ m X b fd lo la i nn L F bg) (hf : 1228 ≤ f ∧ f ≤ 1238 ∧ ¬ f = 1228 ∧ ¬ f = 1235) (hP : PR (sJ σ f m fd v) m b fd F') : GS σ0 (sJ σ f m fd v) m X b fd lo la i nn L F' bg := by
  obtain ⟨a1, a2, a3, a4, a5, a6, a7, a8, a9, a10, a11, a12⟩ := h
  have hO : Out m (RFd b fd lo la) σ (sJ σ f m fd v) := Out.sJ (Or.inr (Or.inl ⟨hf.1, hf.2.1, rfl⟩)) (by omega)
  have hF : Frm (fun f' r => r = m ∧ f' = f) σ (sJ σ f m fd v) := Frm.sJ (by simp)
  exact ⟨a1.trans hO, a2.frm hF (fun f' z0 z1 q => by omega), by rw [hF.I (fun q => by omega)]; exact a3, by rw [hF.I (fun q => by omega)]; exact a4, by rw [hF.I (fun q => by omega)]; exact a5, a6, a7, hP, a9, ⟨by rw [hF.I (fun q => by omega)]; exact a10.1, fun j x hx => by rw [hF.I (f := 1247) (fun q => by omega), hF.J (f := 1249) (fun q => by omega), hF.I (f := 1248) (fun q => by omega)]; exact a10.2 j x hx⟩, a11, ⟨by rw [hF.I (fun q => by omega)]; exact a12.1, by rw [hF.I (f := 1228) (fun q => by omega)]; exact a12.2.1, by rw [hF.I (f := 1235) (fun q => by omega)]; exact a12.2.2⟩⟩
theorem GE.wI {f : Nat} {v : Int} {e : Int × Int} (h : GE σ0 σ m b fd lo la e) (hf : 1228 ≤ f ∧ f ≤ 1238) : GE σ0 (sI σ f m fd v) m b fd lo la e := by
  have hF : Frm (fun f' r => r = m ∧ f' = f) σ (sI σ f m fd v) := Frm.sI (by simp)
  exact ⟨h.1.trans (Out.sI (Or.inr (Or.inl ⟨hf.1, hf.2, rfl⟩)) (by omega)), h.2.1, by rw [hF.I (fun q => by omega)]; exact h.2.2.1, by rw [hF.I (fun q => by omega)]; exact h.2.2.2⟩
theorem GS.wK {v : Int} {F' : Fld} (h : GS σ0 σ m X b fd lo la i nn L F bg) (hP : PR (sI σ 1228 m fd v) m b fd F') : GS σ0 (sI σ 1228 m fd v) m X b fd lo la i nn L F' (bg.1, v, bg.2.2) := by
  obtain ⟨a1, a2, a3, a4, a5, a6, a7, a8, a9, a10, a11, a12⟩ := h
  have hO : Out m (RFd b fd lo la) σ (sI σ 1228 m fd v) := Out.sI (Or.inr (Or.inl ⟨by decide, by decide, rfl⟩)) (by decide)
  have hF : Frm (fun f' r => r = m ∧ f' = 1228) σ (sI σ 1228 m fd v) := Frm.sI (by simp)
  exact ⟨a1.trans hO, a2.frm hF (fun f' z0 z1 q => by omega), by rw [hF.I (fun q => by omega)]; exact a3, by rw [hF.I (fun q => by omega)]; exact a4, by rw [hF.I (fun q => by omega)]; exact a5, a6, a7, hP, a9, ⟨by rw [hF.I (fun q => by omega)]; exact a10.1, fun j x hx => by rw [hF.I (f := 1247) (fun q => by omega), hF.J (f := 1249) (fun q => by omega), hF.I (f := 1248) (fun q => by omega)]; exact a10.2 j x hx⟩, a11, by rw [hF.I (fun q => by omega)]; exact a12.1, gI_slf _ _ _ _ _, by rw [hF.I (f := 1235) (fun q => by omega)]; exact a12.2.2⟩
theorem GS.wN {v : Int} {F' : Fld} (h : GS σ0 σ m X b fd lo la i nn L F bg) (hP : PR (sI σ 1235 m fd v) m b fd F') : GS σ0 (sI σ 1235 m fd v) m X b fd lo la i nn L F' (bg.1, bg.2.1, v) := by
  obtain ⟨a1, a2, a3, a4, a5, a6, a7, a8, a9, a10, a11, a12⟩ := h
  have hO : Out m (RFd b fd lo la) σ (sI σ 1235 m fd v) := Out.sI (Or.inr (Or.inl ⟨by decide, by decide, rfl⟩)) (by decide)
  have hF : Frm (fun f' r => r = m ∧ f' = 1235) σ (sI σ 1235 m fd v) := Frm.sI (by simp)
  exact ⟨a1.trans hO, a2.frm hF (fun f' z0 z1 q => by omega), by rw [hF.I (fun q => by omega)]; exact a3, by rw [hF.I (fun q => by omega)]; exact a4, by rw [hF.I (fun q => by omega)]; exact a5, a6, a7, hP, a9, ⟨by rw [hF.I (fun q => by omega)]; exact a10.1, fun j x hx => by rw [hF.I (f := 1247) (fun q => by omega), hF.J (f := 1249) (fun q => by omega), hF.I (f := 1248) (fun q => by omega)]; exact a10.2 j x hx⟩, a11, by rw [hF.I (fun q => by omega)]; exact a12.1, by rw [hF.I (f := 1228) (fun q => by omega)]; exact a12.2.1, gI_slf _ _ _ _ _⟩
end M18
