/-! the reference's enums -/
section M31
variable {g : GP} {l : Launch} {D : Nat} {σS σ1 σ : St} {m b i nn lo e : Nat} {X : Txt} {En : List Enm} {Ss : List Stc} {Ps : List Ent}
/-- what an enum's pairs change -/
def RJ (b e : Nat) (f i : Nat) : Prop := (1213 ≤ f ∧ f ≤ 1217) ∨ f = 1251 ∨ f = 1252 ∨ (f = 1225 ∧ i = 8 * b + e) ∨ ((f = 1226 ∨ f = 1227) ∧ 10 * (8 * b + e) ≤ i ∧ i < 10 * (8 * b + e) + 10)
def JS (σ1 σ : St) (m : Nat) (X : Txt) (b e i : Nat) (Ps : List Ent) : Prop :=
  Out m (RJ b e) σ1 σ ∧ RT σ m X i ∧ gI σ 1251 m 0 = 0 ∧ gI σ 1225 m (8 * b + e) = (Ps.length : Int) ∧ Ps.length ≤ 10 ∧ (∀ x ∈ Ps, IsN x.1) ∧ ∀ j x, Ps[j]? = some x → gJ σ 1226 m (10 * (8 * b + e) + j) = rho x.1 ∧ gJ σ 1227 m (10 * (8 * b + e) + j) = x.2.1
def JE (σ1 σ : St) (m b e : Nat) (er : Int × Int) : Prop := Out m (RJ b e) σ1 σ ∧ 0 < er.1 ∧ gI σ 1251 m 0 = er.1 ∧ gI σ 1252 m 0 = er.2
theorem JE.bd {er : Int × Int} (h : JE σ1 σ m b e er) : 0 < gI σ 1251 m 0 := by rw [h.2.2.1]; exact h.2.1
theorem JS.nx {σ' : St} {i' : Nat} (h : JS σ1 σ m X b e i Ps) (hF : Frm (TkF m) σ σ') (hT : RT σ' m X i') : JS σ1 σ' m X b e i' Ps := by
  obtain ⟨a1, a2, a3, a4, a5, a6, a7⟩ := h
  exact ⟨a1.trans (Out.of hF (fun f r z => ⟨z.1, by omega, by omega, by omega⟩) (fun f i z => Or.inl z.2)), hT, by rw [hF.I (fun q => by omega)]; exact a3, by rw [hF.I (fun q => by omega)]; exact a4, a5, a6, fun j x hx => by rw [hF.J (f := 1226) (fun q => by omega), hF.J (f := 1227) (fun q => by omega)]; exact a7 j x hx⟩
theorem JS.er {σ' : St} {er : Int × Int} (h : JS σ1 σ m X b e i Ps) (hF : Frm (TeF m) σ σ') (h0 : 0 < er.1) (e1 : gI σ' 1251 m 0 = er.1) (e2 : gI σ' 1252 m 0 = er.2) : JE σ1 σ' m b e er :=
  ⟨h.1.trans (Out.of hF (fun f r z => ⟨z.1, by omega, by omega, by omega⟩) (fun f i z => by unfold RJ; omega)), h0, e1, e2⟩
theorem JE.wJ {er : Int × Int} {f k : Nat} {v : Int64} (h : JE σ1 σ m b e er) (hf : f = 1226 ∨ f = 1227) (hk : 10 * (8 * b + e) ≤ k ∧ k < 10 * (8 * b + e) + 10) : JE σ1 (sJ σ f m k v) m b e er := by
  have hF : Frm (fun f' r => r = m ∧ f' = f) σ (sJ σ f m k v) := Frm.sJ (by simp)
  exact ⟨h.1.trans (Out.sJ (by unfold RJ; omega) (by omega)), h.2.1, by rw [hF.I (fun q => by omega)]; exact h.2.2.1, by rw [hF.I (fun q => by omega)]; exact h.2.2.2⟩
theorem JE.wI {er : Int × Int} {v : Int} (h : JE σ1 σ m b e er) : JE σ1 (sI σ 1225 m (8 * b + e) v) m b e er := by
  have hF : Frm (fun f' r => r = m ∧ f' = 1225) σ (sI σ 1225 m (8 * b + e) v) := Frm.sI (by simp)
  exact ⟨h.1.trans (Out.sI (by unfold RJ; omega) (by omega)), h.2.1, by rw [hF.I (fun q => by omega)]; exact h.2.2.1, by rw [hF.I (fun q => by omega)]; exact h.2.2.2⟩
theorem JS.wJ {f k : Nat} {v : Int64} (h : JS σ1 σ m X b e i Ps) (hf : f = 1226 ∨ f = 1227) (hk : 10 * (8 * b + e) + Ps.length ≤ k ∧ k < 10 * (8 * b + e) + 10) : JS σ1 (sJ σ f m k v) m X b e i Ps := by
  obtain ⟨a1, a2, a3, a4, a5, a6, a7⟩ := h
  have hF : Frm (fun f' r => r = m ∧ f' = f) σ (sJ σ f m k v) := Frm.sJ (by simp)
  refine ⟨a1.trans (Out.sJ (by unfold RJ; omega) (by omega)), a2.frm hF (fun f' z0 z1 q => by omega), by rw [hF.I (fun q => by omega)]; exact a3, by rw [hF.I (fun q => by omega)]; exact a4, a5, a6, fun j x hx => ?_⟩
  have lt := (List.getElem?_eq_some_iff.mp hx).1
  rw [gJ_sJ, if_neg (by omega), gJ_sJ, if_neg (by omega)]
  exact a7 j x hx
theorem d_pair {P : St → Prop} {x : Int} (hD : 1 ≤ D) (h : 0 < gI σ 1251 m 0) (hp : P σ) : ACv g l D MX12_pair [vR 12 (some m), vI x] σ P := by
  obtain ⟨d, rfl⟩ : ∃ d, D = d + 1 := ⟨D - 1, by omega⟩
  exact AC.of mo_X12_pair (Nat.le_of_ble_eq_true rfl) (bk_X12_pair_0 ⟨fun _ => ⟨rfl, hp⟩, fun q => absurd h q⟩)
theorem g_pair {P : St → Prop} (hD : 5 ≤ D) (hX : X.OK) (hL : LC 12 σ1 m) (b2 : b < 2) (e8 : e < 8) (h : JS σ1 σ m X b e i Ps)
    (h1 : ∀ q, rPair X Ps i = .ok q → ∀ σ', JS σ1 σ' m X b e q.1 q.2 → P σ') (h0 : ∀ er, rPair X Ps i = .error er → ∀ σ', JE σ1 σ' m b e er → P σ') : ACv g l D MX12_pair [vR 12 (some m), vI ((8 * b + e : Nat) : Int)] σ P := by
  obtain ⟨d, rfl⟩ : ∃ d, D = d + 3 := ⟨D - 3, by omega⟩
  have hJ := h
  obtain ⟨a1, a2, a3, a4, a5, a6, a7⟩ := h
  unfold rPair at h1 h0
  refine AC.of mo_X12_pair (Nat.le_of_ble_eq_true rfl) (bk_X12_pair_0 ⟨fun q => absurd q (by rw [a3]; decide), fun _ => r_isName hX a2 ?_⟩)
  by_cases k2 : X.k i = 2
  · rw [if_pos k2] at h1 h0
    rw [if_pos k2]
    obtain ⟨ew, iw⟩ := (a2.sort hX).2.2.2.2.1 k2
    refine r_must hX a2 a3 (by decide) (by decide) (fun _ => ⟨fun _ => ?_, fun z => absurd z (by decide)⟩) (fun q => absurd q (by decide))
    generalize hee : 8 * b + e = ee at *
    have tn : ((ee : Int)).toNat = ee := by omega
    have en : (10 * (ee : Int) + (Ps.length : Int)).toNat = 10 * ee + Ps.length := by omega
    have s79 : idx (Ps.map (fun e => e.1)) (X.v i) 0 = -1 → ∀ y : Int, (y = 1 ∧ Ps.length < 10 ∨ y = 0 ∧ ¬ Ps.length < 10) → AW g l (d + 3) MX12_pair 79 [some (vR 12 (some m)), some (vI (ee : Int)), none] [vI y, vR 12 (some m)] σ (fun v σ' => v = none ∧ P σ') := by
      intro hi y hy
      rw [if_pos hi] at h1 h0
      refine bk_X12_pair_79 ⟨m, rfl, r_must hX a2 a3 (by decide) (by omega) (fun q => ⟨fun _ => ⟨a2.1, ⟨by omega, by omega⟩, ⟨by omega, by omega⟩, ?_⟩, fun z => absurd z (by decide)⟩) (fun q σ' hF z1 z2 => ⟨fun z => absurd rfl z, fun _ => ⟨rfl, h0 _ (if_neg (by omega)) σ' (hJ.er (hF.mono (fun f r z => ⟨z.1, Or.inr z.2⟩)) (ck_pos (by decide)) z1 z2)⟩⟩)⟩
      have l10 : Ps.length < 10 := by omega
      rw [if_pos l10] at h1 h0
      rw [tn, a4, en, ew]
      refine ⟨⟨by omega, by omega⟩, ⟨by omega, by omega⟩, ?_⟩
      have s2 := hJ.wJ (f := 1226) (k := 10 * ee + Ps.length) (v := rho (X.v i)) (Or.inl rfl) (by omega)
      refine r_next hX s2.2.1 (fun σ3 hF3 hT3 => ?_)
      have s3 := s2.nx hF3 hT3
      have c26 : gJ σ3 1226 m (10 * ee + Ps.length) = rho (X.v i) := by rw [hF3.J (fun q => by omega), gJ_slf]
      refine t_take (by omega) hX hT3 s3.2.2.1 (by decide) (fun et σ4 hF4 hT4 => ?_) (fun et σ4 hF4 z1 z2 => ?_)
      · have s4 := s3.nx hF4 hT4
        rw [et, bx_ok] at h1 h0
        have p4 := s4.2.2.2.1
        rw [hee] at p4
        refine ⟨hT4.1, ?_⟩
        rw [p4, en]
        refine ⟨⟨by omega, by omega⟩, t_signed (by omega) hX hT4 s4.2.2.1 (fun j v es σ5 hF5 hT5 => ?_) (fun er es ep v σ5 hF5 z1 z2 => ?_)⟩
        · have s5 := s4.nx hF5 hT5
          have p5 := s5.2.2.2.1
          rw [hee] at p5
          rw [p5]
          refine ⟨hT5.1, ⟨by omega, by omega⟩, ⟨by omega, by omega⟩, rfl, h1 (j, Ps ++ [(X.v i, v, 0)]) (by rw [es, bx_ok]) _ ?_⟩
          have s6 := s5.wJ (f := 1227) (k := 10 * ee + Ps.length) (v := v) (Or.inr rfl) (by omega)
          obtain ⟨b1, b2', b3, b4, b5, b6, b7⟩ := s6
          have hF : Frm (fun f' r => r = m ∧ f' = 1225) (sJ σ5 1227 m (10 * ee + Ps.length) v) (sI (sJ σ5 1227 m (10 * ee + Ps.length) v) 1225 m ee ((Ps.length : Int) + 1)) := Frm.sI (by simp)
          refine ⟨b1.trans (Out.sI (by unfold RJ; omega) (by decide)), b2'.frm hF (fun f' z0 z1 q => by omega), by rw [hF.I (fun q => by omega)]; exact b3, ?_, by rw [app_l]; omega, fun x hx => ?_, fun k x hx => ?_⟩
          · rw [hee, gI_slf, app_l]; omega
          · rcases List.mem_append.mp hx with hx | hx
            · exact a6 x hx
            · rw [List.mem_singleton] at hx; rw [hx]; exact iw
          · rw [hF.J (f := 1226) (fun q => by omega), hF.J (f := 1227) (fun q => by omega)]
            rcases Nat.lt_trichotomy k Ps.length with z | z | z
            · rw [List.getElem?_append_left z] at hx
              exact b7 k x hx
            · rw [z, app_at] at hx
              cases hx
              rw [z, hee]
              refine ⟨?_, gJ_slf _ _ _ _ _⟩
              rw [gJ_sJ, if_neg (by simp), hF5.J (fun q => by omega), hF4.J (fun q => by omega)]; exact c26
            · rw [List.getElem?_eq_none (by rw [app_l]; omega)] at hx
              exact absurd hx (by simp)
        · have je := s4.er hF5 ep z1 z2
          rw [hF5.I (f := 1225) (fun q => by omega), p4]
          have w := (je.wJ (f := 1227) (k := 10 * ee + Ps.length) (v := v) (Or.inr rfl) (by omega)).wI (v := (Ps.length : Int) + 1)
          rw [hee] at w
          exact ⟨hF5.lc hT4.1, ⟨by omega, by omega⟩, ⟨by omega, by omega⟩, rfl, h0 _ (by rw [es, bx_er]) _ w⟩
      · have je := s3.er (hF4.mono (fun f r z => ⟨z.1, Or.inr z.2⟩)) (ck_pos (by decide)) z1 z2
        have p3 := s3.2.2.2.1
        rw [hee] at p3
        rw [hF4.I (f := 1225) (fun q => by omega), p3, en]
        have w := (je.wJ (f := 1227) (k := 10 * ee + Ps.length) (v := 0) (Or.inr rfl) (by omega)).wI (v := (Ps.length : Int) + 1)
        rw [hee] at w
        refine ⟨hF4.lc hT3.1, ⟨by omega, by omega⟩, d_signed (by omega) je.bd ?_⟩
        rw [hF4.I (f := 1225) (fun q => by omega), p3]
        exact ⟨hF4.lc hT3.1, ⟨by omega, by omega⟩, ⟨by omega, by omega⟩, rfl, h0 _ (by rw [et, bx_er]) _ w⟩
    -- the pairs before
    have dloop : ∀ (k : Nat) (x : Nat) (τ : St), k + x = Ps.length → JE σ1 τ m b e (ck X i 3) → gI τ 1225 m ee = (Ps.length : Int) → idx (Ps.map (fun e => e.1)) (X.v i) 0 ≠ -1 → AW g l (d + 3) MX12_pair 22 [some (vR 12 (some m)), some (vI (ee : Int)), some (vI (x : Int))] [] τ (fun v σ' => v = none ∧ P σ') := by
      intro k
      induction k with
      | zero =>
        intro x τ hx je p ne
        rw [if_neg ne] at h0
        have lc := je.1.1.lc hL
        refine bk_X12_pair_22 ⟨lc, ⟨by omega, by omega⟩, ?_⟩
        rw [tn, p]
        have go : ∀ y : Int, AW g l (d + 3) MX12_pair 79 [some (vR 12 (some m)), some (vI (ee : Int)), none] [vI y, vR 12 (some m)] τ (fun v σ' => v = none ∧ P σ') := fun y =>
          bk_X12_pair_79 ⟨m, rfl, d_must (by omega) je.bd ⟨fun z => absurd rfl z, fun _ => ⟨rfl, h0 _ rfl τ je⟩⟩⟩
        exact ⟨fun _ => ⟨fun _ => go 0, fun _ => go 1⟩, fun z => absurd (by omega) z⟩
      | succ k ih =>
        intro x τ hx je p ne
        have lc := je.1.1.lc hL
        refine bk_X12_pair_22 ⟨lc, ⟨by omega, by omega⟩, ?_⟩
        rw [tn, p]
        exact ⟨fun z => absurd z (by omega), fun _ => ⟨⟨by omega, by omega⟩, ⟨by omega, by omega⟩, ⟨by omega, by omega⟩, fun _ => ⟨⟨by omega, by omega⟩, ih (x + 1) τ (by omega) je p ne⟩, fun _ => d_fault je.bd ⟨⟨by omega, by omega⟩, ih (x + 1) τ (by omega) je p ne⟩⟩⟩
    have loop : ∀ (A : List Ent) (j : Nat), (∀ k x, A[k]? = some x → Ps[j + k]? = some x) → j + A.length = Ps.length → (idx (Ps.map (fun e => e.1)) (X.v i) 0 = -1 ↔ idx (A.map (fun e => e.1)) (X.v i) j = -1) → AW g l (d + 3) MX12_pair 22 [some (vR 12 (some m)), some (vI (ee : Int)), some (vI (j : Int))] [] σ (fun v σ' => v = none ∧ P σ') := by
      intro A
      induction A with
      | nil =>
        intro j _ hj hi
        have hj : j + 0 = Ps.length := hj
        have hi := hi.mpr rfl
        refine bk_X12_pair_22 ⟨a2.1, ⟨by omega, by omega⟩, ?_⟩
        rw [tn, a4]
        exact ⟨fun _ => ⟨fun z => s79 hi 0 (Or.inr ⟨rfl, by omega⟩), fun z => s79 hi 1 (Or.inl ⟨rfl, by omega⟩)⟩, fun z => absurd (by omega) z⟩
      | cons x A ih =>
        intro j hA hj hi
        have hj : j + (A.length + 1) = Ps.length := hj
        have c0 := hA 0 x rfl
        rw [Nat.add_zero] at c0
        have px := (a7 j x c0).1
        rw [List.map_cons, idx] at hi
        refine bk_X12_pair_22 ⟨a2.1, ⟨by omega, by omega⟩, ?_⟩
        rw [tn, a4, show (10 * (ee : Int) + (j : Int)).toNat = 10 * ee + j by omega, px, ew]
        refine ⟨fun z => absurd z (by omega), fun _ => ⟨⟨by omega, by omega⟩, ⟨by omega, by omega⟩, ⟨by omega, by omega⟩, fun z => ⟨⟨by omega, by omega⟩, ?_⟩, fun z => ?_⟩⟩
        · rw [if_neg (fun y => z (by rw [y]))] at hi
          exact ih (j + 1) (fun k y hy => by rw [show j + 1 + k = j + (k + 1) by omega]; exact hA (k + 1) y hy) (by omega) hi
        · rw [if_pos ((rho_iff (a6 x (List.mem_of_getElem? c0)) iw).mp z)] at hi
          refine g_fault hX a2 a3 (fun τ hF z1 z2 => ⟨⟨by omega, by omega⟩, ?_⟩)
          refine dloop A.length (j + 1) τ (by omega) (hJ.er (hF.mono (fun f r z => ⟨z.1, Or.inr z.2⟩)) (ck_pos (by decide)) z1 z2) (by rw [hF.I (fun q => by omega)]; exact a4) (fun y => ?_)
          have := hi.mp y
          omega
    exact loop Ps 0 (fun k x hx => by rw [Nat.zero_add]; exact hx) (by omega) Iff.rfl
  · rw [if_neg k2] at h0
    rw [if_neg k2]
    exact r_must hX a2 a3 (by decide) (by decide) (fun q => absurd q (by decide)) (fun _ σ' hF z1 z2 => ⟨fun z => absurd rfl z, fun _ => ⟨rfl, h0 _ rfl σ' (hJ.er (hF.mono (fun f r z => ⟨z.1, Or.inr z.2⟩)) (ck_pos (by decide)) z1 z2)⟩⟩)
theorem RB.j {f i : Nat} (h8 : e < 8) (h : RJ b e f i) : RB b f i := by
  unfold RB
  rcases h with q | q | q | q | q
  · exact Or.inl (Or.inl q)
  · exact Or.inl (by unfold RTk; omega)
  · exact Or.inl (by unfold RTk; omega)
  · omega
  · omega
theorem RB.e0 {f i : Nat} (h8 : e < 8) (h : (f = 1224 ∨ f = 1225) ∧ i = 8 * b + e) : RB b f i := by unfold RB; omega
/-- an enum; at its name -/
theorem g_enm {P : St → Prop} (hD : 8 ≤ D) (hX : X.OK) (h : IS σS σ m X b i nn En Ss) (k2 : X.k i = 2) (e8 : En.length < 8)
    (h1 : ∀ q, bx (tk X (X.nx i) 123) (fun j => bx (rPairs X 11 [] j) (fun r => bx (tk X r.1 125) (fun j2 => .ok (j2, ((X.v i, r.2) : Enm))))) = .ok q → ∀ σ', IS σS σ' m X b q.1 nn (En ++ [q.2]) Ss → P σ') (h0 : ∀ e, bx (tk X (X.nx i) 123) (fun j => bx (rPairs X 11 [] j) (fun r => bx (tk X r.1 125) (fun j2 => .ok (j2, ((X.v i, r.2) : Enm))))) = .error e → ∀ σ', IE σS σ' m b e → P σ') : ACv g l D MX12_readEnum [vR 12 (some m)] σ P := by
  obtain ⟨d, rfl⟩ : ∃ d, D = d + 3 := ⟨D - 3, by omega⟩
  obtain ⟨a1, a2, a3, a4, a5, a6, a7, a8, a9, a10, a11, a12⟩ := h
  obtain ⟨ew, iw⟩ := (a2.sort hX).2.2.2.2.1 k2
  refine AC.of mo_X12_readEnum (Nat.le_of_ble_eq_true rfl) (bk_X12_readEnum_0 ?_)
  rw [a7, Int.toNat_natCast, a9.2.2.1, ew]
  refine ⟨⟨by omega, by omega⟩, a2.1, ⟨by omega, by omega⟩, ⟨by omega, by omega⟩, fun z hz => ?_⟩
  have zz : z = ((8 * b + En.length : Nat) : Int) := by omega
  rw [zz, Int.toNat_natCast]
  refine ⟨⟨by omega, by omega⟩, ?_⟩
  generalize hee : 8 * b + En.length = ee at *
  have hF1 : Frm (fun f r => r = m ∧ (f = 1224 ∨ f = 1225)) σ (sI (sJ σ 1224 m ee (rho (X.v i))) 1225 m ee 0) := (Frm.sJ (by simp)).trans (Frm.sI (by simp))
  have hO1 : Out m (fun f i => (f = 1224 ∨ f = 1225) ∧ i = ee) σ (sI (sJ σ 1224 m ee (rho (X.v i))) 1225 m ee 0) := (Out.sJ (by omega) (by decide)).trans (Out.sI (by omega) (by decide))
  have c24 : gJ (sI (sJ σ 1224 m ee (rho (X.v i))) 1225 m ee 0) 1224 m ee = rho (X.v i) := by show gJ (sJ σ 1224 m ee (rho (X.v i))) 1224 m ee = _; rw [gJ_slf]
  have c25 : gI (sI (sJ σ 1224 m ee (rho (X.v i))) 1225 m ee 0) 1225 m ee = 0 := gI_slf _ _ _ _ _
  generalize sI (sJ σ 1224 m ee (rho (X.v i))) 1225 m ee 0 = σ1 at *
  have js0 : JS σ1 σ1 m X b En.length i [] := ⟨Out.rfl, a2.frm hF1 (fun f z0 z1 q => by omega), by rw [hF1.I (fun q => by omega)]; exact a3, by rw [hee]; exact c25, by show 0 ≤ 10; omega, fun x hx => absurd hx (by simp), fun j x hx => absurd hx (by simp)⟩
  have O1 : Out m (RB b) σS σ1 := a1.trans (hO1.mono (fun f i q => RB.e0 e8 (by rw [hee]; exact q)))
  have lc1 : LC 12 σ1 m := hF1.lc a2.1
  -- the end
  have rd : ∀ τ : St, Out m (RJ b En.length) σ1 τ → gI τ 1253 m 0 = (b : Int) ∧ gI τ 1220 m b = (En.length : Int) := fun τ hO => by
    refine ⟨?_, ?_⟩
    · rw [(hO.2 1253 0 (fun q => by unfold RJ at q; omega)).1, hF1.I (fun q => by omega)]; exact a7
    · rw [(hO.2 1220 b (fun q => by unfold RJ at q; omega)).1, hF1.I (fun q => by omega)]; exact a9.2.2.1
  have fin : ∀ τ : St, Out m (RJ b En.length) σ1 τ → P (sI τ 1220 m b ((En.length : Int) + 1)) → (LC 12 τ m ∧ Bd (gI τ 1253 m 0) 2 ∧ R32 ((gI τ 1220 m (gI τ 1253 m 0).toNat) + 1) ∧ ((none : Option AV) = none ∧ P (sI τ 1220 m (gI τ 1253 m 0).toNat ((gI τ 1220 m (gI τ 1253 m 0).toNat) + 1)))) := fun τ hO hP => by
    obtain ⟨z1, z2⟩ := rd τ hO
    rw [z1, Int.toNat_natCast, z2]
    exact ⟨hO.1.lc lc1, ⟨by omega, by omega⟩, ⟨by omega, by omega⟩, rfl, hP⟩
  have toE : ∀ (τ : St) (er : Int × Int), JE σ1 τ m b En.length er → IE σS (sI τ 1220 m b ((En.length : Int) + 1)) m b er := fun τ er je => by
    have hF : Frm (fun f' r => r = m ∧ f' = 1220) τ (sI τ 1220 m b ((En.length : Int) + 1)) := Frm.sI (by simp)
    exact ⟨O1.trans ((je.1.mono (fun f i q => RB.j e8 q)).trans (Out.sI (Or.inr (Or.inr (Or.inr (Or.inl ⟨Or.inr rfl, rfl⟩)))) (by decide))), je.2.1, by rw [hF.I (fun q => by omega)]; exact je.2.2.1, by rw [hF.I (fun q => by omega)]; exact je.2.2.2⟩
  have d78 : ∀ (τ : St) (er : Int × Int), JE σ1 τ m b En.length er → P (sI τ 1220 m b ((En.length : Int) + 1)) → AW g l (d + 3) MX12_readEnum 78 [some (vR 12 (some m)), none] [] τ (fun v σ' => v = none ∧ P σ') := fun τ er je hP =>
    bk_X12_readEnum_78 (d_take (by omega) je.bd (fin τ je.1 hP))
  have d50 : ∀ (τ : St) (er : Int × Int), JE σ1 τ m b En.length er → P (sI τ 1220 m b ((En.length : Int) + 1)) → AW g l (d + 3) MX12_readEnum 50 [some (vR 12 (some m)), some (vI (ee : Int))] [] τ (fun v σ' => v = none ∧ P σ') := fun τ er je hP =>
    bk_X12_readEnum_50 ⟨fun _ => d78 τ er je hP, fun z => absurd z (by have := je.bd; omega)⟩
  have loop : ∀ (f : Nat) (Ps : List Ent) (i2 : Nat) (τ : St), JS σ1 τ m X b En.length i2 Ps → Ps.length + f = 11 → i ≤ i2 →
      (∀ q, bx (rPairs X f Ps i2) (fun r => bx (tk X r.1 125) (fun j2 => .ok (j2, ((X.v i, r.2) : Enm)))) = .ok q → ∀ σ', IS σS σ' m X b q.1 nn (En ++ [q.2]) Ss → P σ') → (∀ er, bx (rPairs X f Ps i2) (fun r => bx (tk X r.1 125) (fun j2 => .ok (j2, ((X.v i, r.2) : Enm)))) = .error er → ∀ σ', IE σS σ' m b er → P σ') →
      ACv g l (d + 2) MX12_pair [vR 12 (some m), vI (ee : Int)] τ (fun σ9 => AW g l (d + 3) MX12_readEnum 50 [some (vR 12 (some m)), some (vI (ee : Int))] [] σ9 (fun v σ' => v = none ∧ P σ')) := by
    intro f
    induction f with
    | zero =>
      intro Ps i2 τ s hf _ _ _
      have := s.2.2.2.2.1
      omega
    | succ f ih =>
      intro Ps i2 τ s hf hi2 h1 h0
      rw [rPairs] at h1 h0
      rw [← hee]
      refine g_pair (by omega) hX lc1 a8 e8 s (fun q eq σ2 s2 => ?_) (fun er ee' σ2 je => by rw [hee]; exact d50 σ2 er je (h0 er (by rw [ee', bx_er, bx_er]) _ (toE σ2 er je)))
      rw [hee]
      obtain ⟨v, q1, q2, q3, q4, q5⟩ := rPair_wf hX s.2.1.2.2.2.1 eq
      rw [eq, bx_ok] at h1 h0
      have ql : q.2.length = Ps.length + 1 := by rw [q1]; exact app_l
      refine bk_X12_readEnum_50 ⟨fun z => absurd s2.2.2.1 z, fun _ => r_isSign hX s2.2.1 (by decide) (by decide) ?_⟩
      by_cases k44 : X.k q.1 = 44
      · rw [if_pos k44] at h1 h0
        rw [if_pos k44]
        refine ⟨fun z => absurd z (by decide), fun _ => r_next hX s2.2.1 (fun σ3 hF3 hT3 => ?_)⟩
        have : q.1 ≤ X.nx q.1 := nx_ge
        exact ih q.2 (X.nx q.1) σ3 (s2.nx hF3 hT3) (by omega) (by omega) h1 h0
      · rw [if_neg k44, bx_ok] at h1 h0
        rw [if_neg k44]
        refine ⟨fun _ => bk_X12_readEnum_78 (t_take (by omega) hX s2.2.1 s2.2.2.1 (by decide) (fun et σ3 hF3 hT3 => ?_) (fun et σ3 hF3 z1 z2 => ?_)), fun z => absurd rfl z⟩
        · have s3 := s2.nx hF3 hT3
          refine fin σ3 s3.1 (h1 (X.nx q.1, (X.v i, q.2)) (by rw [et, bx_ok]) _ ?_)
          obtain ⟨c1, c2, c3, c4, c5, c6, c7⟩ := s3
          obtain ⟨z1, z2⟩ := rd σ3 c1
          have : q.1 ≤ X.nx q.1 := nx_ge
          have hF : Frm (fun f' r => r = m ∧ f' = 1220) σ3 (sI σ3 1220 m b ((En.length : Int) + 1)) := Frm.sI (by simp)
          have hO : Out m (fun f i => f = 1220 ∧ i = b) σ3 (sI σ3 1220 m b ((En.length : Int) + 1)) := Out.sI ⟨rfl, rfl⟩ (by decide)
          have c20 : gI (sI σ3 1220 m b ((En.length : Int) + 1)) 1220 m b = (En.length : Int) + 1 := gI_slf _ _ _ _ _
          generalize sI σ3 1220 m b ((En.length : Int) + 1) = σ4 at *
          have nR : ∀ f i, ¬ RJ b En.length f i → ¬ (f = 1220 ∧ i = b) → gI σ4 f m i = gI σ1 f m i ∧ gJ σ4 f m i = gJ σ1 f m i := fun f i y0 y1 => ⟨(hO.2 f i y1).1.trans (c1.2 f i y0).1, (hO.2 f i y1).2.trans (c1.2 f i y0).2⟩
          have n1 : ∀ f i, (f = 1246 ∨ f = 1255 ∨ f = 1253 ∨ f = 1254) → gI σ4 f m i = gI σ f m i := fun f i y => by rw [(nR f i (fun q => by unfold RJ at q; omega) (by omega)).1, hF1.I (fun q => by omega)]
          have hOa : Out m (fun f i => (RJ b En.length f i ∨ f = 1220 ∧ i = b) ∨ ((f = 1224 ∨ f = 1225) ∧ i = ee)) σ σ4 := (hO1.mono (fun f i q => Or.inr q)).trans ((c1.mono (fun f i q => Or.inl (Or.inl q))).trans (hO.mono (fun f i q => Or.inl (Or.inr q))))
          refine ⟨O1.trans ((c1.mono (fun f i q => RB.j e8 q)).trans (hO.mono (fun f i q => Or.inr (Or.inr (Or.inr (Or.inl ⟨Or.inr q.1, q.2⟩)))))), c2.frm hF (fun f z0 z1 q => by omega), by rw [hF.I (fun q => by omega)]; exact c3, by rw [n1 _ _ (by omega)]; exact a4, by rw [n1 _ _ (by omega)]; exact a5, by show nn ≤ X.nx q.1; omega, by rw [n1 _ _ (by omega)]; exact a7, a8, ?_, a10.mono (by rw [app_l]; omega), a11.enm iw c5 c6, ?_⟩
          · have rI : ∀ f i, ¬ ((1213 ≤ f ∧ f ≤ 1217) ∨ f = 1251 ∨ f = 1252) → ¬ (f = 1220 ∧ i = b) → ¬ ((f = 1224 ∨ f = 1225) ∧ i = ee) → ¬ ((f = 1226 ∨ f = 1227) ∧ 10 * ee ≤ i ∧ i < 10 * ee + 10) → gI σ4 f m i = gI σ f m i ∧ gJ σ4 f m i = gJ σ f m i := fun f i y0 y1 y2 y3 => hOa.2 f i (fun q => by unfold RJ at q; omega)
            refine ⟨by rw [(rI 1219 b (by omega) (by omega) (by omega) (by omega)).1]; exact a9.1, a9.2.1, by rw [c20, app_l]; omega, by rw [app_l]; omega, fun e' E hE => ?_, fun s' S hS => ?_⟩
            · rcases Nat.lt_trichotomy e' En.length with y | y | y
              · rw [List.getElem?_append_left y] at hE
                obtain ⟨b1, b2, b3, b4⟩ := a9.2.2.2.2.1 e' E hE
                refine ⟨by rw [(rI 1224 _ (by omega) (by omega) (by omega) (by omega)).2]; exact b1, by rw [(rI 1225 _ (by omega) (by omega) (by omega) (by omega)).1]; exact b2, b3, fun j x hj => ?_⟩
                have lt := (List.getElem?_eq_some_iff.mp hj).1
                rw [(rI 1226 _ (by omega) (by omega) (by omega) (by omega)).2, (rI 1227 _ (by omega) (by omega) (by omega) (by omega)).2]; exact b4 j x hj
              · rw [y, app_at] at hE
                cases hE
                rw [y]
                refine ⟨?_, ?_, c5, fun j x hj => ?_⟩
                · rw [hee, (nR 1224 _ (fun q => by unfold RJ at q; omega) (by omega)).2]; exact c24
                · rw [hF.I (fun q => by omega)]; exact c4
                · rw [hF.J (f := 1226) (fun q => by omega), hF.J (f := 1227) (fun q => by omega)]; exact c7 j x hj
              · rw [List.getElem?_eq_none (by rw [app_l]; omega)] at hE
                exact absurd hE (by simp)
            · have := a9.2.2.2.2.2 s' S hS
              obtain ⟨b1, b2, b3, b4, b5⟩ := this
              have ls := (List.getElem?_eq_some_iff.mp hS).1
              refine ⟨by rw [(rI 1221 _ (by omega) (by omega) (by omega) (by omega)).2]; exact b1, by rw [(rI 1222 _ (by omega) (by omega) (by omega) (by omega)).1]; exact b2, by rw [(rI 1223 _ (by omega) (by omega) (by omega) (by omega)).1]; exact b3, b4, fun k F hk => ?_⟩
              exact (b5 k F hk).1.out (b5 k F hk).2 hOa (fun f i z0 z1 z2 z3 q => by unfold RJ at q; omega) (fun f z0 z1 q => by unfold RJ at q; omega) (fun f p z0 z1 z2 q => by unfold RJ at q; omega)
          · exact a12.out hOa (fun i q => by unfold RJ at q; omega) (fun f i z0 z1 q => by unfold RJ at q; omega)
        · have je := s2.er (hF3.mono (fun f r z => ⟨z.1, Or.inr z.2⟩)) (ck_pos (by decide)) z1 z2
          exact fin σ3 je.1 (h0 _ (by rw [et, bx_er]) _ (toE σ3 _ je))
  refine r_next hX js0.2.1 (fun σ2 hF2 hT2 => ?_)
  have s2 := js0.nx hF2 hT2
  refine t_take (by omega) hX hT2 s2.2.2.1 (by decide) (fun et σ3 hF3 hT3 => ?_) (fun et σ3 hF3 z1 z2 => ?_)
  · rw [et, bx_ok] at h1 h0
    have y1 : i ≤ X.nx i := nx_ge
    have y2 : X.nx i ≤ X.nx (X.nx i) := nx_ge
    exact loop 11 [] _ σ3 (s2.nx hF3 hT3) rfl (by omega) h1 h0
  · have je := s2.er (hF3.mono (fun f r z => ⟨z.1, Or.inr z.2⟩)) (ck_pos (by decide)) z1 z2
    exact d_pair (by omega) je.bd (d50 σ3 _ je (h0 _ (by rw [et, bx_er]) _ (toE σ3 _ je)))
end M31
