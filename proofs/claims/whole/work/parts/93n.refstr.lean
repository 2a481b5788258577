/-! the reference's structs -/
section M30
variable {g : GP} {l : Launch} {D : Nat} {σS σ : St} {m b i nn lo : Nat} {X : Txt} {En : List Enm} {Ss : List Stc} {Fs : List Fld}
abbrev TeF (m f r : Nat) : Prop := r = m ∧ ((1213 ≤ f ∧ f ≤ 1217) ∨ f = 1251 ∨ f = 1252)
theorem t_take {w : Int} {P : St → Prop} (hD : 3 ≤ D) (hX : X.OK) (hT : RT σ m X i) (hb : gI σ 1251 m 0 = 0) (hw : 33 ≤ w ∧ w ≤ 125) (h1 : tk X i w = .ok (X.nx i) → ∀ σ', Frm (TkF m) σ σ' → RT σ' m X (X.nx i) → P σ') (h0 : tk X i w = .error (ck X i 2) → ∀ σ', Frm (ErF m) σ σ' → gI σ' 1251 m 0 = (ck X i 2).1 → gI σ' 1252 m 0 = (ck X i 2).2 → P σ') : ACv g l D MX12_take [vR 12 (some m), vI w] σ P := by
  obtain ⟨d, rfl⟩ : ∃ d, D = d + 3 := ⟨D - 3, by omega⟩
  refine AC.of mo_X12_take (Nat.le_of_ble_eq_true rfl) (bk_X12_take_0 (r_isSign hX hT hw.1 hw.2 ?_))
  by_cases e : X.k i = w
  · rw [if_pos e]
    exact r_must hX hT hb (by decide) (by decide) (fun _ => ⟨fun q => absurd q (by decide), fun _ => r_next hX hT (fun σ' hF s' => ⟨rfl, h1 (if_pos e) σ' hF s'⟩)⟩) (fun q => absurd q (by decide))
  · rw [if_neg e]
    exact r_must hX hT hb (by decide) (by decide) (fun q => absurd q (by decide)) (fun _ σ' hF z1 z2 => ⟨fun _ => ⟨rfl, h0 (if_neg e) σ' hF z1 z2⟩, fun q => absurd rfl q⟩)
theorem t_signed {P : Int64 → St → Prop} (hD : 3 ≤ D) (hX : X.OK) (hT : RT σ m X i) (hb : gI σ 1251 m 0 = 0) (h1 : ∀ j v, tS X i = .ok (j, v) → ∀ σ', Frm (TkF m) σ σ' → RT σ' m X j → P v σ') (h0 : ∀ e, tS X i = .error e → 0 < e.1 → ∀ v σ', Frm (TeF m) σ σ' → gI σ' 1251 m 0 = e.1 → gI σ' 1252 m 0 = e.2 → P v σ') : ACj g l D MX12_signed [vR 12 (some m)] σ P := by
  obtain ⟨d, rfl⟩ : ∃ d, D = d + 3 := ⟨D - 3, by omega⟩
  have s38 : ∀ (σ1 : St) (j : Nat) (x y : Int), Frm (TkF m) σ σ1 → RT σ1 m X j → (x = 0 ∧ j = i ∧ ¬ X.k i = 45 ∨ x = 1 ∧ j = X.nx i ∧ X.k i = 45) → (y = 1 ∧ X.k j = 3 ∨ y = 0 ∧ ¬ X.k j = 3) → AW g l (d + 3) MX12_signed 38 [some (vR 12 (some m)), some (vI x), none, none] [vI y, vR 12 (some m)] σ1 (fun v σ' => ∃ r, v = some (vJ r) ∧ P r σ') := by
    intro σ1 j x y hF1 s1 hx hy
    have hb1 : gI σ1 1251 m 0 = 0 := by rw [hF1.I (fun q => by omega)]; exact hb
    refine bk_X12_signed_38 ⟨m, rfl, r_must hX s1 hb1 (by decide) (by omega) (fun q => ⟨fun _ => ?_, fun z => absurd z (by decide)⟩) (fun q σ' hF' z1 z2 => ⟨fun z => absurd rfl z, fun _ => ⟨_, rfl, h0 _ ?_ (ck_pos (by decide)) _ σ' ((hF1.mono (fun f r z => ⟨z.1, Or.inl z.2⟩)).trans (hF'.mono (fun f r z => ⟨z.1, Or.inr z.2⟩))) z1 z2⟩⟩)⟩
    · have k3 : X.k j = 3 := by omega
      have e7 := (s1.sort hX).2.2.2.1 k3
      rw [e7]
      refine ⟨fun z => r_next hX s1 (fun σ2 hF2 s2 => ⟨_, rfl, h1 (X.nx j) _ ?_ σ2 (hF1.trans hF2) s2⟩), fun z => r_next hX s1 (fun σ2 hF2 s2 => ⟨_, rfl, h1 (X.nx j) _ ?_ σ2 (hF1.trans hF2) s2⟩)⟩
      · have e : j = i := by omega
        unfold tS; rw [if_neg (by omega), ← e, if_pos k3]
      · have e : j = X.nx i := by omega
        unfold tS; rw [if_pos (by omega), ← e, if_pos k3]
    · unfold tS
      rcases hx with ⟨_, e, k⟩ | ⟨_, e, k⟩
      · rw [if_neg k, ← e, if_neg (by omega)]
      · rw [if_pos k, ← e, if_neg (by omega)]
  refine AC.of mo_X12_signed (Nat.le_of_ble_eq_true rfl) (bk_X12_signed_0 ⟨fun _ => r_isSign hX hT (by decide) (by decide) ?_, fun q => absurd (by rw [hb]; decide) q⟩)
  by_cases k : X.k i = 45
  · rw [if_pos k]
    refine ⟨fun q => absurd q (by decide), fun _ => r_next hX hT (fun σ1 hF1 s1 => ?_)⟩
    have sr := (s1.sort hX).2.1
    exact ⟨fun q => s38 σ1 _ 1 0 hF1 s1 (by omega) (Or.inr ⟨rfl, fun z => q (sr.mpr z)⟩), fun q => s38 σ1 _ 1 1 hF1 s1 (by omega) (Or.inl ⟨rfl, sr.mp q⟩)⟩
  · rw [if_neg k]
    have sr := (hT.sort hX).2.1
    exact ⟨fun _ => ⟨fun q => s38 σ i 0 0 Frm.rfl hT (by omega) (Or.inr ⟨rfl, fun z => q (sr.mpr z)⟩), fun q => s38 σ i 0 1 Frm.rfl hT (by omega) (Or.inl ⟨rfl, sr.mp q⟩)⟩, fun q => absurd rfl q⟩
theorem m_structNamed {w : Int64} {n : Int} {P : Int → St → Prop} (hL : LC 12 σ m) (hb : gI σ 1253 m 0 = (b : Int)) (b2 : b < 2) (e5 : DR σ m b lo En Ss) (hN : ∀ (s : Nat) (S : Stc), Ss[s]? = some S → IsN S.1) (hw : IsN w) (hn : n = (Ss.length : Int)) (h : P (idx (Ss.map (fun s => s.1)) w 0) σ) : ACi g l D MX12_structNamed [vR 12 (some m), vJ (rho w), vI n] σ P := by
  have s20 := e5.2.1
  have loop : ∀ (A : List Stc) (j : Nat), (∀ k S, A[k]? = some S → gJ σ 1221 m (20 * b + (j + k)) = rho S.1 ∧ IsN S.1) → j + A.length = Ss.length → P (idx (A.map (fun s => s.1)) w j) σ → AW g l D MX12_structNamed 3 [some (vR 12 (some m)), some (vJ (rho w)), none, some (vI n), some (vI (j : Int))] [] σ (fun v σ' => ∃ r, v = some (vI r) ∧ P r σ') := by
    intro A
    induction A with
    | nil =>
      intro j _ hj hP
      have hj : j + 0 = Ss.length := hj
      exact bk_X12_structNamed_3 ⟨fun _ => ⟨_, rfl, hP⟩, fun q => absurd (by omega) q⟩
    | cons S A ih =>
      intro j hA hj hP
      have hj : j + (A.length + 1) = Ss.length := hj
      obtain ⟨c1, c2⟩ := hA 0 S rfl
      rw [Nat.add_zero] at c1
      rw [List.map_cons, idx] at hP
      refine bk_X12_structNamed_3 ⟨fun q => absurd q (by omega), fun _ => ⟨hL, ?_⟩⟩
      rw [hb, show (20 * (b : Int) + (j : Int)).toNat = 20 * b + j by omega, c1]
      refine ⟨⟨by omega, by omega⟩, ⟨by omega, by omega⟩, ⟨by omega, by omega⟩, fun q => ⟨⟨by omega, by omega⟩, ?_⟩, fun q => ⟨_, rfl, ?_⟩⟩
      · rw [if_neg (fun z => q (by rw [z]))] at hP
        exact ih (j + 1) (fun k S' hS' => by rw [show j + 1 + k = j + (k + 1) by omega]; exact hA (k + 1) S' hS') (by omega) hP
      · rw [if_pos ((rho_iff c2 hw).mp q)] at hP
        exact hP
  refine AC.of mo_X12_structNamed (Nat.le_of_ble_eq_true rfl) (bk_X12_structNamed_0 (loop Ss 0 (fun k S hk => ?_) (by omega) h))
  rw [Nat.zero_add]
  exact ⟨(e5.2.2.2.2.2 k S hk).1, hN k S hk⟩
theorem m_enumNamed {w : Int64} {P : Int → St → Prop} (hL : LC 12 σ m) (hb : gI σ 1253 m 0 = (b : Int)) (b2 : b < 2) (e5 : DR σ m b lo En Ss) (hN : WFe En) (hw : IsN w) (h : P (idx (En.map (fun s => s.1)) w 0) σ) : ACi g l D MX12_enumNamed [vR 12 (some m), vJ (rho w)] σ P := by
  have n20 := e5.2.2.1
  have n8 := e5.2.2.2.1
  have loop : ∀ (A : List Enm) (j : Nat), (∀ k S, A[k]? = some S → gJ σ 1224 m (8 * b + (j + k)) = rho S.1 ∧ IsN S.1) → j + A.length = En.length → P (idx (A.map (fun s => s.1)) w j) σ → AW g l D MX12_enumNamed 2 [some (vR 12 (some m)), some (vJ (rho w)), none, some (vI (j : Int))] [] σ (fun v σ' => ∃ r, v = some (vI r) ∧ P r σ') := by
    intro A
    induction A with
    | nil =>
      intro j _ hj hP
      have hj : j + 0 = En.length := hj
      refine bk_X12_enumNamed_2 ⟨hL, ?_⟩
      rw [hb, show ((b : Int)).toNat = b by omega, n20]
      exact ⟨⟨by omega, by omega⟩, fun _ => ⟨_, rfl, hP⟩, fun q => absurd (by omega) q⟩
    | cons S A ih =>
      intro j hA hj hP
      have hj : j + (A.length + 1) = En.length := hj
      obtain ⟨c1, c2⟩ := hA 0 S rfl
      rw [Nat.add_zero] at c1
      rw [List.map_cons, idx] at hP
      refine bk_X12_enumNamed_2 ⟨hL, ?_⟩
      rw [hb, show ((b : Int)).toNat = b by omega, n20, show (8 * (b : Int) + (j : Int)).toNat = 8 * b + j by omega, c1]
      refine ⟨⟨by omega, by omega⟩, fun q => absurd q (by omega), fun _ => ⟨⟨by omega, by omega⟩, ⟨by omega, by omega⟩, ⟨by omega, by omega⟩, fun q => ⟨⟨by omega, by omega⟩, ?_⟩, fun q => ⟨_, rfl, ?_⟩⟩⟩
      · rw [if_neg (fun z => q (by rw [z]))] at hP
        exact ih (j + 1) (fun k S' hS' => by rw [show j + 1 + k = j + (k + 1) by omega]; exact hA (k + 1) S' hS') (by omega) hP
      · rw [if_pos ((rho_iff c2 hw).mp q)] at hP
        exact hP
  refine AC.of mo_X12_enumNamed (Nat.le_of_ble_eq_true rfl) (bk_X12_enumNamed_0 (loop En 0 (fun k S hk => ?_) (by omega) h))
  rw [Nat.zero_add]
  exact ⟨(e5.2.2.2.2.1 k S hk).1, (hN k S hk).1⟩
/-- between the items -/
def IS (σS σ : St) (m : Nat) (X : Txt) (b i nn : Nat) (En : List Enm) (Ss : List Stc) : Prop :=
  Out m (RB b) σS σ ∧ RT σ m X i ∧ gI σ 1251 m 0 = 0 ∧ gI σ 1255 m 0 = 0 ∧ gI σ 1246 m 0 = ((3000 * b + nn : Nat) : Int) ∧ nn ≤ i ∧ gI σ 1253 m 0 = (b : Int) ∧ b < 2 ∧ DR σ m b (3000 * b + nn) En Ss ∧ WFs En.length Ss ∧ WFe En ∧ AM σ m (amS b 0 Ss)
def IE (σS σ : St) (m b : Nat) (e : Int × Int) : Prop := Out m (RB b) σS σ ∧ 0 < e.1 ∧ gI σ 1251 m 0 = e.1 ∧ gI σ 1252 m 0 = e.2
theorem IE.bd {e : Int × Int} (h : IE σS σ m b e) : 0 < gI σ 1251 m 0 := by rw [h.2.2.1]; exact h.2.1
theorem E0.tk {σ' : St} (h : E0 σ m b lo En Ss Fs) (hF : Frm (TkF m) σ σ') : E0 σ' m b lo En Ss Fs := by
  obtain ⟨e1, e2, e3, e4, e5, e6, e7, e8, e9, e10, e11, e12⟩ := h
  have hO := Out.nx hF
  have n : ∀ f i, 1218 ≤ f → ¬ RT5 f i := fun f i z q => by unfold RT5 at q; omega
  refine ⟨hF.lc e1, by rw [hF.I (fun q => by omega)]; exact e2, e3, by rw [hF.I (fun q => by omega)]; exact e4, ?_, e6, by rw [hF.I (fun q => by omega)]; exact e7, e8, fun k F hk => ?_, e10, e11, e12⟩
  · exact e5.out hO (fun s S hS F hF => ((e11 s S hS).2.2.2.2 F hF).2.2.2.1) (fun f i z0 z1 z2 z3 => n f i (by omega)) (fun f z => n f _ (by omega)) (fun f s z0 z1 z2 => n f _ (by omega)) (fun f e z0 z1 z2 => n f _ (by omega)) (fun f e j z0 z1 z2 z3 => n f _ (by omega)) (fun f s k z0 z1 z2 z3 => n f _ (by omega)) (fun f s k p z0 z1 z2 z3 z4 => n f _ (by omega))
  · obtain ⟨c1, c2⟩ := e9 k F hk
    exact c1.out c2 hO (fun f i z0 z1 z2 z3 => n f i (by omega)) (fun f z0 z1 => n f _ (by omega)) (fun f p z0 z1 z2 => n f _ (by omega))
theorem HS.nx {σ' : St} {i' : Nat} (h : HS σS σ m X b i nn En Ss Fs) (hF : Frm (TkF m) σ σ') (hT : RT σ' m X i') (hi : i ≤ i') : HS σS σ' m X b i' nn En Ss Fs := by
  obtain ⟨a1, a2, a3, a4, a5, a6, a7, a8⟩ := h
  exact ⟨a1.trans ((Out.nx hF).mono (fun f i q => ⟨Or.inl (Or.inl q), by unfold RT5 at q; omega⟩)), hT, by rw [hF.I (fun q => by omega)]; exact a3, by rw [hF.I (fun q => by omega)]; exact a4, by rw [hF.I (fun q => by omega)]; exact a5, by omega, a7.tk hF, a8.out (Out.nx hF) (fun i q => by unfold RT5 at q; omega) (fun f i z0 z1 q => by unfold RT5 at q; omega)⟩
theorem h_take {w : Int} {P : St → Prop} (hD : 3 ≤ D) (hX : X.OK) (h : HS σS σ m X b i nn En Ss Fs) (hw : 33 ≤ w ∧ w ≤ 125) (h1 : tk X i w = .ok (X.nx i) → ∀ σ', HS σS σ' m X b (X.nx i) nn En Ss Fs → P σ') (h0 : tk X i w = .error (ck X i 2) → ∀ σ', HE σS σ' m b (ck X i 2) → P σ') : ACv g l D MX12_take [vR 12 (some m), vI w] σ P :=
  t_take hD hX h.2.1 h.2.2.1 hw (fun e σ' hF hT => h1 e σ' (h.nx hF hT nx_ge)) (fun e σ' hF z1 z2 => h0 e σ' (h.er hF (ck_pos (by decide)) z1 z2))
theorem DR.sz (h : DR σ m b lo En Ss) : ∀ s : Int, 0 ≤ s → s < Ss.length → gI σ 1223 m (20 * b + s.toNat) = szS Ss s := fun s h0 h1 => by
  obtain ⟨S, a, c⟩ := szS_at (Ss := Ss) h0 h1
  rw [c]
  exact (h.2.2.2.2.2 _ S a).2.2.1
theorem RB.h1 {b s f i : Nat} (hs : s < 20) (h : f = 1254 ∨ ((f = 1221 ∨ f = 1222) ∧ i = 20 * b + s)) : RB b f i := by unfold RB; omega
theorem RB.h2 {b s f i : Nat} (hs : s < 20) (h : (f = 1223 ∧ i = 20 * b + s) ∨ (f = 1219 ∧ i = b)) : RB b f i := by unfold RB; omega
/-- a struct; at its name -/
theorem g_str {P : St → Prop} (hD : 18 ≤ D) (hX : X.OK) (h : IS σS σ m X b i nn En Ss) (k2 : X.k i = 2) (s20 : Ss.length < 20)
    (h1 : ∀ q, bx (tk X (X.nx i) 123) (fun j => bx (rFields X En Ss 15 [] j) (fun r => .ok (X.nx r.1, ((X.v i, r.2, szA Ss r.2 0) : Stc)))) = .ok q → ∀ σ' nn', IS σS σ' m X b q.1 nn' En (Ss ++ [q.2]) → P σ') (h0 : ∀ e, bx (tk X (X.nx i) 123) (fun j => bx (rFields X En Ss 15 [] j) (fun r => .ok (X.nx r.1, ((X.v i, r.2, szA Ss r.2 0) : Stc)))) = .error e → ∀ σ', IE σS σ' m b e → P σ') : ACv g l D MX12_readStruct [vR 12 (some m)] σ P := by
  obtain ⟨d, rfl⟩ : ∃ d, D = d + 3 := ⟨D - 3, by omega⟩
  obtain ⟨a1, a2, a3, a4, a5, a6, a7, a8, a9, a10, a11, a12⟩ := h
  obtain ⟨ew, iw⟩ := (a2.sort hX).2.2.2.2.1 k2
  refine AC.of mo_X12_readStruct (Nat.le_of_ble_eq_true rfl) (bk_X12_readStruct_0 ?_)
  rw [a7, Int.toNat_natCast, a9.1, ew, show (20 * (b : Int) + (Ss.length : Int)).toNat = 20 * b + Ss.length by omega]
  refine ⟨a2.1, ⟨by omega, by omega⟩, ⟨by omega, by omega⟩, ⟨by omega, by omega⟩, ⟨by omega, by omega⟩, ?_⟩
  have hF1 : Frm (fun f r => r = m ∧ (f = 1254 ∨ f = 1221 ∨ f = 1222)) σ (sI (sJ (sI σ 1254 m 0 (Ss.length : Int)) 1221 m (20 * b + Ss.length) (rho (X.v i))) 1222 m (20 * b + Ss.length) 0) := (Frm.sI (by simp)).trans ((Frm.sJ (by simp)).trans (Frm.sI (by simp)))
  have hO1 : Out m (fun f i => f = 1254 ∨ ((f = 1221 ∨ f = 1222) ∧ i = 20 * b + Ss.length)) σ (sI (sJ (sI σ 1254 m 0 (Ss.length : Int)) 1221 m (20 * b + Ss.length) (rho (X.v i))) 1222 m (20 * b + Ss.length) 0) := (Out.sI (by omega) (by decide)).trans ((Out.sJ (by omega) (by decide)).trans (Out.sI (by omega) (by decide)))
  have c54 : gI (sI (sJ (sI σ 1254 m 0 (Ss.length : Int)) 1221 m (20 * b + Ss.length) (rho (X.v i))) 1222 m (20 * b + Ss.length) 0) 1254 m 0 = (Ss.length : Int) := by rw [gI_sI, if_neg (by simp)]; show gI (sI σ 1254 m 0 (Ss.length : Int)) 1254 m 0 = _; rw [gI_slf]
  have c21 : gJ (sI (sJ (sI σ 1254 m 0 (Ss.length : Int)) 1221 m (20 * b + Ss.length) (rho (X.v i))) 1222 m (20 * b + Ss.length) 0) 1221 m (20 * b + Ss.length) = rho (X.v i) := by show gJ (sJ (sI σ 1254 m 0 (Ss.length : Int)) 1221 m (20 * b + Ss.length) (rho (X.v i))) 1221 m (20 * b + Ss.length) = _; rw [gJ_slf]
  have c22 : gI (sI (sJ (sI σ 1254 m 0 (Ss.length : Int)) 1221 m (20 * b + Ss.length) (rho (X.v i))) 1222 m (20 * b + Ss.length) 0) 1222 m (20 * b + Ss.length) = 0 := gI_slf _ _ _ _ _
  generalize sI (sJ (sI σ 1254 m 0 (Ss.length : Int)) 1221 m (20 * b + Ss.length) (rho (X.v i))) 1222 m (20 * b + Ss.length) 0 = σ1 at *
  have hs0 : HS σ1 σ1 m X b i nn En Ss [] := by
    refine ⟨Out.rfl, a2.frm hF1 (fun f z0 z1 q => by omega), by rw [hF1.I (fun q => by omega)]; exact a3, by rw [hF1.I (fun q => by omega)]; exact a4, by rw [hF1.I (fun q => by omega)]; exact a5, a6, ⟨hF1.lc a2.1, by rw [hF1.I (fun q => by omega)]; exact a7, a8, c54, ?_, s20, c22, by show 0 ≤ 14; omega, fun k F hk => absurd hk (by simp), fun F hF => absurd hF (by simp), a10, a11⟩, ?_⟩
    · exact a9.out hO1 (fun s S hS F hF => ((a10 s S hS).2.2.2.2 F hF).2.2.2.1) (fun f i z0 z1 z2 z3 q => by omega) (fun f z q => by omega) (fun f s z0 z1 z2 q => by omega) (fun f e z0 z1 z2 q => by omega) (fun f e j z0 z1 z2 z3 q => by omega) (fun f s k z0 z1 z2 z3 q => by omega) (fun f s k p z0 z1 z2 z3 z4 q => by omega)
    · show AM σ1 m (amS b 0 Ss ++ [])
      rw [List.append_nil]
      exact a12.out hO1 (fun i q => by omega) (fun f i z0 z1 q => by omega)
  have O1 : Out m (RB b) σS σ1 := a1.trans (hO1.mono (fun f i q => RB.h1 s20 q))
  have toE : ∀ (τ : St) (e : Int × Int), HE σ1 τ m b e → IE σS τ m b e := fun τ e he => ⟨O1.trans (he.1.mono (fun f i q => q.1)), he.2⟩
  have dead : ∀ (τ : St) (e : Int × Int), HE σ1 τ m b e → P τ → AW g l (d + 3) MX12_readStruct 62 [some (vR 12 (some m))] [] τ (fun v σ' => v = none ∧ P σ') := fun τ e he hP =>
    bk_X12_readStruct_62 ⟨fun _ => bk_X12_readStruct_85 (d_take (by omega) he.bd ⟨fun z => absurd z (by have := he.bd; omega), fun _ => ⟨rfl, hP⟩⟩), fun z => absurd z (by have := he.bd; omega)⟩
  have loop : ∀ (f : Nat) (Fs : List Fld) (i2 n2 : Nat) (τ : St), HS σ1 τ m X b i2 n2 En Ss Fs → Fs.length + f = 15 → i2 ≤ X.K →
      (∀ q, bx (rFields X En Ss f Fs i2) (fun r => .ok (X.nx r.1, ((X.v i, r.2, szA Ss r.2 0) : Stc))) = .ok q → ∀ σ' nn', IS σS σ' m X b q.1 nn' En (Ss ++ [q.2]) → P σ') → (∀ e, bx (rFields X En Ss f Fs i2) (fun r => .ok (X.nx r.1, ((X.v i, r.2, szA Ss r.2 0) : Stc))) = .error e → ∀ σ', IE σS σ' m b e → P σ') →
      AW g l (d + 3) MX12_readStruct 62 [some (vR 12 (some m))] [] τ (fun v σ' => v = none ∧ P σ') := by
    intro f
    induction f with
    | zero =>
      intro Fs i2 n2 τ s hf _ _ _
      have := s.2.2.2.2.2.2.1.2.2.2.2.2.2.2.1
      omega
    | succ f ih =>
      intro Fs i2 n2 τ s hf hi2 h1 h0
      rw [rFields] at h1 h0
      refine bk_X12_readStruct_62 ⟨fun z => absurd s.2.2.1 z, fun _ => r_isSign hX s.2.1 (by decide) (by decide) ?_⟩
      by_cases k125 : X.k i2 = 125
      · rw [if_pos k125, bx_ok] at h1 h0
        rw [if_pos k125]
        refine ⟨fun _ => bk_X12_readStruct_85 (h_take (by omega) hX s (by decide) (fun et σ2 s2 => ⟨fun _ => ?_, fun z => absurd (by rw [s2.2.2.1]; decide) z⟩) (fun et => (tk_no k125 et).elim)), fun z => absurd z (by decide)⟩
        have hE := s2.2.2.2.2.2.2.1
        obtain ⟨e1, e2, e3, e4, e5, e6, e7, e8, e9, e10, e11, e12⟩ := s2.2.2.2.2.2.2.1
        rw [e2, e4]
        refine ⟨e1, ⟨by omega, by omega⟩, ⟨by omega, by omega⟩, m_sized e1 e2 e3 e6 e7 e8 e5.sz (by omega) (fun s S hS => ⟨(e11 s S hS).2.2.1, (e11 s S hS).2.2.2.1⟩) (fun k F hk => (e9 k F hk).1) e10 ?_⟩
        rw [e2, Int.toNat_natCast, e5.1, show (20 * (b : Int) + (Ss.length : Int)).toNat = 20 * b + Ss.length by omega]
        refine ⟨e1, ⟨by omega, by omega⟩, ⟨by omega, by omega⟩, ⟨by omega, by omega⟩, rfl, ?_⟩
        have hsz := szA_le (Ss := Ss) Fs 0 (by decide)
        have hF2 : Frm (fun f r => r = m ∧ (f = 1223 ∨ f = 1219)) σ2 (sI (sI σ2 1223 m (20 * b + Ss.length) (szA Ss Fs 0)) 1219 m b ((Ss.length : Int) + 1)) := (Frm.sI (by simp)).trans (Frm.sI (by simp))
        have hO2 : Out m (fun f i => (f = 1223 ∧ i = 20 * b + Ss.length) ∨ (f = 1219 ∧ i = b)) σ2 (sI (sI σ2 1223 m (20 * b + Ss.length) (szA Ss Fs 0)) 1219 m b ((Ss.length : Int) + 1)) := (Out.sI (by omega) (by decide)).trans (Out.sI (by omega) (by decide))
        have c23 : gI (sI (sI σ2 1223 m (20 * b + Ss.length) (szA Ss Fs 0)) 1219 m b ((Ss.length : Int) + 1)) 1223 m (20 * b + Ss.length) = szA Ss Fs 0 := by rw [gI_sI, if_neg (by simp), gI_slf]
        have c19 : gI (sI (sI σ2 1223 m (20 * b + Ss.length) (szA Ss Fs 0)) 1219 m b ((Ss.length : Int) + 1)) 1219 m b = (Ss.length : Int) + 1 := gI_slf _ _ _ _ _
        generalize sI (sI σ2 1223 m (20 * b + Ss.length) (szA Ss Fs 0)) 1219 m b ((Ss.length : Int) + 1) = σ3 at *
        have nm : gJ σ3 1221 m (20 * b + Ss.length) = rho (X.v i) := by
          rw [(hO2.2 1221 _ (by omega)).2, (s2.1.2 1221 _ (fun q => q.2 rfl)).2]; exact c21
        refine h1 _ rfl σ3 n2 ⟨O1.trans ((s2.1.mono (fun f i q => q.1)).trans (hO2.mono (fun f i q => RB.h2 e6 q))), s2.2.1.frm hF2 (fun f z0 z1 q => by omega), by rw [hF2.I (fun q => by omega)]; exact s2.2.2.1, by rw [hF2.I (fun q => by omega)]; exact s2.2.2.2.1, by rw [hF2.I (fun q => by omega)]; exact s2.2.2.2.2.1, s2.2.2.2.2.2.1, by rw [hF2.I (fun q => by omega)]; exact e2, e3, ?_, e11.str iw e8 hsz.1 hsz.2 e10, e12, ?_⟩
        · refine ⟨by rw [c19, app_l]; omega, by rw [app_l]; omega, by rw [(hO2.2 1220 _ (by omega)).1]; exact e5.2.2.1, e5.2.2.2.1, fun e E hE => ?_, fun s' S hS => ?_⟩
          · obtain ⟨b1, b2, b3, b4⟩ := e5.2.2.2.2.1 e E hE
            exact ⟨by rw [(hO2.2 1224 _ (by omega)).2]; exact b1, by rw [(hO2.2 1225 _ (by omega)).1]; exact b2, b3, fun j x hj => by rw [(hO2.2 1226 _ (by omega)).2, (hO2.2 1227 _ (by omega)).2]; exact b4 j x hj⟩
          · have tr : ∀ {fx : Nat} {G : Fld}, FR σ2 m b fx G → PL σ2 m fx (3000 * b + n2) → FR σ3 m b fx G ∧ PL σ3 m fx (3000 * b + n2) := fun hf hl => hf.out hl hO2 (fun f i z0 z1 z2 z3 q => by omega) (fun f z0 z1 q => by omega) (fun f p z0 z1 z2 q => by omega)
            rcases Nat.lt_trichotomy s' Ss.length with z | z | z
            · rw [List.getElem?_append_left z] at hS
              obtain ⟨b1, b2, b3, b4, b5⟩ := e5.2.2.2.2.2 s' S hS
              exact ⟨by rw [(hO2.2 1221 _ (by omega)).2]; exact b1, by rw [(hO2.2 1222 _ (by omega)).1]; exact b2, by rw [(hO2.2 1223 _ (by omega)).1]; exact b3, b4, fun k F hk => tr (b5 k F hk).1 (b5 k F hk).2⟩
            · rw [z, app_at] at hS
              cases hS
              rw [z]
              exact ⟨nm, by rw [(hO2.2 1222 _ (by omega)).1]; exact e7, c23, e8, fun k F hk => tr (e9 k F hk).1 (e9 k F hk).2⟩
            · rw [List.getElem?_eq_none (by rw [app_l]; omega)] at hS
              exact absurd hS (by simp)
        · rw [amS_app, Nat.zero_add]
          exact s2.2.2.2.2.2.2.2.out hO2 (fun i q => by omega) (fun f i z0 z1 q => by omega)
      · rw [if_neg k125] at h1 h0
        rw [if_neg k125]
        refine ⟨fun z => absurd rfl z, fun _ => g_field (by omega) hX s (fun q eq σ2 n3 s2 => ?_) (fun e ee σ2 he => dead σ2 e he (h0 e (by rw [ee, bx_er, bx_er]) σ2 (toE σ2 e he)))⟩
        have wf := rField_wf hX hi2 eq
        rw [eq, bx_ok] at h1 h0
        exact ih (Fs ++ [q.2]) q.1 n3 σ2 s2 (by rw [app_l]; omega) wf.2.1 h1 h0
  refine r_next hX hs0.2.1 (fun σ2 hF2 hT2 => h_take (by omega) hX (hs0.nx hF2 hT2 nx_ge) (by decide) (fun et σ3 s3 => ?_) (fun et σ3 he => dead σ3 _ he (h0 _ (by rw [et, bx_er]) σ3 (toE σ3 _ he))))
  rw [et, bx_ok] at h1 h0
  exact loop 15 [] _ nn σ3 s3 rfl s3.2.1.2.2.2.1 h1 h0
end M30
