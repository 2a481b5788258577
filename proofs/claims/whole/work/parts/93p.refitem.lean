/-! the reference's items -/
section M32
variable {g : GP} {l : Launch} {D : Nat} {σS σ : St} {m b i nn lo : Nat} {X : Txt} {En : List Enm} {Ss : List Stc}
theorem IS.nx {σ' : St} {i' : Nat} (h : IS σS σ m X b i nn En Ss) (hF : Frm (TkF m) σ σ') (hT : RT σ' m X i') (hi : i ≤ i') : IS σS σ' m X b i' nn En Ss := by
  obtain ⟨a1, a2, a3, a4, a5, a6, a7, a8, a9, a10, a11, a12⟩ := h
  have hO := Out.nx hF
  have n : ∀ f i, 1218 ≤ f → ¬ RT5 f i := fun f i z q => by unfold RT5 at q; omega
  refine ⟨a1.trans (hO.mono (fun f i q => Or.inl (Or.inl q))), hT, by rw [hF.I (fun q => by omega)]; exact a3, by rw [hF.I (fun q => by omega)]; exact a4, by rw [hF.I (fun q => by omega)]; exact a5, by omega, by rw [hF.I (fun q => by omega)]; exact a7, a8, ?_, a10, a11, a12.out hO (fun i => n _ _ (by omega)) (fun f i z0 z1 => n f i (by omega))⟩
  exact a9.out hO (fun s S hS F hF => ((a10 s S hS).2.2.2.2 F hF).2.2.2.1) (fun f i z0 z1 z2 z3 => n f i (by omega)) (fun f z => n f _ (by omega)) (fun f s z0 z1 z2 => n f _ (by omega)) (fun f e z0 z1 z2 => n f _ (by omega)) (fun f e j z0 z1 z2 z3 => n f _ (by omega)) (fun f s k z0 z1 z2 z3 => n f _ (by omega)) (fun f s k p z0 z1 z2 z3 z4 => n f _ (by omega))
theorem i_must {y k : Int} {P : Int → St → Prop} (hD : 1 ≤ D) (hX : X.OK) (h : IS σS σ m X b i nn En Ss) (hk : 0 < k) (hy : y = 0 ∨ y = 1) (h1 : y = 1 → P 1 σ) (h0 : y = 0 → ∀ σ', IE σS σ' m b (ck X i k) → P 0 σ') : ACi g l D MX12_must [vR 12 (some m), vI y, vI k] σ P := by
  obtain ⟨d, rfl⟩ : ∃ d, D = d + 1 := ⟨D - 1, by omega⟩
  exact r_must hX h.2.1 h.2.2.1 hk hy h1 (fun q σ' hF e1 e2 => h0 q σ' ⟨h.1.trans (Out.of hF (fun f r z => ⟨z.1, by omega, by omega, by omega⟩) (fun f i z => Or.inl (by unfold RTk; omega))), ck_pos hk, e1, e2⟩)
theorem g_item {P : St → Prop} (hD : 20 ≤ D) (hX : X.OK) (h : IS σS σ m X b i nn En Ss)
    (hE : X.k i = 200 → ∀ q, rEnm X En Ss i = .ok q → ∀ σ' nn', IS σS σ' m X b q.1 nn' (En ++ [q.2]) Ss → P σ') (hS : X.k i = 201 → ∀ q, rStr X En Ss i = .ok q → ∀ σ' nn', IS σS σ' m X b q.1 nn' En (Ss ++ [q.2]) → P σ')
    (h0 : ∀ e, (X.k i = 200 → rEnm X En Ss i = .error e) → (X.k i = 201 → rStr X En Ss i = .error e) → (¬ X.k i = 200 → ¬ X.k i = 201 → e = ck X i 2) → ∀ σ', IE σS σ' m b e → P σ') : ACv g l D MX12_item [vR 12 (some m)] σ P := by
  obtain ⟨d, rfl⟩ : ∃ d, D = d + 3 := ⟨D - 3, by omega⟩
  have hT := h.2.1
  have lc := h.2.1.1
  have s142 : ∀ (σ1 : St) (x y : Int), (x = 1 ∧ X.k i = 200 ∧ En.length < 8 ∨ x = 0 ∧ X.k i = 201 ∧ Ss.length < 20) → IS σS σ1 m X b (X.nx i) nn En Ss → X.k (X.nx i) = 2 → (y = 1 ∧ idx (En.map (fun e => e.1)) (X.v (X.nx i)) 0 = -1 ∧ idx (Ss.map (fun e => e.1)) (X.v (X.nx i)) 0 = -1 ∨ y = 0 ∧ ¬ (idx (En.map (fun e => e.1)) (X.v (X.nx i)) 0 = -1 ∧ idx (Ss.map (fun e => e.1)) (X.v (X.nx i)) 0 = -1)) → AW g l (d + 3) MX12_item 142 [some (vR 12 (some m)), some (vI x)] [vI y, vR 12 (some m)] σ1 (fun v σ' => v = none ∧ P σ') := by
    intro σ1 x y hx s1 k2 hy
    have tWe : y = 0 → tW X En Ss (X.nx i) = .error (ck X (X.nx i) 3) := fun q => by unfold tW; rw [if_pos k2, if_neg (by omega)]
    have tWo : y = 1 → tW X En Ss (X.nx i) = .ok (X.nx (X.nx i), X.v (X.nx i)) := fun q => by unfold tW; rw [if_pos k2, if_pos (by omega)]
    refine bk_X12_item_142 ⟨m, rfl, i_must (by omega) hX s1 (by decide) (by omega) (fun q => ⟨fun _ => ⟨fun z => ?_, fun z => ?_⟩, fun z => absurd z (by decide)⟩) (fun q σ' ie => ⟨fun z => absurd rfl z, fun _ => ⟨rfl, h0 _ (fun z => ?_) (fun z => ?_) (fun z z2 => by omega) σ' ie⟩⟩)⟩
    · have k1 : X.k i = 201 := by omega
      have l20 : Ss.length < 20 := by omega
      refine g_str (by omega) hX s1 k2 l20 (fun q eq σ2 n2 s2 => ⟨rfl, hS k1 q ?_ σ2 n2 s2⟩) (fun e ee σ2 ie => ⟨rfl, h0 e (fun z => by omega) (fun _ => ?_) (fun _ z => absurd k1 z) σ2 ie⟩)
      · unfold rStr; rw [if_pos l20, tWo (by omega), bx_ok]; exact eq
      · unfold rStr; rw [if_pos l20, tWo (by omega), bx_ok]; exact ee
    · have k0 : X.k i = 200 := by omega
      have l8 : En.length < 8 := by omega
      refine g_enm (by omega) hX s1 k2 l8 (fun q eq σ2 s2 => ⟨rfl, hE k0 q ?_ σ2 nn s2⟩) (fun e ee σ2 ie => ⟨rfl, h0 e (fun _ => ?_) (fun z => by omega) (fun z => absurd k0 z) σ2 ie⟩)
      · unfold rEnm; rw [if_pos l8, tWo (by omega), bx_ok]; exact eq
      · unfold rEnm; rw [if_pos l8, tWo (by omega), bx_ok]; exact ee
    · unfold rEnm; rw [if_pos (by omega), tWe q, bx_er]
    · unfold rStr; rw [if_pos (by omega), tWe q, bx_er]
  have s81 : ∀ (x y : Int), (x = 1 ∧ X.k i = 200 ∨ x = 0 ∧ X.k i = 201) → (y = 1 ∧ (x = 1 → En.length < 8) ∧ (x = 0 → Ss.length < 20) ∨ y = 0 ∧ (x = 1 → ¬ En.length < 8) ∧ (x = 0 → ¬ Ss.length < 20)) → AW g l (d + 3) MX12_item 81 [some (vR 12 (some m)), some (vI x)] [vI y, vR 12 (some m)] σ (fun v σ' => v = none ∧ P σ') := by
    intro x y hx hy
    refine bk_X12_item_81 ⟨m, rfl, i_must (by omega) hX h (by decide) (by omega) (fun q => ⟨fun _ => r_next hX hT (fun σ1 hF1 hT1 => r_isName hX hT1 ?_), fun z => absurd z (by decide)⟩) (fun q σ' ie => ⟨fun z => absurd rfl z, fun _ => ⟨rfl, h0 _ (fun z => ?_) (fun z => ?_) (fun z z2 => by omega) σ' ie⟩⟩)⟩
    · have s1 := h.nx hF1 hT1 nx_ge
      have l8 : X.k i = 200 → En.length < 8 := fun z => by
        rcases hy with c | c
        · exact c.2.1 (by omega)
        · omega
      have l20 : X.k i = 201 → Ss.length < 20 := fun z => by
        rcases hy with c | c
        · exact c.2.2 (by omega)
        · omega
      obtain ⟨a1, a2, a3, a4, a5, a6, a7, a8, a9, a10, a11, a12⟩ := s1
      by_cases k2 : X.k (X.nx i) = 2
      · rw [if_pos k2]
        obtain ⟨ew, iw⟩ := (hT1.sort hX).2.2.2.2.1 k2
        have s1 : IS σS σ1 m X b (X.nx i) nn En Ss := ⟨a1, a2, a3, a4, a5, a6, a7, a8, a9, a10, a11, a12⟩
        refine i_must (by omega) hX s1 (by decide) (by decide) (fun _ => ⟨fun z => absurd z (by decide), fun _ => ⟨hT1.1, ⟨by omega, by omega⟩, ?_⟩⟩) (fun q => absurd q (by decide))
        rw [ew, a7, Int.toNat_natCast, a9.1]
        have ig := idx_ge (w := X.v (X.nx i)) (Ss.map (fun e => e.1)) 0 (by decide)
        have ie := idx_ge (w := X.v (X.nx i)) (En.map (fun e => e.1)) 0 (by decide)
        have hx' : x = 1 ∧ X.k i = 200 ∧ En.length < 8 ∨ x = 0 ∧ X.k i = 201 ∧ Ss.length < 20 := hx.imp (fun z => ⟨z.1, z.2, l8 z.2⟩) (fun z => ⟨z.1, z.2, l20 z.2⟩)
        refine m_structNamed hT1.1 a7 a8 a9 (fun s S hS => (a10 s S hS).1) iw rfl ⟨fun z => s142 σ1 x 0 hx' s1 k2 (Or.inr ⟨rfl, fun c => by omega⟩), fun z => ?_⟩
        rw [ew]
        exact m_enumNamed hT1.1 a7 a8 a9 a11 iw ⟨fun z2 => s142 σ1 x 0 hx' s1 k2 (Or.inr ⟨rfl, fun c => by omega⟩), fun z2 => s142 σ1 x 1 hx' s1 k2 (Or.inl ⟨rfl, by omega, by omega⟩)⟩
      · rw [if_neg k2]
        have tWe : tW X En Ss (X.nx i) = .error (ck X (X.nx i) 2) := by unfold tW; rw [if_neg k2]
        exact i_must (by omega) hX ⟨a1, a2, a3, a4, a5, a6, a7, a8, a9, a10, a11, a12⟩ (by decide) (by decide) (fun q => absurd q (by decide)) (fun _ σ' ie => ⟨fun _ => ⟨rfl, h0 _ (fun z => by unfold rEnm; rw [if_pos (l8 z), tWe, bx_er]) (fun z => by unfold rStr; rw [if_pos (l20 z), tWe, bx_er]) (fun z z2 => by omega) σ' ie⟩, fun z => absurd rfl z⟩)
    · unfold rEnm
      rcases hy with c | c
      · omega
      · rw [if_neg (c.2.1 (by omega))]
    · unfold rStr
      rcases hy with c | c
      · omega
      · rw [if_neg (c.2.2 (by omega))]
  have s28 : ∀ (x y : Int), (x = 1 ∧ X.k i = 200 ∨ x = 0 ∧ ¬ X.k i = 200) → (y = 1 ∧ (X.k i = 200 ∨ X.k i = 201) ∨ y = 0 ∧ ¬ X.k i = 200 ∧ ¬ X.k i = 201) → AW g l (d + 3) MX12_item 28 [some (vR 12 (some m)), some (vI x)] [vI y, vR 12 (some m)] σ (fun v σ' => v = none ∧ P σ') := by
    intro x y hx hy
    obtain ⟨a1, a2, a3, a4, a5, a6, a7, a8, a9, a10, a11, a12⟩ := h
    refine bk_X12_item_28 ⟨m, rfl, i_must (by omega) hX ⟨a1, a2, a3, a4, a5, a6, a7, a8, a9, a10, a11, a12⟩ (by decide) (by omega) (fun q => ⟨fun z => absurd z (by decide), fun _ => ⟨fun z => ⟨lc, ⟨by omega, by omega⟩, ?_⟩, fun z => ⟨lc, ⟨by omega, by omega⟩, ?_⟩⟩⟩) (fun q σ' ie => ⟨fun _ => ⟨rfl, h0 _ (fun z => by omega) (fun z => by omega) (fun _ _ => rfl) σ' ie⟩, fun z => absurd rfl z⟩)⟩
    · rw [a7, Int.toNat_natCast, a9.1]
      exact ⟨fun z2 => s81 x 0 (by omega) (Or.inr ⟨rfl, fun c => by omega, fun _ => by omega⟩), fun z2 => s81 x 1 (by omega) (Or.inl ⟨rfl, fun c => by omega, fun _ => by omega⟩)⟩
    · rw [a7, Int.toNat_natCast, a9.2.2.1]
      exact ⟨fun z2 => s81 x 0 (by omega) (Or.inr ⟨rfl, fun _ => by omega, fun c => by omega⟩), fun z2 => s81 x 1 (by omega) (Or.inl ⟨rfl, fun _ => by omega, fun c => by omega⟩)⟩
  refine AC.of mo_X12_item (Nat.le_of_ble_eq_true rfl) (bk_X12_item_0 (r_isWord (j := 0) hX hT (by decide) rfl ?_))
  by_cases c : X.k i = 200
  · rw [if_pos (show X.k i = 200 + ((0 : Nat) : Int) from c)]
    exact ⟨fun _ => s28 1 1 (Or.inl ⟨rfl, c⟩) (Or.inl ⟨rfl, Or.inl c⟩), fun z => absurd z (by decide)⟩
  · rw [if_neg (show ¬ X.k i = 200 + ((0 : Nat) : Int) from c)]
    refine ⟨fun z => absurd rfl z, fun _ => r_isWord (j := 1) hX hT (by decide) rfl ?_⟩
    by_cases c2 : X.k i = 201
    · rw [if_pos (show X.k i = 200 + ((1 : Nat) : Int) from c2)]
      exact ⟨fun z => absurd z (by decide), fun _ => s28 0 1 (Or.inr ⟨rfl, c⟩) (Or.inl ⟨rfl, Or.inr c2⟩)⟩
    · rw [if_neg (show ¬ X.k i = 200 + ((1 : Nat) : Int) from c2)]
      exact ⟨fun _ => s28 0 0 (Or.inr ⟨rfl, c⟩) (Or.inr ⟨rfl, c, c2⟩), fun z => absurd rfl z⟩
end M32
