/-! the class's cores, on -/
section X21
variable {g : GP} {l : Launch} {D : Nat} {σ0 σ : St} {p t dd c : Nat} {so : Nat → Nat} {fo : Nat → Nat → Nat} {X : Txt} {En : List Enm} {Ss : List Stc} {Fs : List Fld} {i ne : Nat} {F : Fld}
theorem c_take6 {a : Nat} {w : Int} {P : Int → St → Prop} (hD : 1 ≤ D) (hX : X.OK) (h : FS σ0 σ p t dd c so fo X En Ss Fs i a ne F) (hw : ¬ w = 0) (h1 : tk X i w = .ok (X.nx i) → ∀ σ', FS σ0 σ' p t dd c so fo X En Ss Fs (X.nx i) 0 ne F → gJ σ' 610 p 0 = gJ σ 610 p 0 → P 1 σ') (h0 : tk X i w = .error (ck X i 2) → ∀ σ', ER σ0 σ' p dd c so fo (fo Ss.length Fs.length) (ck X i 2) → P 0 σ') : ACi g l D MX6_take [vR 6 (some p), vI w] σ P := by
  obtain ⟨d, rfl⟩ : ∃ d, D = d + 1 := ⟨D - 1, by omega⟩
  have ha := h.2.2.2.2.2.2.2.2.1
  have e := h.k
  have fin : ∀ b : Int, (b = 0 ∧ ¬ X.k i = w ∨ b = 1 ∧ X.k i = w) → AW g l (d + 1) MX6_take 14 [some (vR 6 (some p)), none] [vI b, vR 6 (some p)] σ (fun v σ' => ∃ r, v = some (vI r) ∧ P r σ') := by
    intro b hb
    refine bk_X6_take_14 ⟨p, rfl, c_check hX h.T (by omega) (fun q => ⟨fun _ => c_pass6 hX h.T (fun σ' hF hT g6 => ⟨_, rfl, h1 (if_pos (by omega)) σ' ?_ g6⟩), fun z => absurd z (by decide)⟩) (fun q σ' hF hf => ⟨fun z => absurd rfl z, fun _ => ⟨_, rfl, h0 (if_neg (by omega)) σ' (h.er hF hf)⟩⟩)⟩
    obtain ⟨x1, x2⟩ := nx_gt hX.k0 h.T.2.2.2.1 (by omega : ¬ X.k i = 0)
    exact h.ps hF hT (by omega) (by omega) (by omega)
  exact AC.of mo_X6_take (Nat.le_of_ble_eq_true rfl) (bk_X6_take_0 ⟨fun q => fin 0 (by omega), fun q => fin 1 (by omega)⟩)
theorem c_takeStruct6 {a : Nat} {P : Int → St → Prop} (hD : 1 ≤ D) (hX : X.OK) (h : FS σ0 σ p t dd c so fo X En Ss Fs i a ne F) (h1 : ∀ v, tI X (Ss.map (fun s => s.1)) i = .ok (X.nx i, v) → 0 ≤ v → ∀ σ', FS σ0 σ' p t dd c so fo X En Ss Fs (X.nx i) 0 ne F → gJ σ' 610 p 0 = gJ σ 610 p 0 → P v σ') (h0 : ∀ e, tI X (Ss.map (fun s => s.1)) i = .error e → ∀ σ', ER σ0 σ' p dd c so fo (fo Ss.length Fs.length) e → P (-1) σ') : ACi g l D MX6_takeStructure [vR 6 (some p)] σ P := by
  obtain ⟨d, rfl⟩ : ∃ d, D = d + 1 := ⟨D - 1, by omega⟩
  have ek := h.k
  have ev := h.v
  have ha := h.2.2.2.2.2.2.2.2.1
  have hcs := h.2.1
  have ig := idx_ge (w := X.v i) (Ss.map (fun s => s.1)) 0 (by decide)
  have s44 : ∀ y : Int, X.k i = 2 → (y = 0 ∧ idx (Ss.map (fun s => s.1)) (X.v i) 0 = -1 ∨ y = 1 ∧ ¬ idx (Ss.map (fun s => s.1)) (X.v i) 0 = -1) → AW g l (d + 1) MX6_takeStructure 44 [some (vR 6 (some p)), some (vI (idx (Ss.map (fun s => s.1)) (X.v i) 0))] [vI y, vR 6 (some p)] σ (fun v σ' => ∃ r, v = some (vI r) ∧ P r σ') := by
    intro y k2 hy
    refine bk_X6_takeStructure_44 ⟨p, rfl, c_check hX h.T (by omega) (fun q => ⟨fun _ => c_pass6 hX h.T (fun σ2 hF hT g6 => ⟨_, rfl, h1 _ ?_ (by omega) σ2 ?_ g6⟩), fun z => absurd z (by decide)⟩) (fun q σ2 hF2 hf => ⟨fun z => absurd rfl z, fun _ => ⟨_, rfl, h0 (ck X i 4) ?_ σ2 (h.er hF2 hf)⟩⟩)⟩
    · unfold tI; rw [if_pos k2, if_neg (by omega)]
    · obtain ⟨x1, x2⟩ := nx_gt hX.k0 h.T.2.2.2.1 (by omega : ¬ X.k i = 0)
      exact h.ps hF hT (by omega) (by omega) (by omega)
    · unfold tI; rw [if_pos k2, if_pos (by omega)]
  have s26 : ∀ y : Int, (y = 1 ∧ X.k i = 2 ∨ y = 0 ∧ ¬ X.k i = 2) → AW g l (d + 1) MX6_takeStructure 26 [some (vR 6 (some p)), some (vI (idx (Ss.map (fun s => s.1)) (X.v i) 0))] [vI y, vR 6 (some p)] σ (fun v σ' => ∃ r, v = some (vI r) ∧ P r σ') := by
    intro y hy
    refine bk_X6_takeStructure_26 ⟨p, rfl, c_check hX h.T (by omega) (fun q => ⟨fun z => absurd z (by decide), fun _ => ⟨fun z => s44 0 (by omega) (by omega), fun z => s44 1 (by omega) (by omega)⟩⟩) (fun q σ2 hF2 hf => ⟨fun _ => ⟨_, rfl, h0 (ck X i 2) ?_ σ2 (h.er hF2 hf)⟩, fun z => absurd rfl z⟩)⟩
    unfold tI; rw [if_neg (by omega)]
  refine AC.of mo_X6_takeStructure (Nat.le_of_ble_eq_true rfl) (bk_X6_takeStructure_0 ⟨dd, hcs.2.1, x_structNamed hcs.2.2.2.1 h.env.1 h.env.2.1 ?_⟩)
  rw [ek, ev]
  exact ⟨fun z => s26 0 (by omega), fun z => s26 1 (by omega)⟩
theorem c_text {P : Int → St → Prop} (hD : 122 ≤ D) (hX : X.OK) (hB : EsB Fs) (h : FS σ0 σ p t dd c so fo X En Ss Fs i 0 ne F) (hk : ¬ X.k i = 0) (hp : ∀ v σ', RQ σ0 p t dd c so fo X En Ss Fs (rText X Fs F i) v σ' → P v σ') : ACi g l D MX6_readText [vR 6 (some p)] σ P := by
  obtain ⟨d, rfl⟩ : ∃ d, D = d + 1 := ⟨D - 1, by omega⟩
  have s20 := h.env.2.2.1
  have f14 := h.2.2.2.2.2.1
  have s0 := h.wK (v := 5) (by decide)
  refine AC.of mo_X6_readText (Nat.le_of_ble_eq_true rfl) (bk_X6_readText_0 ⟨_, h.r9, f_pass hX s0 hk (fun σ1 s1 => f_ownName (by omega) hX s1 (fun e1 _ σ2 s2 => ⟨fun _ => f_takeIf (by omega) hX s2 (by decide) (fun k91 σ3 s3 => ⟨fun z => absurd z (by decide), fun _ => ?_⟩) (fun k91 => ⟨fun _ => ?_, fun z => absurd rfl z⟩), fun z => absurd z (by decide)⟩) (fun e e1 σ2 er => ⟨fun z => absurd rfl z, fun _ => ⟨_, rfl, hp 0 σ2 ?_⟩⟩))⟩)
  · have r0 : rText X Fs F i = bx (rx X Fs (X.nx (X.nx (X.nx i)))) (fun r => bx (tk X r.1 93) (fun j => .ok (j, ((F.wKi 5).wNm (X.v (X.nx i))).wE1 (some r.2)))) := by
      rw [rText, e1, bx_ok]
      exact if_pos k91
    refine f_rx (by omega) hX hB s3 (fun i' N e σ4 b s4 hx => ⟨_, s3.r9, _, s4.r9, ?_⟩) (fun e e2 σ4 er => ⟨_, s3.r9, _, er.2.2, fun _ => ⟨_, rfl, hp 0 _ ?_⟩, fun z => absurd (gI_slf _ _ _ _ _) z⟩)
    · rw [gI_slf]
      have s5 := s4.wI (f := 209) (by omega) (s4.fc.wE1 hx) rfl rfl
      refine ⟨fun z => absurd z nat_m1, fun _ => f_take (by omega) hX s5 (by decide) (fun e2 σ5 s6 => ⟨fun z => absurd z (by decide), fun _ => ⟨_, rfl, hp 1 σ5 ?_⟩⟩) (fun e2 σ5 er => ⟨fun _ => ⟨_, rfl, hp 0 σ5 ?_⟩, fun z => absurd rfl z⟩)⟩
      · rw [r0, e, bx_ok]
        show RQ σ0 p t dd c so fo X En Ss Fs (bx (tk X i' 93) _) 1 σ5
        rw [e2, bx_ok]
        exact ⟨rfl, _, _, s6⟩
      · rw [r0, e, bx_ok]
        show RQ σ0 p t dd c so fo X En Ss Fs (bx (tk X i' 93) _) 0 σ5
        rw [e2, bx_er]
        exact ⟨rfl, er⟩
    · rw [r0, e2, bx_er]
      exact ⟨rfl, er.w s20 f14 (by omega)⟩
  · have r0 : rText X Fs F i = bx (tk X (X.nx (X.nx i)) 206) (fun j => bx (tN X j 0 255) (fun r => .ok (r.1, ((F.wKi 5).wNm (X.v (X.nx i))).wNu r.2))) := by
      rw [rText, e1, bx_ok]
      exact if_neg k91
    refine f_take (by omega) hX s2 (by decide) (fun e2 σ3 s3 => ⟨fun z => absurd z (by decide), fun _ => f_takeNumber (by omega) hX s3 (fun e3 σ4 s4 e6 => ⟨fun _ => ⟨_, s4.r9, _, rfl, hp 1 _ ?_⟩, fun z => absurd z (by decide)⟩) (fun e e3 σ4 er => ⟨fun z => absurd rfl z, fun _ => ⟨_, rfl, hp 0 σ4 ?_⟩⟩)⟩) (fun e2 σ3 er => ⟨fun _ => ⟨_, rfl, hp 0 σ3 ?_⟩, fun z => absurd rfl z⟩)
    · rw [r0, e2, bx_ok]
      show RQ σ0 p t dd c so fo X En Ss Fs (bx (tN X (X.nx (X.nx (X.nx i))) (0 : Int64).toInt (255 : Int64).toInt) _) 1 _
      rw [e3, bx_ok, e6]
      exact ⟨rfl, _, _, s4.wJ (by omega) s4.fc.wNu rfl rfl⟩
    · rw [r0, e2, bx_ok]
      show RQ σ0 p t dd c so fo X En Ss Fs (bx (tN X (X.nx (X.nx (X.nx i))) (0 : Int64).toInt (255 : Int64).toInt) _) 0 _
      rw [e3, bx_er]
      exact ⟨rfl, er⟩
    · rw [r0, e2, bx_er]
      exact ⟨rfl, er⟩
  · rw [rText, e1, bx_er]
    exact ⟨rfl, er⟩
theorem c_case {P : Int → St → Prop} (hD : 121 ≤ D) (hX : X.OK) (h : FS σ0 σ p t dd c so fo X En Ss Fs i 0 ne F) (hk : F.ki = 6)
    (h1 : ∀ r, rCase X Ss F i = .ok r → ∀ σ', FS σ0 σ' p t dd c so fo X En Ss Fs r.1 0 (ne + 1) r.2 → r.2.es.length = F.es.length + 1 → r.2.ki = 6 → F.es.length < 8 → P 1 σ')
    (h0 : ∀ e, rCase X Ss F i = .error e → ∀ σ', ER σ0 σ' p dd c so fo (fo Ss.length Fs.length) e → P 0 σ') : ACi g l D MX6_readCase [vR 6 (some p)] σ P := by
  obtain ⟨d, rfl⟩ : ∃ d, D = d + 1 := ⟨D - 1, by omega⟩
  have ek := h.k
  have h3 := hX.h3
  have hKn := hX.hKn
  have hiK := h.T.2.2.2.1
  have h8 := h.2.2.2.2.2.2.2.1
  have e214 : gI σ 214 (fo Ss.length Fs.length) 0 = (F.es.length : Int) := by
    obtain ⟨_, _, q, _⟩ := h.fc.es; exact q
  have s48 : ∀ y : Int, (X.k i = 3 ∨ X.k i = 45) → (y = 1 ∧ F.es.length < 8 ∨ y = 0 ∧ ¬ F.es.length < 8) → AW g l (d + 1) MX6_readCase 48 [some (vR 6 (some p)), none] [vI y, vR 6 (some p)] σ (fun v σ' => ∃ r, v = some (vI r) ∧ P r σ') := by
    intro y k hy
    obtain ⟨x1, x2⟩ := nx_gt hX.k0 hiK (by omega : ¬ X.k i = 0)
    refine bk_X6_readCase_48 ⟨p, rfl, c_check hX h.T (by omega) (fun q => ⟨fun _ => ?_, fun z => absurd z (by decide)⟩) (fun q σ2 hF2 hf => ⟨fun z => absurd rfl z, fun _ => ⟨_, rfl, h0 _ ?_ σ2 (h.er hF2 hf)⟩⟩)⟩
    · have c8 : F.es.length < 8 := by omega
      have r0 : rCase X Ss F i = bx (tS X i) (fun r => bx (tk X r.1 58) (fun j => bx (tI X (Ss.map (fun s => s.1)) j) (fun q => bx (tk X q.1 59) (fun j2 => .ok (j2, F.wEs (F.es ++ [(0, r.2, q.2)])))))) := by
        rw [rCase, if_pos k, if_pos c8]
      refine f_takeSigned (by omega) hX h (fun j v e1 σ1 s1 e6 => ⟨fun z => absurd z (by decide), fun _ => ?_⟩) (fun e e1 σ1 er => ⟨fun _ => ⟨_, rfl, h0 e (by rw [r0, e1, bx_er]) σ1 er⟩, fun z => absurd rfl z⟩)
      have gj : i < j := by
        unfold tS at e1
        by_cases k45 : X.k i = 45
        · rw [if_pos k45] at e1
          by_cases k3 : X.k (X.nx i) = 3
          · rw [if_pos k3] at e1
            simp only [Except.ok.injEq, Prod.mk.injEq] at e1
            have : X.nx i ≤ X.nx (X.nx i) := nx_ge
            omega
          · rw [if_neg k3] at e1; exact absurd e1 (by simp)
        · rw [if_neg k45, if_pos (by omega)] at e1
          simp only [Except.ok.injEq, Prod.mk.injEq] at e1
          omega
      rw [e1, bx_ok] at r0
      have r0 : rCase X Ss F i = bx (tk X j 58) (fun j => bx (tI X (Ss.map (fun s => s.1)) j) (fun q => bx (tk X q.1 59) (fun j2 => .ok (j2, F.wEs (F.es ++ [(0, v, q.2)]))))) := r0
      -- the number stays over the takes
      refine c_take6 (by omega) hX s1 (by decide) (fun e2 σ2 s2 g2 => ⟨fun _ => ?_, fun z => absurd z (by decide)⟩) (fun e2 σ2 er => ⟨fun z => absurd rfl z, fun _ => ⟨_, rfl, h0 _ (by rw [r0, e2, bx_er]) σ2 er⟩⟩)
      rw [e2, bx_ok] at r0
      refine c_takeStruct6 (by omega) hX s2 (fun w e3 w0 σ3 s3 g3 => ⟨fun z => absurd z (by omega), fun _ => ?_⟩) (fun e e3 σ3 er => ⟨fun _ => ⟨_, rfl, h0 e (by rw [r0, e3, bx_er]) σ3 er⟩, fun z => absurd rfl z⟩)
      rw [e3, bx_ok] at r0
      have r0 : rCase X Ss F i = bx (tk X (X.nx (X.nx j)) 59) (fun j2 => .ok (j2, F.wEs (F.es ++ [(0, v, w)]))) := r0
      refine c_take6 (by omega) hX s3 (by decide) (fun e4 σ4 s4 g4 => ⟨fun _ => ⟨dd, s4.2.1.2.1, ?_⟩, fun z => absurd z (by decide)⟩) (fun e4 σ4 er => ⟨fun z => absurd rfl z, fun _ => ⟨_, rfl, h0 _ (by rw [r0, e4, bx_er]) σ4 er⟩⟩)
      rw [e4, bx_ok] at r0
      have z1 : j ≤ X.nx j := nx_ge
      have z2 : X.nx j ≤ X.nx (X.nx j) := nx_ge
      have z3 : X.nx (X.nx j) ≤ X.nx (X.nx (X.nx j)) := nx_ge
      have e64 : gJ σ4 610 p 0 = v := by rw [g4, g3, g2, e6]
      have iK4 := s4.T.2.2.2.1
      refine f_addEntry s4 (by omega) ⟨_, s4.r9, ?_⟩
      have e5 : gI (sI (sI (sJ (sJ σ4 106 dd ne 0) 107 dd ne (gJ σ4 610 p 0)) 108 dd ne w) 109 dd 0 ((ne : Int) + 1)) 214 (fo Ss.length Fs.length) 0 = (F.es.length : Int) := by
        rw [gI_sI, if_neg (by simp), gI_sI, if_neg (by simp), gI_sJ, gI_sJ]
        obtain ⟨_, _, q, _⟩ := s4.fc.es; exact q
      rw [e5]
      refine ⟨⟨by omega, by omega⟩, _, rfl, h1 _ r0 _ ?_ app_l hk c8⟩
      rw [e64]
      exact s4.add (Or.inr (Or.inl hk)) (by omega) rfl
    · rw [rCase, if_pos k, if_neg (by omega)]
  have s23 : ∀ y : Int, (y = 1 ∧ (X.k i = 3 ∨ X.k i = 45) ∨ y = 0 ∧ ¬ (X.k i = 3 ∨ X.k i = 45)) → AW g l (d + 1) MX6_readCase 23 [some (vR 6 (some p)), none] [vI y, vR 6 (some p)] σ (fun v σ' => ∃ r, v = some (vI r) ∧ P r σ') := by
    intro y hy
    refine bk_X6_readCase_23 ⟨p, rfl, c_check hX h.T (by omega) (fun q => ⟨fun z => absurd z (by decide), fun _ => ⟨_, h.r9, ?_⟩⟩) (fun q σ2 hF2 hf => ⟨fun _ => ⟨_, rfl, h0 (ck X i 2) ?_ σ2 (h.er hF2 hf)⟩, fun z => absurd rfl z⟩)⟩
    · rw [e214]
      exact ⟨fun z => s48 0 (by omega) (by omega), fun z => s48 1 (by omega) (by omega)⟩
    · rw [rCase, if_neg (by omega)]
  refine AC.of mo_X6_readCase (Nat.le_of_ble_eq_true rfl) (bk_X6_readCase_0 ?_)
  rw [ek]
  exact ⟨fun z => s23 1 (by omega), fun z => ⟨fun z2 => s23 0 (by omega), fun z2 => s23 1 (by omega)⟩⟩
end X21
