/-! the class's cores -/
section X20
variable {g : GP} {l : Launch} {D : Nat} {σ0 σ : St} {p t dd c : Nat} {so : Nat → Nat} {fo : Nat → Nat → Nat} {X : Txt} {En : List Enm} {Ss : List Stc} {Fs : List Fld} {i ne : Nat} {F : Fld}
theorem ER.w {f : Nat} {v : Int} {e : Int × Int} {s : St} (h : ER σ0 s p dd c so fo (fo Ss.length Fs.length) e) (hs : Ss.length < 20) (hk : Fs.length < 14) (hf : 201 ≤ f ∧ f ≤ 216) : ER σ0 (sI s f (fo Ss.length Fs.length) 0 v) p dd c so fo (fo Ss.length Fs.length) e := h.r hs hk (Frm.sI ⟨rfl, hf⟩)
theorem nat_m1 {b : Nat} : ¬ (b : Int) = -1 := by omega
theorem c_tail {P : Int → St → Prop} (hD : 121 ≤ D) (hX : X.OK) (hB : EsB Fs) (h : FS σ0 σ p t dd c so fo X En Ss Fs i 0 ne F) (hk : F.ki = 1 ∨ F.ki = 0) (hp : ∀ v σ', RQ σ0 p t dd c so fo X En Ss Fs (rTail X En Ss Fs F i) v σ' → P v σ') : ACi g l D MX6_readTail [vR 6 (some p)] σ P := by
  obtain ⟨d, rfl⟩ : ∃ d, D = d + 1 := ⟨D - 1, by omega⟩
  have s20 := h.env.2.2.1
  have f14 := h.2.2.2.2.2.1
  have s147 : ∀ (σ1 : St) (y : Int), FS σ0 σ1 p t dd c so fo X En Ss Fs (X.nx i) 0 ne (F.wKi 2) → ¬ (F.ki = 1 ∧ X.k i = 203) → X.k i = 91 → X.k (X.nx i) = 93 → (y = 1 ∧ (F.st = -1 ∨ 0 < szS Ss F.st) ∨ y = 0 ∧ ¬ (F.st = -1 ∨ 0 < szS Ss F.st)) → AW g l (d + 1) MX6_readTail 147 [some (vR 6 (some p)), none] [vI y] σ1 (fun v σ' => ∃ r, v = some (vI r) ∧ P r σ') := by
    intro σ1 y s1 n3 k91 k93 hy
    refine bk_X6_readTail_147 (c_check hX s1.T (by omega) (fun q => ⟨fun z => absurd z (by decide), fun _ => f_take (by omega) hX s1 (by decide) (fun e σ2 s2 => ⟨fun z => absurd z (by decide), fun _ => ⟨_, rfl, hp 1 σ2 ?_⟩⟩) (fun e => absurd e (by unfold tk; rw [if_pos k93]; simp))⟩) (fun q σ2 hF2 hf => ⟨fun _ => ⟨_, rfl, hp 0 σ2 ?_⟩, fun z => absurd rfl z⟩))
    · rw [rTail, if_neg n3, if_pos k91, if_pos k93, if_pos (by rcases hy with hy | hy; exact hy.2; omega)]
      exact ⟨rfl, _, _, s2⟩
    · rw [rTail, if_neg n3, if_pos k91, if_pos k93, if_neg (by rcases hy with hy | hy; omega; exact hy.2)]
      exact ⟨rfl, s1.er hF2 hf⟩
  have s49 : ¬ (F.ki = 1 ∧ X.k i = 203) → AW g l (d + 1) MX6_readTail 49 [some (vR 6 (some p)), none] [] σ (fun v σ' => ∃ r, v = some (vI r) ∧ P r σ') := by
    intro n3
    refine bk_X6_readTail_49 (f_takeIf (by omega) hX h (by decide) (fun k91 σ1 s1 => ⟨fun _ => ⟨_, s1.r9, ?_⟩, fun z => absurd z (by decide)⟩) (fun k91 => ⟨fun z => absurd rfl z, fun _ => ⟨_, rfl, hp 1 σ ?_⟩⟩))
    · rw [s1.k, s1.fc.st]
      have s2 := s1.wK (v := 2) (by decide)
      refine ⟨fun k93 => ⟨fun z => s147 _ 1 s2 n3 k91 k93 (Or.inl ⟨rfl, Or.inl z⟩), fun z => ⟨dd, s1.2.1.2.1, x_sizeOf s2.2.1.2.2.2.1 s2.env.1 s2.env.2.1 ⟨fun y => s147 _ 0 s2 n3 k91 k93 (Or.inr ⟨rfl, by omega⟩), fun y => s147 _ 1 s2 n3 k91 k93 (Or.inl ⟨rfl, by omega⟩)⟩⟩⟩, fun k93 => ?_⟩
      refine f_rx (by omega) hX hB s2 (fun i' N e σ3 b s3 hx => ⟨_, s3.r9, ?_⟩) (fun e e1 σ3 er => ⟨_, er.2.2, fun _ => ⟨_, rfl, hp 0 _ ?_⟩, fun z => absurd (gI_slf _ _ _ _ _) z⟩)
      · have s4 := s3.wI (f := 209) (by omega) (s3.fc.wE1 hx) rfl rfl
        rw [gI_slf]
        refine ⟨fun z => absurd z nat_m1, fun _ => f_take (by omega) hX s4 (by decide) (fun e2 σ5 s5 => ⟨fun z => absurd z (by decide), fun _ => ⟨_, rfl, hp 1 σ5 ?_⟩⟩) (fun e2 σ5 er => ⟨fun _ => ⟨_, rfl, hp 0 σ5 ?_⟩, fun z => absurd rfl z⟩)⟩
        · rw [rTail, if_neg n3, if_pos k91, if_neg k93, e, bx_ok]
          show RQ σ0 p t dd c so fo X En Ss Fs (bx (tk X i' 93) _) 1 σ5
          rw [e2, bx_ok]
          exact ⟨rfl, _, _, s5⟩
        · rw [rTail, if_neg n3, if_pos k91, if_neg k93, e, bx_ok]
          show RQ σ0 p t dd c so fo X En Ss Fs (bx (tk X i' 93) _) 0 σ5
          rw [e2, bx_er]
          exact ⟨rfl, er⟩
      · rw [rTail, if_neg n3, if_pos k91, if_neg k93, e1, bx_er]
        exact ⟨rfl, er.w s20 f14 (by omega)⟩
    · rw [rTail, if_neg n3, if_neg k91]
      exact ⟨rfl, _, _, h⟩
  refine AC.of mo_X6_readTail (Nat.le_of_ble_eq_true rfl) (bk_X6_readTail_0 ⟨_, h.r9, ?_⟩)
  rw [h.fc.ki]
  refine ⟨fun z => s49 (fun q => z q.1), fun z => f_takeIf (by omega) hX h (by decide) (fun k3 σ1 s1 => ⟨fun q => absurd q (by decide), fun _ => f_takeEnum (by omega) hX s1 (fun v e v0 σ2 s2 => ⟨_, s1.r9, _, s2.r9, ?_⟩) (fun e e1 σ2 er => ⟨_, s1.r9, _, er.2.2, fun _ => ⟨_, rfl, hp 0 _ ?_⟩, fun z => absurd (gI_slf _ _ _ _ _) z⟩)⟩) (fun k3 => ⟨fun _ => s49 (fun q => k3 q.2), fun q => absurd rfl q⟩)⟩
  · rw [gI_slf]
    refine ⟨fun q => absurd q (by omega), fun _ => ⟨_, rfl, hp 1 _ ?_⟩⟩
    rw [rTail, if_pos ⟨z, k3⟩, e, bx_ok]
    exact ⟨rfl, _, _, s2.wI (f := 207) (by omega) s2.fc.wPr rfl rfl⟩
  · rw [rTail, if_pos ⟨z, k3⟩, e1, bx_er]
    exact ⟨rfl, er.w s20 f14 (by omega)⟩
theorem c_whole {P : Int → St → Prop} (hD : 121 ≤ D) (hX : X.OK) (h : FS σ0 σ p t dd c so fo X En Ss Fs i 0 ne F)
    (h1 : ∀ j, bx (tT X i) (fun r => bx (tO X Fs ((F.wKi 1).wTy r.2) r.1) (fun q => (.ok (q.1, ((F.wKi 1).wTy r.2).wNm q.2) : Rd (Nat × Fld)))) = .ok j → ∀ σ', FS σ0 σ' p t dd c so fo X En Ss Fs j.1 0 ne j.2 → P 1 σ')
    (h0 : ∀ e, bx (tT X i) (fun r => bx (tO X Fs ((F.wKi 1).wTy r.2) r.1) (fun q => (.ok (q.1, ((F.wKi 1).wTy r.2).wNm q.2) : Rd (Nat × Fld)))) = .error e → ∀ σ', ER σ0 σ' p dd c so fo (fo Ss.length Fs.length) e → P 0 σ') : ACi g l D MX6_readWhole [vR 6 (some p)] σ P := by
  obtain ⟨d, rfl⟩ : ∃ d, D = d + 1 := ⟨D - 1, by omega⟩
  refine AC.of mo_X6_readWhole (Nat.le_of_ble_eq_true rfl) (bk_X6_readWhole_0 ⟨_, h.r9, f_takeType (by omega) hX (h.wK (v := 1) (by decide)) (fun e σ1 s1 => ⟨fun z => absurd z (by decide), fun _ => f_ownName (by omega) hX s1 (fun e2 _ σ2 s2 => ⟨fun z => absurd z (by decide), fun _ => ⟨_, rfl, h1 (X.nx (X.nx i), ((F.wKi 1).wTy (X.v i)).wNm (X.v (X.nx i))) ?_ σ2 s2⟩⟩) (fun e1 e2 σ2 er => ⟨fun _ => ⟨_, rfl, h0 e1 ?_ σ2 er⟩, fun z => absurd rfl z⟩)⟩) (fun e σ1 er => ⟨fun _ => ⟨_, rfl, h0 _ ?_ σ1 er⟩, fun z => absurd rfl z⟩)⟩)
  · rw [e, bx_ok]
    show bx (tO X Fs ((F.wKi 1).wTy (X.v i)) (X.nx i)) _ = _
    rw [e2, bx_ok]
  · rw [e, bx_ok]
    show bx (tO X Fs ((F.wKi 1).wTy (X.v i)) (X.nx i)) _ = _
    rw [e2, bx_er]
  · rw [e, bx_er]
theorem c_struct {P : Int → St → Prop} (hD : 121 ≤ D) (hX : X.OK) (h : FS σ0 σ p t dd c so fo X En Ss Fs i 0 ne F)
    (h1 : ∀ j, bx (tI X (Ss.map (fun s => s.1)) i) (fun r => bx (tO X Fs ((F.wKi 0).wSt r.2) r.1) (fun q => (.ok (q.1, ((F.wKi 0).wSt r.2).wNm q.2) : Rd (Nat × Fld)))) = .ok j → ∀ σ', FS σ0 σ' p t dd c so fo X En Ss Fs j.1 0 ne j.2 → P 1 σ')
    (h0 : ∀ e, bx (tI X (Ss.map (fun s => s.1)) i) (fun r => bx (tO X Fs ((F.wKi 0).wSt r.2) r.1) (fun q => (.ok (q.1, ((F.wKi 0).wSt r.2).wNm q.2) : Rd (Nat × Fld)))) = .error e → ∀ σ', ER σ0 σ' p dd c so fo (fo Ss.length Fs.length) e → P 0 σ') : ACi g l D MX6_readStruct [vR 6 (some p)] σ P := by
  obtain ⟨d, rfl⟩ : ∃ d, D = d + 1 := ⟨D - 1, by omega⟩
  have s20 := h.env.2.2.1
  have f14 := h.2.2.2.2.2.1
  refine AC.of mo_X6_readStruct (Nat.le_of_ble_eq_true rfl) (bk_X6_readStruct_0 ⟨_, h.r9, f_takeStruct (by omega) hX (h.wK (v := 0) (by decide)) (fun v e v0 σ1 s1 => ⟨_, s1.r9, ?_⟩) (fun e e1 σ1 er => ⟨_, er.2.2, fun _ => ⟨_, rfl, h0 e ?_ _ (er.w s20 f14 (by omega))⟩, fun z => absurd (gI_slf _ _ _ _ _) z⟩)⟩)
  · rw [gI_slf]
    have s2 := s1.wI (f := 206) (v := v) (by omega) s1.fc.wSt rfl rfl
    refine ⟨fun z => absurd z (by omega), fun _ => f_ownName (by omega) hX s2 (fun e2 _ σ2 s3 => ⟨fun z => absurd z (by decide), fun _ => ⟨_, rfl, h1 (X.nx (X.nx i), ((F.wKi 0).wSt v).wNm (X.v (X.nx i))) ?_ σ2 s3⟩⟩) (fun e1 e2 σ2 er => ⟨fun _ => ⟨_, rfl, h0 e1 ?_ σ2 er⟩, fun z => absurd rfl z⟩)⟩
    · rw [e, bx_ok]
      show bx (tO X Fs ((F.wKi 0).wSt v) (X.nx i)) _ = _
      rw [e2, bx_ok]
    · rw [e, bx_ok]
      show bx (tO X Fs ((F.wKi 0).wSt v) (X.nx i)) _ = _
      rw [e2, bx_er]
  · rw [e1, bx_er]
/-- one part of bits -/
theorem c_part {bit : Int} {P : Int → St → Prop} (hD : 121 ≤ D) (hX : X.OK) (h : FS σ0 σ p t dd c so fo X En Ss Fs i 0 ne F) (hk : F.ki = 3) (hb : 0 ≤ bit ∧ bit ≤ 1000) (hw : 0 ≤ tw F.ty ∧ tw F.ty ≤ 15)
    (h1 : ∀ r, rPart X Fs F bit i = .ok r → ∀ σ', FS σ0 σ' p t dd c so fo X En Ss Fs r.1 0 (ne + 1) r.2.1 → r.2.2 = bit + (gJ σ' 610 p 0).toInt → 1 ≤ (gJ σ' 610 p 0).toInt → (gJ σ' 610 p 0).toInt ≤ 64 → r.2.1.es.length = F.es.length + 1 → r.2.1.ki = 3 → r.2.1.ty = F.ty → F.es.length < 12 → i < r.1 → P 1 σ')
    (h0 : ∀ e, rPart X Fs F bit i = .error e → ∀ σ', ER σ0 σ' p dd c so fo (fo Ss.length Fs.length) e → P 0 σ') : ACi g l D MX6_readPart [vR 6 (some p), vI bit] σ P := by
  obtain ⟨d, rfl⟩ : ∃ d, D = d + 1 := ⟨D - 1, by omega⟩
  have ek := h.k
  have ev := h.v
  have h3 := hX.h3
  have hKn := hX.hKn
  have hiK := h.T.2.2.2.1
  have h8 := h.2.2.2.2.2.2.2.1
  have e214 : gI σ 214 (fo Ss.length Fs.length) 0 = (F.es.length : Int) := by
    obtain ⟨_, _, q, _⟩ := h.fc.es; exact q
  have s65 : ∀ y : Int, tO X Fs F i = .ok (X.nx i, X.v i) → X.k i = 2 → (y = 1 ∧ F.es.length < 12 ∨ y = 0 ∧ ¬ F.es.length < 12) → AW g l (d + 1) MX6_readPart 65 [some (vR 6 (some p)), some (vI bit), some (vJ (X.v i)), none] [vI y, vR 6 (some p)] σ (fun v σ' => ∃ r, v = some (vI r) ∧ P r σ') := by
    intro y eO k2 hy
    obtain ⟨x1, x2⟩ := nx_gt hX.k0 hiK (by omega : ¬ X.k i = 0)
    refine bk_X6_readPart_65 ⟨p, rfl, c_check hX h.T (by omega) (fun q => ⟨fun _ => f_pass hX h (by omega) (fun σ1 s1 => f_take (by omega) hX s1 (by decide) (fun e2 σ2 s2 => ⟨fun z => absurd z (by decide), fun _ => ⟨_, s2.r9, ?_⟩⟩) (fun e2 σ2 er => ⟨fun _ => ⟨_, rfl, h0 _ ?_ σ2 er⟩, fun z => absurd rfl z⟩)), fun z => absurd z (by decide)⟩) (fun q σ2 hF2 hf => ⟨fun z => absurd rfl z, fun _ => ⟨_, rfl, h0 _ ?_ σ2 (h.er hF2 hf)⟩⟩)⟩
    · rw [s2.fc.xtw]
      have c12 : F.es.length < 12 := by omega
      refine ⟨⟨by omega, by omega⟩, ⟨by omega, by omega⟩, j_min ?_⟩
      rw [Int.min_def]
      have em : (if 64 ≤ 8 * tw F.ty - bit then (64 : Int) else 8 * tw F.ty - bit) = (i2j (if 64 ≤ 8 * tw F.ty - bit then 64 else 8 * tw F.ty - bit)).toInt := by
        rw [i2j_toInt, w32_id]
        · split <;> omega
        · split <;> omega
      have rp : rPart X Fs F bit i = bx (tN X (X.nx (X.nx i)) 1 (i2j (if 64 ≤ 8 * tw F.ty - bit then 64 else 8 * tw F.ty - bit)).toInt) (fun r => .ok (r.1, F.wEs (F.es ++ [(X.v i, r.2, bit)]), bit + r.2.toInt)) := by
        unfold rPart
        rw [eO, bx_ok, if_pos c12]
        show bx (tk X (X.nx i) 58) _ = _
        rw [e2, bx_ok, ← em]
      have le : (i2j (if 64 ≤ 8 * tw F.ty - bit then 64 else 8 * tw F.ty - bit)).toInt ≤ 64 := by rw [← em]; split <;> omega
      refine f_takeNumber (by omega) hX s2 (fun e3 σ3 s3 e6 => ⟨fun _ => ⟨dd, s3.2.1.2.1, ?_⟩, fun z => absurd z (by decide)⟩) (fun e e3 σ3 er => ⟨fun z => absurd rfl z, fun _ => ⟨_, rfl, h0 e ?_ σ3 er⟩⟩)
      · have e3' := e3
        rw [show (1 : Int64).toInt = 1 from rfl] at e3
        have bds : X.k (X.nx (X.nx i)) = 3 ∧ 1 ≤ (X.v (X.nx (X.nx i))).toInt ∧ (X.v (X.nx (X.nx i))).toInt ≤ 64 := by
          unfold tN at e3
          by_cases k3 : X.k (X.nx (X.nx i)) = 3
          · rw [if_pos k3] at e3
            by_cases kb : 1 ≤ (X.v (X.nx (X.nx i))).toInt ∧ (X.v (X.nx (X.nx i))).toInt ≤ (i2j (if 64 ≤ 8 * tw F.ty - bit then 64 else 8 * tw F.ty - bit)).toInt
            · exact ⟨k3, kb.1, by omega⟩
            · rw [if_neg kb] at e3; exact absurd e3 (by simp)
          · rw [if_neg k3] at e3; exact absurd e3 (by simp)
        have g1 : X.nx i ≤ X.nx (X.nx i) := nx_ge
        have g2 : X.nx (X.nx i) ≤ X.nx (X.nx (X.nx i)) := nx_ge
        refine f_addEntry s3 (by omega) ⟨_, s3.r9, ?_⟩
        have e4 : gI (sI (sI (sJ (sJ σ3 106 dd ne (X.v i)) 107 dd ne (gJ σ3 610 p 0)) 108 dd ne bit) 109 dd 0 ((ne : Int) + 1)) 214 (fo Ss.length Fs.length) 0 = (F.es.length : Int) := by
          rw [gI_sI, if_neg (by simp), gI_sI, if_neg (by simp), gI_sJ, gI_sJ]
          obtain ⟨_, _, q, _⟩ := s3.fc.es; exact q
        rw [e4]
        refine ⟨⟨by omega, by omega⟩, _, rfl, h1 (X.nx (X.nx (X.nx i)), F.wEs (F.es ++ [(X.v i, X.v (X.nx (X.nx i)), bit)]), bit + (X.v (X.nx (X.nx i))).toInt) ?_ _ ?_ ?_ ?_ ?_ app_l hk rfl c12 ?_⟩
        · rw [rp, e3, bx_ok]
        · rw [e6]
          exact s3.add (Or.inl hk) (by omega) rfl
        · show bit + _ = bit + (gJ σ3 610 p 0).toInt
          rw [e6]
        · show 1 ≤ (gJ σ3 610 p 0).toInt
          rw [e6]; exact bds.2.1
        · show (gJ σ3 610 p 0).toInt ≤ 64
          rw [e6]; exact bds.2.2
        · show i < X.nx (X.nx (X.nx i))
          omega
      · rw [show (1 : Int64).toInt = 1 from rfl] at e3
        rw [rp, e3, bx_er]
    · unfold rPart
      rw [eO, bx_ok, if_pos (by omega)]
      show bx (tk X (X.nx i) 58) _ = _
      rw [e2, bx_er]
    · unfold rPart
      rw [eO, bx_ok, if_neg (by omega)]
  have s40 : ∀ y : Int, X.k i = 2 → (y = 0 ∧ (Fs ++ [F]).any (tf (X.v i)) = true ∨ y = 1 ∧ ¬ (Fs ++ [F]).any (tf (X.v i)) = true) → AW g l (d + 1) MX6_readPart 40 [some (vR 6 (some p)), some (vI bit), some (vJ (X.v i)), none] [vI y, vR 6 (some p)] σ (fun v σ' => ∃ r, v = some (vI r) ∧ P r σ') := by
    intro y k2 hy
    refine bk_X6_readPart_40 ⟨p, rfl, c_check hX h.T (by omega) (fun q => ⟨fun z => absurd z (by decide), fun _ => ⟨_, h.r9, ?_⟩⟩) (fun q σ2 hF2 hf => ⟨fun _ => ⟨_, rfl, h0 (ck X i 3) ?_ σ2 (h.er hF2 hf)⟩, fun z => absurd rfl z⟩)⟩
    · rw [e214]
      have eO : tO X Fs F i = .ok (X.nx i, X.v i) := by unfold tO; rw [if_pos k2, if_neg (by rcases hy with hy | hy; omega; exact hy.2)]
      exact ⟨fun z => s65 0 eO k2 (by omega), fun z => s65 1 eO k2 (by omega)⟩
    · unfold rPart tO
      rw [if_pos k2, if_pos (by rcases hy with hy | hy; exact hy.2; omega), bx_er]
  have s19 : ∀ y : Int, (y = 1 ∧ X.k i = 2 ∨ y = 0 ∧ ¬ X.k i = 2) → AW g l (d + 1) MX6_readPart 19 [some (vR 6 (some p)), some (vI bit), some (vJ (X.v i)), none] [vI y, vR 6 (some p)] σ (fun v σ' => ∃ r, v = some (vI r) ∧ P r σ') := by
    intro y hy
    refine bk_X6_readPart_19 ⟨p, rfl, c_check hX h.T (by omega) (fun q => ⟨fun z => absurd z (by decide), fun _ => ?_⟩) (fun q σ2 hF2 hf => ⟨fun _ => ⟨_, rfl, h0 (ck X i 2) ?_ σ2 (h.er hF2 hf)⟩, fun z => absurd rfl z⟩)⟩
    · exact f_isTold (by omega) hX h (fun z => ⟨fun _ => s40 0 (by omega) (Or.inl ⟨rfl, z⟩), fun q => absurd q (by decide)⟩) (fun z => ⟨fun q => absurd rfl q, fun _ => s40 1 (by omega) (Or.inr ⟨rfl, z⟩)⟩)
    · unfold rPart tO
      rw [if_neg (by omega), bx_er]
  refine AC.of mo_X6_readPart (Nat.le_of_ble_eq_true rfl) (bk_X6_readPart_0 ?_)
  rw [ek, ev]
  exact ⟨fun z => s19 0 (by omega), fun z => s19 1 (by omega)⟩
theorem c_bits {P : Int → St → Prop} (hD : 122 ≤ D) (hX : X.OK) (h : FS σ0 σ p t dd c so fo X En Ss Fs i 0 ne F) (he : F.es = []) (hk : ¬ X.k i = 0) (hp : ∀ v σ', RQ σ0 p t dd c so fo X En Ss Fs (rBits X Fs F i) v σ' → P v σ') : ACi g l D MX6_readBits [vR 6 (some p)] σ P := by
  obtain ⟨d, rfl⟩ : ∃ d, D = d + 1 := ⟨D - 1, by omega⟩
  have fin : ∀ (r : Nat × Fld) (σ1 : St) (ne1 : Nat), FS σ0 σ1 p t dd c so fo X En Ss Fs r.1 0 ne1 r.2 → (∀ v σ', RQ σ0 p t dd c so fo X En Ss Fs (bx (tk X r.1 125) (fun j2 => .ok (j2, r.2))) v σ' → P v σ') → ACi g l d MX6_take [vR 6 (some p), vI 125] σ1 (fun v3 σ2 => ((v3 = 0 ∨ v3 = 1) ∧ ∃ r, some (vI v3) = some (vI r) ∧ P r σ2)) := by
    intro r σ1 ne1 s1 hP
    exact f_take (by omega) hX s1 (by decide) (fun e σ2 s2 => ⟨Or.inr rfl, _, rfl, hP 1 σ2 (by rw [e, bx_ok]; exact ⟨rfl, _, _, s2⟩)⟩) (fun e σ2 er => ⟨Or.inl rfl, _, rfl, hP 0 σ2 (by rw [e, bx_er]; exact ⟨rfl, er⟩)⟩)
  have loop : ∀ (f : Nat) (F1 : Fld) (bit : Int) (i1 ne1 : Nat) (σ1 : St) (x3 : Int), FS σ0 σ1 p t dd c so fo X En Ss Fs i1 0 ne1 F1 → F1.ki = 3 → (0 ≤ tw F1.ty ∧ tw F1.ty ≤ 15) → 0 ≤ bit → bit ≤ 64 * F1.es.length → x3 = F1.es.length → F1.es.length + f = 13 → F1.es.length ≤ 12 → (∀ v σ', RQ σ0 p t dd c so fo X En Ss Fs (bx (rParts X Fs f F1 bit i1) (fun r2 => bx (tk X r2.1 125) (fun j2 => .ok (j2, r2.2)))) v σ' → P v σ') →
      AW g l (d + 1) MX6_readBits 57 [some (vR 6 (some p)), some (vI bit), some (vI 1), some (vI x3)] [] σ1 (fun v σ' => ∃ r, v = some (vI r) ∧ P r σ') := by
    intro f
    induction f with
    | zero => intro F1 bit i1 ne1 σ1 x3 _ _ _ _ _ _ hf h12; omega
    | succ f ih =>
      intro F1 bit i1 ne1 σ1 x3 s1 k3 hw b0 b1 hx hf h12 hP
      rw [rParts] at hP
      refine bk_X6_readBits_57 ⟨fun z => absurd z (by omega), fun _ => ⟨fun z => absurd z (by decide), fun _ => c_part (by omega) hX s1 k3 (by omega) hw (fun r e σ2 s2 eb e1 e64 el ek et e12 ei => ⟨fun _ => ?_, fun z => absurd z (by decide)⟩) (fun e e1 σ2 er => ⟨fun z => absurd rfl z, fun _ => ⟨_, rfl, hP 0 σ2 ?_⟩⟩)⟩⟩
      · have ej : j2i (gJ σ2 610 p 0) = (gJ σ2 610 p 0).toInt := by rw [j2i_eq, w32_id (by omega) (by omega)]
        rw [ej, ← eb]
        rw [e, bx_ok] at hP
        refine ⟨⟨by omega, by omega⟩, fun z11 hz => ?_⟩
        rw [hz]
        refine f_takeIf (by omega) hX s2 (by decide) (fun k44 σ3 s3 => ⟨⟨by omega, by omega⟩, ?_⟩) (fun k44 => ⟨⟨by omega, by omega⟩, ?_⟩)
        · rw [if_pos k44] at hP
          refine ih r.2.1 r.2.2 (X.nx r.1) (ne1 + 1) σ3 (x3 + 1) s3 ek (by rw [et]; exact hw) (by omega) (by omega) (by omega) (by omega) (by omega) hP
        · rw [if_neg k44] at hP
          refine bk_X6_readBits_57 ⟨fun _ => fin (r.1, r.2.1) σ2 (ne1 + 1) s2 hP, fun _ => ⟨fun _ => fin (r.1, r.2.1) σ2 (ne1 + 1) s2 hP, fun z => absurd rfl z⟩⟩
      · rw [e1, bx_er]
        exact ⟨rfl, er⟩
  have s0 := h.wK3 (v := 3) (w := gI σ 109 dd 0) he rfl
  refine AC.of mo_X6_readBits (Nat.le_of_ble_eq_true rfl) (bk_X6_readBits_0 ⟨_, h.r9, dd, h.2.1.2.1, f_pass hX s0 hk (fun σ1 s1 => f_takeType (by omega) hX s1 (fun e1 σ2 s2 => ⟨fun z => absurd z (by decide), fun _ => f_ownName (by omega) hX s2 (fun e2 _ σ3 s3 => ⟨fun z => absurd z (by decide), fun _ => f_take (by omega) hX s3 (by decide) (fun e3 σ4 s4 => ⟨fun _ => ?_, fun z => absurd z (by decide)⟩) (fun e3 σ4 er => ⟨fun z => absurd rfl z, fun _ => ⟨_, rfl, hp 0 σ4 ?_⟩⟩)⟩) (fun e e2 σ3 er => ⟨fun _ => ⟨_, rfl, hp 0 σ3 ?_⟩, fun z => absurd rfl z⟩)⟩) (fun e1 σ2 er => ⟨fun _ => ⟨_, rfl, hp 0 σ2 ?_⟩, fun z => absurd rfl z⟩))⟩)
  · have hty : 0 ≤ tw (X.v (X.nx i)) ∧ tw (X.v (X.nx i)) ≤ 15 := by unfold tw; omega
    refine loop 13 (((F.wKi 3).wTy (X.v (X.nx i))).wNm (X.v (X.nx (X.nx i)))) 0 _ ne σ4 0 s4 rfl hty (by omega) (by omega) (by show (0 : Int) = (F.es.length : Int); rw [he]; rfl) (by show F.es.length + 13 = 13; rw [he]; rfl) (by show F.es.length ≤ 12; rw [he]; exact Nat.zero_le _) (fun v σ' hR => hp v σ' ?_)
    rw [rBits, e1, bx_ok]
    show RQ σ0 p t dd c so fo X En Ss Fs (bx (tO X Fs ((F.wKi 3).wTy (X.v (X.nx i))) (X.nx (X.nx i))) _) v σ'
    rw [e2, bx_ok]
    show RQ σ0 p t dd c so fo X En Ss Fs (bx (tk X (X.nx (X.nx (X.nx i))) 123) _) v σ'
    rw [e3, bx_ok]
    exact hR
  · rw [rBits, e1, bx_ok]
    show RQ σ0 p t dd c so fo X En Ss Fs (bx (tO X Fs ((F.wKi 3).wTy (X.v (X.nx i))) (X.nx (X.nx i))) _) 0 σ4
    rw [e2, bx_ok]
    show RQ σ0 p t dd c so fo X En Ss Fs (bx (tk X (X.nx (X.nx (X.nx i))) 123) _) 0 σ4
    rw [e3, bx_er]
    exact ⟨rfl, er⟩
  · rw [rBits, e1, bx_ok]
    show RQ σ0 p t dd c so fo X En Ss Fs (bx (tO X Fs ((F.wKi 3).wTy (X.v (X.nx i))) (X.nx (X.nx i))) _) 0 σ3
    rw [e2, bx_er]
    exact ⟨rfl, er⟩
  · rw [rBits, e1, bx_er]
    exact ⟨rfl, er⟩
end X20
