/-! the class's cores, on: union, pointer, pad, magic, sum -/
section X22
variable {g : GP} {l : Launch} {D : Nat} {σ0 σ : St} {p t dd c : Nat} {so : Nat → Nat} {fo : Nat → Nat → Nat} {X : Txt} {En : List Enm} {Ss : List Stc} {Fs : List Fld} {i ne : Nat} {F : Fld}
theorem c_union {P : Int → St → Prop} (hD : 122 ≤ D) (hX : X.OK) (hB : EsB Fs) (h : FS σ0 σ p t dd c so fo X En Ss Fs i 0 ne F) (he : F.es = []) (hk : ¬ X.k i = 0) (hp : ∀ v σ', RQ σ0 p t dd c so fo X En Ss Fs (rUnion X Ss Fs F i) v σ' → P v σ') : ACi g l D MX6_readUnion [vR 6 (some p)] σ P := by
  obtain ⟨d, rfl⟩ : ∃ d, D = d + 1 := ⟨D - 1, by omega⟩
  have s20 := h.env.2.2.1
  have f14 := h.2.2.2.2.2.1
  have s131 : ∀ (r : Nat × Fld) (σ1 : St) (ne1 : Nat), FS σ0 σ1 p t dd c so fo X En Ss Fs r.1 0 ne1 r.2 → (∀ v σ', RQ σ0 p t dd c so fo X En Ss Fs (if X.k r.1 = 209 then bx (tI X (Ss.map (fun s => s.1)) (X.nx r.1)) (fun o => bx (tk X o.1 59) (fun j3 => bx (tk X j3 125) (fun j4 => .ok (j4, r.2.wOt o.2)))) else bx (tk X r.1 125) (fun j4 => .ok (j4, r.2))) v σ' → P v σ') → AW g l (d + 1) MX6_readUnion 131 [some (vR 6 (some p)), none, none] [] σ1 (fun v σ' => ∃ r, v = some (vI r) ∧ P r σ') := by
    intro r σ1 ne1 s1 hP
    refine bk_X6_readUnion_131 (f_takeIf (by omega) hX s1 (by decide) (fun k σ2 s2 => ⟨fun z => absurd z (by decide), fun _ => ?_⟩) (fun k => ⟨fun _ => ?_, fun z => absurd rfl z⟩))
    · rw [if_pos k] at hP
      refine f_takeStruct (by omega) hX s2 (fun v e1 v0 σ3 s3 => ⟨_, s2.r9, _, s3.r9, ?_⟩) (fun e e1 σ3 er => ⟨_, s2.r9, _, er.2.2, fun _ => ⟨_, rfl, hP 0 _ ?_⟩, fun z => absurd (gI_slf _ _ _ _ _) z⟩)
      · rw [e1, bx_ok] at hP
        have hP : ∀ v' σ', RQ σ0 p t dd c so fo X En Ss Fs (bx (tk X (X.nx (X.nx r.1)) 59) (fun j3 => bx (tk X j3 125) (fun j4 => .ok (j4, r.2.wOt v)))) v' σ' → P v' σ' := hP
        rw [gI_slf]
        have s4 := s3.wI (f := 212) (v := v) (by omega) s3.fc.wOt rfl rfl
        refine ⟨fun z => absurd z (by omega), fun _ => f_take (by omega) hX s4 (by decide) (fun e2 σ5 s5 => ⟨fun _ => f_take (by omega) hX s5 (by decide) (fun e3 σ6 s6 => ⟨Or.inr rfl, _, rfl, hP 1 σ6 ?_⟩) (fun e3 σ6 er => ⟨Or.inl rfl, _, rfl, hP 0 σ6 ?_⟩), fun z => absurd z (by decide)⟩) (fun e2 σ5 er => ⟨fun z => absurd rfl z, fun _ => ⟨_, rfl, hP 0 σ5 ?_⟩⟩)⟩
        · rw [e2, bx_ok, e3, bx_ok]; exact ⟨rfl, _, _, s6⟩
        · rw [e2, bx_ok, e3, bx_er]; exact ⟨rfl, er⟩
        · rw [e2, bx_er]; exact ⟨rfl, er⟩
      · rw [e1, bx_er]; exact ⟨rfl, er.w s20 f14 (by omega)⟩
    · rw [if_neg k] at hP
      exact f_take (by omega) hX s1 (by decide) (fun e σ2 s2 => ⟨Or.inr rfl, _, rfl, hP 1 σ2 (by rw [e, bx_ok]; exact ⟨rfl, _, _, s2⟩)⟩) (fun e σ2 er => ⟨Or.inl rfl, _, rfl, hP 0 σ2 (by rw [e, bx_er]; exact ⟨rfl, er⟩)⟩)
  have loop : ∀ (f : Nat) (F1 : Fld) (i1 ne1 : Nat) (σ1 : St) (x2 : Int), FS σ0 σ1 p t dd c so fo X En Ss Fs i1 0 ne1 F1 → F1.ki = 6 → x2 = F1.es.length → F1.es.length + f = 9 → F1.es.length ≤ 8 → (∀ v σ', RQ σ0 p t dd c so fo X En Ss Fs (bx (rCases X Ss f F1 i1) (fun r => if X.k r.1 = 209 then bx (tI X (Ss.map (fun s => s.1)) (X.nx r.1)) (fun o => bx (tk X o.1 59) (fun j3 => bx (tk X j3 125) (fun j4 => .ok (j4, r.2.wOt o.2)))) else bx (tk X r.1 125) (fun j4 => .ok (j4, r.2)))) v σ' → P v σ') →
      AW g l (d + 1) MX6_readUnion 83 [some (vR 6 (some p)), some (vI 1), some (vI x2)] [] σ1 (fun v σ' => ∃ r, v = some (vI r) ∧ P r σ') := by
    intro f
    induction f with
    | zero => intro F1 i1 ne1 σ1 x2 _ _ _ hf h8; omega
    | succ f ih =>
      intro F1 i1 ne1 σ1 x2 s1 k6 hx hf h8 hP
      rw [rCases] at hP
      refine bk_X6_readUnion_83 ⟨fun z => absurd z (by omega), fun _ => ⟨fun z => absurd z (by decide), fun _ => c_case (by omega) hX s1 k6 (fun r e σ2 s2 el ek e8 => ⟨fun _ => ?_, fun z => absurd z (by decide)⟩) (fun e e1 σ2 er => ⟨fun z => absurd rfl z, fun _ => ⟨_, rfl, hP 0 σ2 ?_⟩⟩)⟩⟩
      · rw [e, bx_ok] at hP
        rw [s2.k]
        have go : (X.k r.1 = 3 ∨ X.k r.1 = 45) → R32 (x2 + 1) ∧ AW g l (d + 1) MX6_readUnion 83 [some (vR 6 (some p)), some (vI 1), some (vI (x2 + 1))] [] σ2 (fun v σ' => ∃ r, v = some (vI r) ∧ P r σ') := fun q => by
          rw [if_pos q] at hP
          exact ⟨⟨by omega, by omega⟩, ih r.2 r.1 (ne1 + 1) σ2 (x2 + 1) s2 ek (by omega) (by omega) (by omega) hP⟩
        refine ⟨fun q => go (Or.inl q), fun q => ⟨fun q2 => ⟨⟨by omega, by omega⟩, ?_⟩, fun q2 => go (Or.inr q2)⟩⟩
        rw [if_neg (by omega), bx_ok] at hP
        have s131' := s131 r σ2 (ne1 + 1) s2 hP
        exact bk_X6_readUnion_83 ⟨fun _ => s131', fun _ => ⟨fun _ => s131', fun z => absurd rfl z⟩⟩
      · rw [e1, bx_er, bx_er]; exact ⟨rfl, er⟩
  have s0 := h.wK3 (v := 6) (w := gI σ 109 dd 0) he rfl
  refine AC.of mo_X6_readUnion (Nat.le_of_ble_eq_true rfl) (bk_X6_readUnion_0 ⟨_, h.r9, dd, h.2.1.2.1, f_pass hX s0 hk (fun σ1 s1 => f_ownName (by omega) hX s1 (fun e1 _ σ2 s2 => ⟨fun z => absurd z (by decide), fun _ => f_take (by omega) hX s2 (by decide) (fun e2 σ3 s3 => ⟨fun _ => ?_, fun z => absurd z (by decide)⟩) (fun e2 σ3 er => ⟨fun z => absurd rfl z, fun _ => ⟨_, rfl, hp 0 σ3 ?_⟩⟩)⟩) (fun e e1 σ2 er => ⟨fun _ => ⟨_, rfl, hp 0 σ2 ?_⟩, fun z => absurd rfl z⟩))⟩)
  · have r0 := show rUnion X Ss Fs F i = _ from rfl
    unfold rUnion at hp
    rw [e1, bx_ok] at hp
    have hp : ∀ v σ', RQ σ0 p t dd c so fo X En Ss Fs (bx (tk X (X.nx (X.nx i)) 208) (fun j => bx (rx X Fs j) (fun e => bx (tk X e.1 123) (fun j2 => bx (rCases X Ss 9 (((F.wKi 6).wNm (X.v (X.nx i))).wE1 (some e.2)) j2) (fun r => if X.k r.1 = 209 then bx (tI X (Ss.map (fun s => s.1)) (X.nx r.1)) (fun o => bx (tk X o.1 59) (fun j3 => bx (tk X j3 125) (fun j4 => .ok (j4, r.2.wOt o.2)))) else bx (tk X r.1 125) (fun j4 => .ok (j4, r.2))))))) v σ' → P v σ' := hp
    rw [e2, bx_ok] at hp
    refine f_rx (by omega) hX hB s3 (fun i' N e σ4 b s4 hx => ⟨_, s3.r9, _, s4.r9, ?_⟩) (fun e e3 σ4 er => ⟨_, s3.r9, _, er.2.2, fun _ => ⟨_, rfl, hp 0 _ ?_⟩, fun z => absurd (gI_slf _ _ _ _ _) z⟩)
    · rw [e, bx_ok] at hp
      have hp : ∀ v σ', RQ σ0 p t dd c so fo X En Ss Fs (bx (tk X i' 123) (fun j2 => bx (rCases X Ss 9 (((F.wKi 6).wNm (X.v (X.nx i))).wE1 (some N)) j2) (fun r => if X.k r.1 = 209 then bx (tI X (Ss.map (fun s => s.1)) (X.nx r.1)) (fun o => bx (tk X o.1 59) (fun j3 => bx (tk X j3 125) (fun j4 => .ok (j4, r.2.wOt o.2)))) else bx (tk X r.1 125) (fun j4 => .ok (j4, r.2))))) v σ' → P v σ' := hp
      rw [gI_slf]
      have s5 := s4.wI (f := 209) (by omega) (s4.fc.wE1 hx) rfl rfl
      refine ⟨fun z => absurd z nat_m1, fun _ => f_take (by omega) hX s5 (by decide) (fun e3 σ5 s6 => ⟨fun _ => ?_, fun z => absurd z (by decide)⟩) (fun e3 σ5 er => ⟨fun z => absurd rfl z, fun _ => ⟨_, rfl, hp 0 σ5 ?_⟩⟩)⟩
      · rw [e3, bx_ok] at hp
        exact loop 9 _ _ ne σ5 0 s6 rfl (by show (0 : Int) = (F.es.length : Int); rw [he]; rfl) (by show F.es.length + 9 = 9; rw [he]; rfl) (by show F.es.length ≤ 8; rw [he]; exact Nat.zero_le _) hp
      · rw [e3, bx_er]; exact ⟨rfl, er⟩
    · rw [e3, bx_er]; exact ⟨rfl, er.w s20 f14 (by omega)⟩
  · rw [rUnion, e1, bx_ok]
    show RQ σ0 p t dd c so fo X En Ss Fs (bx (tk X (X.nx (X.nx i)) 208) _) 0 σ3
    rw [e2, bx_er]; exact ⟨rfl, er⟩
  · rw [rUnion, e1, bx_er]; exact ⟨rfl, er⟩
theorem c_ptr {P : Int → St → Prop} (hD : 122 ≤ D) (hX : X.OK) (hB : EsB Fs) (h : FS σ0 σ p t dd c so fo X En Ss Fs i 0 ne F) (h1n : F.e1 = none) (hk : ¬ X.k i = 0) (hp : ∀ v σ', RQ σ0 p t dd c so fo X En Ss Fs (rPtr X Fs F i) v σ' → P v σ') : ACi g l D MX6_readPointer [vR 6 (some p)] σ P := by
  obtain ⟨d, rfl⟩ : ∃ d, D = d + 1 := ⟨D - 1, by omega⟩
  have s20 := h.env.2.2.1
  have f14 := h.2.2.2.2.2.1
  have h3 := hX.h3
  have hKn := hX.hKn
  have s119 : ∀ (F1 : Fld) (j a ne1 : Nat) (σ1 : St), FS σ0 σ1 p t dd c so fo X En Ss Fs j a ne1 F1 → (∀ v σ', RQ σ0 p t dd c so fo X En Ss Fs (if X.k j = 213 then bx (tN X (X.nx j) 1 4096) (fun n => .ok (n.1, F1.wNu n.2)) else .ok (j, F1)) v σ' → P v σ') → AW g l (d + 1) MX6_readPointer 119 [some (vR 6 (some p))] [] σ1 (fun v σ' => ∃ r, v = some (vI r) ∧ P r σ') := by
    intro F1 j a ne1 σ1 s1 hP
    refine bk_X6_readPointer_119 (f_takeIf (by omega) hX s1 (by decide) (fun k σ2 s2 => ⟨fun z => absurd z (by decide), fun _ => ⟨_, s2.r9, ?_⟩⟩) (fun k => ⟨fun _ => ⟨_, rfl, hP 1 σ1 (by rw [if_neg k]; exact ⟨rfl, _, _, s1⟩)⟩, fun z => absurd rfl z⟩))
    rw [if_pos k] at hP
    have s3 := s2.wJ (f := 211) (v := gJ σ2 605 p 0) (by omega) s2.fc.wNu rfl rfl
    refine f_takeNumber (by omega) hX s3 (fun e3 σ4 s4 e6 => ⟨Or.inr rfl, _, rfl, hP 1 σ4 ?_⟩) (fun e e3 σ4 er => ⟨Or.inl rfl, _, rfl, hP 0 σ4 ?_⟩)
    · rw [show (1 : Int64).toInt = 1 from rfl, show (4096 : Int64).toInt = 4096 from rfl] at e3
      rw [e3, bx_ok]
      rw [s2.v] at s4
      exact ⟨rfl, _, _, s4⟩
    · rw [show (1 : Int64).toInt = 1 from rfl, show (4096 : Int64).toInt = 4096 from rfl] at e3
      rw [e3, bx_er]; exact ⟨rfl, er⟩
  have s0 := (h.wK (v := 7) (by decide)).wJ (f := 211) (v := 1) (by omega) (h.wK (v := 7) (by decide)).fc.wNu rfl rfl
  refine AC.of mo_X6_readPointer (Nat.le_of_ble_eq_true rfl) (bk_X6_readPointer_0 ⟨_, h.r9, f_pass hX s0 hk (fun σ1 s1 => ⟨_, s1.r9, t, s1.T.1, s1.T.2.1, ?_⟩)⟩)
  have p3 := s1.T.2.2.2.2.1
  have pK := s1.T.2.2.2.1
  have pat := (s1.T.at pK).2.1
  rw [show (gI σ1 603 p 0).toNat = X.nx i by omega, pat, s1.v]
  have s2 := s1.r (F' := ((F.wKi 7).wNu 1).wAm (X.v (X.nx i)) (X.q (X.nx i))) ((Frm.sJ (by simp)).trans (Frm.sI (by simp))) (s1.fc.wAm (v := X.v (X.nx i)) (w := X.q (X.nx i))) (fun q => absurd q (by show ¬ ((7 : Int) = 3 ∨ (7 : Int) = 6 ∨ (7 : Int) = 9); decide))
  refine ⟨⟨by omega, by omega⟩, f_take (by omega) hX s2 (by decide) (fun e1 σ3 s3 => ⟨fun z => absurd z (by decide), fun _ => f_ownName (by omega) hX s3 (fun e2 _ σ4 s4 => ⟨fun z => absurd z (by decide), fun _ => f_take (by omega) hX s4 (by decide) (fun e3 σ5 s5 => ⟨fun z => absurd z (by decide), fun _ => f_takeType (by omega) hX s5 (fun e4 σ6 s6 => ⟨fun _ => ?_, fun z => absurd z (by decide)⟩) (fun e4 σ6 er => ⟨fun z => absurd rfl z, fun _ => ⟨_, rfl, hp 0 σ6 ?_⟩⟩)⟩) (fun e3 σ5 er => ⟨fun _ => ⟨_, rfl, hp 0 σ5 ?_⟩, fun z => absurd rfl z⟩)⟩) (fun e e2 σ4 er => ⟨fun _ => ⟨_, rfl, hp 0 σ4 ?_⟩, fun z => absurd rfl z⟩)⟩) (fun e1 σ3 er => ⟨fun _ => ⟨_, rfl, hp 0 σ3 ?_⟩, fun z => absurd rfl z⟩)⟩
  · unfold rPtr at hp
    rw [e1, bx_ok, e2, bx_ok] at hp
    simp only [e3, bx_ok, e4] at hp
    refine f_takeIf (by omega) hX s6 (by decide) (fun k σ7 s7 => ⟨fun z => absurd z (by decide), fun _ => ?_⟩) (fun k => ⟨fun _ => ?_, fun z => absurd rfl z⟩)
    · rw [if_pos k] at hp
      refine f_rx (by omega) hX hB s7 (fun i' N e σ8 b s8 hx => ⟨_, s7.r9, _, s8.r9, ?_⟩) (fun e e5 σ8 er => ⟨_, s7.r9, _, er.2.2, fun z => absurd (gI_slf _ _ _ _ _) z, fun _ => ⟨_, rfl, hp 0 _ ?_⟩⟩)
      · rw [e, bx_ok, bx_ok] at hp
        rw [gI_slf]
        have s9 := s8.wI (f := 209) (by omega) (s8.fc.wE1 hx) rfl rfl
        exact ⟨fun _ => s119 _ i' 1 ne _ s9 hp, fun z => absurd z nat_m1⟩
      · rw [e5, bx_er, bx_er]; exact ⟨rfl, er.w s20 f14 (by omega)⟩
    · rw [if_neg k, bx_ok] at hp
      refine s119 _ _ 0 ne σ6 s6 ?_
      have ee : ((((((F.wKi 7).wNu 1).wAm (X.v (X.nx i)) (X.q (X.nx i))).wNm (X.v (X.nx (X.nx i)))).wTy (X.v (X.nx (X.nx (X.nx (X.nx i)))))) : Fld) = (((((F.wKi 7).wNu 1).wAm (X.v (X.nx i)) (X.q (X.nx i))).wNm (X.v (X.nx (X.nx i)))).wTy (X.v (X.nx (X.nx (X.nx (X.nx i)))))).wE1 none := by
        show (7, _, _, _, _, _, F.e1, _, _, _, _, _, _) = (7, _, _, _, _, _, none, _, _, _, _, _, _)
        rw [h1n]
      rw [ee]
      exact hp
  · unfold rPtr
    rw [e1, bx_ok, e2, bx_ok]
    simp only [e3, bx_ok, e4, bx_er]
    exact ⟨rfl, er⟩
  · unfold rPtr
    rw [e1, bx_ok, e2, bx_ok]
    simp only [e3, bx_er]
    exact ⟨rfl, er⟩
  · unfold rPtr
    rw [e1, bx_ok, e2, bx_er]
    exact ⟨rfl, er⟩
  · unfold rPtr
    rw [e1, bx_er]
    exact ⟨rfl, er⟩
theorem c_pad {P : Int → St → Prop} (hD : 122 ≤ D) (hX : X.OK) (h : FS σ0 σ p t dd c so fo X En Ss Fs i 0 ne F) (hk : ¬ X.k i = 0) (hp : ∀ v σ', RQ σ0 p t dd c so fo X En Ss Fs (rPad X F i) v σ' → P v σ') : ACi g l D MX6_readPad [vR 6 (some p)] σ P := by
  obtain ⟨d, rfl⟩ : ∃ d, D = d + 1 := ⟨D - 1, by omega⟩
  have s0 := h.wK (v := 8) (by decide)
  refine AC.of mo_X6_readPad (Nat.le_of_ble_eq_true rfl) (bk_X6_readPad_0 ⟨_, h.r9, f_pass hX s0 hk (fun σ1 s1 => ⟨_, s1.r9, ?_⟩)⟩)
  have s3 := s1.wJ (f := 211) (v := gJ σ1 605 p 0) (by omega) s1.fc.wNu rfl rfl
  refine f_takeNumber (by omega) hX s3 (fun e3 σ4 s4 e6 => ⟨Or.inr rfl, _, rfl, hp 1 σ4 ?_⟩) (fun e e3 σ4 er => ⟨Or.inl rfl, _, rfl, hp 0 σ4 ?_⟩)
  · rw [show (1 : Int64).toInt = 1 from rfl, show (64 : Int64).toInt = 64 from rfl] at e3
    rw [rPad, e3, bx_ok]
    rw [s1.v] at s4
    exact ⟨rfl, _, _, s4⟩
  · rw [show (1 : Int64).toInt = 1 from rfl, show (64 : Int64).toInt = 64 from rfl] at e3
    rw [rPad, e3, bx_er]; exact ⟨rfl, er⟩
theorem c_byte {P : Int → St → Prop} (hD : 121 ≤ D) (hX : X.OK) (h : FS σ0 σ p t dd c so fo X En Ss Fs i 0 ne F) (hk : F.ki = 9)
    (h1 : ∀ r, rByte X F i = .ok r → ∀ σ', FS σ0 σ' p t dd c so fo X En Ss Fs r.1 0 (ne + 1) r.2 → r.2.es.length = F.es.length + 1 → r.2.ki = 9 → F.es.length < 16 → P 1 σ')
    (h0 : ∀ e, rByte X F i = .error e → ∀ σ', ER σ0 σ' p dd c so fo (fo Ss.length Fs.length) e → P 0 σ') : ACi g l D MX6_readByte [vR 6 (some p)] σ P := by
  obtain ⟨d, rfl⟩ : ∃ d, D = d + 1 := ⟨D - 1, by omega⟩
  have ek := h.k
  have h3 := hX.h3
  have hKn := hX.hKn
  have hiK := h.T.2.2.2.1
  have h8 := h.2.2.2.2.2.2.2.1
  have e214 : gI σ 214 (fo Ss.length Fs.length) 0 = (F.es.length : Int) := by
    obtain ⟨_, _, q, _⟩ := h.fc.es; exact q
  have s100 : ∀ (σ1 : St) (v : Int64), FS σ0 σ1 p t dd c so fo X En Ss Fs (X.nx i) 0 ne F → ¬ X.k i = 0 → rByte X F i = .ok (X.nx i, F.wEs (F.es ++ [(0, v, 0)])) → F.es.length < 16 → AW g l (d + 1) MX6_readByte 100 [some (vR 6 (some p)), none] [vJ v, vJ 0, vR 1 (gR σ1 606 p 0)] σ1 (fun v σ' => ∃ r, v = some (vI r) ∧ P r σ') := by
    intro σ1 v s1 k0 er c16
    obtain ⟨x1, x2⟩ := nx_gt hX.k0 hiK k0
    refine bk_X6_readByte_100 ⟨dd, s1.2.1.2.1, f_addEntry s1 (by omega) ⟨_, s1.r9, ?_⟩⟩
    have e5 : gI (sI (sI (sJ (sJ σ1 106 dd ne 0) 107 dd ne v) 108 dd ne 0) 109 dd 0 ((ne : Int) + 1)) 214 (fo Ss.length Fs.length) 0 = (F.es.length : Int) := by
      rw [gI_sI, if_neg (by simp), gI_sI, if_neg (by simp), gI_sJ, gI_sJ]
      obtain ⟨_, _, q, _⟩ := s1.fc.es; exact q
    rw [e5]
    exact ⟨⟨by omega, by omega⟩, _, rfl, h1 _ er _ (s1.add (Or.inr (Or.inr hk)) (by omega) rfl) app_l hk c16⟩
  have s48 : ∀ y : Int, (X.k i = 3 ∨ X.k i = 42) → (y = 1 ∧ F.es.length < 16 ∨ y = 0 ∧ ¬ F.es.length < 16) → AW g l (d + 1) MX6_readByte 48 [some (vR 6 (some p)), none] [vI y, vR 6 (some p)] σ (fun v σ' => ∃ r, v = some (vI r) ∧ P r σ') := by
    intro y k hy
    refine bk_X6_readByte_48 ⟨p, rfl, c_check hX h.T (by omega) (fun q => ⟨fun _ => ?_, fun z => absurd z (by decide)⟩) (fun q σ2 hF2 hf => ⟨fun z => absurd rfl z, fun _ => ⟨_, rfl, h0 _ ?_ σ2 (h.er hF2 hf)⟩⟩)⟩
    · have c16 : F.es.length < 16 := by omega
      refine f_takeIf (by omega) hX h (by decide) (fun k42 σ1 s1 => ⟨fun _ => s100 σ1 (-1) s1 (by omega) ?_ c16, fun z => absurd z (by decide)⟩) (fun k42 => ⟨fun z => absurd rfl z, fun _ => f_takeNumber (by omega) hX h (fun e3 σ1 s1 e6 => ⟨fun _ => ?_, fun z => absurd z (by decide)⟩) (fun e e3 σ1 er => ⟨fun z => absurd rfl z, fun _ => ⟨_, rfl, h0 e ?_ σ1 er⟩⟩)⟩)
      · rw [rByte, if_pos k, if_pos c16, if_pos k42]
      · rw [e6]
        refine s100 σ1 _ s1 (by omega) ?_ c16
        rw [rByte, if_pos k, if_pos c16, if_neg k42]
        show bx (tN X i (0 : Int64).toInt (255 : Int64).toInt) _ = _
        rw [e3, bx_ok]
      · rw [rByte, if_pos k, if_pos c16, if_neg k42]
        show bx (tN X i (0 : Int64).toInt (255 : Int64).toInt) _ = _
        rw [e3, bx_er]
    · rw [rByte, if_pos k, if_neg (by omega)]
  have s23 : ∀ y : Int, (y = 1 ∧ (X.k i = 3 ∨ X.k i = 42) ∨ y = 0 ∧ ¬ (X.k i = 3 ∨ X.k i = 42)) → AW g l (d + 1) MX6_readByte 23 [some (vR 6 (some p)), none] [vI y, vR 6 (some p)] σ (fun v σ' => ∃ r, v = some (vI r) ∧ P r σ') := by
    intro y hy
    refine bk_X6_readByte_23 ⟨p, rfl, c_check hX h.T (by omega) (fun q => ⟨fun z => absurd z (by decide), fun _ => ⟨_, h.r9, ?_⟩⟩) (fun q σ2 hF2 hf => ⟨fun _ => ⟨_, rfl, h0 (ck X i 2) ?_ σ2 (h.er hF2 hf)⟩, fun z => absurd rfl z⟩)⟩
    · rw [e214]
      exact ⟨fun z => s48 0 (by omega) (by omega), fun z => s48 1 (by omega) (by omega)⟩
    · rw [rByte, if_neg (by omega)]
  refine AC.of mo_X6_readByte (Nat.le_of_ble_eq_true rfl) (bk_X6_readByte_0 ?_)
  rw [ek]
  exact ⟨fun z => s23 1 (by omega), fun z => ⟨fun z2 => s23 0 (by omega), fun z2 => s23 1 (by omega)⟩⟩
theorem c_magic {P : Int → St → Prop} (hD : 122 ≤ D) (hX : X.OK) (h : FS σ0 σ p t dd c so fo X En Ss Fs i 0 ne F) (he : F.es = []) (hk : ¬ X.k i = 0) (hp : ∀ v σ', RQ σ0 p t dd c so fo X En Ss Fs (rMagic X Fs F i) v σ' → P v σ') : ACi g l D MX6_readMagic [vR 6 (some p)] σ P := by
  obtain ⟨d, rfl⟩ : ∃ d, D = d + 1 := ⟨D - 1, by omega⟩
  have loop : ∀ (f : Nat) (F1 : Fld) (i1 ne1 : Nat) (σ1 : St) (x2 : Int), FS σ0 σ1 p t dd c so fo X En Ss Fs i1 0 ne1 F1 → F1.ki = 9 → x2 = F1.es.length → F1.es.length + f = 17 → F1.es.length ≤ 16 → (∀ v σ', RQ σ0 p t dd c so fo X En Ss Fs (rBytes X f F1 i1) v σ' → P v σ') →
      AW g l (d + 1) MX6_readMagic 49 [some (vR 6 (some p)), some (vI 1), some (vI x2)] [] σ1 (fun v σ' => ∃ r, v = some (vI r) ∧ P r σ') := by
    intro f
    induction f with
    | zero => intro F1 i1 ne1 σ1 x2 _ _ _ hf h8; omega
    | succ f ih =>
      intro F1 i1 ne1 σ1 x2 s1 k9 hx hf h16 hP
      rw [rBytes] at hP
      refine bk_X6_readMagic_49 ⟨fun z => absurd z (by omega), fun _ => ⟨fun z => absurd z (by decide), fun _ => c_byte (by omega) hX s1 k9 (fun r e σ2 s2 el ek e8 => ⟨fun _ => ?_, fun z => absurd z (by decide)⟩) (fun e e1 σ2 er => ⟨fun z => absurd rfl z, fun _ => ⟨_, rfl, hP 0 σ2 ?_⟩⟩)⟩⟩
      · rw [e, bx_ok] at hP
        rw [s2.k]
        have go : (X.k r.1 = 3 ∨ X.k r.1 = 42) → R32 (x2 + 1) ∧ AW g l (d + 1) MX6_readMagic 49 [some (vR 6 (some p)), some (vI 1), some (vI (x2 + 1))] [] σ2 (fun v σ' => ∃ r, v = some (vI r) ∧ P r σ') := fun q => by
          rw [if_pos q] at hP
          exact ⟨⟨by omega, by omega⟩, ih r.2 r.1 (ne1 + 1) σ2 (x2 + 1) s2 ek (by omega) (by omega) (by omega) hP⟩
        refine ⟨fun q => go (Or.inl q), fun q => ⟨fun q2 => ⟨⟨by omega, by omega⟩, ?_⟩, fun q2 => go (Or.inr q2)⟩⟩
        rw [if_neg (by omega)] at hP
        have done := hP 1 σ2 ⟨rfl, _, _, s2⟩
        exact bk_X6_readMagic_49 ⟨fun _ => ⟨_, rfl, done⟩, fun _ => ⟨fun _ => ⟨_, rfl, done⟩, fun z => absurd rfl z⟩⟩
      · rw [e1, bx_er]; exact ⟨rfl, er⟩
  have s0 := h.wK3 (v := 9) (w := gI σ 109 dd 0) he rfl
  refine AC.of mo_X6_readMagic (Nat.le_of_ble_eq_true rfl) (bk_X6_readMagic_0 ⟨_, h.r9, dd, h.2.1.2.1, f_pass hX s0 hk (fun σ1 s1 => f_ownName (by omega) hX s1 (fun e1 _ σ2 s2 => ⟨fun z => absurd z (by decide), fun _ => f_take (by omega) hX s2 (by decide) (fun e2 σ3 s3 => ⟨fun _ => ?_, fun z => absurd z (by decide)⟩) (fun e2 σ3 er => ⟨fun z => absurd rfl z, fun _ => ⟨_, rfl, hp 0 σ3 ?_⟩⟩)⟩) (fun e e1 σ2 er => ⟨fun _ => ⟨_, rfl, hp 0 σ2 ?_⟩, fun z => absurd rfl z⟩))⟩)
  · refine loop 17 _ _ ne σ3 0 s3 rfl (by show (0 : Int) = (F.es.length : Int); rw [he]; rfl) (by show F.es.length + 17 = 17; rw [he]; rfl) (by show F.es.length ≤ 16; rw [he]; exact Nat.zero_le _) (fun v σ' hR => hp v σ' ?_)
    unfold rMagic
    rw [e1, bx_ok]
    show RQ σ0 p t dd c so fo X En Ss Fs (bx (tk X (X.nx (X.nx i)) 61) _) v σ'
    rw [e2, bx_ok]
    exact hR
  · unfold rMagic
    rw [e1, bx_ok]
    show RQ σ0 p t dd c so fo X En Ss Fs (bx (tk X (X.nx (X.nx i)) 61) _) 0 σ3
    rw [e2, bx_er]; exact ⟨rfl, er⟩
  · rw [rMagic, e1, bx_er]; exact ⟨rfl, er⟩
theorem c_sum {P : Int → St → Prop} (hD : 122 ≤ D) (hX : X.OK) (hB : EsB Fs) (h : FS σ0 σ p t dd c so fo X En Ss Fs i 0 ne F) (hk : ¬ X.k i = 0) (hp : ∀ v σ', RQ σ0 p t dd c so fo X En Ss Fs (rSum X Fs F i) v σ' → P v σ') : ACi g l D MX6_readSum [vR 6 (some p)] σ P := by
  obtain ⟨d, rfl⟩ : ∃ d, D = d + 1 := ⟨D - 1, by omega⟩
  have s20 := h.env.2.2.1
  have f14 := h.2.2.2.2.2.1
  have s51 : ∀ (σ1 : St) (y : Int), FS σ0 σ1 p t dd c so fo X En Ss Fs (X.nx i) 0 ne ((F.wKi 10).wNu (i2j (X.k (X.nx i)))) → (y = 1 ∧ (217 ≤ X.k (X.nx i) ∧ X.k (X.nx i) ≤ 220) ∨ y = 0 ∧ ¬ (217 ≤ X.k (X.nx i) ∧ X.k (X.nx i) ≤ 220)) → AW g l (d + 1) MX6_readSum 51 [some (vR 6 (some p))] [vI y, vR 6 (some p)] σ1 (fun v σ' => ∃ r, v = some (vI r) ∧ P r σ') := by
    intro σ1 y s1 hy
    refine bk_X6_readSum_51 ⟨p, rfl, c_check hX s1.T (by omega) (fun q => ⟨fun _ => f_pass hX s1 (by omega) (fun σ2 s2 => ?_), fun z => absurd z (by decide)⟩) (fun q σ2 hF2 hf => ⟨fun z => absurd rfl z, fun _ => ⟨_, rfl, hp 0 σ2 ?_⟩⟩)⟩
    · have c1 : 217 ≤ X.k (X.nx i) ∧ X.k (X.nx i) ≤ 220 := by omega
      unfold rSum at hp
      rw [if_pos c1] at hp
      refine f_takeType (by omega) hX s2 (fun e1 σ3 s3 => ⟨fun z => absurd z (by decide), fun _ => f_ownName (by omega) hX s3 (fun e2 _ σ4 s4 => ⟨fun z => absurd z (by decide), fun _ => f_take (by omega) hX s4 (by decide) (fun e3 σ5 s5 => ⟨fun _ => ?_, fun z => absurd z (by decide)⟩) (fun e3 σ5 er => ⟨fun z => absurd rfl z, fun _ => ⟨_, rfl, hp 0 σ5 ?_⟩⟩)⟩) (fun e e2 σ4 er => ⟨fun _ => ⟨_, rfl, hp 0 σ4 ?_⟩, fun z => absurd rfl z⟩)⟩) (fun e1 σ3 er => ⟨fun _ => ⟨_, rfl, hp 0 σ3 ?_⟩, fun z => absurd rfl z⟩)
      · simp only [e1, bx_ok, e2, e3] at hp
        refine f_rx (by omega) hX hB s5 (fun i' N e σ6 b s6 hx => ⟨_, s5.r9, _, s6.r9, ?_⟩) (fun e e4 σ6 er => ⟨_, s5.r9, _, er.2.2, fun _ => ⟨_, rfl, hp 0 _ ?_⟩, fun z => absurd (gI_slf _ _ _ _ _) z⟩)
        · rw [gI_slf]
          have s7 := s6.wI (f := 209) (by omega) (s6.fc.wE1 hx) rfl rfl
          simp only [e, bx_ok] at hp
          refine ⟨fun z => absurd z nat_m1, fun _ => f_take (by omega) hX s7 (by decide) (fun e4 σ7 s8 => ⟨fun _ => ?_, fun z => absurd z (by decide)⟩) (fun e4 σ7 er => ⟨fun z => absurd rfl z, fun _ => ⟨_, rfl, hp 0 σ7 ?_⟩⟩)⟩
          · simp only [e4, bx_ok] at hp
            refine f_rx (by omega) hX hB s8 (fun i2 N2 e5 σ8 b2 s9 hx2 => ⟨_, s8.r9, _, s9.r9, ?_⟩) (fun e5 e6 σ8 er => ⟨_, s8.r9, _, er.2.2, fun _ => ⟨_, rfl, hp 0 _ ?_⟩, fun z => absurd (gI_slf _ _ _ _ _) z⟩)
            · rw [gI_slf]
              have s10 := s9.wI (f := 210) (by omega) (s9.fc.wE2 hx2) rfl rfl
              simp only [e5, bx_ok] at hp
              exact ⟨fun z => absurd z nat_m1, fun _ => ⟨_, rfl, hp 1 _ ⟨rfl, _, _, s10⟩⟩⟩
            · rw [e6, bx_er]; exact ⟨rfl, er.w s20 f14 (by omega)⟩
          · rw [e4, bx_er]; exact ⟨rfl, er⟩
        · rw [e4, bx_er]; exact ⟨rfl, er.w s20 f14 (by omega)⟩
      · simp only [e1, bx_ok, e2, e3, bx_er]; exact ⟨rfl, er⟩
      · simp only [e1, bx_ok, e2, bx_er]; exact ⟨rfl, er⟩
      · simp only [e1, bx_er]; exact ⟨rfl, er⟩
    · rw [rSum, if_neg (by omega)]; exact ⟨rfl, s1.er hF2 hf⟩
  have s0 := h.wK (v := 10) (by decide)
  refine AC.of mo_X6_readSum (Nat.le_of_ble_eq_true rfl) (bk_X6_readSum_0 ⟨_, h.r9, f_pass hX s0 hk (fun σ1 s1 => ⟨_, s1.r9, ?_⟩)⟩)
  rw [s1.k]
  have s2 := s1.wJ (f := 211) (v := i2j (X.k (X.nx i))) (by omega) s1.fc.wNu rfl rfl
  exact ⟨fun z => s51 _ 0 s2 (by omega), fun z => ⟨fun z2 => s51 _ 0 s2 (by omega), fun z2 => s51 _ 1 s2 (by omega)⟩⟩
end X22
