/-! the class's fields -/
theorem rWhole_eq {X : Txt} {En : List Enm} {Ss : List Stc} {Fs : List Fld} {F : Fld} {i : Nat} : rWhole X En Ss Fs F i = bx (bx (tT X i) (fun r => bx (tO X Fs ((F.wKi 1).wTy r.2) r.1) (fun q => (.ok (q.1, ((F.wKi 1).wTy r.2).wNm q.2) : Rd (Nat × Fld))))) (fun j => rTail X En Ss Fs j.2 j.1) := by
  unfold rWhole
  cases tT X i with
  | error e => rfl
  | ok r =>
    rw [bx_ok, bx_ok]
    cases tO X Fs ((F.wKi 1).wTy r.2) r.1 with
    | error e => rfl
    | ok q => rfl
theorem rStruct_eq {X : Txt} {En : List Enm} {Ss : List Stc} {Fs : List Fld} {F : Fld} {i : Nat} : rStruct X En Ss Fs F i = bx (bx (tI X (Ss.map (fun s => s.1)) i) (fun r => bx (tO X Fs ((F.wKi 0).wSt r.2) r.1) (fun q => (.ok (q.1, ((F.wKi 0).wSt r.2).wNm q.2) : Rd (Nat × Fld))))) (fun j => rTail X En Ss Fs j.2 j.1) := by
  unfold rStruct
  cases tI X (Ss.map (fun s => s.1)) i with
  | error e => rfl
  | ok r =>
    rw [bx_ok, bx_ok]
    cases tO X Fs ((F.wKi 0).wSt r.2) r.1 with
    | error e => rfl
    | ok q => rfl
def SG (σ0 σ : St) (p t dd c : Nat) (so : Nat → Nat) (fo : Nat → Nat → Nat) (X : Txt) (En : List Enm) (Ss : List Stc) (Fs : List Fld) (i : Nat) : Prop :=
  Frm (DFr p dd c so fo) σ0 σ ∧ CS σ p t dd c X i 0 ∧ ENV σ p dd c so fo En Ss Fs
def EG (σ0 σ : St) (p dd c : Nat) (so : Nat → Nat) (fo : Nat → Nat → Nat) (e : Int × Int) : Prop := Frm (DFr p dd c so fo) σ0 σ ∧ FLT σ p e
theorem CS.gen {P : Nat → Nat → Prop} {σ σ' : St} {p t dd c i a : Nat} {X : Txt} (h : CS σ p t dd c X i a) (hF : Frm P σ σ') (n : ∀ f r, (f ≤ 2 ∨ f = 109 ∨ (600 ≤ f ∧ f ≤ 607) ∨ (902 ≤ f ∧ f ≤ 905)) → ¬ P f r) : CS σ' p t dd c X i a := by
  obtain ⟨a1, a2, a3, a4, a5, ⟨nc, a6, a7⟩, ne, a8, a9⟩ := h
  exact ⟨a1.frm hF (fun f f0 f1 => n _ _ (by omega)) (fun f f0 f1 => n _ _ (by omega)), by rw [hF.R (n _ _ (by omega))]; exact a2, by rw [hF.R (n _ _ (by omega))]; exact a3, hF.lc a4, hF.lc a5, ⟨nc, by rw [hF.I (n 2 _ (by omega))]; exact a6, by omega⟩, ne, by rw [hF.I (n 109 _ (by omega))]; exact a8, by omega⟩
theorem DSh.gen {P : Nat → Nat → Prop} {σ σ' : St} {dd : Nat} {so : Nat → Nat} {fo : Nat → Nat → Nat} (h : DSh σ dd so fo) (hF : Frm P σ σ') (n : ∀ f r, (f = 100 ∨ f = 200 ∨ f = 801) → ¬ P f r) : DSh σ' dd so fo := by
  refine ⟨fun s hs => ?_, h.2⟩
  obtain ⟨a, b, e⟩ := h.1 s hs
  refine ⟨by rw [hF.R (n _ _ (by omega))]; exact a, hF.lc b, fun k hk => ?_⟩
  rw [hF.R (n _ _ (by omega)), hF.I (n _ _ (by omega))]
  exact e k hk
theorem DCo.gen {P : Nat → Nat → Prop} {σ σ' : St} {dd c : Nat} {so : Nat → Nat} {fo : Nat → Nat → Nat} {En : List Enm} {Ss : List Stc} (h : DCo σ dd c so fo En Ss) (hF : Frm P σ σ') (hM : Mo σ σ' dd c) (n1 : ∀ f r, (101 ≤ f ∧ f ≤ 105) → ¬ P f r) (n2 : ∀ s f, s < Ss.length → f = 800 ∨ f = 802 ∨ f = 803 → ¬ P f (so s)) (n3 : ∀ s k f, s < Ss.length → k < 14 → 201 ≤ f → f ≤ 216 → ¬ P f (fo s k)) : DCo σ' dd c so fo En Ss := by
  obtain ⟨a1, a2, a3, a4, a5, a6⟩ := h
  refine ⟨by rw [hF.I (n1 _ _ (by omega))]; exact a1, a2, by rw [hF.I (n1 _ _ (by omega))]; exact a3, a4, fun e E hE => ?_, fun s S hS => ?_⟩
  · obtain ⟨b1, b2⟩ := a5 e E hE
    exact ⟨by rw [hF.J (n1 _ _ (by omega))]; exact b1, by rw [hF.I (n1 103 _ (by omega)), hF.I (n1 104 _ (by omega))]; exact b2.mo hM⟩
  · have hs := (List.getElem?_eq_some_iff.mp hS).1
    obtain ⟨b1, b2, b3, b4, b5⟩ := a6 s S hS
    refine ⟨by rw [hF.J (n2 s _ hs (by omega))]; exact b1, by rw [hF.I (n2 s _ hs (by omega))]; exact b2, by rw [hF.I (n2 s _ hs (by omega))]; exact b3, b4, fun k F hk => (b5 k F hk).frm hF (fun f f0 f1 => n3 s k f hs ?_ f0 f1) hM⟩
    have := (List.getElem?_eq_some_iff.mp hk).1
    omega
section X23
variable {g : GP} {l : Launch} {D : Nat} {σ0 σ : St} {p t dd c : Nat} {so : Nat → Nat} {fo : Nat → Nat → Nat} {X : Txt} {En : List Enm} {Ss : List Stc} {Fs : List Fld} {i ne : Nat} {F : Fld}
theorem c_core {P : Int → St → Prop} (hD : 123 ≤ D) (hX : X.OK) (hB : EsB Fs) (h : FS σ0 σ p t dd c so fo X En Ss Fs i 0 ne F) (he : F.es = []) (h1 : F.e1 = none) (hC : tC X Ss i = .ok ()) (hp : ∀ v σ', RQ σ0 p t dd c so fo X En Ss Fs (rCore X En Ss Fs F i) v σ' → AW g l D MX6_readField 299 [some (vR 6 (some p)), some (vI v)] [] σ' (fun v σ' => ∃ r, v = some (vI r) ∧ P r σ')) : AW g l D MX6_readField 120 [some (vR 6 (some p)), none] [] σ (fun v σ' => ∃ r, v = some (vI r) ∧ P r σ') := by
  obtain ⟨d, rfl⟩ : ∃ d, D = d + 1 := ⟨D - 1, by omega⟩
  have kk : X.k i = 2 ∨ X.k i = 4 ∨ X.k i = 204 ∨ X.k i = 205 ∨ X.k i = 207 ∨ X.k i = 210 ∨ X.k i = 214 ∨ X.k i = 215 ∨ X.k i = 216 := by
    unfold tC at hC
    by_cases q : X.k i = 4 ∨ X.k i = 204 ∨ X.k i = 205 ∨ X.k i = 207 ∨ X.k i = 210 ∨ X.k i = 214 ∨ X.k i = 215 ∨ X.k i = 216
    · omega
    · rw [if_neg q] at hC
      by_cases q2 : X.k i = 2
      · omega
      · rw [if_neg q2] at hC; exact absurd hC (by simp)
  have k0 : ¬ X.k i = 0 := by omega
  refine bk_X6_readField_120 ?_
  rw [h.k]
  unfold rCore at hp
  refine ⟨fun k => ?_, fun k => ?_, fun k => ?_, fun k => ?_, fun k => ?_, fun k => ?_, fun k => ?_, fun k => ?_, fun k1 k2 k3 k4 k5 k6 k7 k8 => ?_⟩
  · rw [if_neg (by omega), if_pos k, rStruct_eq] at hp
    refine c_struct (by omega) hX h (fun j e σ1 s1 => ⟨fun z => absurd z (by decide), fun _ => ?_⟩) (fun e e1 σ1 er => ⟨fun _ => hp 0 σ1 (by rw [e1, bx_er]; exact ⟨rfl, er⟩), fun z => absurd rfl z⟩)
    rw [e, bx_ok] at hp
    have jk : j.2.ki = 0 := by
      cases e1 : tI X (Ss.map (fun s => s.1)) i with
      | error x => rw [e1, bx_er] at e; exact absurd e (by simp)
      | ok r =>
        rw [e1, bx_ok] at e
        cases e2 : tO X Fs ((F.wKi 0).wSt r.2) r.1 with
        | error x => rw [e2, bx_er] at e; exact absurd e (by simp)
        | ok q => rw [e2, bx_ok] at e; cases e; rfl
    refine c_tail (by omega) hX hB s1 (Or.inr jk) (fun v σ2 hR => ?_)
    have hv : v = 0 ∨ v = 1 := by
      cases hr : rTail X En Ss Fs j.2 j.1 with
      | error x => rw [hr] at hR; exact Or.inl hR.1
      | ok x => rw [hr] at hR; exact Or.inr hR.1
    rcases hv with rfl | rfl
    · exact ⟨fun _ => hp 0 σ2 hR, fun z => absurd rfl z⟩
    · exact ⟨fun z => absurd z (by decide), fun _ => hp 1 σ2 hR⟩
  · rw [if_pos k, rWhole_eq] at hp
    refine c_whole (by omega) hX h (fun j e σ1 s1 => ⟨fun z => absurd z (by decide), fun _ => ?_⟩) (fun e e1 σ1 er => ⟨fun _ => hp 0 σ1 (by rw [e1, bx_er]; exact ⟨rfl, er⟩), fun z => absurd rfl z⟩)
    rw [e, bx_ok] at hp
    have jk : j.2.ki = 1 := by
      cases e1 : tT X i with
      | error x => rw [e1, bx_er] at e; exact absurd e (by simp)
      | ok r =>
        rw [e1, bx_ok] at e
        cases e2 : tO X Fs ((F.wKi 1).wTy r.2) r.1 with
        | error x => rw [e2, bx_er] at e; exact absurd e (by simp)
        | ok q => rw [e2, bx_ok] at e; cases e; rfl
    refine c_tail (by omega) hX hB s1 (Or.inl jk) (fun v σ2 hR => ?_)
    have hv : v = 0 ∨ v = 1 := by
      cases hr : rTail X En Ss Fs j.2 j.1 with
      | error x => rw [hr] at hR; exact Or.inl hR.1
      | ok x => rw [hr] at hR; exact Or.inr hR.1
    rcases hv with rfl | rfl
    · exact ⟨fun _ => hp 0 σ2 hR, fun z => absurd rfl z⟩
    · exact ⟨fun z => absurd z (by decide), fun _ => hp 1 σ2 hR⟩
  · rw [if_neg (by omega), if_neg (by omega), if_pos k] at hp
    exact c_bits (by omega) hX h he k0 hp
  · rw [if_neg (by omega), if_neg (by omega), if_neg (by omega), if_pos k] at hp
    exact c_text (by omega) hX hB h k0 hp
  · rw [if_neg (by omega), if_neg (by omega), if_neg (by omega), if_neg (by omega), if_pos k] at hp
    exact c_union (by omega) hX hB h he k0 hp
  · rw [if_neg (by omega), if_neg (by omega), if_neg (by omega), if_neg (by omega), if_neg (by omega), if_pos k] at hp
    exact c_ptr (by omega) hX hB h h1 k0 hp
  · rw [if_neg (by omega), if_neg (by omega), if_neg (by omega), if_neg (by omega), if_neg (by omega), if_neg (by omega), if_pos k] at hp
    exact c_pad (by omega) hX h k0 hp
  · rw [if_neg (by omega), if_neg (by omega), if_neg (by omega), if_neg (by omega), if_neg (by omega), if_neg (by omega), if_neg (by omega), if_pos k] at hp
    exact c_magic (by omega) hX h he k0 hp
  · rw [if_neg (by omega), if_neg (by omega), if_neg (by omega), if_neg (by omega), if_neg (by omega), if_neg (by omega), if_neg (by omega), if_neg (by omega)] at hp
    exact c_sum (by omega) hX hB h k0 hp
theorem c_field {P : Int → St → Prop} (hD : 124 ≤ D) (hX : X.OK) (hB : EsB Fs) (h : SG σ0 σ p t dd c so fo X En Ss Fs i) (h1 : ∀ r, rField X En Ss Fs i = .ok r → ∀ σ', SG σ0 σ' p t dd c so fo X En Ss (Fs ++ [r.2]) r.1 → P 1 σ') (h0 : ∀ e, rField X En Ss Fs i = .error e → ∀ σ', EG σ0 σ' p dd c so fo e → P 0 σ') : ACi g l D MX6_readField [vR 6 (some p)] σ P := by
  obtain ⟨d, rfl⟩ : ∃ d, D = d + 1 := ⟨D - 1, by omega⟩
  obtain ⟨g1, g2, g3⟩ := h
  have g3' := g3
  obtain ⟨e1, e2, e3, e4, e5, e6, e7⟩ := g3
  have ek := g2.1.2.2.2.2.2.1
  have er : ∀ e σ', rField X En Ss Fs i = .error e → Frm (PFr p) σ σ' → FLT σ' p e → P 0 σ' := fun e σ' he hF hf => h0 e he σ' ⟨g1.trans (hF.mono DFr_p), hf⟩
  -- behind the core
  have s299 : ∀ (r : Rd (Nat × Fld)) (v : Int) (σ1 : St), Fs.length < 14 → RQ σ0 p t dd c so fo X En Ss Fs r v σ1 → rField X En Ss Fs i = bx r (fun q => bx (tk X q.1 59) (fun j => .ok (j, q.2))) → AW g l (d + 1) MX6_readField 299 [some (vR 6 (some p)), some (vI v)] [] σ1 (fun v σ' => ∃ r, v = some (vI r) ∧ P r σ') := by
    intro r v σ1 h14 hR hr
    match r, hR, hr with
    | .error e, hR, hr =>
      obtain ⟨rfl, hR2⟩ := hR
      exact bk_X6_readField_299 ⟨fun _ => ⟨_, rfl, h0 e hr σ1 ⟨hR2.1, hR2.2.1⟩⟩, fun z => absurd rfl z⟩
    | .ok q, hR, hr =>
      obtain ⟨rfl, a, ne, s1⟩ := hR
      rw [bx_ok] at hr
      refine bk_X6_readField_299 ⟨fun z => absurd z (by decide), fun _ => f_take (by omega) hX s1 (by decide) (fun e2 σ2 s2 => ⟨fun _ => ⟨_, s2.env.2.2.2.1, ?_⟩, fun z => absurd z (by decide)⟩) (fun e2 σ2 er => ⟨fun z => absurd rfl z, fun _ => ⟨_, rfl, h0 _ (by rw [hr, e2, bx_er]) σ2 ⟨er.1, er.2.1⟩⟩⟩)⟩
      rw [s2.env.2.2.2.2.1]
      have hF : Frm (fun f r => r = so Ss.length ∧ f = 802) σ2 (sI σ2 802 (so Ss.length) 0 ((Fs.length : Int) + 1)) := Frm.sI (by simp)
      have hM : Mo σ2 (sI σ2 802 (so Ss.length) 0 ((Fs.length : Int) + 1)) dd c := Mo.frm hF (fun f h0 q => by omega) (fun f h0 h1 q => by omega)
      obtain ⟨q1, q2, q3, q4, q5, q6, q7⟩ := s2.env
      refine ⟨⟨by omega, by omega⟩, _, rfl, h1 (X.nx q.1, q.2) (by rw [hr, e2, bx_ok]) _ ⟨s2.1.trans (hF.mono (fun f r z => Or.inr (Or.inr (Or.inr (Or.inl ⟨Ss.length, q3, z.1, by omega, by omega⟩))))), s2.2.1.gen hF (fun f r z y => by omega), ?_⟩⟩
      refine ⟨q1.gen hF (fun f r z y => by omega), q2.gen hF hM (fun f r z y => by omega) (fun s f hs z y => ?_) (fun s k f _ _ _ _ y => by omega), q3, by rw [hF.R (fun y => by omega)]; exact q4, by rw [gI_slf, app_l]; omega, by rw [app_l]; omega, fun k G hG => ?_⟩
      · have := q1.2.1 s Ss.length (by omega) q3 y.1
        omega
      · rcases app_q hG with ⟨_, y⟩ | ⟨rfl, rfl⟩
        · exact (q7 k G y).frm hF (fun f f0 f1 z => by omega) hM
        · exact s2.fc.frm hF (fun f f0 f1 z => by omega) hM
  -- from the check on
  have s35 : ∀ y : Int, ((X.k i = 202) ∨ (¬ X.k i = 202 ∧ tC X Ss i = .ok ())) → (y = 1 ∧ Fs.length < 14 ∨ y = 0 ∧ ¬ Fs.length < 14) → AW g l (d + 1) MX6_readField 35 [some (vR 6 (some p)), none] [vI y, vR 6 (some p)] σ (fun v σ' => ∃ r, v = some (vI r) ∧ P r σ') := by
    intro y hc hy
    have rf : rField X En Ss Fs i = if Fs.length < 14 then bx (if X.k i = 202 then bx (rx X Fs (X.nx i)) (fun e => bx (tk X e.1 58) (fun j => bx (tC X Ss j) (fun _ => .ok (j, fld0.wEc (some e.2))))) else (.ok (i, fld0) : Rd (Nat × Fld))) (fun r => bx (rCore X En Ss Fs r.2 r.1) (fun q => bx (tk X q.1 59) (fun j => .ok (j, q.2)))) else .error (ck X i 5) := by
      unfold rField
      rcases hc with hc | hc
      · rw [if_pos hc, bx_ok]
      · rw [if_neg hc.1, hc.2, bx_ok]
    refine bk_X6_readField_35 ⟨p, rfl, c_check hX g2.1 (by omega) (fun q => ⟨fun _ => ⟨_, e4, (e1.1 Ss.length e3).2.1, ?_⟩, fun z => absurd z (by decide)⟩) (fun q σ2 hF2 hf => ⟨fun z => absurd rfl z, fun _ => ⟨_, rfl, er _ σ2 (by rw [rf, if_neg (by omega)]) hF2 hf⟩⟩)⟩
    have h14 : Fs.length < 14 := by omega
    rw [if_pos h14] at rf
    rw [e5, show ((Fs.length : Int)).toNat = Fs.length by omega]
    have c1 := (e1.1 Ss.length e3).2.2 Fs.length h14
    refine ⟨⟨by omega, by omega⟩, _, c1.1, ?_⟩
    rw [c1.1]
    obtain ⟨nc, hnc, hnc2⟩ := g2.2.2.2.2.2.1
    obtain ⟨ne, hne, hne2⟩ := g2.2.2.2.2.2.2
    have hF9 : Frm (fun f r => r = p ∧ f = 609) σ (sR σ 609 p 0 (some (fo Ss.length Fs.length))) := Frm.sR (by simp)
    have hM9 : Mo σ (sR σ 609 p 0 (some (fo Ss.length Fs.length))) dd c := Mo.frm hF9 (fun f h0 q => by omega) (fun f h0 h1 q => by omega)
    refine AC.of mo_X2_forget (Nat.le_of_ble_eq_true rfl) (bk_X2_forget_0 ⟨rfl, ?_⟩)
    have fc := FC_new (σ := sR σ 609 p 0 (some (fo Ss.length Fs.length))) (dd := dd) (c := c) (r := fo Ss.length Fs.length) (by show 0 ≤ gI σ 109 dd 0; omega)
    generalize hτ : (sI (sJ (sI (sI (sI (sJ (sI (sI (sI (sI (sI (sI (sI (sI (sJ (sI (sR σ 609 p 0 (some (fo Ss.length Fs.length))) 201 (fo Ss.length Fs.length) 0 (-1)) 202 (fo Ss.length Fs.length) 0 0) 203 (fo Ss.length Fs.length) 0 0) 204 (fo Ss.length Fs.length) 0 0) 205 (fo Ss.length Fs.length) 0 0) 206 (fo Ss.length Fs.length) 0 (-1)) 207 (fo Ss.length Fs.length) 0 (-1)) 208 (fo Ss.length Fs.length) 0 (-1)) 209 (fo Ss.length Fs.length) 0 (-1)) 210 (fo Ss.length Fs.length) 0 (-1)) 211 (fo Ss.length Fs.length) 0 0) 212 (fo Ss.length Fs.length) 0 (-1)) 213 (fo Ss.length Fs.length) 0 0) 214 (fo Ss.length Fs.length) 0 0) 215 (fo Ss.length Fs.length) 0 0) 216 (fo Ss.length Fs.length) 0 0) = τ at *
    have hFr : Frm (fun f r => r = fo Ss.length Fs.length ∧ 201 ≤ f ∧ f ≤ 216) (sR σ 609 p 0 (some (fo Ss.length Fs.length))) τ := by
      rw [← hτ]
      exact (Frm.sI (by simp)).trans ((Frm.sJ (by simp)).trans ((Frm.sI (by simp)).trans ((Frm.sI (by simp)).trans ((Frm.sI (by simp)).trans ((Frm.sI (by simp)).trans ((Frm.sI (by simp)).trans ((Frm.sI (by simp)).trans ((Frm.sI (by simp)).trans ((Frm.sI (by simp)).trans ((Frm.sJ (by simp)).trans ((Frm.sI (by simp)).trans ((Frm.sI (by simp)).trans ((Frm.sI (by simp)).trans ((Frm.sJ (by simp)).trans (Frm.sI (by simp))))))))))))))))
    have env9 : ENV (sR σ 609 p 0 (some (fo Ss.length Fs.length))) p dd c so fo En Ss Fs := ⟨e1.gen hF9 (fun f r z y => by omega), e2.gen hF9 hM9 (fun f r z y => by omega) (fun s f _ _ y => by omega) (fun s k f _ _ _ _ y => by omega), e3, by rw [hF9.R (fun y => by omega)]; exact e4, by rw [hF9.I (fun y => by omega)]; exact e5, e6, fun k G hG => (e7 k G hG).frm hF9 (fun f f0 f1 z => by omega) hM9⟩
    have cs9 := g2.gen hF9 (fun f r z y => by omega)
    have fs : FS σ0 τ p t dd c so fo X En Ss Fs i 0 ne fld0 := by
      refine ⟨(g1.trans (hF9.mono (fun f r z => Or.inl ⟨z.1, by omega, by omega⟩))).trans (hFr.mono (DFr_r e3 h14)), cs9.r hFr, env9.cm h14 (CM.r hFr), by rw [hFr.R (fun q => by omega), gR_slf], fc, h14, by rw [hFr.I (fun q => by omega), hF9.I (fun q => by omega)]; exact hne, hne2, by omega, fun q => absurd q (by decide)⟩
    refine f_takeIf (by omega) hX fs (by decide) (fun k2 σ2 s2 => ⟨fun z => absurd z (by decide), fun _ => ?_⟩) (fun k2 => ⟨fun _ => ?_, fun z => absurd rfl z⟩)
    · rw [if_pos k2] at rf
      refine f_rx (by omega) hX hB s2 (fun i' N e σ3 b s3 hx => ⟨_, s2.r9, _, s3.r9, ?_⟩) (fun e e4 σ3 er2 => ⟨_, s2.r9, _, er2.2.2, fun _ => ⟨_, rfl, h0 e (by rw [rf, e4, bx_er, bx_er]) _ ⟨(er2.w e3 h14 (by omega)).1, (er2.w e3 h14 (by omega)).2.1⟩⟩, fun z => absurd (gI_slf _ _ _ _ _) z⟩)
      rw [gI_slf]
      have s4 := s3.wI (f := 208) (by omega) (s3.fc.wEc hx) rfl rfl
      rw [e, bx_ok] at rf
      refine ⟨fun z => absurd z nat_m1, fun _ => f_take (by omega) hX s4 (by decide) (fun e5 σ5 s5 => ⟨fun z => absurd z (by decide), fun _ => ?_⟩) (fun e5 σ5 er2 => ⟨fun _ => ⟨_, rfl, h0 _ (by rw [rf, e5, bx_er, bx_er]) σ5 ⟨er2.1, er2.2.1⟩⟩, fun z => absurd rfl z⟩)⟩
      rw [e5, bx_ok] at rf
      refine f_startsCore (by omega) hX s5.T s5.2.1.2.1 s5.2.1.2.2.2.1 s5.env.1 s5.env.2.1 (fun e6 => ⟨fun _ => ?_, fun z => absurd z (by decide)⟩) (fun e e6 σ6 hF6 hf => ⟨fun z => absurd rfl z, fun _ => ⟨_, rfl, h0 e (by rw [rf, e6, bx_er, bx_er]) σ6 ⟨s5.1.trans (hF6.mono DFr_p), hf⟩⟩⟩)
      rw [e6, bx_ok, bx_ok] at rf
      exact c_core (by omega) hX hB s5 rfl rfl e6 (fun v σ7 hR => s299 _ v σ7 h14 hR rf)
    · rw [if_neg k2, bx_ok] at rf
      exact c_core (by omega) hX hB fs rfl rfl (by rcases hc with hc | hc; exact absurd hc k2; exact hc.2) (fun v σ7 hR => s299 _ v σ7 h14 hR rf)
  refine AC.of mo_X6_readField (Nat.le_of_ble_eq_true rfl) (bk_X6_readField_0 ?_)
  rw [ek]
  refine ⟨fun z => ⟨_, e4, ?_⟩, fun z => f_startsCore (by omega) hX g2.1 g2.2.1 g2.2.2.2.1 e1 e2 (fun e => ⟨fun q => absurd q (by decide), fun _ => ⟨_, e4, ?_⟩⟩) (fun e e6 σ6 hF6 hf => ⟨fun _ => ⟨_, rfl, er e σ6 ?_ hF6 hf⟩, fun q => absurd rfl q⟩)⟩
  · rw [e5]
    exact ⟨fun q => s35 0 (Or.inl z) (by omega), fun q => s35 1 (Or.inl z) (by omega)⟩
  · rw [e5]
    exact ⟨fun q => s35 0 (Or.inr ⟨z, e⟩) (by omega), fun q => s35 1 (Or.inr ⟨z, e⟩) (by omega)⟩
  · unfold rField
    rw [if_neg z, e6, bx_er]
end X23
