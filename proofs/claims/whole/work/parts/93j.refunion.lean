/-! the reference's UNION and pointers -/
section M26
variable {g : GP} {l : Launch} {D : Nat} {σ0 σ : St} {m b fd lo la i nn : Nat} {X : Txt} {L : List (Nat × Int64 × Int)} {F : Fld} {bg : Int × Int × Int} {En : List Enm} {Ss : List Stc} {Fs : List Fld}
abbrev ErF (m f r : Nat) : Prop := r = m ∧ (f = 1251 ∨ f = 1252)
theorem g_mustE {y k : Int} {P : Int → St → Prop} (hD : 1 ≤ D) (hX : X.OK) (h : GS σ0 σ m X b fd lo la i nn L F bg) (hk : 0 < k) (hy : y = 0 ∨ y = 1) (h1 : y = 1 → P 1 σ) (h0 : y = 0 → ∀ σ', Frm (ErF m) σ σ' → GE σ0 σ' m b fd lo la (ck X i k) → P 0 σ') : ACi g l D MX12_must [vR 12 (some m), vI y, vI k] σ P := by
  obtain ⟨d, rfl⟩ : ∃ d, D = d + 1 := ⟨D - 1, by omega⟩
  exact r_must hX h.2.1 h.2.2.1 hk hy h1 (fun q σ' hF e1 e2 => h0 q σ' hF (h.er hF (ck_pos hk) e1 e2))
theorem g_takeE {w : Int} {P : St → Prop} (hD : 3 ≤ D) (hX : X.OK) (h : GS σ0 σ m X b fd lo la i nn L F bg) (hw : 33 ≤ w ∧ w ≤ 125) (h1 : tk X i w = .ok (X.nx i) → ∀ σ', Frm (TkF m) σ σ' → GS σ0 σ' m X b fd lo la (X.nx i) nn L F bg → P σ') (h0 : tk X i w = .error (ck X i 2) → ∀ σ', Frm (ErF m) σ σ' → GE σ0 σ' m b fd lo la (ck X i 2) → P σ') : ACv g l D MX12_take [vR 12 (some m), vI w] σ P := by
  obtain ⟨d, rfl⟩ : ∃ d, D = d + 1 := ⟨D - 1, by omega⟩
  refine AC.of mo_X12_take (Nat.le_of_ble_eq_true rfl) (bk_X12_take_0 (r_isSign hX h.2.1 hw.1 hw.2 ?_))
  by_cases e : X.k i = w
  · rw [if_pos e]
    exact g_must (by omega) hX h (by decide) (by decide) (fun _ => ⟨fun q => absurd q (by decide), fun _ => g_nextF (by omega) hX h (fun σ' hF s' => ⟨rfl, h1 (if_pos e) σ' hF s'⟩)⟩) (fun q => absurd q (by decide))
  · rw [if_neg e]
    exact g_mustE (by omega) hX h (by decide) (by decide) (fun q => absurd q (by decide)) (fun _ σ' hF ge => ⟨fun _ => ⟨rfl, h0 (if_neg e) σ' hF ge⟩, fun q => absurd rfl q⟩)
theorem g_nS (hE : E0 σ0 m b lo En Ss Fs) (hO : Out m (RFd b fd lo la) σ0 σ) : gI σ 1253 m 0 = (b : Int) ∧ gI σ 1219 m (gI σ 1253 m 0).toNat = (Ss.length : Int) := by
  have b53 : gI σ 1253 m 0 = (b : Int) := by rw [(rd0 hO (by omega)).1]; exact hE.2.1
  refine ⟨b53, ?_⟩
  rw [b53, Int.toNat_natCast, (rd0 hO (by omega)).1]
  exact hE.2.2.2.2.1.1
theorem g_ended {P : Int → St → Prop} (hD : 4 ≤ D) (hX : X.OK) (hE : E0 σ0 m b lo En Ss Fs) (h : GS σ0 σ m X b fd lo la i nn L F bg)
    (h1 : ∀ v, tI X (Ss.map (fun s => s.1)) i = .ok (X.nx i, v) → 0 ≤ v → v < Ss.length → ∀ σ', Frm (TkF m) σ σ' → GS σ0 σ' m X b fd lo la (X.nx i) nn L F bg → P v σ') (h0 : ∀ e, tI X (Ss.map (fun s => s.1)) i = .error e → ∀ σ', Frm (ErF m) σ σ' → GE σ0 σ' m b fd lo la e → P (-1) σ') : ACi g l D MX12_ended [vR 12 (some m)] σ P := by
  obtain ⟨d, rfl⟩ : ∃ d, D = d + 3 := ⟨D - 3, by omega⟩
  have b2 := hE.2.2.1
  obtain ⟨b53, n19⟩ := g_nS hE h.1
  refine AC.of mo_X12_ended (Nat.le_of_ble_eq_true rfl) (bk_X12_ended_0 (r_isName hX h.2.1 ?_))
  by_cases k2 : X.k i = 2
  · obtain ⟨ew, iw⟩ := (h.2.1.sort hX).2.2.2.2.1 k2
    rw [if_pos k2]
    refine g_must (by omega) hX h (by decide) (by decide) (fun _ => ⟨fun q => absurd q (by decide), fun _ => ⟨h.lc, ⟨by omega, by omega⟩, ?_⟩⟩) (fun q => absurd q (by decide))
    rw [ew]
    refine g_structNamed hE h.1 iw n19 ?_
    have ig := idx_ge (w := X.v i) (Ss.map (fun e => e.1)) 0 (by decide)
    rw [List.length_map] at ig
    refine ⟨fun q => bk_X12_ended_38 ⟨m, rfl, g_mustE (by omega) hX h (by decide) (by decide) (fun q => absurd q (by decide)) (fun _ σ' hF ge => ⟨fun q => absurd rfl q, fun _ => ⟨_, rfl, h0 _ (by unfold tI; rw [if_pos k2, if_pos (by omega)]) σ' hF ge⟩⟩)⟩, fun q => bk_X12_ended_38 ⟨m, rfl, g_must (by omega) hX h (by decide) (by decide) (fun _ => ⟨fun _ => ⟨h.lc, ⟨by omega, by omega⟩, ?_⟩, fun q => absurd q (by decide)⟩) (fun q => absurd q (by decide))⟩⟩
    rw [ew]
    exact g_structNamed hE h.1 iw n19 (g_nextF (by omega) hX h (fun σ' hF s' => ⟨_, rfl, h1 _ (by unfold tI; rw [if_pos k2, if_neg (by omega)]) (by omega) (by omega) σ' hF s'⟩))
  · rw [if_neg k2]
    exact g_mustE (by omega) hX h (by decide) (by decide) (fun q => absurd q (by decide)) (fun _ σ' hF ge => ⟨fun _ => ⟨_, rfl, h0 _ (by unfold tI; rw [if_neg k2]) σ' hF ge⟩, fun q => absurd rfl q⟩)
theorem g_case {P : St → Prop} (hD : 6 ≤ D) (hX : X.OK) (hE : E0 σ0 m b lo En Ss Fs) (hfd : fd = fdx b Ss Fs) (h14 : Fs.length < 14) (h : GS σ0 σ m X b fd lo la i nn L F bg) (h16 : F.es.length ≤ 8)
    (h1 : ∀ q, rCase X Ss F i = .ok q → ∀ σ', GS σ0 σ' m X b fd lo la q.1 nn L q.2 bg → P σ') (h0 : ∀ e, rCase X Ss F i = .error e → ∀ σ', GE σ0 σ' m b fd lo la e → P σ') : ACv g l D MX12_readCase [vR 12 (some m), vI (fd : Int)] σ P := by
  obtain ⟨d, rfl⟩ : ∃ d, D = d + 1 := ⟨D - 1, by omega⟩
  have fdv : fd = 14 * (20 * b + Ss.length) + Fs.length := hfd
  have e3 := hE.2.2.1
  have e6 := hE.2.2.2.2.2.1
  have tn : ((fd : Int)).toNat = fd := by omega
  have m7 := fun (τ : St) {j : Nat} (s : GS σ0 τ m X b fd lo la j nn L F bg) => s.pr.2.2.2.2.2.2.1
  have sr := h.2.1.sort hX
  unfold rCase at h1 h0
  have s47 : ∀ y : Int, (X.k i = 3 ∨ X.k i = 45) → (y = 1 ∧ F.es.length < 8 ∨ y = 0 ∧ ¬ F.es.length < 8) → AW g l (d + 1) MX12_readCase 47 [some (vR 12 (some m)), some (vI (fd : Int)), none] [vI y, vR 12 (some m)] σ (fun v σ' => v = none ∧ P σ') := by
    intro y hkk hy
    rw [if_pos hkk] at h1 h0
    refine bk_X12_readCase_47 ⟨m, rfl, g_must (by omega) hX h (by decide) (by omega) (fun q => ⟨fun _ => ⟨⟨by omega, by omega⟩, h.lc, ⟨by omega, by omega⟩, ?_⟩, fun z => absurd z (by decide)⟩) (fun q σ1 ge => ⟨fun z => absurd rfl z, fun _ => ⟨rfl, h0 _ (if_neg (by omega)) σ1 ge⟩⟩)⟩
    have l8 : F.es.length < 8 := by omega
    rw [if_pos l8] at h1 h0
    rw [tn, m7 σ h]
    refine ⟨⟨by omega, by omega⟩, fun z hz => ?_⟩
    have zn : z.toNat = 16 * fd + F.es.length := by omega
    rw [zn]
    refine g_signed (by omega) hX h (fun j v et σ1 s1 => ⟨s1.lc, ⟨by omega, by omega⟩, ?_⟩) (fun e et v σ1 ge => ⟨ge.lc hE, ⟨by omega, by omega⟩, d_take (by omega) (ge.wPJ (f := 1240) (by decide) (by omega)).bd ⟨fun z => absurd z (by have := (ge.wPJ (f := 1240) (p := F.es.length) (v := v) (by decide) (by omega)).bd; omega), fun _ => ⟨rfl, h0 _ (by rw [et, bx_er]) _ (ge.wPJ (f := 1240) (by decide) (by omega))⟩⟩⟩)
    rw [et, bx_ok] at h1 h0
    dsimp only at h1 h0
    refine g_takeF (by omega) hX (s1.wPJ (f := 1240) (p := F.es.length) (v := v) (Or.inr rfl) (Nat.le_refl _) (by omega)) (by decide) (fun et σ2 hF2 s2 => ⟨fun _ => ⟨s2.lc, ?_⟩, fun q => absurd (by rw [s2.bd]; decide) q⟩) (fun et σ2 ge => ⟨fun q => absurd q (by have := ge.bd; omega), fun _ => ⟨rfl, h0 _ (by rw [et, bx_er]) σ2 ge⟩⟩)
    rw [et, bx_ok] at h1 h0
    have v2 : gJ σ2 1240 m (16 * fd + F.es.length) = v := by rw [hF2.J (fun q => by omega), gJ_slf]
    refine g_ended (by omega) hX hE s2 (fun r er r0 r1 σ3 hF3 s3 => ⟨s3.lc, ?_⟩) (fun e er σ3 hF3 ge => ⟨ge.lc hE, d_take (by omega) (ge.wPI (f := 1241) (by decide) (by omega)).bd ⟨(ge.wPI (f := 1241) (by decide) (by omega)).lc hE, ?_⟩⟩)
    · rw [er, bx_ok] at h1 h0
      dsimp only at h1 h0
      have s3' := s3.wPI (p := F.es.length) (v := r) (Nat.le_refl _) (by omega)
      refine g_takeE (by omega) hX s3' (by decide) (fun et σ4 hF4 s4 => ⟨s4.lc, ?_⟩) (fun et σ4 hF4 ge => ⟨ge.lc hE, ?_⟩)
      · rw [m7 σ4 s4]
        refine ⟨⟨by omega, by omega⟩, rfl, h1 _ (by rw [et, bx_ok]) _ (s4.add (e := (0, v, r)) rfl (fun q => absurd rfl q) ?_ (fun _ => ?_))⟩
        · rw [hF4.J (fun q => by omega)]; show gJ (sI σ3 1241 m (16 * fd + F.es.length) r) 1240 m (16 * fd + F.es.length) = v; rw [show gJ (sI σ3 1241 m (16 * fd + F.es.length) r) 1240 m (16 * fd + F.es.length) = gJ σ3 1240 m (16 * fd + F.es.length) from rfl, hF3.J (fun q => by omega)]; exact v2
        · rw [hF4.I (fun q => by omega), gI_slf]
      · rw [hF4.I (f := 1237) (fun q => by omega), m7 _ s3']
        exact ⟨⟨by omega, by omega⟩, rfl, h0 _ (by rw [et, bx_er]) _ (ge.wI (by omega))⟩
    · rw [gI_sI, if_neg (by simp), hF3.I (f := 1237) (fun q => by omega), m7 _ s2]
      exact ⟨⟨by omega, by omega⟩, rfl, h0 _ (by rw [er, bx_er]) _ ((ge.wPI (f := 1241) (by decide) (by omega)).wI (by omega))⟩
  have s23 : ∀ y : Int, (y = 1 ∧ (X.k i = 3 ∨ X.k i = 45) ∨ y = 0 ∧ ¬ (X.k i = 3 ∨ X.k i = 45)) → AW g l (d + 1) MX12_readCase 23 [some (vR 12 (some m)), some (vI (fd : Int)), none] [vI y, vR 12 (some m)] σ (fun v σ' => v = none ∧ P σ') := by
    intro y hy
    refine bk_X12_readCase_23 ⟨m, rfl, g_must (by omega) hX h (by decide) (by omega) (fun q => ⟨fun z => absurd z (by decide), fun _ => ⟨h.lc, ⟨by omega, by omega⟩, ?_⟩⟩) (fun q σ1 ge => ⟨fun _ => ⟨rfl, h0 _ (if_neg (by omega)) σ1 ge⟩, fun z => absurd rfl z⟩)⟩
    have hkk : X.k i = 3 ∨ X.k i = 45 := by omega
    rw [tn, m7 σ h]
    exact ⟨fun z => s47 0 hkk (Or.inr ⟨rfl, by omega⟩), fun z => s47 1 hkk (Or.inl ⟨rfl, by omega⟩)⟩
  refine AC.of mo_X12_readCase (Nat.le_of_ble_eq_true rfl) (bk_X12_readCase_0 (r_isSign hX h.2.1 (by decide) (by decide) ?_))
  by_cases k45 : X.k i = 45
  · rw [if_pos k45]
    exact ⟨fun _ => s23 1 (Or.inl ⟨rfl, Or.inr k45⟩), fun q => absurd q (by decide)⟩
  · rw [if_neg k45]
    exact ⟨fun q => absurd rfl q, fun _ => ⟨fun q => s23 0 (Or.inr ⟨rfl, fun z => z.elim (fun y => q (sr.2.1.mpr y)) k45⟩), fun q => s23 1 (Or.inl ⟨rfl, Or.inl (sr.2.1.mp q)⟩)⟩⟩
theorem g_union {P : St → Prop} (hD : 11 ≤ D) (hX : X.OK) (hE : E0 σ0 m b lo En Ss Fs) (hfd : fd = fdx b Ss Fs) (h14 : Fs.length < 14) (h : GS σ0 σ m X b fd lo la i nn L F bg) (hn : F.nm = 0) (hb : bg.1 = 0) (he : F.es = [])
    (hp : ∀ σ', GR σ0 m X b fd lo la L (rUnion X Ss Fs F i) σ' → P σ') : ACv g l D MX12_readUnion [vR 12 (some m), vI (fd : Int)] σ P := by
  obtain ⟨d, rfl⟩ : ∃ d, D = d + 1 := ⟨D - 1, by omega⟩
  have fdv : fd = 14 * (20 * b + Ss.length) + Fs.length := hfd
  have e3 := hE.2.2.1
  have e6 := hE.2.2.2.2.2.1
  have tn : ((fd : Int)).toNat = fd := by omega
  have d98 : ∀ (τ : St) (e : Int × Int), GE σ0 τ m b fd lo la e → P τ → AW g l (d + 1) MX12_readUnion 98 [some (vR 12 (some m)), some (vI (fd : Int))] [] τ (fun v σ' => v = none ∧ P σ') := fun τ e ge hP =>
    bk_X12_readUnion_98 ⟨fun _ => d_take (by omega) ge.bd ⟨rfl, hP⟩, fun z => absurd z (by have := ge.bd; omega)⟩
  have d66 : ∀ (τ : St) (e : Int × Int), GE σ0 τ m b fd lo la e → P τ → AW g l (d + 1) MX12_readUnion 66 [some (vR 12 (some m)), some (vI (fd : Int))] [] τ (fun v σ' => v = none ∧ P σ') := fun τ e ge hP =>
    bk_X12_readUnion_66 ⟨fun _ => d98 τ e ge hP, fun z => absurd z (by have := ge.bd; omega)⟩
  have d48 : ∀ (τ : St) (e : Int × Int), GE σ0 τ m b fd lo la e → P τ → AW g l (d + 1) MX12_readUnion 48 [some (vR 12 (some m)), some (vI (fd : Int))] [] τ (fun v σ' => v = none ∧ P σ') := fun τ e ge hP =>
    bk_X12_readUnion_48 (d_take (by omega) ge.bd ⟨fun _ => d66 τ e ge hP, fun z => absurd z (by have := ge.bd; omega)⟩)
  have d31 : ∀ (τ : St) (e : Int × Int), GE σ0 τ m b fd lo la e → P τ → AW g l (d + 1) MX12_readUnion 31 [some (vR 12 (some m)), some (vI (fd : Int))] [] τ (fun v σ' => v = none ∧ P σ') := fun τ e ge hP =>
    bk_X12_readUnion_31 ⟨fun _ => d48 τ e ge hP, fun z => absurd z (by have := ge.bd; omega)⟩
  have loop : ∀ (f : Nat) (F : Fld) (i nn : Nat) (τ : St) (n : Int), GS σ0 τ m X b fd lo la i nn L F (0, 7, n) → F.ki = 6 → F.es.length ≤ 8 → F.es.length + f = 9 →
      (∀ σ', GR σ0 m X b fd lo la L (bx (rCases X Ss f F i) (fun r => if X.k r.1 = 209 then bx (tI X (Ss.map (fun s => s.1)) (X.nx r.1)) (fun o => bx (tk X o.1 59) (fun j3 => bx (tk X j3 125) (fun j4 => .ok (j4, r.2.wOt o.2)))) else bx (tk X r.1 125) (fun j4 => .ok (j4, r.2)))) σ' → P σ') → ACv g l d MX12_readCase [vR 12 (some m), vI (fd : Int)] τ (fun σ8 => AW g l (d + 1) MX12_readUnion 66 [some (vR 12 (some m)), some (vI (fd : Int))] [] σ8 (fun v σ' => v = none ∧ P σ')) := by
    intro f
    induction f with
    | zero => intro F i nn τ n s _ h16 hf _; omega
    | succ f ih =>
      intro F i nn τ n s hk h16 hf hp
      rw [rCases] at hp
      refine g_case (by omega) hX hE hfd h14 s h16 (fun q eq σ1 s1 => ?_) (fun e ee σ1 ge => d66 σ1 e ge (hp σ1 (GR.err (by rw [ee, bx_er, bx_er]) ge)))
      obtain ⟨v, r, q1, q2, q3, q4, q5⟩ := rCase_wf hX s.iK eq
      rw [eq, bx_ok] at hp
      have sr := s1.2.1.sort hX
      have el : q.2.es.length = F.es.length + 1 := by rw [q1]; exact app_l
      have hk' : q.2.ki = 6 := by rw [q1]; exact hk
      have go : (X.k q.1 = 3 ∨ X.k q.1 = 45) → ACv g l d MX12_readCase [vR 12 (some m), vI (fd : Int)] σ1 (fun σ8 => AW g l (d + 1) MX12_readUnion 66 [some (vR 12 (some m)), some (vI (fd : Int))] [] σ8 (fun v σ' => v = none ∧ P σ')) := fun c => by
        rw [if_pos c] at hp
        exact ih q.2 q.1 nn σ1 n s1 hk' (by omega) (by omega) hp
      refine bk_X12_readUnion_66 ⟨fun z => absurd s1.bd z, fun _ => r_isSign hX s1.2.1 (by decide) (by decide) ?_⟩
      by_cases k45 : X.k q.1 = 45
      · rw [if_pos k45]
        exact ⟨fun _ => go (Or.inr k45), fun z => absurd z (by decide)⟩
      · rw [if_neg k45]
        refine ⟨fun z => absurd rfl z, fun _ => ⟨fun z => ?_, fun z => go (Or.inl (sr.2.1.mp z))⟩⟩
        rw [if_neg (fun c => c.elim (fun y => z (sr.2.1.mpr y)) k45), bx_ok] at hp
        refine bk_X12_readUnion_98 ⟨fun z => absurd s1.bd z, fun _ => r_isWord (j := 9) hX s1.2.1 (by decide) rfl ?_⟩
        by_cases k9 : X.k q.1 = 209
        · rw [if_pos k9] at hp
          rw [if_pos (show X.k q.1 = 200 + ((9 : Nat) : Int) from k9)]
          refine ⟨fun z => absurd z (by decide), fun _ => g_next (by omega) hX s1 (fun σ2 s2 => ⟨s2.lc, g_ended (by omega) hX hE s2 (fun o eo o0 o1 σ3 hF3 s3 => ⟨s3.lc, ⟨by omega, by omega⟩, ?_⟩) (fun e eo σ3 hF3 ge => ⟨ge.lc hE, ⟨by omega, by omega⟩, d_take (by omega) (ge.wI (by omega)).bd (d_take (by omega) (ge.wI (by omega)).bd ⟨rfl, hp _ (GR.err (by rw [eo, bx_er]) (ge.wI (by omega)))⟩)⟩)⟩)⟩
          rw [eo, bx_ok] at hp
          dsimp only at hp
          rw [tn]
          refine g_take (by omega) hX (s3.wI (by omega) s3.pr.wOt s3.pl) (by decide) (fun et σ4 s4 => ?_) (fun et σ4 ge => d_take (by omega) ge.bd ⟨rfl, hp _ (GR.err (by rw [et, bx_er]) ge)⟩)
          rw [et, bx_ok] at hp
          exact g_take (by omega) hX s4 (by decide) (fun et σ5 s5 => ⟨rfl, hp _ (GR.okk (by rw [et, bx_ok]) (by show ¬ q.2.ki = 7; omega) s5 (GK.of rfl (kR_6 (F := q.2.wOt o) hk').symm ⟨by show ¬ q.2.ki = 7; omega, by show ¬ q.2.ki = 8; omega, by show ¬ q.2.ki = 10; omega, fun z => by have z : q.2.ki = 5 := z; omega⟩))⟩) (fun et σ5 ge => ⟨rfl, hp _ (GR.err (by rw [et, bx_er]) ge)⟩)
        · rw [if_neg k9] at hp
          rw [if_neg (show ¬ X.k q.1 = 200 + ((9 : Nat) : Int) from k9)]
          exact ⟨fun _ => g_take (by omega) hX s1 (by decide) (fun et σ5 s5 => ⟨rfl, hp _ (GR.okk (by rw [et, bx_ok]) (by omega) s5 (GK.of rfl (kR_6 hk').symm ⟨by omega, by omega, by omega, fun z => by omega⟩))⟩) (fun et σ5 ge => ⟨rfl, hp _ (GR.err (by rw [et, bx_er]) ge)⟩), fun z => absurd rfl z⟩
  unfold rUnion at hp
  refine AC.of mo_X12_readUnion (Nat.le_of_ble_eq_true rfl) (bk_X12_readUnion_0 (g_next (by omega) hX h (fun σ1 s1 => ⟨s1.lc, ⟨by omega, by omega⟩, ?_⟩)))
  rw [tn]
  refine g_named (by omega) hX hE hfd h14 (s1.wK (v := 7) (F' := F.wKi 6) (s1.pr.k he)) hb hn he (fun et σ2 s2 => ⟨fun z => absurd s2.bd z, fun _ => ?_⟩) (fun e ee σ2 ge => ⟨fun _ => d31 σ2 e ge (hp σ2 (GR.err (by rw [ee, bx_er]) ge)), fun q => absurd q (by have := ge.bd; omega)⟩)
  rw [et, bx_ok] at hp
  dsimp only at hp
  refine g_takeWord (j := 8) (by omega) hX s2 (by decide) rfl (fun ew σ3 s3 => bk_X12_readUnion_31 ⟨fun z => absurd s3.bd z, fun _ => ⟨s3.lc, ?_⟩⟩) (fun ew σ3 ge => d31 σ3 _ ge (hp σ3 (GR.err (by rw [show tk X _ 208 = _ from ew, bx_er]) ge)))
  rw [show tk X _ 208 = _ from ew, bx_ok] at hp
  refine g_ex (by omega) hX hE hfd h14 s3 (fun i' N e v σ4 s4 xr xl => ⟨s4.lc, ⟨by omega, by omega⟩, ?_⟩) (fun e er σ4 ge => ⟨ge.lc hE, ⟨by omega, by omega⟩, by rw [tn]; exact d48 _ e (ge.wI (by omega)) (hp _ (GR.err (by rw [er, bx_er]) (ge.wI (by omega))))⟩)
  rw [e, bx_ok] at hp
  dsimp only at hp
  rw [tn]
  refine bk_X12_readUnion_48 (g_take (by omega) hX (s4.wI (by omega) (s4.pr.wE1 xr) (s4.pl.e1 xl)) (by decide) (fun et σ5 s5 => ⟨fun z => absurd s5.bd z, fun _ => ?_⟩) (fun et σ5 ge => ⟨fun _ => d66 σ5 _ ge (hp σ5 (GR.err (by rw [et, bx_er]) ge)), fun z => absurd z (by have := ge.bd; omega)⟩))
  rw [et, bx_ok] at hp
  have s6 : GS σ0 σ5 m X b fd lo la (X.nx i') (nn + N.length) L (((F.wKi 6).wNm (X.v (X.nx i))).wE1 (some N)) (0, 7, bg.2.2) := by
    rw [show ((0 : Int), (7 : Int), bg.2.2) = (bg.1, 7, bg.2.2) by rw [hb]]; exact s5
  exact loop 9 _ _ _ _ _ s6 rfl (by show F.es.length ≤ 8; rw [he]; decide) (by show F.es.length + 9 = 9; rw [he]; rfl) hp
end M26
