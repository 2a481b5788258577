/-! the reference's pointers, and all cores -/
section M27
variable {g : GP} {l : Launch} {D : Nat} {σ0 σ : St} {m b fd lo la i nn : Nat} {X : Txt} {L : List (Nat × Int64 × Int)} {F : Fld} {bg : Int × Int × Int} {En : List Enm} {Ss : List Stc} {Fs : List Fld}
theorem GS.wA {w : Int64} {v : Int} (h : GS σ0 σ m X b fd lo la i nn L F bg) : GS σ0 (sI (sI (sJ (sI σ 1247 m L.length (fd : Int)) 1249 m L.length (rho w)) 1248 m L.length v) 1250 m 0 ((L.length : Int) + 1)) m X b fd lo la i nn (L ++ [(fd, w, v)]) F bg := by
  obtain ⟨a1, a2, a3, a4, a5, a6, a7, a8, a9, a10, a11, a12⟩ := h
  have hO : Out m (fun f' i' => (1247 ≤ f' ∧ f' ≤ 1249 ∧ i' = L.length) ∨ (f' = 1250 ∧ i' = 0)) σ (sI (sI (sJ (sI σ 1247 m L.length (fd : Int)) 1249 m L.length (rho w)) 1248 m L.length v) 1250 m 0 ((L.length : Int) + 1)) := (Out.sI (by omega) (by decide)).trans ((Out.sJ (by omega) (by decide)).trans ((Out.sI (by omega) (by decide)).trans (Out.sI (by omega) (by decide))))
  have hF : Frm (fun f' r => r = m ∧ (1247 ≤ f' ∧ f' ≤ 1250)) σ (sI (sI (sJ (sI σ 1247 m L.length (fd : Int)) 1249 m L.length (rho w)) 1248 m L.length v) 1250 m 0 ((L.length : Int) + 1)) := (Frm.sI (by simp)).trans ((Frm.sJ (by simp)).trans ((Frm.sI (by simp)).trans (Frm.sI (by simp))))
  obtain ⟨c1, c2⟩ := a8.out a9 hO (fun f' i' z _ _ _ q => by omega) (fun f' z0 z1 q => by omega) (fun f' p z0 z1 z2 q => by omega)
  refine ⟨a1.trans (hO.mono (fun f' i' q => ?_)), a2.frm hF (fun f' z0 z1 q => by omega), by rw [hF.I (fun q => by omega)]; exact a3, by rw [hF.I (fun q => by omega)]; exact a4, by rw [hF.I (fun q => by omega)]; exact a5, a6, a7, c1, c2, ⟨?_, fun j x hx => ?_⟩, ?_, by rw [hF.I (fun q => by omega)]; exact a12.1, by rw [hF.I (f := 1228) (fun q => by omega)]; exact a12.2.1, by rw [hF.I (f := 1235) (fun q => by omega)]; exact a12.2.2⟩
  · rcases q with q | q
    · exact Or.inr (Or.inr (Or.inr (Or.inr ⟨by omega, by omega, by omega⟩)))
    · exact Or.inl (by unfold RTk; omega)
  · rw [gI_slf, app_l]; omega
  · rcases Nat.lt_trichotomy j L.length with z | z | z
    · rw [List.getElem?_append_left z] at hx
      rw [(hO.2 1247 j (fun q => by omega)).1, (hO.2 1249 j (fun q => by omega)).2, (hO.2 1248 j (fun q => by omega)).1]
      exact a10.2 j x hx
    · rw [z, app_at] at hx
      cases hx
      rw [z]
      refine ⟨?_, ?_, ?_⟩
      · rw [gI_sI, if_neg (by simp), gI_sI, if_neg (by simp)]; show gI (sI σ 1247 m L.length (fd : Int)) 1247 m L.length = _; rw [gI_slf]
      · show gJ (sJ (sI σ 1247 m L.length (fd : Int)) 1249 m L.length (rho w)) 1249 m L.length = rho w; rw [gJ_slf]
      · rw [gI_sI, if_neg (by simp), gI_slf]
    · rw [List.getElem?_eq_none (by rw [app_l]; omega)] at hx
      exact absurd hx (by simp)
  · rw [app_l]; omega
theorem PR.e1n (h : PR σ m b fd F) (h1 : F.e1 = none) : PR σ m b fd (F.wE1 none) := by
  obtain ⟨a1, a2, a3, a4, a5, a6, a7, a8, a9, a10⟩ := h
  rw [h1] at a2
  exact ⟨a1, a2, a3, a4, a5, a6, a7, a8, a9, a10⟩
theorem g_ptr {P : St → Prop} (hD : 11 ≤ D) (hX : X.OK) (hE : E0 σ0 m b lo En Ss Fs) (hfd : fd = fdx b Ss Fs) (h14 : Fs.length < 14) (h : GS σ0 σ m X b fd lo la i nn L F bg) (hL : L.length < 280) (hn : F.nm = 0) (hb : bg.1 = 0) (he : F.es = []) (h1n : F.e1 = none)
    (hp : ∀ σ', GR σ0 m X b fd lo la L (rPtr X Fs F i) σ' → P σ') : ACv g l D MX12_readPointer [vR 12 (some m), vI (fd : Int)] σ P := by
  obtain ⟨d, rfl⟩ : ∃ d, D = d + 3 := ⟨D - 3, by omega⟩
  have fdv : fd = 14 * (20 * b + Ss.length) + Fs.length := hfd
  have e3 := hE.2.2.1
  have e6 := hE.2.2.2.2.2.1
  have tn : ((fd : Int)).toNat = fd := by omega
  have d137 : ∀ (τ : St) (e : Int × Int), GE σ0 τ m b fd lo la e → P τ → AW g l (d + 3) MX12_readPointer 137 [some (vR 12 (some m)), some (vI (fd : Int))] [] τ (fun v σ' => v = none ∧ P σ') := fun τ e ge hP =>
    bk_X12_readPointer_137 ⟨fun _ => ⟨rfl, hP⟩, fun z => absurd z (by have := ge.bd; omega)⟩
  have d101 : ∀ (τ : St) (e : Int × Int), GE σ0 τ m b fd lo la e → P τ → AW g l (d + 3) MX12_readPointer 101 [some (vR 12 (some m)), some (vI (fd : Int))] [] τ (fun v σ' => v = none ∧ P σ') := fun τ e ge hP =>
    bk_X12_readPointer_101 (d_whole (by omega) ge.bd ⟨fun _ => d137 τ e ge hP, fun z => absurd z (by have := ge.bd; omega)⟩)
  unfold rPtr at hp
  refine AC.of mo_X12_readPointer (Nat.le_of_ble_eq_true rfl) (bk_X12_readPointer_0 (g_next (by omega) hX h (fun σ1 s1 => ⟨s1.lc, ⟨by omega, by omega⟩, ?_⟩)))
  rw [tn]
  have s2 := (s1.wK (v := 8) (s1.pr.k (k := 7) he))
  have s3 := s2.wN (v := 1) (s2.pr.n (w := 1))
  refine r_isName hX s3.2.1 ?_
  by_cases k2 : X.k (X.nx i) = 2
  · obtain ⟨ew, iw⟩ := (s3.2.1.sort hX).2.2.2.2.1 k2
    rw [if_pos k2]
    rw [show tk X (X.nx i) 2 = .ok (X.nx (X.nx i)) from if_pos k2, bx_ok] at hp
    refine g_must (by omega) hX s3 (by decide) (by decide) (fun _ => ⟨fun _ => ⟨s3.lc, ?_⟩, fun z => absurd z (by decide)⟩) (fun q => absurd q (by decide))
    have aml := s3.2.2.2.2.2.2.2.2.2.1.1
    rw [aml, Int.toNat_natCast, ew, s3.2.1.2.2.2.2.1]
    refine ⟨⟨by omega, by omega⟩, ⟨by omega, by omega⟩, g_next (by omega) hX (s3.wA.f (s3.wA.pr.am (w := X.v (X.nx i)) (v := X.q (X.nx i)))) (fun σ4 s4 => ?_)⟩
    generalize hw : X.v (X.nx i) = w at *
    generalize hq : X.q (X.nx i) = qq at *
    generalize X.nx (X.nx i) = j at *
    refine g_named (by omega) hX hE hfd h14 s4 hb hn he (fun eo σ5 s5 => ⟨fun z => absurd s5.bd z, fun _ => ?_⟩) (fun e eo σ5 ge => ⟨fun _ => d101 σ5 e ge (hp σ5 (GR.err (by rw [eo, bx_er]) ge)), fun z => absurd z (by have := ge.bd; omega)⟩)
    rw [eo, bx_ok] at hp
    dsimp only at hp
    refine g_takeWord (j := 8) (by omega) hX s5 (by decide) rfl (fun ek σ6 s6 => bk_X12_readPointer_101 (g_whole (by omega) hX hE hfd h14 s6 (fun et σ7 s7 => ⟨fun z => absurd s7.bd z, fun _ => ?_⟩) (fun et σ7 ge => ⟨fun _ => d137 σ7 _ ge (hp σ7 (GR.err (by rw [show tk X _ 208 = _ from ek, bx_ok, et, bx_er]) ge)), fun z => absurd z (by have := ge.bd; omega)⟩))) (fun ek σ6 ge => d101 σ6 _ ge (hp σ6 (GR.err (by rw [show tk X _ 208 = _ from ek, bx_er]) ge)))
    rw [show tk X _ 208 = _ from ek, bx_ok, et, bx_ok] at hp
    dsimp only at hp
    generalize X.nx (X.nx (X.nx j)) = jj at *
    generalize X.v (X.nx (X.nx j)) = ty at *
    -- TIMES
    have s137 : ∀ (τ : St) (e : Nat × Exr) (n : Nat), GS σ0 τ m X b fd lo la e.1 n (L ++ [(fd, w, qq)]) ((((((F.wKi 7).wNu 1).wAm w qq).wNm (X.v j)).wTy ty).wE1 e.2) (bg.1, 8, 1) →
        (∀ σ', GR σ0 m X b fd lo la L (if X.k e.1 = 213 then bx (tN X (X.nx e.1) 1 4096) (fun n => .ok (n.1, ((((((F.wKi 7).wNu 1).wAm w qq).wNm (X.v j)).wTy ty).wE1 e.2).wNu n.2)) else .ok (e.1, (((((F.wKi 7).wNu 1).wAm w qq).wNm (X.v j)).wTy ty).wE1 e.2)) σ' → P σ') →
        AW g l (d + 3) MX12_readPointer 137 [some (vR 12 (some m)), some (vI (fd : Int))] [] τ (fun v σ' => v = none ∧ P σ') := by
      intro τ e n s hP
      refine bk_X12_readPointer_137 ⟨fun z => absurd s.bd z, fun _ => r_isWord (j := 13) hX s.2.1 (by decide) rfl ?_⟩
      by_cases k13 : X.k e.1 = 213
      · rw [if_pos k13] at hP
        rw [if_pos (show X.k e.1 = 200 + ((13 : Nat) : Int) from k13)]
        refine ⟨fun z => absurd z (by decide), fun _ => g_next (by omega) hX s (fun σ8 s8 => g_bound (by omega) hX hE hfd h14 (by decide) s8 (fun en σ9 s9 => ⟨rfl, hP σ9 ?_⟩) (fun e' en σ9 ge => ⟨rfl, hP σ9 (GR.err (by rw [show tN X _ 1 4096 = _ from en, bx_er]) ge)⟩))⟩
        rw [show tN X _ 1 4096 = _ from en, bx_ok]
        exact ⟨_, _, s9, hb, (kR_7 rfl).symm, fun _ => rfl, fun z => absurd (show (7 : Int) = 10 from z) (by decide)⟩
      · rw [if_neg k13] at hP
        rw [if_neg (show ¬ X.k e.1 = 200 + ((13 : Nat) : Int) from k13)]
        exact ⟨fun _ => ⟨rfl, hP τ ⟨_, _, s, hb, (kR_7 rfl).symm, fun _ => rfl, fun z => absurd (show (7 : Int) = 10 from z) (by decide)⟩⟩, fun z => absurd rfl z⟩
    refine r_isWord (j := 11) hX s7.2.1 (by decide) rfl ?_
    by_cases k11 : X.k jj = 211
    · rw [if_pos k11] at hp
      rw [if_pos (show X.k jj = 200 + ((11 : Nat) : Int) from k11)]
      refine ⟨fun z => absurd z (by decide), fun _ => g_next (by omega) hX s7 (fun σ8 s8 => ⟨s8.lc, g_ex (by omega) hX hE hfd h14 s8 (fun i' N e v σ9 s9 xr xl => ⟨s9.lc, ⟨by omega, by omega⟩, ?_⟩) (fun e er σ9 ge => ⟨ge.lc hE, ⟨by omega, by omega⟩, by rw [tn]; exact d137 _ e (ge.wI (by omega)) (hp _ (GR.err (by rw [er, bx_er, bx_er]) (ge.wI (by omega))))⟩)⟩)⟩
      rw [e, bx_ok, bx_ok] at hp
      rw [tn]
      exact s137 _ (i', some N) _ (s9.wI (by omega) (s9.pr.wE1 xr) (s9.pl.e1 xl)) hp
    · rw [if_neg k11, bx_ok] at hp
      rw [if_neg (show ¬ X.k jj = 200 + ((11 : Nat) : Int) from k11)]
      exact ⟨fun _ => s137 _ (jj, none) _ (s7.f (s7.pr.e1n h1n)) hp, fun z => absurd rfl z⟩
  · rw [if_neg k2]
    exact g_must (by omega) hX s3 (by decide) (by decide) (fun q => absurd q (by decide)) (fun _ σ' ge => ⟨fun z => absurd rfl z, fun _ => ⟨rfl, hp σ' (GR.err (by rw [show tk X (X.nx i) 2 = .error (ck X (X.nx i) 2) from if_neg k2, bx_er]) ge)⟩⟩)
/-- may a core begin -/
def kC (X : Txt) (i : Nat) : Prop := X.k i = 4 ∨ X.k i = 2 ∨ X.k i = 204 ∨ X.k i = 205 ∨ X.k i = 207 ∨ X.k i = 210 ∨ X.k i = 214 ∨ X.k i = 215 ∨ X.k i = 216
theorem r_begins {P : Int → St → Prop} (hD : 3 ≤ D) (hX : X.OK) (hT : RT σ m X i) (h1 : kC X i → P 1 σ) (h0 : ¬ kC X i → P 0 σ) : ACi g l D MX12_beginsCore [vR 12 (some m)] σ P := by
  obtain ⟨d, rfl⟩ : ∃ d, D = d + 3 := ⟨D - 3, by omega⟩
  have yes : kC X i → ∃ r, some (vI 1) = some (vI r) ∧ P r σ := fun q => ⟨_, rfl, h1 q⟩
  refine AC.of mo_X12_beginsCore (Nat.le_of_ble_eq_true rfl) (bk_X12_beginsCore_0 (r_whole hX hT ?_))
  by_cases k4 : X.k i = 4
  · obtain ⟨n, n1, n2, n3, n4⟩ := Txt.ty hX hT.2.2.2.1 k4
    rw [if_pos k4]
    exact ⟨fun _ => yes (Or.inl k4), fun q => absurd (by omega) q⟩
  rw [if_neg k4]
  refine ⟨fun q => absurd q (by decide), fun _ => r_isName hX hT ?_⟩
  by_cases k2 : X.k i = 2
  · rw [if_pos k2]; exact ⟨fun _ => yes (by unfold kC; omega), fun q => absurd q (by decide)⟩
  rw [if_neg k2]
  refine ⟨fun q => absurd rfl q, fun _ => r_isWord (j := 4) hX hT (by decide) rfl ?_⟩
  by_cases c1 : X.k i = 200 + ((4 : Nat) : Int)
  · rw [if_pos c1]; exact ⟨fun _ => yes (by unfold kC; omega), fun q => absurd q (by decide)⟩
  rw [if_neg c1]
  refine ⟨fun q => absurd rfl q, fun _ => r_isWord (j := 5) hX hT (by decide) rfl ?_⟩
  by_cases c2 : X.k i = 200 + ((5 : Nat) : Int)
  · rw [if_pos c2]; exact ⟨fun _ => yes (by unfold kC; omega), fun q => absurd q (by decide)⟩
  rw [if_neg c2]
  refine ⟨fun q => absurd rfl q, fun _ => r_isWord (j := 7) hX hT (by decide) rfl ?_⟩
  by_cases c3 : X.k i = 200 + ((7 : Nat) : Int)
  · rw [if_pos c3]; exact ⟨fun _ => yes (by unfold kC; omega), fun q => absurd q (by decide)⟩
  rw [if_neg c3]
  refine ⟨fun q => absurd rfl q, fun _ => r_isWord (j := 10) hX hT (by decide) rfl ?_⟩
  by_cases c4 : X.k i = 200 + ((10 : Nat) : Int)
  · rw [if_pos c4]; exact ⟨fun _ => yes (by unfold kC; omega), fun q => absurd q (by decide)⟩
  rw [if_neg c4]
  refine ⟨fun q => absurd rfl q, fun _ => r_isWord (j := 14) hX hT (by decide) rfl ?_⟩
  by_cases c5 : X.k i = 200 + ((14 : Nat) : Int)
  · rw [if_pos c5]; exact ⟨fun _ => yes (by unfold kC; omega), fun q => absurd q (by decide)⟩
  rw [if_neg c5]
  refine ⟨fun q => absurd rfl q, fun _ => r_isWord (j := 15) hX hT (by decide) rfl ?_⟩
  by_cases c6 : X.k i = 200 + ((15 : Nat) : Int)
  · rw [if_pos c6]; exact ⟨fun _ => yes (by unfold kC; omega), fun q => absurd q (by decide)⟩
  rw [if_neg c6]
  refine ⟨fun q => absurd rfl q, fun _ => r_isWord (j := 16) hX hT (by decide) rfl ?_⟩
  by_cases c7 : X.k i = 200 + ((16 : Nat) : Int)
  · rw [if_pos c7]; exact ⟨fun q => absurd q (by decide), fun _ => yes (by unfold kC; omega)⟩
  rw [if_neg c7]
  exact ⟨fun _ => ⟨_, rfl, h0 (by unfold kC; omega)⟩, fun q => absurd rfl q⟩
theorem tC_k (h : tC X Ss i = .ok ()) : kC X i ∧ (X.k i = 2 → ¬ idx (Ss.map (fun s => s.1)) (X.v i) 0 = -1) := by
  unfold tC at h
  unfold kC
  by_cases c : X.k i = 4 ∨ X.k i = 204 ∨ X.k i = 205 ∨ X.k i = 207 ∨ X.k i = 210 ∨ X.k i = 214 ∨ X.k i = 215 ∨ X.k i = 216
  · exact ⟨by omega, fun q => by omega⟩
  · rw [if_neg c] at h
    by_cases k2 : X.k i = 2
    · rw [if_pos k2] at h
      refine ⟨by omega, fun _ q => ?_⟩
      rw [if_pos q] at h; cases h
    · rw [if_neg k2] at h; cases h
theorem g_core {P : St → Prop} (hD : 13 ≤ D) (hX : X.OK) (hE : E0 σ0 m b lo En Ss Fs) (hfd : fd = fdx b Ss Fs) (h14 : Fs.length < 14) (h : GS σ0 σ m X b fd lo la i nn L F bg) (hL : L.length < 280) (hn : F.nm = 0) (hb : bg.1 = 0) (hb2 : bg.2.1 = 0) (he : F.es = []) (h1n : F.e1 = none) (hs : F.st = -1) (hC : tC X Ss i = .ok ())
    (hp : ∀ σ', GR σ0 m X b fd lo la L (rCore X En Ss Fs F i) σ' → P σ') : ACv g l D MX12_core [vR 12 (some m), vI (fd : Int)] σ P := by
  obtain ⟨d, rfl⟩ : ∃ d, D = d + 3 := ⟨D - 3, by omega⟩
  have fdv : fd = 14 * (20 * b + Ss.length) + Fs.length := hfd
  have e3 := hE.2.2.1
  have e6 := hE.2.2.2.2.2.1
  have tn : ((fd : Int)).toNat = fd := by omega
  obtain ⟨hk, hidx⟩ := tC_k hC
  unfold rCore at hp
  refine AC.of mo_X12_core (Nat.le_of_ble_eq_true rfl) (bk_X12_core_0 (r_whole hX h.2.1 ?_))
  by_cases k4 : X.k i = 4
  · rw [if_pos k4] at hp
    unfold rWhole at hp
    obtain ⟨n, n1, n2, n3, n4⟩ := Txt.ty hX h.iK k4
    rw [show tT X i = .ok (X.nx i, X.v i) from if_pos k4, bx_ok] at hp
    dsimp only at hp
    rw [if_pos k4]
    refine ⟨fun q => absurd q (by omega), fun _ => ⟨h.lc, r_whole hX h.2.1 ⟨h.lc, ⟨by omega, by omega⟩, ?_⟩⟩⟩
    rw [if_pos k4, tn]
    refine g_next (by omega) hX ((h.f (h.pr.k0 (k := 1) he)).wI (by omega) ((h.pr.k0 (k := 1) he).wTy rfl) h.pl) (fun σ1 s1 => g_named (by omega) hX hE hfd h14 s1 hb hn he (fun eo σ2 s2 => ?_) (fun e eo σ2 ge => d_wholeOn (by omega) ge.bd ⟨rfl, hp σ2 (GR.err (by rw [eo, bx_er]) ge)⟩))
    rw [eo, bx_ok] at hp
    exact g_wholeOn (by omega) hX hE hfd h14 s2 rfl hb hs he hb2 (fun σ3 gr => ⟨rfl, hp σ3 gr⟩)
  rw [if_neg k4] at hp ⊢
  refine ⟨fun _ => r_isName hX h.2.1 ?_, fun q => absurd (by decide) q⟩
  by_cases k2 : X.k i = 2
  · rw [if_pos k2] at hp ⊢
    unfold rStruct at hp
    obtain ⟨ew, iw⟩ := (h.2.1.sort hX).2.2.2.2.1 k2
    have hi := hidx k2
    have ig := idx_ge (w := X.v i) (Ss.map (fun e => e.1)) 0 (by decide)
    rw [List.length_map] at ig
    rw [show tI X (Ss.map (fun s => s.1)) i = .ok (X.nx i, idx (Ss.map (fun s => s.1)) (X.v i) 0) by unfold tI; rw [if_pos k2, if_neg hi], bx_ok] at hp
    dsimp only at hp
    obtain ⟨b53, n19⟩ := g_nS hE h.1
    refine ⟨fun q => absurd q (by decide), fun _ => ⟨h.lc, ⟨by omega, by omega⟩, ⟨by omega, by omega⟩, ?_⟩⟩
    rw [ew, n19, tn]
    have s1 := h.wK (v := 2) (h.pr.k (k := 0) he)
    refine g_structNamed hE s1.1 iw rfl ⟨s1.lc, g_next (by omega) hX (s1.wI (by omega) s1.pr.wSt s1.pl) (fun σ2 s2 => g_named (by omega) hX hE hfd h14 s2 hb hn he (fun eo σ3 s3 => ⟨fun z => absurd s3.bd z, fun _ => r_isSign hX s3.2.1 (by decide) (by decide) ?_⟩) (fun e eo σ3 ge => ⟨fun _ => ⟨rfl, hp σ3 (GR.err (by rw [eo, bx_er]) ge)⟩, fun z => absurd z (by have := ge.bd; omega)⟩))⟩
    rw [eo, bx_ok] at hp
    dsimp only at hp
    unfold rTail at hp
    rw [if_neg (fun z => absurd (show (0 : Int) = 1 from z.1) (by decide))] at hp
    by_cases k91 : X.k (X.nx (X.nx i)) = 91
    · rw [if_pos k91] at hp ⊢
      exact ⟨fun q => absurd q (by decide), fun _ => ⟨s3.lc, g_array (F := (((F.wKi 0).wSt (idx (Ss.map (fun s => s.1)) (X.v i) 0)).wNm (X.v (X.nx i))).wKi 2) (by omega) hX hE hfd h14 (s3.wK (s3.pr.k he)) rfl hb (Or.inr ⟨by show 0 ≤ idx _ _ _; omega, by show idx _ _ _ < _; omega, rfl⟩) (fun σ' gr => ⟨rfl, hp σ' gr⟩)⟩⟩
    · rw [if_neg k91] at hp ⊢
      exact ⟨fun _ => ⟨rfl, hp σ3 (GR.okk rfl (by show ¬ (0 : Int) = 7; decide) s3 (GK.of hb (kR_0 rfl).symm ⟨(by decide : ¬ (0 : Int) = 7), (by decide : ¬ (0 : Int) = 8), (by decide : ¬ (0 : Int) = 10), fun z => absurd (show (0 : Int) = 5 from z) (by decide)⟩))⟩, fun q => absurd rfl q⟩
  rw [if_neg k2] at hp ⊢
  refine ⟨fun _ => r_isWord (j := 4) hX h.2.1 (by decide) rfl ?_, fun q => absurd rfl q⟩
  by_cases c1 : X.k i = 204
  · rw [if_pos c1] at hp; rw [if_pos (show X.k i = 200 + ((4 : Nat) : Int) from c1)]
    exact ⟨fun q => absurd q (by decide), fun _ => g_bits (by omega) hX hE hfd h14 h hn hb he (fun σ' gr => ⟨rfl, hp σ' gr⟩)⟩
  rw [if_neg c1] at hp; rw [if_neg (show ¬ X.k i = 200 + ((4 : Nat) : Int) from c1)]
  refine ⟨fun _ => r_isWord (j := 5) hX h.2.1 (by decide) rfl ?_, fun q => absurd rfl q⟩
  by_cases c2 : X.k i = 205
  · rw [if_pos c2] at hp; rw [if_pos (show X.k i = 200 + ((5 : Nat) : Int) from c2)]
    exact ⟨fun q => absurd q (by decide), fun _ => g_text (by omega) hX hE hfd h14 h hn h1n hb he (fun σ' gr => ⟨rfl, hp σ' gr⟩)⟩
  rw [if_neg c2] at hp; rw [if_neg (show ¬ X.k i = 200 + ((5 : Nat) : Int) from c2)]
  refine ⟨fun _ => r_isWord (j := 7) hX h.2.1 (by decide) rfl ?_, fun q => absurd rfl q⟩
  by_cases c3 : X.k i = 207
  · rw [if_pos c3] at hp; rw [if_pos (show X.k i = 200 + ((7 : Nat) : Int) from c3)]
    exact ⟨fun q => absurd q (by decide), fun _ => g_union (by omega) hX hE hfd h14 h hn hb he (fun σ' gr => ⟨rfl, hp σ' gr⟩)⟩
  rw [if_neg c3] at hp; rw [if_neg (show ¬ X.k i = 200 + ((7 : Nat) : Int) from c3)]
  refine ⟨fun _ => r_isWord (j := 10) hX h.2.1 (by decide) rfl ?_, fun q => absurd rfl q⟩
  by_cases c4 : X.k i = 210
  · rw [if_pos c4] at hp; rw [if_pos (show X.k i = 200 + ((10 : Nat) : Int) from c4)]
    exact ⟨fun q => absurd q (by decide), fun _ => g_ptr (by omega) hX hE hfd h14 h hL hn hb he h1n (fun σ' gr => ⟨rfl, hp σ' gr⟩)⟩
  rw [if_neg c4] at hp; rw [if_neg (show ¬ X.k i = 200 + ((10 : Nat) : Int) from c4)]
  refine ⟨fun _ => r_isWord (j := 14) hX h.2.1 (by decide) rfl ?_, fun q => absurd rfl q⟩
  by_cases c5 : X.k i = 214
  · rw [if_pos c5] at hp; rw [if_pos (show X.k i = 200 + ((14 : Nat) : Int) from c5)]
    unfold rPad at hp
    refine ⟨fun q => absurd q (by decide), fun _ => g_next (by omega) hX h (fun σ1 s1 => ⟨s1.lc, ⟨by omega, by omega⟩, ?_⟩)⟩
    rw [tn]
    exact g_bound (by omega) hX hE hfd h14 (by decide) (s1.wK (v := 9) (s1.pr.k (k := 8) he)) (fun en σ2 s2 => ⟨rfl, hp σ2 (GR.okk (by rw [show tN X _ 1 64 = _ from en, bx_ok]) (by show ¬ (8 : Int) = 7; decide) s2 ⟨hb, (kR_8 rfl).symm, fun _ => rfl, fun z => absurd (show (8 : Int) = 10 from z) (by decide)⟩)⟩) (fun e en σ2 ge => ⟨rfl, hp σ2 (GR.err (by rw [show tN X _ 1 64 = _ from en, bx_er]) ge)⟩)
  rw [if_neg c5] at hp; rw [if_neg (show ¬ X.k i = 200 + ((14 : Nat) : Int) from c5)]
  refine ⟨fun _ => r_isWord (j := 15) hX h.2.1 (by decide) rfl ?_, fun q => absurd rfl q⟩
  by_cases c6 : X.k i = 215
  · rw [if_pos c6] at hp; rw [if_pos (show X.k i = 200 + ((15 : Nat) : Int) from c6)]
    exact ⟨fun q => absurd q (by decide), fun _ => g_magic (by omega) hX hE hfd h14 h hn hb he (fun σ' gr => ⟨rfl, hp σ' gr⟩)⟩
  rw [if_neg c6] at hp; rw [if_neg (show ¬ X.k i = 200 + ((15 : Nat) : Int) from c6)]
  exact ⟨fun _ => g_sum (by omega) hX hE hfd h14 h hn hb he (fun σ' gr => ⟨rfl, hp σ' gr⟩), fun q => absurd rfl q⟩
end M27
