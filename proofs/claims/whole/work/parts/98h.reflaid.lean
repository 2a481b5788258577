/-! the reference lays: fields begun, structs, trees -/
section R8
variable {g : GP} {l : Launch} {e : Nat} {σ0 σ σ' σ'' : St} {m t b i k r kk : Nat} {En : List Enm} {Ss : List Stc} {s : TS} {h : Int → Int} {len im fl st x : Int} {K : List (Nat × Int)} {F : Fld} {L : LY} {S : Stc} {Q : Option AV → St → Prop} {Nn : Prop}
/-- a struct below node k (a union or a pointer), k itself below struct i -/
theorem lp_open2 {st' place : Int} (hL : LyR g l e m t b Ss len σ0 Q Nn L r) (hG : LG Ss len L) (hE0 : EnR σ0 m t b En Ss im len h) (hO : RyO m t σ0 σ) (hK : K.length + 2 * (r + 1) ≤ 60) (hc : s.c < 400) (hT : TrR σ m t b (bgS r (mkM s 0 k place (-1) place st' 0 (nmS Ss st')) s.c)) (hS : SkR σ m t (((K ++ [(i, x)]) ++ [(k, 0)]) ++ [(s.c, bgX r)])) (hI : TI Ss len s) (hU : TU Ss len s) (hi : i < s.c) (hk : k < s.c) (hi0 : s.d 0 i = 0) (hk0 : s.d 0 k = 6 ∨ s.d 0 k = 7) (h5 : s.d 5 k = (i : Int)) (h1 : 0 ≤ place ∧ place ≤ len) (hst : 0 ≤ st' ∧ st' < Ss.length) (hA : Anc s k = 20 - (r : Int)) (hNn : addS L Ss s k st' place = none → Nn)
    (cont : ∀ s2, addS L Ss s k st' place = some s2 → ∀ σ', RyO m t σ0 σ' → (s.d 0 k = 6 → TrR σ' m t b ((s2.w 2 k (s2.d 2 s.c)).w 2 i ((s2.w 2 k (s2.d 2 s.c)).d 2 k))) → (s.d 0 k = 7 → TrR σ' m t b (s2.w 2 i (s2.d 2 k))) → SkR σ' m t (K ++ [(i, x)]) → LpA g l e m σ' Q) : LpA g l e m σ Q := by
  have up := hI.up
  have kpar : ∀ j : Nat, (k : Int) = (j : Int) → ¬ s.d 0 j = 0 ∧ ¬ s.d 0 j = 3 := fun j ej => by rw [show j = k by omega]; omega
  obtain ⟨I2, U2⟩ := add_mk (place := place) hI hU hc ⟨by omega, by omega⟩ kpar h1 hst
  have n0 : (mkM s 0 k place (-1) place st' 0 (nmS Ss st')).d 0 s.c = 0 := mk_n
  have n5 : (mkM s 0 k place (-1) place st' 0 (nmS Ss st')).d 5 s.c = (k : Int) := mk_n
  have n7 : (mkM s 0 k place (-1) place st' 0 (nmS Ss st')).d 7 s.c = st' := mk_n
  have an2 : Anc (mkM s 0 k place (-1) place st' 0 (nmS Ss st')) ((mkM s 0 k place (-1) place st' 0 (nmS Ss st')).d 5 s.c) = 20 - (r : Int) := by
    rw [n5, ← hA]
    exact anc_cg up (fun j hj => ⟨mk_o (by omega), mk_o (by omega)⟩) _ _ _ (by omega)
  refine hL σ _ s.c st' _ hO hT hS (by rw [app_l, app_l]; omega) I2 U2 rfl n0 n7 mk_kn an2 (fun en => hNn (by unfold addS mkO; rw [if_pos hc]; exact en)) (fun s2 es σ3 o3 T3 S3 => ?_)
  have ea : addS L Ss s k st' place = some s2 := by unfold addS mkO; rw [if_pos hc]; exact es
  obtain ⟨t1, t2, t3, t4, t5⟩ := addS_ok hG hI hU ⟨by omega, by omega⟩ kpar h1 hst ea
  have ex := t3 k rfl
  have exs := (hG _ s.c st' s2 I2 U2 rfl n0 n7 mk_kn es).2.2
  have q0 : s2.d 0 k = s.d 0 k := ex.2.2 0 (by decide) (by decide) (by decide)
  have q5 : s2.d 5 k = (i : Int) := by rw [ex.2.2 5 (by decide) (by decide) (by decide)]; exact h5
  have c5 : s2.d 5 s.c = (k : Int) := by rw [exs.2.2 5 (by decide) (by decide) (by decide)]; exact n5
  have nik : ¬ i = k := fun q => by rw [q] at hi0; omega
  have pi := (ex.2.1 i hi nik).1 0
  have kl : k < s2.c := by omega
  rcases hk0 with z | z
  · rw [clS_u c5 (by omega)] at T3
    refine lp_oclose hE0 o3 T3 S3 (by rw [app_l]; omega) ?_ kl (by rw [w_ne (by decide)]; omega) (fun σ4 o4 T4 S4 => ?_)
    · intro j hj
      rw [w_ne (by decide)]
      exact t1.up j hj
    · rw [clS_u (p := i) (by rw [w_ne (by decide)]; exact q5) (by rw [w_ne (by decide)]; omega)] at T4
      exact cont s2 ea σ4 o4 (fun _ => T4) (fun y => by omega) S4
  · rw [clS_7 c5 (by omega)] at T3
    refine lp_oclose hE0 o3 T3 S3 (by rw [app_l]; omega) t1.up kl (by omega) (fun σ4 o4 T4 S4 => ?_)
    rw [clS_u (p := i) q5 (by omega)] at T4
    exact cont s2 ea σ4 o4 (fun y => by omega) (fun _ => T4) S4
theorem lp_field (hL : LyR g l e m t b Ss len σ0 Q Nn L r) (hG : LG Ss len L) (hm : Nn → ∀ σ', RyO m t σ0 σ' → gI σ' 1282 m 0 = 1 → Q none σ') (hE0 : EnR σ0 m t b En Ss im len h) (hB : ∀ fl F, gF Ss fl = some F → F.ki = 3 → BiO F.es 0 (8 * tw F.ty) ∧ F.es.length ≤ 12) (hsz : ∀ x, szS Ss x ≤ 1000000) (h20 : Ss.length ≤ 20) (hO : RyO m t σ0 σ) (hT : TrR σ m t b s) (hS : SkR σ m t (K ++ [(i, x)])) (hK : K.length + 2 * (r + 1) ≤ 60) (hr : r ≤ 20) (hI : TI Ss len s) (hU : TU Ss len s) (hi : i < s.c) (h0 : s.d 0 i = 0) (h7 : s.d 7 i = st) (hst : 0 ≤ st) (hSs : Ss[st.toNat]? = some S) (hS14 : S.2.1.length ≤ 14) (hfl : fl = 14 * st + kk) (h14 : kk < 14) (hks : ∀ a ∈ s.k i, s.d 6 a < fl) (hF : gF Ss fl = some F) (hW : FW En Ss F) (hX : XNf (S.2.1.take kk) F) (hA : Anc s (s.d 5 i) = 19 - (r : Int)) (hNn : (thr Ss h len s i F).2 = true → lyF En Ss h len L (thr Ss h len s i F).1 i fl F = none → Nn)
    (cS : (thr Ss h len s i F).2 = false → ∀ σ', RyO m t σ0 σ' → TrR σ' m t b (thr Ss h len s i F).1 → SkR σ' m t (K ++ [(i, x)]) → LpA g l e m σ' Q)
    (cF : (thr Ss h len s i F).2 = true → ∀ r', lyF En Ss h len L (thr Ss h len s i F).1 i fl F = some r' → ∀ σ', RyO m t σ0 σ' → TrR σ' m t b r'.1 → SkR σ' m t (K ++ [(i, if r'.2 = true then x else 14)]) → LpA g l e m σ' Q) :
    ACv g l (e + 12) MX12_fieldBegun [vR 12 (some m), vI ((400 * t + i : Nat) : Int), vI (fxR b fl : Int)] σ (fun σ' => LpA g l e m σ' Q) := by
  have hE := hE0.ry hO
  have t7 := hE.2.2.2.2.2
  have c4 := hT.1.2.2
  have fl5 := fx_lt hE hF
  have f0 := (gF_some hF).1
  have vi := (hI.2 i hi).1.1
  have i6 := hE.1.2.2.2.2.2.1
  have n3 := (hT.2 i hi).2.2.1
  have nmo : ∀ (u : TS), u.d 7 i = st → ∀ ex, XN (S.2.1.take kk) ex → ∀ N, ex = some N → ∀ y ∈ N, y.o = 2 → NmO Ss u i y.v.toInt := fun u t7 ex hx N eN => by
    rw [eN] at hx
    exact nmo_of (S := S) (kk := kk) (by rw [t7]; exact hSs) (by omega) hS14 hx
  -- the field is there
  have s67 : ∀ σ2, RyO m t σ0 σ2 → TrR σ2 m t b s → SkR σ2 m t (K ++ [(i, x)]) → (lyF En Ss h len L s i fl F = none → Nn) → (∀ r', lyF En Ss h len L s i fl F = some r' → ∀ σ', RyO m t σ0 σ' → TrR σ' m t b r'.1 → SkR σ' m t (K ++ [(i, if r'.2 = true then x else 14)]) → LpA g l e m σ' Q) → AW g l (e + 12) MX12_fieldBegun 67 [some (vR 12 (some m)), some (vI ((400 * t + i : Nat) : Int)), some (vI (fxR b fl : Int)), some (vI (s.d 2 i)), none, none, none, none] [] σ2 (fun v σ' => v = none ∧ LpA g l e m σ' Q) := by
    intro σ2 o2 T2 S2 hNn cF
    have E2 := hE0.ry o2
    have fr := (E2.fdr.2 fl F hF).2
    have e28 : gI σ2 1228 m (fxR b fl) = kR F := fr.2.1
    have e31 : gI σ2 1231 m (fxR b fl) = F.st := fr.1.2.2.2.2.2.1
    have up := hI.up
    have ani : Anc s i = 20 - (r : Int) := by rw [anc_st up hi, if_pos h0, hA]; omega
    have ne4 := hW.ne4.1
    refine bk_X12_fieldBegun_67 ⟨E2.1.1, ⟨by omega, by omega⟩, ?_⟩
    rw [Int.toNat_natCast, e28, e31]
    have q233 : ¬ F.ki = 0 → ∀ y : Int, y = F.ki → AW g l (e + 12) MX12_fieldBegun 233 [some (vR 12 (some m)), some (vI ((400 * t + i : Nat) : Int)), some (vI (fxR b fl : Int)), some (vI (s.d 2 i)), none, none, none, none] [vI y] σ2 (fun v σ' => v = none ∧ LpA g l e m σ' Q) := fun k0 y hy => by
      rw [hy]
      refine bk_X12_fieldBegun_233 (m_make (par := (i : Int)) (fld := fl) (u2 := s.d 2 i) (u7 := -1) (u8 := 0) (nm := F.nm) (by unfold oI; rw [if_neg (by omega)]; omega) (by unfold flR fxR; rw [if_neg (by omega)]; omega) E2 T2 (fun i hi => (hI.2 i hi).2.1) ⟨by omega, by omega⟩ (fun nc => ⟨fun w => ?_, fun _ => ⟨rfl, ?_⟩⟩) (fun hc σ3 o3 many r69 r73 r75 post => ⟨fun _ => ?_, fun w => absurd many w⟩))
      · rw [gI_slf] at w; exact absurd w (by decide)
      · exact lp_many hm (hNn (by unfold lyF mkO; rw [if_neg nc])) (o2.trans ns_many.ry) (gI_slf _ _ _ _ _)
      have T3 := post σ3 (fun _ _ _ => rfl) r69 r73 r75
      have em' : mkF s i fl F = mkM s F.ki i (s.d 2 i) fl (s.d 2 i) (-1) 0 F.nm := by show mkM _ _ _ _ _ _ (if F.ki = 0 then F.st else -1) _ _ = _; rw [if_neg k0]
      rw [← em'] at T3
      obtain ⟨I1, X1⟩ := fld_mk hW hF hI hU hc hi h0 h7 hfl h14 hks
      have em : mkO s F.ki i (s.d 2 i) fl (s.d 2 i) (if F.ki = 0 then F.st else -1) 0 F.nm = some (mkF s i fl F) := by unfold mkO; rw [if_pos hc]
      have ly : ∀ r', bdF En Ss h len L (mkF s i fl F) i s.c fl F = some r' → lyF En Ss h len L s i fl F = some (r'.1.w 2 i (r'.1.d 2 s.c), r'.2) := fun r' er => by unfold lyF; rw [em]; dsimp only; rw [er]
      have lyn : bdF En Ss h len L (mkF s i fl F) i s.c fl F = none → Nn := fun er => hNn (by unfold lyF; rw [em]; dsimp only; rw [er])
      have ni : ¬ i = s.c := by omega
      have m0 : (mkF s i fl F).d 0 s.c = F.ki := mk_n
      have m1 : (mkF s i fl F).d 1 s.c = s.d 2 i := mk_n
      have m3 : (mkF s i fl F).d 3 s.c = 0 := mk_n
      have m4 : (mkF s i fl F).d 4 s.c = 0 := mk_n
      have m5 : (mkF s i fl F).d 5 s.c = (i : Int) := mk_n
      have m6 : (mkF s i fl F).d 6 s.c = fl := mk_n
      have m7 : (mkF s i fl F).d 7 s.c = if F.ki = 0 then F.st else -1 := mk_n
      have mc : (mkF s i fl F).c = s.c + 1 := rfl
      have mkk : (mkF s i fl F).k s.c = [] := mk_kn
      have i0 : (mkF s i fl F).d 0 i = 0 := by rw [mk_o ni]; exact h0
      have i1 : (mkF s i fl F).d 1 i = s.d 1 i := mk_o ni
      have i7 : (mkF s i fl F).d 7 i = st := by rw [mk_o ni]; exact h7
      have i5 : (mkF s i fl F).d 5 i = s.d 5 i := mk_o ni
      have hil : i < (mkF s i fl F).c := by rw [mc]; omega
      have hcl : s.c < (mkF s i fl F).c := by rw [mc]; omega
      have ansi : Anc (mkF s i fl F) (s.d 5 i) = 19 - (r : Int) := by
        rw [← hA]
        exact anc_cg up (fun j hj => ⟨mk_o (by omega), mk_o (by omega)⟩) _ _ _ (by have := up i hi; omega)
      have ansc : Anc (mkF s i fl F) (s.c : Nat) = 20 - (r : Int) := by
        rw [anc_st I1.up hcl, m0, if_neg k0, m5, anc_st I1.up hil, if_pos i0, i5, ansi]; omega
      have E3 := E2.ry o3.ry
      have S3 := S2.ns o3
      have c43 := T3.1.2.2
      have oo := o2.trans o3.ry
      have s85 : gI σ3 1285 m 0 = ((K.length + 1 : Nat) : Int) := by rw [S3.1, app_l]
      have ndel : ∀ σ4, NsO m t σ3 σ4 → gI σ4 1285 m 0 = gI σ3 1285 m 0 := fun σ4 o4 => o4.1.I (fun q => by have := q.2; omega) 0
      refine m_filled (r := r) (L := L) E3 T3 S3 (by rw [app_l]; omega) I1 X1 hB hil i0 hcl m0 m3 m4 m5 m6 mkk (by rw [i1, m1]; omega) hF hW hsz k0 (fun u u7 => nmo u (by rw [u7]; exact i7) _ hX.2.1) (fun u u7 => nmo u (by rw [u7]; exact i7) _ hX.2.2) h20 ansc hr (fun r' er σ4 o4 T4 => ?_) (fun en σ4 o4 mm => ?_) (fun k2 n en n2 σ4 o4 T4 S4 => ?_) (fun k6 st' s0 s1 es => ?_) (fun k7 s1 a es1 I4 U4 a0 a1 ea => ?_)
      · -- done at once
        have kp := bdF_ok hW hF hG I1 X1 rfl m0 m6 m3 mkk (fun z => absurd z k0) er
        have cl4 := kp.2.2.1
        rw [mc] at cl4
        have g69 := (T4.2 s.c (by omega)).2.2.1
        have S4 := S3.ns o4
        have E4 := E3.ry o4.ry
        have c44 := T4.1.2.2
        have fin : ∀ (σ5 : St) (y : Int), RyO m t σ0 σ5 → TrR σ5 m t b r'.1 → SkR σ5 m t (K ++ [(i, y)]) → (y = if r'.2 = true then x else 14) → LpA g l e m (sI σ5 1269 m (400 * t + i) (gI σ5 1269 m (400 * t + s.c))) Q := fun σ5 y o5 T5 S5 hy => by
          have g5 := (T5.2 s.c (by omega)).2.2.1
          rw [g5]
          have T6 := T5.w (k := i) (f := 2) (fr := 1269) (v := r'.1.d 2 s.c) (by omega) (by omega)
          have o6 : NsO m t σ5 (sI σ5 1269 m (400 * t + i) (r'.1.d 2 s.c)) := NsO.sI (by omega) (by omega)
          exact cF _ (ly r' er) _ (o5.trans o6.ry) T6 (by rw [hy] at S5; exact S5.ns o6)
        by_cases q : r'.2 = true
        · rw [if_pos q]
          refine ⟨fun _ => ⟨fun w => absurd (ndel σ4 o4) w, fun _ => ⟨E4.1.1, ⟨by omega, by omega⟩, ⟨by omega, by omega⟩, rfl, ?_⟩⟩, fun w => absurd w (by decide)⟩
          rw [Int.toNat_natCast, Int.toNat_natCast]
          exact fin σ4 x (oo.trans o4.ry) T4 S4 (by rw [if_pos q])
        · rw [if_neg q]
          have i04 : r'.1.d 0 i = 0 := by rw [(kp.2.2.2.1 i hil ni).1 0]; exact i0
          refine ⟨fun w => absurd rfl w, fun _ => m_stops1 E4 T4 S4 (by omega) (by omega) i04 (fun σ5 o5 T5 S5 => ⟨fun w => ?_, fun _ => ⟨(E4.ry o5).1.1, ⟨by omega, by omega⟩, ⟨by omega, by omega⟩, rfl, ?_⟩⟩)⟩
          · rw [S5.1, app_l, s85] at w
            exact absurd rfl w
          · rw [Int.toNat_natCast, Int.toNat_natCast]
            exact fin σ5 14 ((oo.trans o4.ry).trans o5) T5 S5 (by rw [if_neg q])
      · -- too many
        have E4 := E3.ry o4.ry
        refine ⟨fun _ => ⟨fun _ => ⟨rfl, lp_many hm (lyn en) (oo.trans o4.ry) mm⟩, fun _ => ⟨E4.1.1, ⟨by omega, by omega⟩, ⟨by omega, by omega⟩, rfl, ?_⟩⟩, fun w => absurd w (by decide)⟩
        rw [Int.toNat_natCast, Int.toNat_natCast]
        have o6 : NsO m t σ4 (sI σ4 1269 m (400 * t + i) (gI σ4 1269 m (400 * t + s.c))) := NsO.sI (by omega) (by omega)
        exact lp_many hm (lyn en) ((oo.trans o4.ry).trans o6.ry) (by rw [gI_sI, if_neg (by simp)]; exact mm)
      · -- an array is opened
        refine ⟨fun _ => ⟨fun _ => ⟨rfl, ?_⟩, fun w => ?_⟩, fun w => absurd w (by decide)⟩
        · refine lp_arr hL hG hm hE0 hF k2 (hW.k2 k2) hK hr n σ4 (mkF s i fl F) (oo.trans o4) T4 S4 I1 ?_ hil hcl i0 (by rw [m0]; exact k2) m5 m6 (by rw [i5]; exact ansi) n2 (fun er => lyn (by rw [en]; exact er)) (fun r' er σ5 o5 T5 S5 => cF _ (ly r' (by rw [en]; exact er)) σ5 o5 T5 S5)
          exact TX.all X1 (fun F' q => by
            rw [m6, hF] at q
            cases q
            rw [m0, k2]
            exact ⟨fun z => by unfold isNu at z; omega, fun z => by omega⟩)
        · rw [S4.1, app_l, app_l, s85] at w; omega
      · -- a union
        have U1 : TU Ss len (mkF s i fl F) := TX.all X1 (fun F' q => by
          rw [m6, hF] at q
          cases q
          rw [m0, k6]
          exact ⟨fun z => by unfold isNu at z; omega, fun z => by omega⟩)
        refine ⟨fun nc σ4 o4 mm => ?_, fun hc4 σ4 o4 T4 S4 => ?_⟩
        · have nn : Nn := lyn (by rw [es, show addS L Ss (mkF s i fl F) s.c st' ((mkF s i fl F).d 1 s.c) = none by unfold addS mkO; rw [if_neg nc]])
          have E4 := E3.ry o4
          refine ⟨fun _ => ⟨fun _ => ⟨rfl, lp_many hm nn (oo.trans o4) mm⟩, fun _ => ⟨E4.1.1, ⟨by omega, by omega⟩, ⟨by omega, by omega⟩, rfl, ?_⟩⟩, fun w => absurd w (by decide)⟩
          rw [Int.toNat_natCast, Int.toNat_natCast]
          have o6 : NsO m t σ4 (sI σ4 1269 m (400 * t + i) (gI σ4 1269 m (400 * t + s.c))) := NsO.sI (by omega) (by omega)
          exact lp_many hm nn ((oo.trans o4).trans o6.ry) (by rw [gI_sI, if_neg (by simp)]; exact mm)
        · refine ⟨fun _ => ⟨fun _ => ⟨rfl, ?_⟩, fun w => ?_⟩, fun w => absurd w (by decide)⟩
          · refine lp_open2 hL hG hE0 (oo.trans o4) hK hc4 T4 S4 I1 U1 hil hcl i0 (Or.inl (by rw [m0]; exact k6)) m5 (by rw [m1]; omega) ⟨s0, s1⟩ ansc (fun en => lyn (by rw [es, en])) (fun s2 ea σ5 o5 T5 _ S5 => ?_)
            have es' : bdF En Ss h len L (mkF s i fl F) i s.c fl F = some (s2.w 2 s.c (s2.d 2 (mkF s i fl F).c), true) := by rw [es, ea]
            exact cF _ (ly _ es') σ5 o5 (T5 (by rw [m0]; exact k6)) S5
          · rw [S4.1, app_l, app_l, app_l, s85] at w; omega
      · -- a pointer
        have w1 : s1.d 0 i = 0 := by rw [es1, w_ne (by decide)]; exact i0
        have w0 : s1.d 0 s.c = 7 := by rw [es1, w_ne (by decide), m0]; exact k7
        have w5 : s1.d 5 s.c = (i : Int) := by rw [es1, w_ne (by decide)]; exact m5
        have wc : s1.c = (mkF s i fl F).c := by rw [es1]
        have wA : Anc s1 (s.c : Nat) = 20 - (r : Int) := by
          rw [← ansc, es1]
          exact anc_cg I1.up (fun j hj => ⟨w_ne (by decide), w_ne (by decide)⟩) _ _ _ (by omega)
        have hst7 := hW.k7 k7
        refine ⟨fun nc σ4 o4 mm => ?_, fun hc4 σ4 o4 T4 S4 => ?_⟩
        · have nn : Nn := lyn (by rw [ea, show addS L Ss s1 s.c F.st a = none by unfold addS mkO; rw [if_neg nc]])
          have E4 := E3.ry o4
          refine ⟨fun _ => ⟨fun _ => ⟨rfl, lp_many hm nn (oo.trans o4) mm⟩, fun _ => ⟨E4.1.1, ⟨by omega, by omega⟩, ⟨by omega, by omega⟩, rfl, ?_⟩⟩, fun w => absurd w (by decide)⟩
          rw [Int.toNat_natCast, Int.toNat_natCast]
          have o6 : NsO m t σ4 (sI σ4 1269 m (400 * t + i) (gI σ4 1269 m (400 * t + s.c))) := NsO.sI (by omega) (by omega)
          exact lp_many hm nn ((oo.trans o4).trans o6.ry) (by rw [gI_sI, if_neg (by simp)]; exact mm)
        · refine ⟨fun _ => ⟨fun _ => ⟨rfl, ?_⟩, fun w => ?_⟩, fun w => absurd w (by decide)⟩
          · refine lp_open2 hL hG hE0 (oo.trans o4) hK hc4 T4 S4 I4 U4 (by rw [wc]; exact hil) (by rw [wc]; exact hcl) w1 (Or.inr w0) w5 ⟨a0, by omega⟩ ⟨hst7.2.1, hst7.2.2.1⟩ wA (fun en => lyn (by rw [ea, en])) (fun s2 ea2 σ5 o5 _ T5 S5 => ?_)
            have es' : bdF En Ss h len L (mkF s i fl F) i s.c fl F = some (s2, true) := by rw [ea, ea2]
            exact cF _ (ly _ es') σ5 o5 (T5 w0) S5
          · rw [S4.1, app_l, app_l, app_l, s85] at w; omega
    by_cases k0 : F.ki = 0
    · -- a struct
      rw [kR_0 k0]
      refine ⟨fun w => absurd rfl w, fun _ => ?_⟩
      have hst' := hW.k0 k0
      refine m_begun (r := r) (par := (i : Int)) (fld := fl) (nm := F.nm) (by unfold oI; rw [if_neg (by omega)]; omega) (by unfold flR fxR; rw [if_neg (by omega)]; omega) E2 T2 S2 (by rw [app_l]; omega) (fun i hi => (hI.2 i hi).2.1) ⟨by omega, by omega⟩ ani hr (fun nc σ3 o3 mm => ⟨rfl, lp_many hm (hNn (by unfold lyF mkO; rw [if_neg nc])) (o2.trans o3) mm⟩) (fun hc σ3 o3 T3 S3 => ⟨rfl, ?_⟩)
      obtain ⟨I1, X1⟩ := fld_mk hW hF hI hU hc hi h0 h7 hfl h14 hks
      have em' : mkF s i fl F = mkM s 0 i (s.d 2 i) fl (s.d 2 i) F.st 0 F.nm := by show mkM _ F.ki _ _ _ _ (if F.ki = 0 then F.st else -1) _ _ = _; rw [if_pos k0, k0]
      have em : mkO s F.ki i (s.d 2 i) fl (s.d 2 i) (if F.ki = 0 then F.st else -1) 0 F.nm = some (mkF s i fl F) := by unfold mkO; rw [if_pos hc]
      have m0 : (mkF s i fl F).d 0 s.c = F.ki := mk_n
      have m5 : (mkF s i fl F).d 5 s.c = (i : Int) := mk_n
      have m6 : (mkF s i fl F).d 6 s.c = fl := mk_n
      have m7 : (mkF s i fl F).d 7 s.c = if F.ki = 0 then F.st else -1 := mk_n
      have U1 : TU Ss len (mkF s i fl F) := TX.all X1 (fun F' q => by
        rw [m6, hF] at q
        cases q
        rw [m0, k0]
        exact ⟨fun z => by unfold isNu at z; omega, fun z => by omega⟩)
      have ni : ¬ i = s.c := by omega
      rw [← em'] at T3
      have an2 : Anc (mkF s i fl F) ((mkF s i fl F).d 5 s.c) = 20 - (r : Int) := by
        rw [m5, ← ani]
        exact anc_cg up (fun j hj => ⟨mk_o (by omega), mk_o (by omega)⟩) _ _ _ (by omega)
      refine hL σ3 (mkF s i fl F) s.c F.st _ (o2.trans o3) T3 S3 (by rw [app_l]; omega) I1 U1 rfl (by rw [m0]; exact k0) (by rw [m7, if_pos k0]) mk_kn an2 (fun en => hNn (by unfold lyF; rw [em]; dsimp only; unfold bdF; rw [if_pos k0, en]; rfl)) (fun s2 es σ4 o4 T4 S4 => ?_)
      have ex := (hG _ s.c F.st s2 I1 U1 rfl (by rw [m0]; exact k0) (by rw [m7, if_pos k0]) mk_kn es).2.2
      have c5 : s2.d 5 s.c = (i : Int) := by rw [ex.2.2 5 (by decide) (by decide) (by decide)]; exact m5
      have i02 : s2.d 0 i = 0 := by rw [(ex.2.1 i (by show i < s.c + 1; omega) ni).1 0, mk_o ni]; exact h0
      rw [clS_u c5 (by omega)] at T4
      exact cF (s2.w 2 i (s2.d 2 s.c), true) (by unfold lyF; rw [em]; dsimp only; unfold bdF; rw [if_pos k0, es]; rfl) σ4 o4 T4 S4
    · have kv : (F.ki = 1 ∧ kR F = 0) ∨ (F.ki = 2 ∧ (kR F = 1 ∨ kR F = 3)) ∨ (F.ki = 3 ∧ kR F = 4) ∨ (F.ki = 5 ∧ (kR F = 5 ∨ kR F = 6)) ∨ (F.ki = 6 ∧ kR F = 7) ∨ (F.ki = 7 ∧ kR F = 8) ∨ (F.ki = 8 ∧ kR F = 9) ∨ (F.ki = 9 ∧ kR F = 10) ∨ (F.ki = 10 ∧ kR F = 11) := by
        have hkis : F.ki = 1 ∨ F.ki = 2 ∨ F.ki = 3 ∨ F.ki = 5 ∨ F.ki = 6 ∨ F.ki = 7 ∨ F.ki = 8 ∨ F.ki = 9 ∨ F.ki = 10 := by
          obtain ⟨_, _, _, _, w⟩ := hW
          omega
        rcases hkis with z | z | z | z | z | z | z | z | z
        · exact Or.inl ⟨z, kR_1 z⟩
        · refine Or.inr (Or.inl ⟨z, ?_⟩)
          unfold kR
          rw [if_neg (by omega), if_neg (by omega), if_pos z]
          by_cases y : F.st = -1
          · rw [if_pos y]; omega
          · rw [if_neg y]; omega
        · exact Or.inr (Or.inr (Or.inl ⟨z, kR_3 z⟩))
        · refine Or.inr (Or.inr (Or.inr (Or.inl ⟨z, ?_⟩)))
          rw [kR_5 z]
          by_cases y : F.e1 = none
          · rw [if_pos y]; omega
          · rw [if_neg y]; omega
        · exact Or.inr (Or.inr (Or.inr (Or.inr (Or.inl ⟨z, kR_6 z⟩))))
        · exact Or.inr (Or.inr (Or.inr (Or.inr (Or.inr (Or.inl ⟨z, kR_7 z⟩)))))
        · exact Or.inr (Or.inr (Or.inr (Or.inr (Or.inr (Or.inr (Or.inl ⟨z, kR_8 z⟩))))))
        · exact Or.inr (Or.inr (Or.inr (Or.inr (Or.inr (Or.inr (Or.inr (Or.inl ⟨z, kR_9 z⟩)))))))
        · exact Or.inr (Or.inr (Or.inr (Or.inr (Or.inr (Or.inr (Or.inr (Or.inr ⟨z, kR_10 z⟩)))))))
      have q := q233 k0
      refine ⟨fun a => ⟨fun a0 => ⟨fun a1 => q 2 ?_, fun a1 => ⟨fun a3 => ⟨fun a4 => ⟨fun a5 => q 5 ?_, fun a5 => ⟨fun a6 => ⟨fun a7 => ⟨fun a8 => ⟨fun a9 => ⟨fun a10 => q 10 ?_, fun a10 => q 9 ?_⟩, fun a9 => q 8 ?_⟩, fun a8 => q 7 ?_⟩, fun a7 => q 6 ?_⟩, fun a6 => q 5 ?_⟩⟩, fun a4 => q 3 ?_⟩, fun a3 => q 2 ?_⟩⟩, fun a0 => q 1 ?_⟩, fun a => by omega⟩
      all_goals (clear q q233 cF; omega)
  have xr := (hE.fdr.2 fl F hF).2.1.1
  have ng : gI σ 1232 m (fxR b fl) < 0 ↔ F.ec = none := xr.neg.1
  refine AC.of mo_X12_fieldBegun (Nat.le_of_ble_eq_true rfl) (bk_X12_fieldBegun_0 ⟨hE.1.1, ⟨by omega, by omega⟩, ⟨by omega, by omega⟩, ?_⟩)
  rw [Int.toNat_natCast, Int.toNat_natCast, n3]
  refine ⟨fun w => ?_, fun w => ?_⟩
  · have en := ng.mp w
    rw [thr_n en] at cF hNn
    exact s67 σ hO hT hS (hNn rfl) (cF rfl)
  · cases ec : F.ec with
    | none => exact absurd (ng.mpr ec) w
    | some N =>
      have hwx := hW.1
      have hxx := hX.1
      rw [ec] at xr hwx hxx
      refine m_ev hE hT hI hU hB hi h0 xr hwx ⟨by omega, by omega⟩ (nmo s h7 _ hxx N rfl) h20 (fun v hv σ1 o1 T1 z7 _ => ?_) (fun hv v σ1 o1 T1 z7 _ => ?_)
      · rw [thr_v ec hv] at cS cF hNn
        refine ⟨fun y => bk_X12_fieldBegun_38 ⟨fun _ => ⟨fun w => absurd rfl w, fun _ => ⟨rfl, cS ?_ σ1 (hO.trans o1.ry) T1 (hS.ns o1)⟩⟩, fun w => absurd z7 w⟩, fun y => bk_X12_fieldBegun_38 ⟨fun _ => ⟨fun _ => s67 σ1 (hO.trans o1.ry) T1 (hS.ns o1) (hNn ?_) (cF ?_), fun w => absurd w (by decide)⟩, fun w => absurd z7 w⟩⟩
        · simp [y]
        · simp [y]
        · simp [y]
      · rw [thr_f ec hv] at cS
        have E1 := hE.ry o1.ry
        have fa : ∀ y : Int, AW g l (e + 12) MX12_fieldBegun 38 [some (vR 12 (some m)), some (vI ((400 * t + i : Nat) : Int)), some (vI (fxR b fl : Int)), some (vI (s.d 2 i)), none, none, none, none] [vI y] σ1 (fun v σ' => v = none ∧ LpA g l e m σ' Q) := fun y => by
          refine bk_X12_fieldBegun_38 ⟨fun w => by omega, fun _ => m_faulty E1 T1 hi (fun σ2 o2 f2 T2 => ⟨fun _ => ⟨rfl, cS rfl σ2 ((hO.trans o1.ry).trans o2.ry) T2 ((hS.ns o1).ns o2)⟩, fun w => ?_⟩)⟩
          rw [f2.I (fun q => by omega)] at w
          omega
        exact ⟨fun _ => fa 0, fun _ => fa 1⟩
end R8
