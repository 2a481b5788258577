/-! the class lays: bits, sums -/
section N6
variable {g : GP} {l : Launch} {d : Nat} {σ σ' : St} {tr a dd c rk H Z i k fr : Nat} {no : Nat → Nat} {so : Nat → Nat} {fo : Nat → Nat → Nat} {En : List Enm} {Ss : List Stc} {s : TS} {h : Int → Int} {len fl : Int} {Own : Nat → Prop} {F : Fld}
theorem EnC.fh (hE : EnC σ tr a dd c rk so fo En Ss len h Own) (hF : gF Ss fl = some F) (hfr : fr = fo (fl / 14).toNat (fl % 14).toNat) : fr < hs σ := by
  obtain ⟨_, _, c1, ⟨d1, _⟩, _⟩ := hE
  obtain ⟨_, S, hS, hk⟩ := gF_some hF
  have l1 := (List.getElem?_eq_some_iff.mp hS).1
  have l2 := d1.2.1
  rw [hfr]
  exact c1.2.2.2.2.2.2.2 _ _ (by omega) (by omega)
theorem EnC.f213 (hE : EnC σ tr a dd c rk so fo En Ss len h Own) (hF : gF Ss fl = some F) (hfr : fr = fo (fl / 14).toNat (fl % 14).toNat) (hf : Fr (LyF tr rk Own) σ σ') : gI σ' 213 fr 0 = gI σ 213 fr 0 := by
  refine hf.I (hE.fh hF hfr) (fun q => ?_) 0
  rcases q with q | q | q
  · have := q.2; omega
  · have := q.2; omega
  · have := q.2; omega
theorem x_layBits {P : Int → St → Prop} (hE : EnC σ tr a dd c rk so fo En Ss len h Own) (hT : TrC σ tr no fo Ss Own H Z s) (hI : TI Ss len s) (hX : TX Ss len s k) (hk : k < s.c) (hF : gF Ss fl = some F) (h6 : s.d 6 k = fl) (h0 : s.d 0 k = 3) (h3 : s.d 3 k = 0) (hkk : s.k k = []) (hfr : fr = fo (fl / 14).toNat (fl % 14).toNat) (f3 : F.ki = 3) (ty : TyR F.ty) (hB : BiO F.es 0 (8 * tw F.ty)) (h12 : F.es.length ≤ 12) (hR : H + 400 ≤ gB g + 600000 ∧ Z + 6800 ≤ 7302250)
    (hP : PoB σ tr rk Own no fo Ss H Z s (covB len s k (tw F.ty) (fun s => (btO k fl F.es 0 s).map (fun s => (s, true)))) P) : ACi g l (d + 3) MX10_layBits [vR 10 (some tr), vR 5 (some (no k)), vR 2 (some fr)] σ P := by
  obtain ⟨⟨v1, _⟩, _⟩ := hI.2 k hk
  have fc : FC σ dd c fr F := by rw [hfr]; exact hE.fdc fl F hF
  have t1 := ty.1
  have f0 := (gF_some hF).1
  unfold covB at hP
  refine AC.of mo_X10_layBits (Nat.le_of_ble_eq_true rfl) (bk_X10_layBits_0 ⟨fr, rfl, ?_⟩)
  rw [fc.xtw]
  refine x_cover hE hT hk ⟨by omega, by omega⟩ (by omega) (fun q σ3 f3' T3 => ⟨fun _ => ?_, fun w => absurd w (by decide)⟩) (fun q σ3 f3' T3 => ⟨fun w => absurd rfl w, fun _ => ⟨_, rfl, ?_⟩⟩)
  · rw [if_pos q] at hP
    dsimp only at hP
    obtain ⟨I3, U3⟩ := cov_in hI hX hk (by omega) (fun F' hF' => by
      rw [h6, hF] at hF'
      cases hF'
      exact ⟨fun _ => Int.le_refl _, fun z => by omega⟩) q
    have loop : ∀ (E : List Ent) (p : Nat) (τ : St) (no1 : Nat → Nat) (s1 : TS), (∀ j e, E[j]? = some e → F.es[p + j]? = some e) → p + E.length = F.es.length → Fr (LyF tr rk Own) σ τ → TrC τ tr no1 fo Ss Own H Z s1 → TI Ss len s1 → TU Ss len s1 → s.c ≤ s1.c → s1.d 0 k = 3 → s1.d 6 k = fl → s1.d 3 k = 0 → (s1.k k).length = p → (∀ j, j < s.c → no1 j = no j) → btO k fl F.es 0 (s.w 2 k (s.d 1 k + tw F.ty)) = btO k fl E p s1 → AW g l (d + 3) MX10_layBits 19 [some (vR 10 (some tr)), some (vR 5 (some (no k))), some (vR 2 (some fr)), some (vI (gI σ 213 fr 0 + (p : Int))), none] [] τ (fun v σ' => ∃ r, v = some (vI r) ∧ P r σ') := by
      intro E
      induction E with
      | nil =>
        intro p τ no1 s1 _ hp fτ Tτ _ _ _ _ _ _ _ hno eb
        have hp : p + 0 = F.es.length := hp
        have Eτ := hE.fr fτ
        have fcτ : FC τ dd c fr F := by rw [hfr]; exact Eτ.fdc fl F hF
        obtain ⟨b0, x1, x2, x3, x4⟩ := fcτ.es
        have e213 := hE.f213 hF hfr fτ
        obtain ⟨_, _, _, ⟨_, _, d3⟩, _⟩ := id Eτ
        refine bk_X10_layBits_19 ⟨fr, rfl, ?_⟩
        rw [x2, e213]
        rw [e213] at x1
        refine ⟨⟨by omega, by omega⟩, fun _ => ⟨_, rfl, ?_⟩, fun w => absurd (by omega) w⟩
        have eb : btO k fl F.es 0 (s.w 2 k (s.d 1 k + tw F.ty)) = some s1 := eb
        rw [eb] at hP
        exact hP.1 (s1, true) rfl τ no1 fτ Tτ hno
      | cons x E ih =>
        intro p τ no1 s1 hEs hp fτ Tτ I1 U1 hc1 k0 k6 k3 kl hno eb
        have hp : p + (E.length + 1) = F.es.length := hp
        have Eτ := hE.fr fτ
        have fcτ : FC τ dd c fr F := by rw [hfr]; exact Eτ.fdc fl F hF
        obtain ⟨b0, x1, x2, x3, x4⟩ := fcτ.es
        have e213 := hE.f213 hF hfr fτ
        obtain ⟨⟨q1, q2, _⟩, _, c1, ⟨_, _, d3⟩, _⟩ := id Eτ
        have hx : F.es[p]? = some x := hEs 0 x rfl
        obtain ⟨y1, y2, y3⟩ := x4 p x hx
        have hk1 : k < s1.c := by omega
        have nk : no1 k = no k := hno k hk
        obtain ⟨n1, n2, n3, _⟩ := (Tτ.2.2.2.1 k hk1).1
        rw [nk] at n1 n2 n3
        obtain ⟨_, bx1, bx2, _⟩ := BiO_at F.es 0 _ hB p x hx
        rw [btO] at eb
        refine bk_X10_layBits_19 ⟨fr, rfl, ?_⟩
        rw [x2, e213]
        rw [e213] at x1
        refine ⟨⟨by omega, by omega⟩, fun w => absurd w (by omega), fun _ => ⟨fun w => absurd Tτ.1.2.1 w, fun _ => ⟨no k, rfl, dd, q2, c1.1, ⟨by omega, by omega⟩, ?_⟩⟩⟩
        rw [x1, show ((b0 : Int) + (p : Int)).toNat = b0 + p by omega, y1, n2]
        refine x_addN (no := no1) (par := (k : Int)) (fld := fl) (u2 := s1.d 2 k) (u7 := -1) (u8 := (p : Int) + 1) (by rw [oN_at, nk]) (oF_at f0 hfr).symm Eτ Tτ (fun i hi => (I1.2 i hi).2.1) ⟨by omega, by omega⟩ hR (fun nc => ⟨fun _ => ⟨⟨by omega, by omega⟩, ?_⟩, (fun r w => nomatch w)⟩) (fun hc σ' r fσ rh ro r503 r514 post => ⟨(fun w => nomatch w), fun r' er => ?_⟩)
        · -- no room
          have em : mkO s1 4 k (s1.d 1 k) fl (s1.d 2 k) (-1) ((p : Int) + 1) x.1 = none := by unfold mkO; rw [if_neg nc]
          rw [em] at eb
          have eb : btO k fl F.es 0 (s.w 2 k (s.d 1 k + tw F.ty)) = none := eb
          rw [eb] at hP
          have fg : Fr (LyF tr rk Own) σ (sI τ 1005 tr 0 1) := fτ.trans (Frm.sI (LyF.t (by omega))).fr
          have Eg := hE.fr fg
          have fcg : FC (sI τ 1005 tr 0 1) dd c fr F := by rw [hfr]; exact Eg.fdc fl F hF
          obtain ⟨b1, z1, z2, z3, _⟩ := fcg.es
          have g213 := hE.f213 hF hfr fg
          obtain ⟨_, _, _, ⟨_, _, d3'⟩, _⟩ := id Eg
          refine bk_X10_layBits_19 ⟨fr, rfl, ?_⟩
          rw [z2, z1]
          refine ⟨⟨by omega, by omega⟩, fun _ => ⟨_, rfl, hP.2 rfl 1 _ (Or.inr rfl) fg Tτ.gar⟩, fun _ => ⟨fun _ => ⟨_, rfl, hP.2 rfl 1 _ (Or.inr rfl) fg Tτ.gar⟩, fun w => ?_⟩⟩
          rw [gI_slf] at w
          exact absurd w (by decide)
        · cases er
          have Eσ := Eτ.fr fσ
          obtain ⟨⟨_, q2', _⟩, _, c1', _⟩ := id Eσ
          have fcσ : FC σ' dd c fr F := by rw [hfr]; exact Eσ.fdc fl F hF
          obtain ⟨b1, z1, z2, z3, z4⟩ := fcσ.es
          have g213 := hE.f213 hF hfr (fτ.trans fσ)
          obtain ⟨u1, u2, u3⟩ := z4 p x hx
          have eb1 : b1 = b0 := by omega
          have em : mkO s1 4 k (s1.d 1 k) fl (s1.d 2 k) (-1) ((p : Int) + 1) x.1 = some (mkM s1 4 k (s1.d 1 k) fl (s1.d 2 k) (-1) ((p : Int) + 1) x.1) := by unfold mkO; rw [if_pos hc]
          rw [em] at eb
          dsimp only at eb
          have nkr : ¬ no k = r := fun e => by
            have T0 := post (sI (sI σ' 515 r 0 x.2.2) 516 r 0 x.2.1.toInt |> fun υ => sI υ 503 r 0 (s1.d 2 k)) ((Frm.sI ⟨rfl, by omega⟩).trans ((Frm.sI ⟨rfl, by omega⟩).trans (Frm.sI ⟨rfl, by omega⟩))) (gI_slf _ _ _ _ _) (by
              show gI (sI (sI (sI σ' 515 r 0 x.2.2) 516 r 0 x.2.1.toInt) 503 r 0 (s1.d 2 k)) 514 r 0 = -1
              rw [gI_sI, if_neg (by simp), gI_sI, if_neg (by simp), gI_sI, if_neg (by simp)]; exact r514) (fun _ F' e' hF' he' => by
              rw [hF] at hF'
              cases hF'
              rw [show ((p : Int) + 1 - 1).toNat = p by omega, hx] at he'
              cases he'
              show gI (sI (sI (sI σ' 515 r 0 x.2.2) 516 r 0 x.2.1.toInt) 503 r 0 (s1.d 2 k)) 515 r 0 = _ ∧ gI (sI (sI (sI σ' 515 r 0 x.2.2) 516 r 0 x.2.1.toInt) 503 r 0 (s1.d 2 k)) 516 r 0 = _
              rw [gI_sI, if_neg (by simp), gI_sI, if_neg (by simp), gI_slf, gI_sI, if_neg (by simp), gI_slf]
              exact ⟨rfl, rfl⟩)
            have := T0.inj (j := k) (j' := s1.c) (by rw [mk_c]; omega) (by rw [mk_c]; omega) (by rw [noA_n, noA_o (by omega), nk]; exact e)
            omega
          -- what stands at node k now
          have T1 := post (sI (sI (sI σ' 503 r 0 (s1.d 2 k)) 515 r 0 x.2.2) 516 r 0 x.2.1.toInt) ((Frm.sI ⟨rfl, by omega⟩).trans ((Frm.sI ⟨rfl, by omega⟩).trans (Frm.sI ⟨rfl, by omega⟩))) (by rw [gI_sI, if_neg (by simp), gI_sI, if_neg (by simp), gI_slf]) (by rw [gI_sI, if_neg (by simp), gI_sI, if_neg (by simp), gI_sI, if_neg (by simp)]; exact r514) (fun _ F' e' hF' he' => by
            rw [hF] at hF'
            cases hF'
            rw [show ((p : Int) + 1 - 1).toNat = p by omega, hx] at he'
            cases he'
            rw [gI_sI, if_neg (by simp), gI_slf, gI_slf]
            exact ⟨rfl, rfl⟩)
          have k503 : gI σ' 503 (no k) 0 = s1.d 2 k := by
            have w := (T1.2.2.2.1 k (by rw [mk_c]; omega)).1.2.2.1
            rw [noA_o (by omega), nk, mk_o (by omega), gI_sI, if_neg (by simp), gI_sI, if_neg (by simp), gI_sI, if_neg (by simp [nkr])] at w
            exact w
          refine ⟨dd, q2', c1'.1, ⟨by omega, by omega⟩, ?_⟩
          rw [← eb1, u2, u3, k503, j2i_eq, w32_id (by omega) (by omega), show (b1 : Int) + (p : Int) + 1 = gI σ 213 fr 0 + ((p + 1 : Nat) : Int) by omega]
          have bo := btO_ok (k := k) (len := len) hF f3 ty [x] p s1 (mkM s1 4 k (s1.d 1 k) fl (s1.d 2 k) (-1) ((p : Int) + 1) x.1) (fun j e he => by
            cases j with
            | zero => cases he; exact hx
            | succ j => cases he) I1 U1 hk1 k0 k6 k3 kl (by rw [btO, em]; rfl)
          refine ih (p + 1) _ (noA no1 s1.c r) _ (fun j e he => by rw [show p + 1 + j = p + (j + 1) by omega]; exact hEs (j + 1) e he) (by omega) ((fτ.trans fσ).trans ((Frm.sI (LyF.o ro (by decide) (by decide))).trans ((Frm.sI (LyF.o ro (by decide) (by decide))).trans (Frm.sI (LyF.o ro (by decide) (by decide))))).fr) T1 bo.1 bo.2.1 (by rw [mk_c]; omega) (by rw [mk_o (by omega)]; exact k0) (by rw [mk_o (by omega)]; exact k6) (by rw [mk_o (by omega)]; exact k3) (by rw [mk_kp (by omega) rfl, app_l, kl]) (fun j hj => by rw [noA_o (by omega)]; exact hno j hj) eb
    have st := loop F.es 0 σ3 no _ (fun j e he => by rw [Nat.zero_add]; exact he) (by omega) f3' T3 I3 U3 (Nat.le_refl _) (by rw [w_ne (by decide)]; exact h0) (by rw [w_ne (by decide)]; exact h6) (by rw [w_ne (by decide)]; exact h3) (by show (s.k k).length = 0; rw [hkk]; rfl) (fun _ _ => rfl) rfl
    rw [hE.f213 hF hfr f3']
    have e0 : gI σ 213 fr 0 + ((0 : Nat) : Int) = gI σ 213 fr 0 := by omega
    rw [e0] at st
    exact st
  · rw [if_neg q] at hP
    exact hP.f f3' T3
theorem x_rangeFault {P : Int → St → Prop} (hE : EnC σ tr a dd c rk so fo En Ss len h Own) (hT : TrC σ tr no fo Ss Own H Z s) (hI : TI Ss len s) (hU : TU Ss len s) (hi : i < s.c) (h0' : s.d 0 i = 0) (hk : k < s.c) (h5 : s.d 5 k = (i : Int)) (hF : gF Ss fl = some F) (h6 : s.d 6 k = fl) (hw1 : WFx F.e1) (hw2 : WFx F.e2) (hx1 : ∀ N, F.e1 = some N → ∀ x ∈ N, x.o = 2 → NmO Ss s i x.v.toInt) (hx2 : ∀ N, F.e2 = some N → ∀ x ∈ N, x.o = 2 → NmO Ss s i x.v.toInt) (h20 : Ss.length ≤ 20) (hN : ∃ N, F.e1 = some N) (hM : ∃ N, F.e2 = some N)
    (he : ∀ e, sumB Ss h len s i k F = .error e → ∀ σ', Fr (LyF tr rk Own) σ σ' → TrC σ' tr no fo Ss Own H Z s → ¬ e = 0 → P e σ')
    (ho : ∀ r, sumB Ss h len s i k F = .ok r → 0 ≤ r.1 → r.1 ≤ r.2 → r.2 ≤ len - s.d 1 i → ∀ σ', Fr (LyF tr rk Own) σ σ' → TrC σ' tr no fo Ss Own H Z s → gI σ' 1008 tr 0 = s.d 1 i + r.1 → gI σ' 1009 tr 0 = s.d 1 i + r.2 → P 0 σ') : ACi g l (d + 5) MX10_rangeFault [vR 10 (some tr), vR 5 (some (no k))] σ P := by
  obtain ⟨N, eN⟩ := hN
  obtain ⟨M, eM⟩ := hM
  have f0 := (gF_some hF).1
  obtain ⟨⟨v1, _⟩, _⟩ := hI.2 k hk
  obtain ⟨⟨vi, _⟩, _⟩ := hI.2 i hi
  obtain ⟨⟨q1, q2, q3, _⟩, ⟨_, b2, b3, _⟩, c1, _⟩ := id hE
  obtain ⟨⟨n1, n2, n3, n4, n5, n6, n7, _⟩, _⟩ := hT.2.2.2.1 k hk
  have op : oN no (s.d 5 k) = some (no i) := by rw [h5]; exact oN_at
  have ofl : oF fo (s.d 6 k) = some (fo (fl / 14).toNat (fl % 14).toNat) := by rw [h6]; exact oF_at f0 rfl
  have z0 : (0 : Int64).toInt = 0 := by decide
  unfold sumB at he ho
  rw [eN, eM] at he ho
  dsimp only at he ho
  have fc := hE.fdc fl F hF
  have xc1 := fc.e1
  rw [eN] at xc1 hw1
  rw [eM] at hw2
  refine AC.of mo_X10_rangeFault (Nat.le_of_ble_eq_true rfl) (bk_X10_rangeFault_0 ⟨no k, rfl, dd, q2, fo (fl / 14).toNat (fl % 14).toNat, by rw [n7]; exact ofl, rk, q3, ?_⟩)
  rw [c1.2.1, q1, n6, n2, op]
  -- the second
  have second : ∀ (v : Int64) (σ9 : St), Fr (LyF tr rk Own) σ σ9 → TrC σ9 tr no fo Ss Own H Z s → (evE (s.d 1 k) len (s.d 1 i) (nmV Ss h s i) N = some v ∧ gI σ9 700 rk 0 = 0 ∨ evE (s.d 1 k) len (s.d 1 i) (nmV Ss h s i) N = none ∧ gI σ9 700 rk 0 = 1) → ∃ r11, gR σ9 1007 tr 0 = some r11 ∧ ∃ r13, gR σ9 1006 tr 0 = some r13 ∧ ∃ r15, gR σ9 513 (no k) 0 = some r15 ∧ ACj g l (d + 4) MX7_work [vR 7 (some r11), vR 0 (gR σ9 110 r13 0), vI (gI σ9 210 r15 0), vR 5 (some (no i)), vI (gI σ9 502 (no k) 0), vR 3 (gR σ9 1000 tr 0)] σ9 (fun v18 σ17 => ((¬ (gI σ9 700 r11 0) = 0 → (∃ r, some (vI 6) = some (vI r) ∧ P r σ17)) ∧ ((gI σ9 700 r11 0) = 0 → ∃ r20, gR σ17 1007 tr 0 = some r20 ∧ (((gI σ17 700 r20 0) = 0 → ((v.toInt < (0 : Int64).toInt → (∃ r, some (vI 5) = some (vI r) ∧ P r σ17)) ∧ (¬ v.toInt < (0 : Int64).toInt → ((v18.toInt < v.toInt → (∃ r, some (vI 5) = some (vI r) ∧ P r σ17)) ∧ (¬ v18.toInt < v.toInt → ∃ r25, gR σ17 1000 tr 0 = some r25 ∧ ∃ r27, some (no i) = some r27 ∧ R32 ((gI σ17 304 r25 0) - (gI σ17 502 r27 0)) ∧ ((v18.toInt ≤ (i2j ((gI σ17 304 r25 0) - (gI σ17 502 r27 0))).toInt → R32 ((gI σ17 502 r27 0) + (j2i v)) ∧ R32 ((gI σ17 502 r27 0) + (j2i v18)) ∧ (∃ r, some (vI 0) = some (vI r) ∧ P r (sI (sI σ17 1008 tr 0 ((gI σ17 502 r27 0) + (j2i v))) 1009 tr 0 ((gI σ17 502 r27 0) + (j2i v18))))) ∧ (¬ v18.toInt ≤ (i2j ((gI σ17 304 r25 0) - (gI σ17 502 r27 0))).toInt → (∃ r, some (vI 5) = some (vI r) ∧ P r σ17)))))))) ∧ (¬ (gI σ17 700 r20 0) = 0 → (∃ r, some (vI 6) = some (vI r) ∧ P r σ17)))))) := by
    intro v σ9 f9 T9 hv
    have E9 := hE.fr f9
    obtain ⟨⟨w1, w2, w3, _⟩, _, y1, _⟩ := id E9
    obtain ⟨⟨m1, m2, m3, m4, m5, m6, m7, _⟩, _⟩ := T9.2.2.2.1 k hk
    have fc9 := E9.fdc fl F hF
    have xc2 := fc9.e2
    rw [eM] at xc2
    refine ⟨rk, w3, dd, w2, fo (fl / 14).toNat (fl % 14).toNat, by rw [m7]; exact ofl, ?_⟩
    rw [y1.2.1, w1, m2, z0]
    refine x_ev E9 T9 hI hU hi h0' xc2 hw2 ⟨by omega, by omega⟩ (hx2 M eM) h20 (fun u hu σ17 g1 g2 t17 z7 => ?_) (fun hu u σ17 g1 g2 t17 z7 => ?_)
    · have E17 := E9.fr g1
      obtain ⟨⟨e1, e2, e3, _⟩, ⟨_, p2, p3, _⟩, _⟩ := id E17
      have F17 := f9.trans g1
      refine ⟨fun w => ⟨_, rfl, ?_⟩, fun w => ⟨rk, e3, fun _ => ?_, fun z => absurd z7 z⟩⟩
      · rcases hv with ⟨hv, hz⟩ | ⟨hv, hz⟩
        · exact absurd hz w
        · exact he 6 (by rw [hv]) σ17 F17 t17 (by decide)
      · rcases hv with ⟨hv, hz⟩ | ⟨hv, hz⟩
        · rw [hv, hu] at he ho
          dsimp only at he ho
          refine ⟨fun a1 => ⟨_, rfl, he 5 (by rw [if_pos (by omega)]) σ17 F17 t17 (by decide)⟩, fun a1 => ⟨fun a2 => ⟨_, rfl, he 5 (by rw [if_pos (by omega)]) σ17 F17 t17 (by decide)⟩, fun a2 => ⟨a, e1, no i, rfl, ?_⟩⟩⟩
          have i2 := (t17.2.2.2.1 i hi).1.2.1
          rw [p2, i2, i2j_toInt, w32_id (by omega) (by omega)]
          refine ⟨⟨by omega, by omega⟩, fun a3 => ?_, fun a3 => ⟨_, rfl, he 5 (by rw [if_pos (by omega)]) σ17 F17 t17 (by decide)⟩⟩
          rw [j2i_eq, j2i_eq, w32_id (by omega) (by omega), w32_id (by omega) (by omega)]
          refine ⟨⟨by omega, by omega⟩, ⟨by omega, by omega⟩, _, rfl, ?_⟩
          have FW8 : Frm (fun f r => r = tr ∧ (f = 1008 ∨ f = 1009)) σ17 (sI (sI σ17 1008 tr 0 (s.d 1 i + v.toInt)) 1009 tr 0 (s.d 1 i + u.toInt)) := (Frm.sI ⟨rfl, by omega⟩).trans (Frm.sI ⟨rfl, by omega⟩)
          refine ho (v.toInt, u.toInt) (by rw [if_neg (by omega)]) (by show 0 ≤ v.toInt; omega) (by show v.toInt ≤ u.toInt; omega) (by show u.toInt ≤ _; omega) _ (F17.trans (FW8.mono (fun f r q => by rw [q.1]; exact LyF.t (by omega))).fr) (t17.frm FW8 (fun f r z q => by omega)) ?_ (gI_slf _ _ _ _ _)
          rw [gI_sI, if_neg (by simp), gI_slf]
        · omega
    · have E17 := E9.fr g1
      obtain ⟨⟨e1, e2, e3, _⟩, _⟩ := id E17
      have F17 := f9.trans g1
      have er : (match evE (s.d 1 k) len (s.d 1 i) (nmV Ss h s i) N, evE (s.d 1 k) len (s.d 1 i) (nmV Ss h s i) M with
        | some a, some b => if a.toInt < 0 ∨ b.toInt < a.toInt ∨ len - s.d 1 i < b.toInt then (.error 5 : Except Int (Int × Int)) else .ok (a.toInt, b.toInt)
        | _, _ => .error 6) = .error 6 := by
        rw [hu]
        cases evE (s.d 1 k) len (s.d 1 i) (nmV Ss h s i) N <;> rfl
      exact ⟨fun w => ⟨_, rfl, he 6 er σ17 F17 t17 (by decide)⟩, fun w => ⟨rk, e3, fun z => by omega, fun _ => ⟨_, rfl, he 6 er σ17 F17 t17 (by decide)⟩⟩⟩
  exact x_ev hE hT hI hU hi h0' xc1 hw1 ⟨by omega, by omega⟩ (hx1 N eN) h20 (fun v hv σ9 f1 _ t9 z7 => second v σ9 f1 t9 (Or.inl ⟨hv, z7⟩)) (fun hv v σ9 f1 _ t9 z7 => second v σ9 f1 t9 (Or.inr ⟨hv, z7⟩))
theorem x_due {A B : Int} {P : Int64 → St → Prop} (hE : EnC σ tr a dd c rk so fo En Ss len h Own) (hT : TrC σ tr no fo Ss Own H Z s) (hk : k < s.c) (hF : gF Ss fl = some F) (h6 : s.d 6 k = fl) (hnu : 217 ≤ F.nu.toInt ∧ F.nu.toInt ≤ 220) (hA : gI σ 1008 tr 0 = A) (hB : gI σ 1009 tr 0 = B) (hb : 0 ≤ A ∧ A ≤ B ∧ B ≤ len) (hP : P (dueV h F.nu.toInt (s.d 1 k) (s.d 2 k) A B) σ) : ACj g l (d + 1) MX10_due [vR 10 (some tr), vR 5 (some (no k))] σ P := by
  have f0 := (gF_some hF).1
  obtain ⟨⟨q1, q2, q3, _⟩, ⟨b1, b2, b3, b4, _⟩, c1, _⟩ := id hE
  obtain ⟨⟨n1, n2, n3, n4, n5, n6, n7, _⟩, _⟩ := hT.2.2.2.1 k hk
  have ofl : oF fo (s.d 6 k) = some (fo (fl / 14).toNat (fl % 14).toNat) := by rw [h6]; exact oF_at f0 rfl
  have fc := hE.fdc fl F hF
  have loop : ∀ (n : Nat) (p : Int) (v : Int64), p = B - n → A ≤ p → dueL h F.nu.toInt (s.d 1 k) (s.d 2 k) (B - A).toNat A 0 = dueL h F.nu.toInt (s.d 1 k) (s.d 2 k) n p v → AW g l (d + 1) MX10_due 18 [some (vR 10 (some tr)), some (vR 5 (some (no k))), some (vJ v), none, some (vI F.nu.toInt), some (vI p), none] [] σ (fun v σ' => ∃ r, v = some (vJ r) ∧ P r σ') := by
    intro n
    induction n with
    | zero =>
      intro p v hp hA' e
      have e : dueL h F.nu.toInt (s.d 1 k) (s.d 2 k) (B - A).toNat A 0 = v := e
      unfold dueV at hP
      rw [e] at hP
      refine bk_X10_due_18 ?_
      rw [hB]
      refine ⟨fun _ => ⟨fun w => ⟨_, rfl, ?_⟩, fun w => ⟨_, rfl, ?_⟩⟩, fun w => absurd (by omega) w⟩
      · rw [if_neg w] at hP; exact hP
      · rw [if_pos w] at hP; exact hP
    | succ n ih =>
      intro p v hp hA' e
      rw [dueL] at e
      refine bk_X10_due_18 ?_
      rw [hB]
      refine ⟨fun w => absurd w (by omega), fun _ => ⟨no k, rfl, AC.of mo_X5_covers (Nat.le_of_ble_eq_true rfl) (bk_X5_covers_0 ?_)⟩⟩
      have out : ¬ (s.d 1 k ≤ p ∧ p < s.d 2 k) → ∃ r9, gR σ 1000 tr 0 = some r9 ∧ ACi g l d MX3_has [vR 3 (some r9), vI p] σ (fun v12 σ11 => ((¬ F.nu.toInt = 218 → ((¬ F.nu.toInt = 220 → R32 (p + 1) ∧ AW g l (d + 1) MX10_due 18 [some (vR 10 (some tr)), some (vR 5 (some (no k))), some (vJ (v + (i2j v12))), none, some (vI F.nu.toInt), some (vI (p + 1)), none] [] σ11 (fun v σ' => ∃ r, v = some (vJ r) ∧ P r σ')) ∧ (F.nu.toInt = 220 → R32 (p + 1) ∧ AW g l (d + 1) MX10_due 18 [some (vR 10 (some tr)), some (vR 5 (some (no k))), some (vJ ((v * (31 : Int64)) + (i2j v12))), none, some (vI F.nu.toInt), some (vI (p + 1)), none] [] σ11 (fun v σ' => ∃ r, v = some (vJ r) ∧ P r σ')))) ∧ (F.nu.toInt = 218 → R32 (p + 1) ∧ AW g l (d + 1) MX10_due 18 [some (vR 10 (some tr)), some (vR 5 (some (no k))), some (vJ (v ^^^ (i2j v12))), none, some (vI F.nu.toInt), some (vI (p + 1)), none] [] σ11 (fun v σ' => ∃ r, v = some (vJ r) ∧ P r σ')))) := fun z => by
        rw [if_neg z] at e
        unfold stp at e
        refine ⟨a, q1, x_has b1 (by omega) (fun u => absurd ⟨by omega, by rw [b2]; omega⟩ u) (fun u0 u1 => ?_)⟩
        rw [b4 p (by omega) (by omega)]
        refine ⟨fun y1 => ⟨fun y2 => ⟨⟨by omega, by omega⟩, ih (p + 1) _ (by omega) (by omega) ?_⟩, fun y2 => ⟨⟨by omega, by omega⟩, ih (p + 1) _ (by omega) (by omega) ?_⟩⟩, fun y1 => ⟨⟨by omega, by omega⟩, ih (p + 1) _ (by omega) (by omega) ?_⟩⟩
        · rw [if_neg y1, if_neg y2] at e; exact e
        · rw [if_neg y1, if_pos y2] at e; exact e
        · rw [if_pos y1] at e; exact e
      rw [n2, n3]
      refine ⟨fun w => ⟨_, rfl, fun u => absurd rfl u, fun _ => out (by omega)⟩, fun w => ⟨fun u => ⟨_, rfl, fun z => absurd rfl z, fun _ => out (by omega)⟩, fun u => ⟨_, rfl, fun _ => ⟨⟨by omega, by omega⟩, ih (p + 1) v (by omega) (by omega) ?_⟩, fun z => absurd z (by decide)⟩⟩⟩
      rw [if_pos ⟨by omega, by omega⟩] at e; exact e
  refine AC.of mo_X10_due (Nat.le_of_ble_eq_true rfl) (bk_X10_due_0 ⟨no k, rfl, fo (fl / 14).toNat (fl % 14).toNat, by rw [n7]; exact ofl, ?_⟩)
  rw [fc.nu, hA, j2i_eq, w32_id (by omega) (by omega)]
  exact loop (B - A).toNat A 0 (by omega) (Int.le_refl _) rfl
theorem x_laySum {P : Int → St → Prop} (hE : EnC σ tr a dd c rk so fo En Ss len h Own) (hT : TrC σ tr no fo Ss Own H Z s) (hI : TI Ss len s) (hX : TX Ss len s k) (hi : i < s.c) (h0' : s.d 0 i = 0) (hk : k < s.c) (h5 : s.d 5 k = (i : Int)) (hik : ¬ i = k) (hF : gF Ss fl = some F) (h6 : s.d 6 k = fl) (h0 : s.d 0 k = 10) (h3 : s.d 3 k = 0) (hfr : fr = fo (fl / 14).toNat (fl % 14).toNat) (ty : TyR F.ty) (hnu : 217 ≤ F.nu.toInt ∧ F.nu.toInt ≤ 220) (hw1 : WFx F.e1) (hw2 : WFx F.e2) (hx1 : ∀ N, F.e1 = some N → ∀ x ∈ N, x.o = 2 → NmO Ss (s.w 2 k (s.d 1 k + tw F.ty)) i x.v.toInt) (hx2 : ∀ N, F.e2 = some N → ∀ x ∈ N, x.o = 2 → NmO Ss (s.w 2 k (s.d 1 k + tw F.ty)) i x.v.toInt) (h20 : Ss.length ≤ 20) (hN : ∃ N, F.e1 = some N) (hM : ∃ N, F.e2 = some N) (hh : ∀ p : Int, 0 ≤ p → p < len → 0 ≤ h p ∧ h p ≤ 255)
    (hP : PoB σ tr rk Own no fo Ss H Z s (covB len s k (tw F.ty) (fun s => some (lySm Ss h len s i k F, true))) P) : ACi g l (d + 6) MX10_laySum [vR 10 (some tr), vR 5 (some (no k)), vR 2 (some fr)] σ P := by
  obtain ⟨⟨v1, _⟩, _⟩ := hI.2 k hk
  obtain ⟨⟨vi, _⟩, _⟩ := hI.2 i hi
  have fc : FC σ dd c fr F := by rw [hfr]; exact hE.fdc fl F hF
  have t1 := ty.1
  have t8 := ty.2.1
  unfold covB at hP
  refine AC.of mo_X10_laySum (Nat.le_of_ble_eq_true rfl) (bk_X10_laySum_0 ⟨fr, rfl, ?_⟩)
  rw [fc.xtw]
  refine x_cover hE hT hk ⟨by omega, by omega⟩ (by omega) (fun q σ3 f3' T3 => ⟨fun _ => ?_, fun w => absurd w (by decide)⟩) (fun q σ3 f3' T3 => ⟨fun w => absurd rfl w, fun _ => ⟨_, rfl, ?_⟩⟩)
  · rw [if_pos q] at hP
    dsimp only at hP
    obtain ⟨I3, U3⟩ := cov_in hI hX hk (by omega) (fun F' hF' => by
      rw [h6, hF] at hF'
      cases hF'
      exact ⟨fun _ => Int.le_refl _, fun z => by omega⟩) q
    have E3 := hE.fr f3'
    have g0 : (s.w 2 k (s.d 1 k + tw F.ty)).d 0 i = 0 := by rw [w_ne (by decide)]; exact h0'
    have g5 : (s.w 2 k (s.d 1 k + tw F.ty)).d 5 k = (i : Int) := by rw [w_ne (by decide)]; exact h5
    have g6 : (s.w 2 k (s.d 1 k + tw F.ty)).d 6 k = fl := by rw [w_ne (by decide)]; exact h6
    have k1 : (s.w 2 k (s.d 1 k + tw F.ty)).d 1 k = s.d 1 k := w_ne (by decide)
    have k3 : (s.w 2 k (s.d 1 k + tw F.ty)).d 3 k = 0 := by rw [w_ne (by decide)]; exact h3
    have i1 : (s.w 2 k (s.d 1 k + tw F.ty)).d 1 i = s.d 1 i := w_ne (by decide)
    unfold lySm at hP
    refine x_rangeFault E3 T3 I3 U3 hi g0 hk g5 hF g6 hw1 hw2 hx1 hx2 h20 hN hM (fun e he σ6 f6 T6 ne => ⟨no k, rfl, fun _ => ⟨_, rfl, ?_⟩, fun w => absurd w ne⟩) (fun r hr r0 r1 r2 σ6 f6 T6 a8 a9 => ⟨no k, rfl, fun w => absurd rfl w, fun _ => ?_⟩)
    · rw [he] at hP
      exact hP.t ((f3'.trans f6).trans (T6.fw hk (by decide) (by decide))) (T6.w (f := 3) hk (by omega))
    · rw [hr] at hP
      dsimp only at hP
      have E6 := E3.fr f6
      -- the fault is 0 as before
      have T7 : TrC (sI σ6 504 (no k) 0 0) tr no fo Ss Own H Z (s.w 2 k (s.d 1 k + tw F.ty)) := by
        have w := T6.w (k := k) (f := 3) (v := 0) hk (by omega)
        have e : (s.w 2 k (s.d 1 k + tw F.ty)).w 3 k 0 = s.w 2 k (s.d 1 k + tw F.ty) := by
          have : upN (s.w 2 k (s.d 1 k + tw F.ty)).d 3 k 0 = (s.w 2 k (s.d 1 k + tw F.ty)).d := by
            funext f' i'
            show (if f' = 3 ∧ i' = k then (0 : Int) else _) = _
            by_cases z : f' = 3 ∧ i' = k
            · rw [if_pos z, z.1, z.2, k3]
            · rw [if_neg z]
          show (s.c, upN (s.w 2 k (s.d 1 k + tw F.ty)).d 3 k 0, s.k) = _
          rw [this]
        rw [e] at w
        exact w
      have f7 : Fr (LyF tr rk Own) σ (sI σ6 504 (no k) 0 0) := (f3'.trans f6).trans (T6.fw hk (by decide) (by decide))
      have E7 := hE.fr f7
      rw [E6.1.1]
      refine x_read' E7 T7 I3 U3 hk (x_due (A := (s.w 2 k (s.d 1 k + tw F.ty)).d 1 i + r.1) (B := (s.w 2 k (s.d 1 k + tw F.ty)).d 1 i + r.2) E7 T7 hk hF g6 hnu (by rw [gI_sI, if_neg (by simp)]; exact a8) (by rw [gI_sI, if_neg (by simp)]; exact a9) ⟨by omega, by omega, by omega⟩ ?_)
      have fc7 : FC (sI σ6 504 (no k) 0 0) dd c fr F := by rw [hfr]; exact E7.fdc fl F hF
      rw [fc7.xtw]
      refine ⟨⟨by omega, by omega⟩, x_lowBits ?_⟩
      have ev : vlN Ss h (s.w 2 k (s.d 1 k + tw F.ty)) k = sgn F.ty (rdP h F.ty (s.d 1 k)) := by
        unfold vlN
        have g00 : (s.w 2 k (s.d 1 k + tw F.ty)).d 0 k = 10 := by rw [w_ne (by decide)]; exact h0
        rw [k3, g00, g6, k1, if_neg (by decide), if_neg (by decide), hF]
        dsimp only
        rw [if_neg (by decide), if_pos (by decide)]
      rw [ev]
      have se := sum_eq (due := dueV h F.nu.toInt ((s.w 2 k (s.d 1 k + tw F.ty)).d 1 k) ((s.w 2 k (s.d 1 k + tw F.ty)).d 2 k) ((s.w 2 k (s.d 1 k + tw F.ty)).d 1 i + r.1) ((s.w 2 k (s.d 1 k + tw F.ty)).d 1 i + r.2)) (h := h) (p := s.d 1 k) ty (fun j j0 j1 => hh _ (by omega) (by omega))
      rw [k1] at hP se
      rw [k1]
      refine ⟨fun w => ⟨_, rfl, ?_⟩, fun w => ⟨_, rfl, ?_⟩⟩
      · rw [if_pos (se.mp w)] at hP
        exact hP.t f7 T7
      · rw [if_neg (fun z => w (se.mpr z))] at hP
        exact hP.t (f7.trans (T7.fw hk (by decide) (by decide))) (T7.w (f := 3) hk (by omega))
  · rw [if_neg q] at hP
    exact hP.f f3' T3
end N6
