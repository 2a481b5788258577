/-! the class lays: what has structs below -/
def LyC (g : GP) (l : Launch) (B tr a dd c rk : Nat) (so : Nat → Nat) (fo : Nat → Nat → Nat) (En : List Enm) (Ss : List Stc) (len : Int) (h : Int → Int) (Own : Nat → Prop) (H Z : Nat) (L : LY) (dep : Int) : Prop :=
  ∀ (D : Nat), B ≤ D → ∀ (σ : St) (no : Nat → Nat) (s : TS) (i ro : Nat) (st : Int) (P : St → Prop), ro = no i → EnC σ tr a dd c rk so fo En Ss len h Own → TrC (sI σ 514 ro 0 st) tr no fo Ss Own H Z s → TI Ss len s → TU Ss len s → i + 1 = s.c → s.d 0 i = 0 → s.d 7 i = st → s.k i = [] →
    (∀ s', L s i st = some s' → ∀ σ' no', Fr (LyF tr rk Own) σ σ' → TrC σ' tr no' fo Ss Own H Z s' → (∀ j, j < s.c → no' j = no j) → P σ') → (L s i st = none → ∀ σ', Fr (LyF tr rk Own) σ σ' → TrG σ' tr Own H Z → P σ') → ACv g l D MX10_layStruct [vR 10 (some tr), vR 5 (some ro), vI st, vI dep] σ P
section N7
variable {g : GP} {l : Launch} {d e : Nat} {σ σ' : St} {B tr a dd c rk H Z i k fr : Nat} {no : Nat → Nat} {so : Nat → Nat} {fo : Nat → Nat → Nat} {En : List Enm} {Ss : List Stc} {s s' : TS} {h : Int → Int} {len fl dep : Int} {Own : Nat → Prop} {F : Fld} {L : LY}
theorem w_same {f : Nat} {v : Int} (hv : s.d f k = v) : s.w f k v = s := by
  have : upN s.d f k v = s.d := by
    funext f' i'
    unfold upN
    by_cases q : f' = f ∧ i' = k
    · rw [if_pos q, q.1, q.2, hv]
    · rw [if_neg q]
  show (s.c, upN s.d f k v, s.k) = s
  rw [this]
theorem add_mk {par st place : Int} (hT : TI Ss len s) (hU : TU Ss len s) (hc : s.c < 400) (hp : -1 ≤ par ∧ par < s.c) (hk : ∀ i : Nat, par = (i : Int) → ¬ s.d 0 i = 0 ∧ ¬ s.d 0 i = 3) (h1 : 0 ≤ place ∧ place ≤ len) (hst : 0 ≤ st ∧ st < Ss.length) : TI Ss len (mkM s 0 par place (-1) place st 0 (nmS Ss st)) ∧ TU Ss len (mkM s 0 par place (-1) place st 0 (nmS Ss st)) := by
  have n6 : (mkM s 0 par place (-1) place st 0 (nmS Ss st)).d 6 s.c = -1 := mk_n
  exact ⟨hT.mk hc hp ⟨h1.1, Int.le_refl _, h1.2⟩ (by omega) (Or.inl ⟨rfl, rfl⟩) (fun _ => hst) nm_st (fun i ei z => absurd z (hk i ei).1) (fun i ei z => absurd z (hk i ei).2), TX.all (TX.mk hU) (fun F hF => by rw [n6, gF_neg (by decide)] at hF; cases hF)⟩
theorem x_addStruct {par st place : Int} {pa : Option Nat} {P : Int → St → Prop} (hL : LyC g l B tr a dd c rk so fo En Ss len h Own H Z L dep) (hG : LG Ss len L) (hB : B ≤ e + 8) (hpa : pa = oN no par) (hE : EnC σ tr a dd c rk so fo En Ss len h Own) (hT : TrC σ tr no fo Ss Own H Z s) (hI : TI Ss len s) (hU : TU Ss len s) (hp : -1 ≤ par ∧ par < s.c) (hk : ∀ i : Nat, par = (i : Int) → ¬ s.d 0 i = 0 ∧ ¬ s.d 0 i = 3) (h1 : 0 ≤ place ∧ place ≤ len) (hst : 0 ≤ st ∧ st < Ss.length) (hR : H + 400 ≤ gB g + 600000 ∧ Z + 6800 ≤ 7302250)
    (ho : ∀ s', addS L Ss s par st place = some s' → ∀ σ' no', Fr (LyF tr rk Own) σ σ' → TrC σ' tr no' fo Ss Own H Z s' → (∀ j, j < s.c → no' j = no j) → P (s'.d 2 s.c) σ') (hn : addS L Ss s par st place = none → ∀ v σ', Fr (LyF tr rk Own) σ σ' → TrG σ' tr Own H Z → P v σ') : ACi g l (e + 9) MX10_addStruct [vR 10 (some tr), vR 5 pa, vI st, vI place, vI dep] σ P := by
  obtain ⟨⟨q1, q2, q3, _⟩, _, c1, ⟨d1, _⟩, _⟩ := id hE
  have l20 := d1.2.1
  obtain ⟨sh1, _, _⟩ := c1.2.2.2.1.1 st.toNat (by omega)
  have hget : Ss[st.toNat]? = some Ss[st.toNat] := List.getElem?_eq_getElem (by omega)
  have nm : gJ σ 800 (so st.toNat) 0 = nmS Ss st := by
    rw [(d1.2.2.2.2.2 _ _ hget).1]
    unfold nmS
    rw [hget]
  refine AC.of mo_X10_addStruct (Nat.le_of_ble_eq_true rfl) (bk_X10_addStruct_0 ⟨dd, q2, c1.1, ⟨by omega, by omega⟩, so st.toNat, sh1, ?_⟩)
  rw [nm]
  refine x_addN (par := par) (fld := -1) (u2 := place) (u7 := st) (u8 := 0) hpa (show (none : Option Nat) = oF fo (-1) from (if_pos (by decide)).symm) hE hT (fun i hi => (hI.2 i hi).2.1) hp hR (fun nc => ⟨fun _ => ⟨_, rfl, hn ?_ _ _ (Frm.sI (LyF.t (by omega))).fr hT.gar⟩, (fun r w => nomatch w)⟩) (fun hc σ1 r f1 rh ro r503 r514 post => ⟨(fun w => nomatch w), fun r' er => ?_⟩)
  · unfold addS mkO; rw [if_neg nc]
  · cases er
    obtain ⟨I1, U1⟩ := add_mk hI hU hc hp hk h1 hst
    have n0 : (mkM s 0 par place (-1) place st 0 (nmS Ss st)).d 0 s.c = 0 := mk_n
    have n7 : (mkM s 0 par place (-1) place st 0 (nmS Ss st)).d 7 s.c = st := mk_n
    have ea : addS L Ss s par st place = L (mkM s 0 par place (-1) place st 0 (nmS Ss st)) s.c st := by unfold addS mkO; rw [if_pos hc]
    have T1 := post (sI σ1 514 r 0 st) (Frm.sI ⟨rfl, by omega⟩) (by rw [gI_sI, if_neg (by simp)]; exact r503) (gI_slf _ _ _ _ _) (fun z => absurd z (by decide))
    refine hL (e + 8) hB σ1 (noA no s.c r) _ s.c r st _ noA_n.symm (hE.fr f1) T1 I1 U1 rfl n0 n7 mk_kn (fun s' es σ2 no2 f2 T2 a2 => ⟨_, rfl, ?_⟩) (fun en σ2 f2 T2 => ⟨_, rfl, hn (by rw [ea]; exact en) _ _ (f1.trans f2) T2⟩)
    have ex := (hG _ s.c st s' I1 U1 rfl n0 n7 mk_kn es).2.2.1
    rw [mk_c] at ex a2
    have w := (T2.2.2.2.1 s.c (by omega)).1.2.2.1
    rw [a2 s.c (by omega), noA_n] at w
    rw [w]
    exact ho s' (by rw [ea]; exact es) σ2 no2 (f1.trans f2) T2 (fun j hj => by rw [a2 j (by omega), noA_o (by omega)])
theorem x_fillingAmount {P : Int → St → Prop} (hE : EnC σ tr a dd c rk so fo En Ss len h Own) (hT : TrC σ tr no fo Ss Own H Z s) (hk : k < s.c) (hb : 0 ≤ s.d 1 k ∧ s.d 1 k ≤ len) (hF : gF Ss fl = some F) (hfr : fr = fo (fl / 14).toNat (fl % 14).toNat) (hty : F.st = -1 → 1 ≤ tw F.ty ∧ tw F.ty ≤ 8) (hsz : szS Ss F.st ≤ 1000000) (hP : P (filN Ss len s k F) σ) : ACi g l (d + 1) MX10_fillingAmount [vR 10 (some tr), vR 5 (some (no k)), vR 2 (some fr)] σ P := by
  obtain ⟨⟨q1, q2, q3, _⟩, ⟨_, b2, b3, _⟩, c1, ⟨d1, _⟩, _⟩ := id hE
  have fc : FC σ dd c fr F := by rw [hfr]; exact hE.fdc fl F hF
  have n2 := (hT.2.2.2.1 k hk).1.2.1
  have s26 : ∀ y : Int, y = eachN Ss F → y ≤ 1000000 → AW g l (d + 1) MX10_fillingAmount 26 [some (vR 10 (some tr)), some (vR 5 (some (no k))), none, none] [vI y] σ (fun v σ' => ∃ r, v = some (vI r) ∧ P r σ') := fun y hy hy2 => by
    unfold filN at hP
    rw [← hy] at hP
    refine bk_X10_fillingAmount_26 ⟨fun w => ⟨a, q1, no k, rfl, ?_⟩, fun w => ⟨_, rfl, by rw [if_neg w] at hP; exact hP⟩⟩
    rw [b2, n2]
    refine ⟨⟨by omega, by omega⟩, by omega, j_min ⟨_, rfl, ?_⟩⟩
    rw [if_pos w] at hP
    rw [i_div_pos (by omega) (by omega) (by omega) (by omega)]
    exact hP
  refine AC.of mo_X10_fillingAmount (Nat.le_of_ble_eq_true rfl) (bk_X10_fillingAmount_0 ⟨fr, rfl, ?_⟩)
  rw [fc.st, fc.xtw]
  refine ⟨fun w => ⟨dd, q2, x_sizeOf c1.1 c1.2.2.2.1 d1 (s26 _ (by unfold eachN; rw [if_neg w]) hsz)⟩, fun w => s26 _ (by unfold eachN; rw [if_pos w]) (by have := hty w; omega)⟩
theorem x_layArray {P : Int → St → Prop} (hL : LyC g l B tr a dd c rk so fo En Ss len h Own H Z L (dep + 1)) (hG : LG Ss len L) (hB : B ≤ e + 8) (hd : 0 ≤ dep ∧ dep ≤ 100) (hE : EnC σ tr a dd c rk so fo En Ss len h Own) (hT : TrC σ tr no fo Ss Own H Z s) (hI : TI Ss len s) (hU : TU Ss len s) (hi : i < s.c) (h0' : s.d 0 i = 0) (hk : k < s.c) (h0 : s.d 0 k = 2) (h5 : s.d 5 k = (i : Int)) (hF : gF Ss fl = some F) (hfr : fr = fo (fl / 14).toNat (fl % 14).toNat) (f2 : F.ki = 2) (hW : F.st = -1 ∧ TyR F.ty ∨ 0 ≤ F.st ∧ F.st < Ss.length ∧ (F.e1 = none → 0 < szS Ss F.st)) (hsz : szS Ss F.st ≤ 1000000) (hw : WFx F.e1) (hx : ∀ N, F.e1 = some N → ∀ x ∈ N, x.o = 2 → NmO Ss s i x.v.toInt) (h20 : Ss.length ≤ 20) (hR : H + 400 ≤ gB g + 600000 ∧ Z + 6800 ≤ 7302250)
    (hP : PoB σ tr rk Own no fo Ss H Z s (lyAr Ss h len L s i k fl F) P) : ACi g l (e + 10) MX10_layArray [vR 10 (some tr), vR 5 (some (no k)), vR 2 (some fr), vI dep] σ P := by
  obtain ⟨⟨v1, _⟩, _⟩ := hI.2 k hk
  have f0 := (gF_some hF).1
  have fc : FC σ dd c fr F := by rw [hfr]; exact hE.fdc fl F hF
  have ok : oN no (k : Int) = some (no k) := oN_at
  -- the end of the loop
  have done : ∀ (τ : St) (w x5 x6 : Int), (x5 = 0 ∨ x5 = 1) → (w ≤ x6 ∨ x5 = 0 ∨ ¬ gI τ 1005 tr 0 = 0) → P x5 τ → AW g l (e + 10) MX10_layArray 34 [some (vR 10 (some tr)), some (vR 5 (some (no k))), some (vR 2 (some fr)), some (vI dep), some (vI w), some (vI x5), some (vI x6), none] [] τ (fun v σ' => ∃ r, v = some (vI r) ∧ P r σ') := fun τ w x5 x6 h5 hz hp => by
    refine bk_X10_layArray_34 ⟨fun _ => ⟨h5, _, rfl, hp⟩, fun y => ⟨fun _ => ⟨h5, _, rfl, hp⟩, fun y2 => ⟨fun _ => ⟨h5, _, rfl, hp⟩, fun y3 => ?_⟩⟩⟩
    rcases hz with z | z | z
    · exact absurd z y
    · exact absurd z y2
    · exact absurd y3 z
  have loop : ∀ (n : Nat) (w x6 : Int) (τ : St) (no1 : Nat → Nat) (s1 : TS), 0 ≤ x6 → x6 + n = w → w ≤ 200 → Fr (LyF tr rk Own) σ τ → TrC τ tr no1 fo Ss Own H Z s1 → TI Ss len s1 → TU Ss len s1 → s.c ≤ s1.c → s1.d 0 k = 2 → (∀ j, j < s.c → no1 j = no j) → PoB σ tr rk Own no fo Ss H Z s (arB Ss len L k fl F n s1) P → AW g l (e + 10) MX10_layArray 34 [some (vR 10 (some tr)), some (vR 5 (some (no k))), some (vR 2 (some fr)), some (vI dep), some (vI w), some (vI 1), some (vI x6), none] [] τ (fun v σ' => ∃ r, v = some (vI r) ∧ P r σ') := by
    intro n
    induction n with
    | zero =>
      intro w x6 τ no1 s1 hx0 hw hw2 fτ Tτ I1 U1 hc k0 hno hP
      refine done τ w 1 x6 (Or.inr rfl) (Or.inl (by omega)) ?_
      refine hP.1 (s1, true) ?_ τ no1 fτ Tτ hno
      unfold arB
      by_cases z : F.st = -1
      · rw [if_pos z]; rfl
      · rw [if_neg z]; rfl
    | succ n ih =>
      intro w x6 τ no1 s1 hx0 hw hw2 fτ Tτ I1 U1 hc k0 hno hP
      have Eτ := hE.fr fτ
      have fcτ : FC τ dd c fr F := by rw [hfr]; exact Eτ.fdc fl F hF
      have hk1 : k < s1.c := by omega
      have nk : no1 k = no k := hno k hk
      obtain ⟨⟨vk, _⟩, _⟩ := I1.2 k hk1
      obtain ⟨n1, n2, n3, _⟩ := (Tτ.2.2.2.1 k hk1).1
      rw [nk] at n1 n2 n3
      refine bk_X10_layArray_34 ⟨fun y => absurd y (by omega), fun y => ⟨fun y2 => absurd y2 (by decide), fun _ => ⟨fun y3 => absurd Tτ.1.2.1 y3, fun _ => ⟨fr, rfl, ?_⟩⟩⟩⟩
      rw [fcτ.st]
      refine ⟨fun z => ⟨no k, rfl, ?_⟩, fun z => ⟨no k, rfl, ⟨by omega, by omega⟩, ?_⟩⟩
      · -- wholes
        rw [n3]
        unfold arB at hP
        rw [if_pos z, arW] at hP
        have ty : TyR F.ty := by
          rcases hW with w | w
          · exact w.2
          · omega
        have t1 := ty.1
        have t8 := ty.2.1
        refine x_addN (no := no1) (par := (k : Int)) (fld := fl) (u2 := s1.d 2 k) (u7 := -1) (u8 := 0) (by rw [oN_at, nk]) (oF_at f0 hfr).symm Eτ Tτ (fun i hi => (I1.2 i hi).2.1) ⟨by omega, by omega⟩ hR (fun nc => ⟨fun _ => ?_, (fun r w => nomatch w)⟩) (fun hc4 σ2 r f2' rh ro r503 r514 post => ⟨(fun w => nomatch w), fun r' er => ?_⟩)
        · have em : mkO s1 1 k (s1.d 2 k) fl (s1.d 2 k) (-1) 0 0 = none := by unfold mkO; rw [if_neg nc]
          rw [em] at hP
          have fg : Fr (LyF tr rk Own) σ (sI τ 1005 tr 0 1) := fτ.trans (Frm.sI (LyF.t (by omega))).fr
          refine bk_X10_layArray_121 ⟨fun _ => ⟨no k, rfl, ⟨by omega, by omega⟩, done _ _ 0 _ (Or.inl rfl) (Or.inr (Or.inl rfl)) ?_⟩, (fun r w => nomatch w)⟩
          exact hP.2 rfl 0 _ (Or.inl rfl) (fg.trans (Frm.sI (LyF.o (hT.own hk) (by decide) (by decide))).fr) (Tτ.gar.w (by decide) (by decide))
        · cases er
          have em : mkO s1 1 k (s1.d 2 k) fl (s1.d 2 k) (-1) 0 0 = some (mkM s1 1 k (s1.d 2 k) fl (s1.d 2 k) (-1) 0 0) := by unfold mkO; rw [if_pos hc4]
          rw [em] at hP
          dsimp only at hP
          have T2 := post σ2 Frm.rfl r503 r514 (fun z => absurd z (by decide))
          have E2 := Eτ.fr f2'
          have fc2 : FC σ2 dd c fr F := by rw [hfr]; exact E2.fdc fl F hF
          have kn : ¬ k = s1.c := by omega
          have m1 : (mkM s1 1 k (s1.d 2 k) fl (s1.d 2 k) (-1) 0 0).d 1 s1.c = s1.d 2 k := mk_n
          have m2 : (mkM s1 1 k (s1.d 2 k) fl (s1.d 2 k) (-1) 0 0).d 2 s1.c = s1.d 2 k := mk_n
          have cl : s1.c < (mkM s1 1 k (s1.d 2 k) fl (s1.d 2 k) (-1) 0 0).c := by rw [mk_c]; omega
          have kl : k < (mkM s1 1 k (s1.d 2 k) fl (s1.d 2 k) (-1) 0 0).c := by rw [mk_c]; omega
          have nn : noA no1 s1.c r s1.c = r := noA_n
          have nk2 : noA no1 s1.c r k = no k := by rw [noA_o kn, nk]
          have hno2 : ∀ j, j < s.c → noA no1 s1.c r j = no j := fun j hj => by rw [noA_o (by omega)]; exact hno j hj
          have cvr : ACi g l (e + 9) MX10_cover [vR 10 (some tr), vR 5 (some (noA no1 s1.c r s1.c)), vI (tw F.ty)] σ2 (fun v14 σ13 => ((v14 = 0 → AW g l (e + 10) MX10_layArray 121 [some (vR 10 (some tr)), some (vR 5 (some (no k))), some (vR 2 (some fr)), some (vI dep), some (vI w), none, some (vI x6), some (vR 5 (some r))] [vI 0] σ13 (fun v σ' => ∃ r, v = some (vI r) ∧ P r σ')) ∧ (¬ v14 = 0 → AW g l (e + 10) MX10_layArray 121 [some (vR 10 (some tr)), some (vR 5 (some (no k))), some (vR 2 (some fr)), some (vI dep), some (vI w), none, some (vI x6), some (vR 5 (some r))] [vI 1] σ13 (fun v σ' => ∃ r, v = some (vI r) ∧ P r σ')))) := by
            refine x_cover E2 T2 cl ⟨by rw [m1]; omega, by rw [m1]; omega⟩ (by omega) (fun q σ3 f3 T3 => ⟨fun y => absurd y (by decide), fun _ => ?_⟩) (fun q σ3 f3 T3 => ⟨fun _ => ?_, fun y => absurd rfl y⟩)
            · rw [m1] at q T3
              rw [if_pos q] at hP
              have g503 := (T3.2.2.2.1 s1.c cl).1.2.2.1
              rw [nn, w_at] at g503
              refine bk_X10_layArray_121 ⟨(fun y => nomatch y), fun r1 e1 => ⟨no k, rfl, ⟨by omega, by omega⟩, ?_⟩⟩
              cases e1
              rw [g503]
              have T4 := T3.w (k := k) (f := 2) (v := s1.d 2 k + tw F.ty) kl (by omega)
              rw [nk2] at T4
              have FF : Fr (LyF tr rk Own) σ3 (sI σ3 503 (no k) 0 (s1.d 2 k + tw F.ty)) := (Frm.sI (LyF.o (hT.own hk) (by decide) (by decide))).fr
              have ko := arW_ok (k := k) (len := len) hF f2 z ty 1 s1 (((mkM s1 1 k (s1.d 2 k) fl (s1.d 2 k) (-1) 0 0).w 2 s1.c (s1.d 2 k + tw F.ty)).w 2 k (s1.d 2 k + tw F.ty), true) I1 U1 hk1 k0 (by rw [arW, em]; dsimp only; rw [if_pos q]; rfl)
              refine ih w (x6 + 1) _ _ _ (by omega) (by omega) hw2 (((fτ.trans f2').trans f3).trans FF) T4 ko.1 ko.2.1 (by show s.c ≤ s1.c + 1; omega) ?_ hno2 ?_
              · rw [w_ne (by decide), w_ne (by decide), mk_o kn]; exact k0
              · unfold arB; rw [if_pos z]; exact hP
            · rw [m1] at q
              rw [if_neg q] at hP
              have g503 := (T3.2.2.2.1 s1.c cl).1.2.2.1
              rw [nn, w_ne (by decide), m2] at g503
              refine bk_X10_layArray_121 ⟨(fun y => nomatch y), fun r1 e1 => ⟨no k, rfl, ⟨by omega, by omega⟩, done _ _ 0 _ (Or.inl rfl) (Or.inr (Or.inl rfl)) ?_⟩⟩
              cases e1
              rw [g503]
              have T4 := T3.w (k := k) (f := 2) (v := s1.d 2 k) kl (by omega)
              rw [nk2, w_same (by rw [w_ne (by decide), mk_o kn])] at T4
              exact hP.1 _ rfl _ _ (((fτ.trans f2').trans f3).trans (Frm.sI (LyF.o (hT.own hk) (by decide) (by decide))).fr) T4 hno2
          rw [fc2.xtw]
          rw [nn] at cvr
          exact cvr
      · -- structs
        rw [n3]
        have hst : 0 ≤ F.st ∧ F.st < Ss.length := by
          rcases hW with w | w
          · exact absurd w.1 z
          · exact ⟨w.1, w.2.1⟩
        unfold arB at hP
        rw [if_neg z, arS] at hP
        refine x_addStruct (no := no1) (par := (k : Int)) hL hG hB (by rw [oN_at, nk]) Eτ Tτ I1 U1 ⟨by omega, by omega⟩ (fun j ej => by rw [show j = k by omega]; omega) ⟨by omega, by omega⟩ hst hR (fun s2 es σ2 no2 f2' T2 a2 => ⟨⟨by omega, by omega⟩, ?_⟩) (fun en v σ2 f2' T2 => ⟨⟨by omega, by omega⟩, done _ _ 1 _ (Or.inr rfl) (Or.inr (Or.inr ?_)) ?_⟩)
        · rw [es] at hP
          dsimp only at hP
          obtain ⟨t1, t2, t3, t4, t5⟩ := addS_ok hG I1 U1 ⟨by omega, by omega⟩ (fun j ej => by rw [show j = k by omega]; omega) ⟨by omega, by omega⟩ hst es
          have ex := t3 k rfl
          obtain ⟨⟨u1, _⟩, _⟩ := t1.2 s1.c t4
          have kl : k < s2.c := by omega
          have nk2 : no2 k = no k := by rw [a2 k hk1, nk]
          have T3 := T2.w (k := k) (f := 2) (v := s2.d 2 s1.c) kl (by omega)
          rw [nk2] at T3
          have kk0 : s2.d 0 k = 2 := by rw [ex.2.2 0 (by decide) (by decide) (by decide)]; exact k0
          have kk1 : s2.d 1 k = s1.d 1 k := ex.2.2 1 (by decide) (by decide) (by decide)
          refine ih w (x6 + 1) _ no2 _ (by omega) (by omega) hw2 ((fτ.trans f2').trans (Frm.sI (LyF.o (hT.own hk) (by decide) (by decide))).fr) T3 (t1.w2 (by omega) (by omega)) (t2.w2 (by omega)) (by show s.c ≤ s2.c; omega) (by rw [w_ne (by decide)]; exact kk0) (fun j hj => by rw [a2 j (by omega)]; exact hno j hj) ?_
          unfold arB; rw [if_neg z]; exact hP
        · rw [gI_sI, if_neg (by simp), T2.1]; decide
        · rw [en] at hP
          exact hP.2 rfl 1 _ (Or.inr rfl) ((fτ.trans f2').trans (Frm.sI (LyF.o (hT.own hk) (by decide) (by decide))).fr) (T2.w (by decide) (by decide))
  have ng := fc.e1
  unfold lyAr at hP
  refine AC.of mo_X10_layArray (Nat.le_of_ble_eq_true rfl) (bk_X10_layArray_0 ⟨fr, rfl, fun z => ?_, fun z => ?_⟩)
  · cases e1 : F.e1 with
    | none => rw [e1] at ng; exact absurd ng z
    | some N =>
      rw [e1] at hP
      dsimp only at hP
      unfold amtB at hP
      refine x_amount hE hT hI hU hi h0' hk h5 fc e1 hw (hx N e1) h20 ⟨by omega, by omega⟩ (fun ev σ1 f1 T1 => done _ _ 1 0 (Or.inr rfl) (Or.inl (by omega)) ?_) (fun v ev q σ1 f1 T1 => done _ _ 1 0 (Or.inr rfl) (Or.inl (by omega)) ?_) (fun v ev q σ1 f1 T1 => loop v.toInt.toNat v.toInt 0 σ1 no s (by omega) (by omega) (by omega) f1 T1 hI hU (Nat.le_refl _) h0 (fun _ _ => rfl) ?_)
      · rw [ev] at hP; exact hP.t f1 T1
      · rw [ev] at hP; dsimp only at hP; rw [if_pos q] at hP; exact hP.t f1 T1
      · rw [ev] at hP; dsimp only at hP; rw [if_neg q] at hP; exact hP
  · cases e1 : F.e1 with
    | none =>
      rw [e1] at hP
      dsimp only at hP
      refine x_fillingAmount hE hT hk ⟨by omega, by omega⟩ hF hfr (fun y => ?_) hsz ?_
      · rcases hW with w | w
        · exact ⟨w.2.1, w.2.2.1⟩
        · omega
      · have fl2 : 0 ≤ filN Ss len s k F ∧ filN Ss len s k F ≤ 200 := by
          unfold filN
          by_cases y : 0 < eachN Ss F
          · rw [if_pos y]
            have : 0 ≤ (len - s.d 1 k) / eachN Ss F := Int.ediv_nonneg (by omega) (by omega)
            omega
          · rw [if_neg y]; omega
        exact loop (filN Ss len s k F).toNat (filN Ss len s k F) 0 σ no s (by omega) (by omega) fl2.2 Fr.rfl hT hI hU (Nat.le_refl _) h0 (fun _ _ => rfl) hP
    | some N =>
      rw [e1] at ng
      obtain ⟨b0, x1, _⟩ := ng
      omega
theorem x_layUnion {P : St → Prop} (hL : LyC g l B tr a dd c rk so fo En Ss len h Own H Z L (dep + 1)) (hG : LG Ss len L) (hB : B ≤ e + 8) (hd : 0 ≤ dep ∧ dep ≤ 100) (hE : EnC σ tr a dd c rk so fo En Ss len h Own) (hT : TrC σ tr no fo Ss Own H Z s) (hI : TI Ss len s) (hU : TU Ss len s) (hi : i < s.c) (h0' : s.d 0 i = 0) (hk : k < s.c) (h0 : s.d 0 k = 6) (h5 : s.d 5 k = (i : Int)) (hF : gF Ss fl = some F) (hfr : fr = fo (fl / 14).toNat (fl % 14).toNat) (hN : ∃ N, F.e1 = some N) (hot : -1 ≤ F.ot ∧ F.ot < Ss.length) (hes : ∀ e ∈ F.es, 0 ≤ e.2.2 ∧ e.2.2 < Ss.length) (hw : WFx F.e1) (hx : ∀ N, F.e1 = some N → ∀ x ∈ N, x.o = 2 → NmO Ss s i x.v.toInt) (h20 : Ss.length ≤ 20) (hR : H + 400 ≤ gB g + 600000 ∧ Z + 6800 ≤ 7302250)
    (hP : PoB σ tr rk Own no fo Ss H Z s (lyUn Ss h len L s i k F) (fun _ σ' => P σ')) : ACv g l (e + 10) MX10_layUnion [vR 10 (some tr), vR 5 (some (no k)), vR 2 (some fr), vI dep] σ P := by
  obtain ⟨N, eN⟩ := hN
  obtain ⟨⟨v1, _⟩, _⟩ := hI.2 k hk
  obtain ⟨⟨q1, q2, q3, _⟩, _, c1, _⟩ := id hE
  have fc : FC σ dd c fr F := by rw [hfr]; exact hE.fdc fl F hF
  have xc := fc.e1
  rw [eN] at xc hw
  obtain ⟨⟨n1, n2, n3, n4, n5, n6, _⟩, _⟩ := hT.2.2.2.1 k hk
  have op : oN no (s.d 5 k) = some (no i) := by rw [h5]; exact oN_at
  unfold lyUn at hP
  rw [eN] at hP
  dsimp only at hP
  refine AC.of mo_X10_layUnion (Nat.le_of_ble_eq_true rfl) (bk_X10_layUnion_0 ⟨dd, q2, fr, rfl, no k, rfl, rk, q3, ?_⟩)
  rw [c1.2.1, q1, n6, n2, op]
  have rk1007 : ∀ σ', Frm (RkF rk) σ σ' → gR σ' 1007 tr 0 = some rk := fun σ' hF => by rw [hF.R (fun q => by omega)]; exact q3
  refine x_ev hE hT hI hU hi h0' xc hw ⟨by omega, by omega⟩ (hx N eN) h20 (fun v hv σ1 f1 f2 t1 z7 => ⟨rk, rk1007 σ1 f2, fun _ => ?_, fun w => absurd z7 w⟩) (fun hv v σ1 f1 f2 t1 z7 => ⟨rk, rk1007 σ1 f2, fun w => by omega, fun _ => ⟨rfl, ?_⟩⟩)
  · rw [hv] at hP
    dsimp only at hP
    have E1 := hE.fr f1
    obtain ⟨⟨w1, w2, w3, _⟩, _, y1, ⟨_, _, d3⟩, _⟩ := id E1
    have fc1 : FC σ1 dd c fr F := by rw [hfr]; exact E1.fdc fl F hF
    obtain ⟨⟨m1, m2, m3, _⟩, _⟩ := t1.2.2.2.1 k hk
    have s91 : ∀ y : Int, y = tgt F v → -1 ≤ y → y < Ss.length → AW g l (e + 10) MX10_layUnion 91 [some (vR 10 (some tr)), some (vR 5 (some (no k))), none, some (vI dep), none, none, none, none] [vI y] σ1 (fun v σ' => v = none ∧ P σ') := fun y hy y0 y1 => by
      rw [← hy] at hP
      refine bk_X10_layUnion_91 ⟨fun w => ⟨no k, rfl, ⟨by omega, by omega⟩, ?_⟩, fun w => ⟨no k, rfl, rfl, ?_⟩⟩
      · rw [if_neg w] at hP
        rw [m2]
        refine x_addStruct (par := (k : Int)) hL hG hB oN_at.symm E1 t1 hI hU ⟨by omega, by omega⟩ (fun j ej => by rw [show j = k by omega]; omega) ⟨by omega, by omega⟩ ⟨by omega, by omega⟩ hR (fun s2 es σ2 no2 f3 T2 a2 => ⟨rfl, ?_⟩) (fun en v σ2 f3 T2 => ⟨rfl, ?_⟩)
        · rw [es] at hP
          dsimp only at hP
          obtain ⟨u1, u2, u3, u4, u5⟩ := addS_ok hG hI hU ⟨by omega, by omega⟩ (fun j ej => by rw [show j = k by omega]; omega) ⟨by omega, by omega⟩ ⟨by omega, by omega⟩ es
          have T3 := T2.w (k := k) (f := 2) (v := s2.d 2 s.c) (by omega) (by omega)
          rw [a2 k hk] at T3
          exact hP.1 _ rfl _ no2 ((f1.trans f3).trans (Frm.sI (LyF.o (hT.own hk) (by decide) (by decide))).fr) T3 a2
        · rw [en] at hP
          exact hP.2 rfl 0 _ (Or.inl rfl) ((f1.trans f3).trans (Frm.sI (LyF.o (hT.own hk) (by decide) (by decide))).fr) (T2.w (by decide) (by decide))
      · rw [if_pos w] at hP
        exact hP.1 _ rfl _ no (f1.trans (t1.fw hk (by decide) (by decide))) (t1.w (f := 3) hk (by omega)) (fun _ _ => rfl)
    refine ⟨dd, w2, x_entryWith y1.1 d3 fc1.es (fun ef => ⟨fun w => absurd rfl w, fun _ => ?_⟩) (fun x q ef q0 q3' ex => ⟨fun _ => ⟨dd, w2, y1.1, ⟨by omega, by omega⟩, ?_⟩, fun w => by omega⟩)⟩
    · rw [fc1.ot]
      exact s91 _ (by unfold tgt; rw [ef]) hot.1 hot.2
    · rw [ex]
      have := hes x (List.mem_of_find?_eq_some ef)
      exact s91 _ (by unfold tgt; rw [ef]) (by omega) this.2
  · rw [hv] at hP
    exact hP.1 _ rfl _ no (f1.trans (t1.fw hk (by decide) (by decide))) (t1.w (f := 3) hk (by omega)) (fun _ _ => rfl)
theorem x_isAbove {st ai : Int} {P : Int → St → Prop} (hT : TrC σ tr no fo Ss Own H Z s) (hI : TI Ss len s) (hk : k < s.c) (hP : P (if abv s st ai s.c (s.d 5 k) = true then 1 else 0) σ) : ACi g l d MX10_isAbove [vR 5 (some (no k)), vI st, vI ai] σ P := by
  have loop : ∀ (n : Nat) (p : Int), -1 ≤ p → p < n → p < s.c → P (if abv s st ai n p = true then 1 else 0) σ → AW g l d MX10_isAbove 5 [none, some (vI st), some (vI ai), some (vR 5 (oN no p))] [] σ (fun v σ' => ∃ r, v = some (vI r) ∧ P r σ') := by
    intro n
    induction n with
    | zero =>
      intro p p0 p1 _ hP
      refine bk_X10_isAbove_5 ?_
      rw [show oN no p = none by unfold oN; rw [if_pos (by omega)]]
      exact ⟨fun _ => ⟨_, rfl, hP⟩, (fun r w => nomatch w)⟩
    | succ n ih =>
      intro p p0 p1 p2 hP
      rw [abv] at hP
      refine bk_X10_isAbove_5 ?_
      by_cases q : p < 0
      · rw [if_pos q] at hP
        rw [show oN no p = none by unfold oN; rw [if_pos q]]
        exact ⟨fun _ => ⟨_, rfl, hP⟩, (fun r w => nomatch w)⟩
      · rw [if_neg q] at hP
        rw [show oN no p = some (no p.toNat) by unfold oN; rw [if_neg q]]
        refine ⟨(fun w => nomatch w), fun r er => ?_⟩
        cases er
        have pc : p.toNat < s.c := by omega
        obtain ⟨⟨n1, n2, n3, n4, n5, n6, n7, n8, _⟩, _⟩ := hT.2.2.2.1 p.toNat pc
        have kk := (hI.2 p.toNat pc).2.1.2.2
        rw [n1, n6, n8, n2]
        have nx : ¬ (s.d 0 p.toNat = 0 ∧ s.d 7 p.toNat = st ∧ s.d 1 p.toNat = ai) → AW g l d MX10_isAbove 5 [none, some (vI st), some (vI ai), some (vR 5 (oN no (s.d 5 p.toNat)))] [] σ (fun v σ' => ∃ r, v = some (vI r) ∧ P r σ') := fun z => by
          rw [if_neg z] at hP
          exact ih _ kk.1 (by omega) (by omega) hP
        exact ⟨fun z => nx (fun y => z y.1), fun z => ⟨fun z2 => nx (fun y => z2 y.2.1), fun z2 => ⟨fun z3 => nx (fun y => z3 y.2.2), fun z3 => ⟨_, rfl, by rw [if_pos (show s.d 0 p.toNat = 0 ∧ s.d 7 p.toNat = st ∧ s.d 1 p.toNat = ai from ⟨z, z2, z3⟩)] at hP; exact hP⟩⟩⟩⟩
  have n6 := (hT.2.2.2.1 k hk).1.2.2.2.2.2.1
  have kk := (hI.2 k hk).2.1.2.2
  refine AC.of mo_X10_isAbove (Nat.le_of_ble_eq_true rfl) (bk_X10_isAbove_0 ⟨no k, rfl, ?_⟩)
  rw [n6]
  exact loop s.c _ kk.1 (by omega) (by omega) hP
theorem x_layPointer {P : Int → St → Prop} (hL : LyC g l B tr a dd c rk so fo En Ss len h Own H Z L (dep + 1)) (hG : LG Ss len L) (hB : B ≤ e + 8) (hd : 0 ≤ dep ∧ dep ≤ 100) (hE : EnC σ tr a dd c rk so fo En Ss len h Own) (hT : TrC σ tr no fo Ss Own H Z s) (hI : TI Ss len s) (hX : TX Ss len s k) (hi : i < s.c) (h0' : s.d 0 i = 0) (hk : k < s.c) (h0 : s.d 0 k = 7) (h5 : s.d 5 k = (i : Int)) (hF : gF Ss fl = some F) (h6 : s.d 6 k = fl) (hfr : fr = fo (fl / 14).toNat (fl % 14).toNat) (ty : TyR F.ty) (hst : 0 ≤ F.st ∧ F.st < Ss.length) (hw : WFx F.e1) (hx : ∀ N, F.e1 = some N → ∀ x ∈ N, x.o = 2 → NmO Ss (s.w 2 k (s.d 1 k + tw F.ty)) i x.v.toInt) (h20 : Ss.length ≤ 20) (hR : H + 400 ≤ gB g + 600000 ∧ Z + 6800 ≤ 7302250)
    (hP : PoB σ tr rk Own no fo Ss H Z s (covB len s k (tw F.ty) (fun s => lyPt Ss h len L s i k F)) P) : ACi g l (e + 10) MX10_layPointer [vR 10 (some tr), vR 5 (some (no k)), vR 2 (some fr), vI dep] σ P := by
  obtain ⟨⟨v1, _⟩, _⟩ := hI.2 k hk
  have fc : FC σ dd c fr F := by rw [hfr]; exact hE.fdc fl F hF
  have t1 := ty.1
  unfold covB at hP
  refine AC.of mo_X10_layPointer (Nat.le_of_ble_eq_true rfl) (bk_X10_layPointer_0 ⟨fr, rfl, ?_⟩)
  rw [fc.xtw]
  refine x_cover hE hT hk ⟨by omega, by omega⟩ (by omega) (fun q σ3 f3 T3 => ⟨fun _ => ⟨no k, rfl, ?_⟩, fun w => absurd w (by decide)⟩) (fun q σ3 f3 T3 => ⟨fun w => absurd rfl w, fun _ => ⟨_, rfl, ?_⟩⟩)
  · rw [if_pos q] at hP
    dsimp only at hP
    obtain ⟨I3, U3⟩ := cov_in hI hX hk (by omega) (fun F' hF' => by
      rw [h6, hF] at hF'
      cases hF'
      exact ⟨fun _ => Int.le_refl _, fun z => by omega⟩) q
    have g0 : (s.w 2 k (s.d 1 k + tw F.ty)).d 0 i = 0 := by rw [w_ne (by decide)]; exact h0'
    have gk : (s.w 2 k (s.d 1 k + tw F.ty)).d 0 k = 7 := by rw [w_ne (by decide)]; exact h0
    have g5 : (s.w 2 k (s.d 1 k + tw F.ty)).d 5 k = (i : Int) := by rw [w_ne (by decide)]; exact h5
    have k1 : (s.w 2 k (s.d 1 k + tw F.ty)).d 1 k = s.d 1 k := w_ne (by decide)
    have gc : (s.w 2 k (s.d 1 k + tw F.ty)).c = s.c := rfl
    have z0 : (0 : Int64).toInt = 0 := by decide
    generalize hs1 : s.w 2 k (s.d 1 k + tw F.ty) = s1 at *
    have hk1 : k < s1.c := by rw [gc]; exact hk
    have hi1 : i < s1.c := by rw [gc]; exact hi
    have E3 := hE.fr f3
    -- the aim is known
    have s90 : ∀ (v : Int64) (τ : St), Fr (LyF tr rk Own) σ τ → TrC τ tr no fo Ss Own H Z s1 → PoB σ tr rk Own no fo Ss H Z s (lyPa Ss len L s1 k F v) P → AW g l (e + 10) MX10_layPointer 90 [some (vR 10 (some tr)), some (vR 5 (some (no k))), some (vR 2 (some fr)), some (vI dep), some (vJ v), none] [] τ (fun v σ' => ∃ r, v = some (vI r) ∧ P r σ') := fun v τ fτ Tτ hP => by
      have Eτ := hE.fr fτ
      obtain ⟨⟨w1, w2, w3, _⟩, ⟨_, b2, b3, _⟩, _⟩ := id Eτ
      have fcτ : FC τ dd c fr F := by rw [hfr]; exact Eτ.fdc fl F hF
      unfold lyPa at hP
      have bad : (v.toInt < 0 ∨ len ≤ v.toInt) → P 1 (sI τ 504 (no k) 0 8) := fun z => by
        rw [if_pos z] at hP
        exact hP.t (fτ.trans (Tτ.fw hk1 (by decide) (by decide))) (Tτ.w (f := 3) hk1 (by omega))
      refine bk_X10_layPointer_90 ?_
      rw [z0]
      refine ⟨fun z => ⟨no k, rfl, _, rfl, bad (Or.inl z)⟩, fun z => ⟨a, w1, ?_⟩⟩
      rw [b2, i2j_toInt, w32_id (by omega) (by omega)]
      refine ⟨fun y => ⟨fr, rfl, ?_⟩, fun y => ⟨no k, rfl, _, rfl, bad (Or.inr (by omega))⟩⟩
      rw [if_neg (by omega)] at hP
      rw [fcτ.st, j2i_eq, w32_id (by omega) (by omega)]
      refine x_isAbove Tτ I3 hk1 ⟨fun y2 => ⟨⟨by omega, by omega⟩, ?_⟩, fun y2 => ⟨no k, rfl, _, rfl, ?_⟩⟩
      · have nb : ¬ abv s1 F.st v.toInt s1.c (s1.d 5 k) = true := fun y3 => by rw [if_pos y3] at y2; exact absurd y2 (by decide)
        rw [if_neg nb] at hP
        rw [fcτ.st]
        refine x_addStruct (par := (k : Int)) hL hG hB oN_at.symm Eτ Tτ I3 U3 ⟨by omega, by omega⟩ (fun j ej => by rw [show j = k by omega]; omega) ⟨by omega, by omega⟩ hst hR (fun s2 es σ2 no2 f4 T2 a2 => ⟨_, rfl, ?_⟩) (fun en v σ2 f4 T2 => ⟨_, rfl, ?_⟩)
        · rw [es] at hP
          exact hP.1 _ rfl _ no2 (fτ.trans f4) T2 (fun j hj => a2 j (by rw [gc]; exact hj))
        · rw [en] at hP
          exact hP.2 rfl 1 _ (Or.inr rfl) (fτ.trans f4) T2
      · have nb : abv s1 F.st v.toInt s1.c (s1.d 5 k) = true := by
          by_cases y3 : abv s1 F.st v.toInt s1.c (s1.d 5 k) = true
          · exact y3
          · rw [if_neg y3] at y2; exact absurd rfl y2
        rw [if_pos nb] at hP
        exact hP.t (fτ.trans (Tτ.fw hk1 (by decide) (by decide))) (Tτ.w (f := 4) hk1 (by omega))
    rw [E3.1.1]
    refine x_read' E3 T3 I3 U3 hk1 ?_
    have fc3 : FC σ3 dd c fr F := by rw [hfr]; exact E3.fdc fl F hF
    obtain ⟨⟨w1, w2, w3, _⟩, _, y1, _⟩ := id E3
    obtain ⟨⟨m1, m2, m3, m4, m5, m6, _⟩, _⟩ := T3.2.2.2.1 k hk1
    have ng := fc3.e1
    unfold lyPt at hP
    rw [fc3.nu]
    refine ⟨fun z => ?_, fun z => ⟨dd, w2, rk, w3, ?_⟩⟩
    · cases e1 : F.e1 with
      | none => rw [e1] at hP; exact s90 _ σ3 f3 T3 hP
      | some N => rw [e1] at ng; obtain ⟨b0, x1, _⟩ := ng; omega
    · cases e1 : F.e1 with
      | none => rw [e1] at ng; exact absurd ng z
      | some N =>
        rw [e1] at hP ng hw
        dsimp only at hP
        have op : oN no (s1.d 5 k) = some (no i) := by rw [g5]; exact oN_at
        rw [y1.2.1, w1, m6, m2, op]
        have rk1007 : ∀ σ', Frm (RkF rk) σ3 σ' → gR σ' 1007 tr 0 = some rk := fun σ' hF => by rw [hF.R (fun q => by omega)]; exact w3
        refine x_ev E3 T3 I3 U3 hi1 g0 ng hw ⟨by omega, by omega⟩ (hx N e1) h20 (fun v hv σ1 f1 f2 t1 z7 => ⟨rk, rk1007 σ1 f2, fun _ => ?_, fun w => absurd z7 w⟩) (fun hv v σ1 f1 f2 t1 z7 => ⟨rk, rk1007 σ1 f2, fun w => by omega, fun _ => ⟨_, rfl, ?_⟩⟩)
        · rw [hv] at hP; exact s90 _ σ1 (f3.trans f1) t1 hP
        · rw [hv] at hP
          exact hP.t ((f3.trans f1).trans (t1.fw hk1 (by decide) (by decide))) (t1.w (f := 3) hk1 (by omega))
  · rw [if_neg q] at hP
    exact hP.f f3 T3
end N7
