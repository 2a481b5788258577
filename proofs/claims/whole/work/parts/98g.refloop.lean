/-! the reference lays: the loop -/
abbrev LpA (g : GP) (l : Launch) (e m : Nat) (σ : St) (Q : Option AV → St → Prop) : Prop := AW g l (e + 13) MX12_laid 13 [some (vR 12 (some m)), none, none, none, none] [] σ Q
/-- a struct that stands begun is laid and closed -/
def LyR (g : GP) (l : Launch) (e m t b : Nat) (Ss : List Stc) (len : Int) (σ0 : St) (Q : Option AV → St → Prop) (Nn : Prop) (L : LY) (r : Nat) : Prop :=
  ∀ (σ : St) (s : TS) (i : Nat) (st : Int) (K : List (Nat × Int)), RyO m t σ0 σ → TrR σ m t b (bgS r s i) → SkR σ m t (K ++ [(i, bgX r)]) → K.length + 2 * r ≤ 60 → TI Ss len s → TU Ss len s → i + 1 = s.c → s.d 0 i = 0 → s.d 7 i = st → s.k i = [] → Anc s (s.d 5 i) = 20 - (r : Int) → (L s i st = none → Nn) →
    (∀ s', L s i st = some s' → ∀ σ', RyO m t σ0 σ' → TrR σ' m t b (clS s' i) → SkR σ' m t K → LpA g l e m σ' Q) → LpA g l e m σ Q
theorem clS_u {s : TS} {n p : Nat} (h5 : s.d 5 n = (p : Int)) (h7 : ¬ s.d 0 p = 7) : clS s n = s.w 2 p (s.d 2 n) := by
  unfold clS
  rw [h5, Int.toNat_natCast, if_neg (fun q => q.elim (fun q => by omega) h7)]
theorem clS_7 {s : TS} {n p : Nat} (h5 : s.d 5 n = (p : Int)) (h7 : s.d 0 p = 7) : clS s n = s := by
  unfold clS
  rw [h5, Int.toNat_natCast, if_pos (Or.inr h7)]
section R7
variable {g : GP} {l : Launch} {e : Nat} {σ0 σ σ' σ'' : St} {m t b i k r kk : Nat} {En : List Enm} {Ss : List Stc} {s : TS} {h : Int → Int} {len im fl st x : Int} {K : List (Nat × Int)} {F : Fld} {L : LY} {S : Stc} {Q : Option AV → St → Prop} {Nn : Prop}
theorem lp_many (hm : Nn → ∀ σ', RyO m t σ0 σ' → gI σ' 1282 m 0 = 1 → Q none σ') (hN : Nn) (hO : RyO m t σ0 σ) (h1 : gI σ 1282 m 0 = 1) : LpA g l e m σ Q :=
  bk_X12_laid_13 ⟨fun _ => hm hN σ hO h1, fun _ => ⟨fun _ => hm hN σ hO h1, fun w => by omega⟩⟩
theorem st84 {v : Int} {j : Nat} (hO : RyO m t σ0 σ) (hT : TrR σ m t b s) : RyO m t σ0 (sI σ 1284 m j v) ∧ TrR (sI σ 1284 m j v) m t b s := by
  have F0 : Frm (fun f r => r = m ∧ (1283 ≤ f ∧ f ≤ 1285)) σ (sI σ 1284 m j v) := Frm.sI ⟨rfl, by omega⟩
  exact ⟨hO.trans ⟨F0.mono (fun f r q => Or.inr q), fun f j z => F0.I (fun q => by omega) j⟩, hT.wk (F0.mono (fun f r q => ⟨q.1, by omega⟩))⟩
theorem lp_sclose (hE0 : EnR σ0 m t b En Ss im len h) (hO : RyO m t σ0 σ) (hT : TrR σ m t b s) (hS : SkR σ m t (K ++ [(i, x)])) (hK : K.length < 128) (hUp : UpO s s.c) (hi : i < s.c) (h0 : s.d 0 i = 0) (h7 : s.d 7 i = st) (hst : 0 ≤ st) (hSs : Ss[st.toNat]? = some S) (hx : (S.2.1.length : Int) ≤ x ∧ x ≤ 14) (cont : ∀ σ', RyO m t σ0 σ' → TrR σ' m t b (clS s i) → SkR σ' m t K → LpA g l e m σ' Q) : LpA g l e m σ Q := by
  have hE := hE0.ry hO
  have t7 := hE.2.2.2.2.2
  have c4 := hT.1.2.2
  obtain ⟨_, ⟨b2, e3⟩, _, e5, _⟩ := id hE
  have l20 := e3.2.1
  have sl := (List.getElem?_eq_some_iff.mp hSs).1
  have e22 := (e3.2.2.2.2.2 _ S hSs).2.1
  obtain ⟨s1, s2, s3⟩ := hS.top
  obtain ⟨n1, _, _, _, _, _, _, n8, _⟩ := hT.2 i hi
  refine bk_X12_laid_13 ⟨fun w => by omega, fun _ => ⟨fun w => absurd hT.1.2.1 w, fun _ => ⟨hE.1.1, ?_⟩⟩⟩
  rw [s1, show (K.length : Int) + 1 - 1 = (K.length : Int) by omega, Int.toNat_natCast, s2, s3]
  refine ⟨⟨by omega, by omega⟩, ⟨by omega, by omega⟩, fun z6 hz6 z7 hz7 => ?_⟩
  rw [hz6, hz7, Int.toNat_natCast, n1, n8, e5, h7, show (20 * (b : Int) + st).toNat = 20 * b + st.toNat by omega, e22]
  obtain ⟨o2, T2⟩ := st84 (v := x + 1) (j := K.length) hO hT
  exact ⟨⟨by omega, by omega⟩, fun w => absurd h0 w, fun _ => ⟨⟨by omega, by omega⟩, ⟨by omega, by omega⟩, ⟨by omega, by omega⟩, ⟨by omega, by omega⟩, fun w => absurd w (by omega), fun _ => m_closes (hE0.ry o2) T2 hUp hS.set hK hi (fun σ' o' T' S' => cont σ' (o2.trans o') T' S')⟩⟩
theorem lp_sfield (hE0 : EnR σ0 m t b En Ss im len h) (hO : RyO m t σ0 σ) (hT : TrR σ m t b s) (hS : SkR σ m t (K ++ [(i, (kk : Int))])) (hK : K.length < 128) (hi : i < s.c) (h0 : s.d 0 i = 0) (h7 : s.d 7 i = st) (hst : 0 ≤ st) (hSs : Ss[st.toNat]? = some S) (hx : kk < S.2.1.length) (cont : ∀ σ1, RyO m t σ0 σ1 → TrR σ1 m t b s → SkR σ1 m t (K ++ [(i, (kk : Int) + 1)]) → ACv g l (e + 12) MX12_fieldBegun [vR 12 (some m), vI ((400 * t + i : Nat) : Int), vI (fxR b (14 * st + kk) : Int)] σ1 (fun σ' => LpA g l e m σ' Q)) : LpA g l e m σ Q := by
  have hE := hE0.ry hO
  have t7 := hE.2.2.2.2.2
  have c4 := hT.1.2.2
  obtain ⟨_, ⟨b2, e3⟩, e53, e5, _⟩ := id hE
  have l20 := e3.2.1
  have sl := (List.getElem?_eq_some_iff.mp hSs).1
  have e22 := (e3.2.2.2.2.2 _ S hSs).2.1
  have l14 := (e3.2.2.2.2.2 _ S hSs).2.2.2.1
  obtain ⟨s1, s2, s3⟩ := hS.top
  obtain ⟨n1, _, _, _, _, _, _, n8, _⟩ := hT.2 i hi
  refine bk_X12_laid_13 ⟨fun w => by omega, fun _ => ⟨fun w => absurd hT.1.2.1 w, fun _ => ⟨hE.1.1, ?_⟩⟩⟩
  rw [s1, show (K.length : Int) + 1 - 1 = (K.length : Int) by omega, Int.toNat_natCast, s2, s3]
  refine ⟨⟨by omega, by omega⟩, ⟨by omega, by omega⟩, fun z6 hz6 z7 hz7 => ?_⟩
  rw [hz6, hz7, Int.toNat_natCast, n1, n8, e5, h7, show (20 * (b : Int) + st).toNat = 20 * b + st.toNat by omega, e22]
  obtain ⟨o2, T2⟩ := st84 (v := (kk : Int) + 1) (j := K.length) hO hT
  refine ⟨⟨by omega, by omega⟩, fun w => absurd h0 w, fun _ => ⟨⟨by omega, by omega⟩, ⟨by omega, by omega⟩, ⟨by omega, by omega⟩, ⟨by omega, by omega⟩, fun _ => m_field (hE0.ry o2).2.2.1 b2 ⟨by omega, by omega⟩ ⟨by omega, by omega⟩ ?_, fun w => absurd (by omega) w⟩⟩
  have c := cont _ o2 T2 hS.set
  rw [show ((fxR b (14 * st + kk) : Nat) : Int) = 14 * (20 * (b : Int) + st) + (kk : Int) by unfold fxR; omega] at c
  exact c
theorem lp_oclose (hE0 : EnR σ0 m t b En Ss im len h) (hO : RyO m t σ0 σ) (hT : TrR σ m t b s) (hS : SkR σ m t (K ++ [(k, 0)])) (hK : K.length < 128) (hUp : UpO s s.c) (hk : k < s.c) (h0 : ¬ s.d 0 k = 0) (cont : ∀ σ', RyO m t σ0 σ' → TrR σ' m t b (clS s k) → SkR σ' m t K → LpA g l e m σ' Q) : LpA g l e m σ Q := by
  have hE := hE0.ry hO
  have t7 := hE.2.2.2.2.2
  have c4 := hT.1.2.2
  obtain ⟨s1, s2, s3⟩ := hS.top
  have n1 := (hT.2 k hk).1
  refine bk_X12_laid_13 ⟨fun w => by omega, fun _ => ⟨fun w => absurd hT.1.2.1 w, fun _ => ⟨hE.1.1, ?_⟩⟩⟩
  rw [s1, show (K.length : Int) + 1 - 1 = (K.length : Int) by omega, Int.toNat_natCast, s2, s3]
  refine ⟨⟨by omega, by omega⟩, ⟨by omega, by omega⟩, fun z6 hz6 z7 hz7 => ?_⟩
  rw [hz6, hz7, Int.toNat_natCast, n1]
  exact ⟨⟨by omega, by omega⟩, fun _ => ⟨fun w => absurd rfl w, fun _ => m_closes hE hT hUp hS hK hk (fun σ' o' T' S' => cont σ' (hO.trans o') T' S')⟩, fun w => absurd w h0⟩
theorem lp_okid {n : Nat} (hE0 : EnR σ0 m t b En Ss im len h) (hO : RyO m t σ0 σ) (hT : TrR σ m t b s) (hS : SkR σ m t (K ++ [(k, ((n + 1 : Nat) : Int))])) (hK : K.length < 128) (hn : n ≤ 200) (hk : k < s.c) (h0 : ¬ s.d 0 k = 0) (h6 : s.d 6 k = fl) (f0 : 0 ≤ fl) (cont : ∀ σ1, RyO m t σ0 σ1 → TrR σ1 m t b s → SkR σ1 m t (K ++ [(k, (n : Int))]) → ACv g l (e + 12) MX12_kidBegun [vR 12 (some m), vI ((400 * t + k : Nat) : Int), vI (fxR b fl : Int)] σ1 (fun σ' => LpA g l e m σ' Q)) : LpA g l e m σ Q := by
  have hE := hE0.ry hO
  have t7 := hE.2.2.2.2.2
  have c4 := hT.1.2.2
  obtain ⟨s1, s2, s3⟩ := hS.top
  obtain ⟨n1, _, _, _, _, _, n7, _⟩ := hT.2 k hk
  rw [h6, if_neg (by omega)] at n7
  refine bk_X12_laid_13 ⟨fun w => by omega, fun _ => ⟨fun w => absurd hT.1.2.1 w, fun _ => ⟨hE.1.1, ?_⟩⟩⟩
  rw [s1, show (K.length : Int) + 1 - 1 = (K.length : Int) by omega, Int.toNat_natCast, s2, s3]
  refine ⟨⟨by omega, by omega⟩, ⟨by omega, by omega⟩, fun z6 hz6 z7 hz7 => ?_⟩
  rw [hz6, hz7, Int.toNat_natCast, n1, n7, show ((n + 1 : Nat) : Int) - 1 = (n : Int) by omega]
  obtain ⟨o2, T2⟩ := st84 (v := (n : Int)) (j := K.length) hO hT
  refine ⟨⟨by omega, by omega⟩, fun _ => ⟨fun _ => ⟨⟨by omega, by omega⟩, ?_⟩, fun w => by omega⟩, fun w => absurd w h0⟩
  have c := cont _ o2 T2 hS.set
  rw [show ((fxR b fl : Nat) : Int) = ((280 * b : Nat) : Int) + fl by unfold fxR; omega] at c
  exact c
theorem lp_arr (hL : LyR g l e m t b Ss len σ0 Q Nn L r) (hG : LG Ss len L) (hm : Nn → ∀ σ', RyO m t σ0 σ' → gI σ' 1282 m 0 = 1 → Q none σ') (hE0 : EnR σ0 m t b En Ss im len h) (hF : gF Ss fl = some F) (f2 : F.ki = 2) (hW : F.st = -1 ∧ TyR F.ty ∨ 0 ≤ F.st ∧ F.st < Ss.length ∧ (F.e1 = none → 0 < szS Ss F.st)) (hK : K.length + 2 * (r + 1) ≤ 60) (hr : r ≤ 20) : ∀ (n : Nat) (σ : St) (s : TS), RyO m t σ0 σ → TrR σ m t b s → SkR σ m t ((K ++ [(i, x)]) ++ [(k, (n : Int))]) → TI Ss len s → TU Ss len s → i < s.c → k < s.c → s.d 0 i = 0 → s.d 0 k = 2 → s.d 5 k = (i : Int) → s.d 6 k = fl → Anc s (s.d 5 i) = 19 - (r : Int) → n ≤ 200 → (arB Ss len L k fl F n s = none → Nn) →
    (∀ r', arB Ss len L k fl F n s = some r' → ∀ σ', RyO m t σ0 σ' → TrR σ' m t b (r'.1.w 2 i (r'.1.d 2 k)) → SkR σ' m t (K ++ [(i, if r'.2 = true then x else 14)]) → LpA g l e m σ' Q) → LpA g l e m σ Q := by
  have f0 := (gF_some hF).1
  intro n
  induction n with
  | zero =>
    intro σ s hO hT hS hI hU hi hk hi0 hk0 h5 h6 hA hn hNn cont
    refine lp_oclose hE0 hO hT hS (by rw [app_l]; omega) hI.up hk (by omega) (fun σ' o' T' S' => ?_)
    rw [clS_u h5 (by omega)] at T'
    have : arB Ss len L k fl F 0 s = some (s, true) := by
      unfold arB
      by_cases z : F.st = -1
      · rw [if_pos z]; rfl
      · rw [if_neg z]; rfl
    exact cont _ this σ' o' T' S'
  | succ n ih =>
    intro σ s hO hT hS hI hU hi hk hi0 hk0 h5 h6 hA hn hNn cont
    have up := hI.up
    have an : Anc s k = 20 - (r : Int) := by
      rw [anc_st up hk, if_neg (by omega), h5, anc_st up hi, if_pos hi0, hA]; omega
    have vk := (hI.2 k hk).1.1
    refine lp_okid hE0 hO hT hS (by rw [app_l]; omega) (by omega) hk (by omega) h6 f0 (fun σ1 o1 T1 S1 => ?_)
    have E1 := hE0.ry o1
    have t7 := E1.2.2.2.2.2
    have c4 := T1.1.2.2
    have fl5 := fx_lt E1 hF
    have i6 := E1.1.2.2.2.2.2.1
    have fr := (E1.fdr.2 fl F hF).2
    have e28 : gI σ1 1228 m (fxR b fl) = if F.st = -1 then 1 else 3 := by
      have := fr.2.1
      unfold kR at this
      rw [if_neg (by omega), if_neg (by omega), if_pos f2] at this
      exact this
    have e31 : gI σ1 1231 m (fxR b fl) = F.st := fr.1.2.2.2.2.2.1
    have n3 := (T1.2 k hk).2.2.1
    refine AC.of mo_X12_kidBegun (Nat.le_of_ble_eq_true rfl) (bk_X12_kidBegun_0 ⟨E1.1.1, ⟨by omega, by omega⟩, ?_⟩)
    rw [Int.toNat_natCast, Int.toNat_natCast, e28, e31, n3]
    by_cases z : F.st = -1
    · -- wholes
      rw [if_pos z]
      have ty : TyR F.ty := by
        rcases hW with w | w
        · exact w.2
        · omega
      have y1 := ty.1
      have y8 := ty.2.1
      refine ⟨fun _ => ⟨⟨by omega, by omega⟩, ?_⟩, fun w => absurd rfl w⟩
      refine m_make (par := (k : Int)) (fld := fl) (u2 := s.d 2 k) (u7 := -1) (u8 := 0) (nm := 0) (by unfold oI; rw [if_neg (by omega)]; omega) (by unfold flR fxR; rw [if_neg (by omega)]; omega) E1 T1 (fun i hi => (hI.2 i hi).2.1) ⟨by omega, by omega⟩ (fun nc => ⟨fun w => ?_, fun _ => ⟨rfl, ?_⟩⟩) (fun hc σ2 o2 many r69 r73 r75 post => ⟨fun _ => ⟨o2.1.lc E1.1.1, ?_⟩, fun w => absurd many w⟩)
      · rw [gI_slf] at w; exact absurd w (by decide)
      · exact lp_many hm (hNn (by unfold arB; rw [if_pos z, arW, show mkO s 1 k (s.d 2 k) fl (s.d 2 k) (-1) 0 0 = none by unfold mkO; rw [if_neg nc]])) (o1.trans ns_many.ry) (gI_slf _ _ _ _ _)
      · have T2 := post σ2 (fun _ _ _ => rfl) r69 r73 r75
        have E2 := E1.ry o2.ry
        have S2 := S1.ns o2
        have e29 : gI σ2 1229 m (fxR b fl) = F.ty.toInt := (E2.fdr.2 fl F hF).2.1.2.2.2.2.2.2.2.2.1 (ty_nz ty)
        have em : mkO s 1 k (s.d 2 k) fl (s.d 2 k) (-1) 0 0 = some (mkM s 1 k (s.d 2 k) fl (s.d 2 k) (-1) 0 0) := by unfold mkO; rw [if_pos hc]
        have kn : ¬ k = s.c := by omega
        have m1 : (mkM s 1 k (s.d 2 k) fl (s.d 2 k) (-1) 0 0).d 1 s.c = s.d 2 k := mk_n
        have m2 : (mkM s 1 k (s.d 2 k) fl (s.d 2 k) (-1) 0 0).d 2 s.c = s.d 2 k := mk_n
        have m3 : (mkM s 1 k (s.d 2 k) fl (s.d 2 k) (-1) 0 0).d 3 s.c = 0 := mk_n
        have cl : s.c < (mkM s 1 k (s.d 2 k) fl (s.d 2 k) (-1) 0 0).c := by rw [mk_c]; omega
        have kl : k < (mkM s 1 k (s.d 2 k) fl (s.d 2 k) (-1) 0 0).c := by rw [mk_c]; omega
        have il : i < (mkM s 1 k (s.d 2 k) fl (s.d 2 k) (-1) 0 0).c := by rw [mk_c]; omega
        have ni : ¬ i = s.c := by omega
        rw [e29, (ty_bit3 ty).1]
        have eA : ∀ n', arB Ss len L k fl F n' s = arW len k (tw F.ty) fl n' s := fun n' => by unfold arB; rw [if_pos z]
        refine m_reaches E2 T2 cl ⟨by rw [m1]; omega, by rw [m1]; omega⟩ m3 (n := tw F.ty) (by rw [i2j_toInt, w32_id (by omega) (by omega)]) ⟨by omega, by omega⟩ (fun q σ3 o3 T3 => ⟨fun w => absurd w (by decide), fun _ => ⟨(E2.ry o3.ry).1.1, ⟨by omega, by omega⟩, rfl, ?_⟩⟩) (fun q σ3 o3 T3 => ⟨fun _ => ?_, fun w => absurd rfl w⟩)
        · rw [m1] at q T3
          have g69 := (T3.2 s.c cl).2.2.1
          rw [w_at] at g69
          rw [Int.toNat_natCast, g69]
          have T4 := T3.w (k := k) (f := 2) (fr := 1269) (v := s.d 2 k + tw F.ty) kl (by omega)
          have o4 : NsO m t σ3 (sI σ3 1269 m (400 * t + k) (s.d 2 k + tw F.ty)) := NsO.sI (by omega) (by omega)
          have ko := arW_ok (k := k) (len := len) hF f2 z ty 1 s (((mkM s 1 k (s.d 2 k) fl (s.d 2 k) (-1) 0 0).w 2 s.c (s.d 2 k + tw F.ty)).w 2 k (s.d 2 k + tw F.ty), true) hI hU hk hk0 (by rw [arW, em]; dsimp only; rw [if_pos q]; rfl)
          refine ih _ _ (o1.trans ((o2.trans o3).trans o4).ry) T4 ((S2.ns o3).ns o4) ko.1 ko.2.1 il kl ?_ ?_ ?_ ?_ ?_ (by omega) (fun er => hNn ?_) (fun r' er => cont r' ?_)
          · rw [w_ne (by decide), w_ne (by decide), mk_o ni]; exact hi0
          · rw [w_ne (by decide), w_ne (by decide), mk_o kn]; exact hk0
          · rw [w_ne (by decide), w_ne (by decide), mk_o kn]; exact h5
          · rw [w_ne (by decide), w_ne (by decide), mk_o kn]; exact h6
          · rw [w_ne (by decide), w_ne (by decide), mk_o ni, ← hA]
            exact anc_cg up (fun j hj => ⟨by rw [w_ne (by decide), w_ne (by decide), mk_o (by omega)], by rw [w_ne (by decide), w_ne (by decide), mk_o (by omega)]⟩) _ _ _ (by have := up i hi; omega)
          · rw [eA, arW, em]
            dsimp only
            rw [if_pos q]
            unfold arB at er
            rw [if_pos z] at er
            exact er
          · rw [eA, arW, em]
            dsimp only
            rw [if_pos q]
            unfold arB at er
            rw [if_pos z] at er
            exact er
        · rw [m1] at q
          have E3 := E2.ry o3.ry
          obtain ⟨p1, p2, p3⟩ := (S2.ns o3).top
          rw [app_l] at p1
          refine ⟨E3.1.1, ?_⟩
          rw [p1, show (((K.length + 1 : Nat) : Int) + 1 - 1) = ((K.length + 1 : Nat) : Int) by omega, Int.toNat_natCast]
          obtain ⟨o5, T5⟩ := st84 (v := 0) (j := K.length + 1) (o1.trans (o2.trans o3).ry) T3
          have S5 : SkR (sI σ3 1284 m (K.length + 1) 0) m t ((K ++ [(i, x)]) ++ [(k, 0)]) := by
            have := (S2.ns o3).set (y := 0)
            rw [app_l] at this
            exact this
          have k0' : ¬ ((mkM s 1 k (s.d 2 k) fl (s.d 2 k) (-1) 0 0).w 3 s.c 1).d 0 k = 0 := by rw [w_ne (by decide), mk_o kn]; omega
          have i0' : ((mkM s 1 k (s.d 2 k) fl (s.d 2 k) (-1) 0 0).w 3 s.c 1).d 0 i = 0 := by rw [w_ne (by decide), mk_o ni]; exact hi0
          refine ⟨⟨by omega, by omega⟩, ⟨by omega, by omega⟩, m_stops2 (hE0.ry o5) T5 S5 (by omega) il i0' kl k0' (fun σ6 o6 T6 S6 => ⟨rfl, ?_⟩)⟩
          have ko := arW_ok (k := k) (len := len) hF f2 z ty (n + 1) s ((mkM s 1 k (s.d 2 k) fl (s.d 2 k) (-1) 0 0).w 3 s.c 1, false) hI hU hk hk0 (by rw [arW, em]; dsimp only; rw [if_neg q])
          refine lp_oclose hE0 (o5.trans o6) T6 S6 (by rw [app_l]; omega) ko.1.up kl k0' (fun σ7 o7 T7 S7 => ?_)
          rw [clS_u (p := i) (by rw [w_ne (by decide), mk_o kn]; exact h5) (by rw [i0']; decide)] at T7
          exact cont ((mkM s 1 k (s.d 2 k) fl (s.d 2 k) (-1) 0 0).w 3 s.c 1, false) (by rw [eA, arW, em]; dsimp only; rw [if_neg q]) σ7 o7 T7 S7
    · -- structs
      rw [if_neg z]
      have hst : 0 ≤ F.st ∧ F.st < Ss.length := by
        rcases hW with w | w
        · exact absurd w.1 z
        · exact ⟨w.1, w.2.1⟩
      have kpar : ∀ j : Nat, (k : Int) = (j : Int) → ¬ s.d 0 j = 0 ∧ ¬ s.d 0 j = 3 := fun j ej => by rw [show j = k by omega]; omega
      refine ⟨fun w => absurd w (by decide), fun _ => ⟨⟨by omega, by omega⟩, ?_⟩⟩
      refine m_begun (par := (k : Int)) (fld := -1) (nm := nmS Ss F.st) (by unfold oI; rw [if_neg (by omega)]; omega) rfl E1 T1 S1 (by rw [app_l, app_l]; omega) (fun i hi => (hI.2 i hi).2.1) ⟨by omega, by omega⟩ an hr (fun nc σ2 o2 mm => ⟨rfl, lp_many hm (hNn (by unfold arB; rw [if_neg z, arS, show addS L Ss s k F.st (s.d 2 k) = none by unfold addS mkO; rw [if_neg nc]]; rfl)) (o1.trans o2) mm⟩) (fun hc σ2 o2 T2 S2 => ⟨rfl, ?_⟩)
      obtain ⟨I2, U2⟩ := add_mk (place := s.d 2 k) hI hU hc ⟨by omega, by omega⟩ kpar ⟨by omega, by omega⟩ hst
      have n0 : (mkM s 0 k (s.d 2 k) (-1) (s.d 2 k) F.st 0 (nmS Ss F.st)).d 0 s.c = 0 := mk_n
      have n5 : (mkM s 0 k (s.d 2 k) (-1) (s.d 2 k) F.st 0 (nmS Ss F.st)).d 5 s.c = (k : Int) := mk_n
      have n7 : (mkM s 0 k (s.d 2 k) (-1) (s.d 2 k) F.st 0 (nmS Ss F.st)).d 7 s.c = F.st := mk_n
      have an2 : Anc (mkM s 0 k (s.d 2 k) (-1) (s.d 2 k) F.st 0 (nmS Ss F.st)) ((mkM s 0 k (s.d 2 k) (-1) (s.d 2 k) F.st 0 (nmS Ss F.st)).d 5 s.c) = 20 - (r : Int) := by
        rw [n5, ← an]
        exact anc_cg up (fun j hj => ⟨mk_o (by omega), mk_o (by omega)⟩) _ _ _ (by omega)
      refine hL σ2 _ s.c F.st _ (o1.trans o2) T2 S2 (by rw [app_l, app_l]; omega) I2 U2 rfl n0 n7 mk_kn an2 (fun en => hNn (by unfold arB; rw [if_neg z, arS, show addS L Ss s k F.st (s.d 2 k) = none by unfold addS mkO; rw [if_pos hc]; exact en]; rfl)) (fun s2 es σ3 o3 T3 S3 => ?_)
      have ea : addS L Ss s k F.st (s.d 2 k) = some s2 := by unfold addS mkO; rw [if_pos hc]; exact es
      obtain ⟨t1, t2, t3, t4, t5⟩ := addS_ok hG hI hU ⟨by omega, by omega⟩ kpar ⟨by omega, by omega⟩ hst ea
      have ex := t3 k rfl
      have exs := (hG _ s.c F.st s2 I2 U2 rfl n0 n7 mk_kn es).2.2
      have q0 : s2.d 0 k = 2 := by rw [ex.2.2 0 (by decide) (by decide) (by decide)]; exact hk0
      have q1 : s2.d 1 k = s.d 1 k := ex.2.2 1 (by decide) (by decide) (by decide)
      have q5 : s2.d 5 k = (i : Int) := by rw [ex.2.2 5 (by decide) (by decide) (by decide)]; exact h5
      have q6 : s2.d 6 k = fl := by rw [ex.2.2 6 (by decide) (by decide) (by decide)]; exact h6
      have c5 : s2.d 5 s.c = (k : Int) := by rw [exs.2.2 5 (by decide) (by decide) (by decide)]; exact n5
      have nik : ¬ i = k := fun q => by rw [q] at hi0; omega
      have pi := ex.2.1 i hi nik
      have w2 := (t1.2 s.c t4).1.1
      rw [clS_u c5 (by omega)] at T3
      refine ih σ3 _ o3 T3 S3 (t1.w2 (by omega) w2.2.2) (t2.w2 (by omega)) (by show i < s2.c; omega) (by show k < s2.c; omega) ?_ ?_ ?_ ?_ ?_ (by omega) (fun er => hNn ?_) (fun r' er => cont r' ?_)
      · rw [w_ne (by decide), pi.1]; exact hi0
      · rw [w_ne (by decide)]; exact q0
      · rw [w_ne (by decide)]; exact q5
      · rw [w_ne (by decide)]; exact q6
      · rw [w_ne (by decide), pi.1, ← hA]
        refine anc_cg up (fun j hj => ?_) _ _ _ (by have := up i hi; omega)
        rw [w_ne (by decide), w_ne (by decide)]
        by_cases ej : j = k
        · rw [ej]; exact ⟨ex.2.2 0 (by decide) (by decide) (by decide), ex.2.2 5 (by decide) (by decide) (by decide)⟩
        · exact ⟨(ex.2.1 j hj ej).1 0, (ex.2.1 j hj ej).1 5⟩
      · unfold arB at er ⊢
        rw [if_neg z] at er ⊢
        rw [arS, ea]
        exact er
      · unfold arB at er ⊢
        rw [if_neg z] at er ⊢
        rw [arS, ea]
        exact er
end R7
