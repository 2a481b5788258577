/-! both lay a tree -/
section R9
variable {g : GP} {l : Launch} {e : Nat} {σ0 σ σ' σ'' : St} {m t b i k r kk : Nat} {En : List Enm} {Ss : List Stc} {s : TS} {h : Int → Int} {len im fl st x : Int} {K : List (Nat × Int)} {F : Fld} {L : LY} {S : Stc} {Q : Option AV → St → Prop} {Nn : Prop}
theorem lyR_0 (hE0 : EnR σ0 m t b En Ss im len h) (hW : LW En Ss) : LyR g l e m t b Ss len σ0 Q Nn (lyS En Ss h len 0) 0 := by
  intro σ s i st K hO hT hS hK hI hU hi h0 h7 hk hA hNn cont
  have v4 := (hI.2 i (by omega)).1.2.2.2.1 h0
  rw [h7] at v4
  have hSs : Ss[st.toNat]? = some Ss[st.toNat] := List.getElem?_eq_getElem (by omega)
  have w := hW.2 _ _ hSs
  have hT : TrR σ m t b (s.w 3 i 9) := hT
  have hS : SkR σ m t (K ++ [(i, 14)]) := hS
  refine lp_sclose hE0 hO hT hS (by omega) (fun j hj => ?_) (by show i < s.c; omega) (by rw [w_ne (by decide)]; exact h0) (by rw [w_ne (by decide)]; exact h7) v4.1 hSs ⟨by omega, by omega⟩ (fun σ' o' T' S' => cont _ rfl σ' o' T' S')
  rw [w_ne (by decide)]
  exact hI.up j hj
theorem lyR_s (hm : Nn → ∀ σ', RyO m t σ0 σ' → gI σ' 1282 m 0 = 1 → Q none σ') (hE0 : EnR σ0 m t b En Ss im len h) (hW : LW En Ss) (hB : ∀ fl F, gF Ss fl = some F → F.ki = 3 → BiO F.es 0 (8 * tw F.ty) ∧ F.es.length ≤ 12) (hsz : ∀ x, szS Ss x ≤ 1000000) (hr : r + 1 ≤ 20) (hL : LyR g l e m t b Ss len σ0 Q Nn (lyS En Ss h len r) r) : LyR g l e m t b Ss len σ0 Q Nn (lyS En Ss h len (r + 1)) (r + 1) := by
  intro σ s i st K hO hT hS hK hI hU hi h0 h7 hk hA hNn cont
  have hG : LG Ss len (lyS En Ss h len r) := lyS_ok hW r
  have v4 := (hI.2 i (by omega)).1.2.2.2.1 h0
  rw [h7] at v4
  have hSs : Ss[st.toNat]? = some Ss[st.toNat] := List.getElem?_eq_getElem (by omega)
  generalize Ss[st.toNat] = S at hSs
  have w := hW.2 _ S hSs
  have eS : lyS En Ss h len (r + 1) s i st = lyFs En Ss h len (lyS En Ss h len r) i st S.2.1 0 s := by
    show (match Ss[st.toNat]? with
      | none => some s
      | some S => lyFs En Ss h len (lyS En Ss h len r) i st S.2.1 0 s) = _
    rw [hSs]
  rw [eS] at cont hNn
  have hT : TrR σ m t b s := hT
  have hS : SkR σ m t (K ++ [(i, ((0 : Nat) : Int))]) := hS
  have loop : ∀ (Fs : List Fld) (kk : Nat) (τ : St) (s1 : TS), (∀ j F, Fs[j]? = some F → S.2.1[kk + j]? = some F) → kk + Fs.length = S.2.1.length → RyO m t σ0 τ → TrR τ m t b s1 → SkR τ m t (K ++ [(i, (kk : Int))]) → TI Ss len s1 → TU Ss len s1 → i < s1.c → s1.d 0 i = 0 → s1.d 7 i = st → (∀ a ∈ s1.k i, s1.d 6 a < 14 * st + kk) → Anc s1 (s1.d 5 i) = 19 - (r : Int) → lyFs En Ss h len (lyS En Ss h len r) i st S.2.1 0 s = lyFs En Ss h len (lyS En Ss h len r) i st Fs kk s1 → LpA g l e m τ Q := by
    intro Fs
    induction Fs with
    | nil =>
      intro kk τ s1 _ hkl oτ Tτ Sτ I1 U1 hi1 k0 k7 _ _ el
      have hkl : kk + 0 = S.2.1.length := hkl
      exact lp_sclose hE0 oτ Tτ Sτ (by omega) I1.up hi1 k0 k7 v4.1 hSs ⟨by omega, by omega⟩ (fun σ' o' T' S' => cont s1 el σ' o' T' S')
    | cons F Fs ih =>
      intro kk τ s1 hFs hkl oτ Tτ Sτ I1 U1 hi1 k0 k7 hks hA1 el
      have hkl : kk + (Fs.length + 1) = S.2.1.length := hkl
      have hF0 : S.2.1[kk]? = some F := hFs 0 F rfl
      have k14 : kk < 14 := by omega
      obtain ⟨fw, fx⟩ := w.2 kk F hF0
      have hgF : gF Ss (14 * st + kk) = some F := by
        have := gF_at hSs hF0 k14
        rw [show ((st.toNat : Nat) : Int) = st by omega] at this
        exact this
      have rest : ∀ j F', Fs[j]? = some F' → S.2.1[kk + 1 + j]? = some F' := fun j F' q => by rw [show kk + 1 + j = kk + (j + 1) by omega]; exact hFs (j + 1) F' q
      rw [lyFs] at el
      obtain ⟨t1, t2, t3, t4⟩ := thr_ok (h := h) (F := F) I1 U1 k0
      have a0 : (thr Ss h len s1 i F).1.d 0 i = 0 := by rw [t1.2.2.2.2 0 (by decide) (by decide) (by decide)]; exact k0
      have a7 : (thr Ss h len s1 i F).1.d 7 i = st := by rw [t1.2.2.2.2 7 (by decide) (by decide) (by decide)]; exact k7
      have a5 : (thr Ss h len s1 i F).1.d 5 i = s1.d 5 i := t1.2.2.2.2 5 (by decide) (by decide) (by decide)
      have ak : ∀ a ∈ (thr Ss h len s1 i F).1.k i, (thr Ss h len s1 i F).1.d 6 a < 14 * st + kk := fun a ha => by rw [t2] at ha; rw [t3]; exact hks a ha
      have hi2 : i < (thr Ss h len s1 i F).1.c := by rw [t4]; exact hi1
      have up1 := I1.up
      have aA : Anc (thr Ss h len s1 i F).1 ((thr Ss h len s1 i F).1.d 5 i) = 19 - (r : Int) := by
        rw [a5, ← hA1]
        refine anc_cg up1 (fun j hj => ?_) _ _ _ (by have := up1 i hi1; omega)
        by_cases ej : j = i
        · rw [ej]; exact ⟨t1.2.2.2.2 0 (by decide) (by decide) (by decide), t1.2.2.2.2 5 (by decide) (by decide) (by decide)⟩
        · exact ⟨(t1.2.2.2.1 j hj ej).1 0, (t1.2.2.2.1 j hj ej).1 5⟩
      refine lp_sfield hE0 oτ Tτ Sτ (by omega) hi1 k0 k7 v4.1 hSs (by omega) (fun σ1 o1 T1 S1 => ?_)
      refine lp_field (r := r) hL hG hm hE0 hB hsz hW.1 o1 T1 S1 (by omega) (by omega) I1 U1 hi1 k0 k7 v4.1 hSs w.1 rfl k14 hks hgF fw fx hA1 (fun q en => hNn (by rw [el, if_pos q, en])) (fun q σ2 o2 T2 S2 => ?_) (fun q r' er σ2 o2 T2 S2 => ?_)
      · rw [if_neg (by rw [q]; decide)] at el
        exact ih (kk + 1) σ2 _ rest (by omega) o2 T2 S2 t1.1 t1.2.1 hi2 a0 a7 (fun a ha => by have := ak a ha; omega) aA el
      · rw [if_pos q, er] at el
        dsimp only at el
        obtain ⟨b1, b2, b3⟩ := lyF_ok fw hgF hG t1.1 t1.2.1 hi2 a0 a7 rfl k14 ak er
        have ex := b1.2.2
        have c0 : r'.1.d 0 i = 0 := by rw [ex.2.2 0 (by decide) (by decide) (by decide)]; exact a0
        have c7 : r'.1.d 7 i = st := by rw [ex.2.2 7 (by decide) (by decide) (by decide)]; exact a7
        have ci : i < r'.1.c := Nat.lt_of_lt_of_le hi2 ex.1
        by_cases q2 : r'.2 = true
        · rw [if_pos q2] at el S2
          refine ih (kk + 1) σ2 r'.1 rest (by omega) o2 T2 S2 b1.1 b1.2.1 ci c0 c7 (fun a ha => ?_) ?_ el
          · rw [b2] at ha
            rcases List.mem_append.mp ha with ha | ha
            · have z := ak a ha
              have m := (t1.1.2 i hi2).2.1.2.1 a ha
              have ne : ¬ a = i := fun q => by
                have := (t1.1.2 i hi2).2.1.2.2
                rw [q] at m
                omega
              rw [(ex.2.1 a m.1 ne).1 6]; omega
            · rw [List.mem_singleton.mp ha, b3]; omega
          · rw [ex.2.2 5 (by decide) (by decide) (by decide), ← aA]
            refine anc_cg t1.1.up (fun j hj => ?_) _ _ _ (by have := t1.1.up i hi2; omega)
            by_cases ej : j = i
            · rw [ej]; exact ⟨ex.2.2 0 (by decide) (by decide) (by decide), ex.2.2 5 (by decide) (by decide) (by decide)⟩
            · exact ⟨(ex.2.1 j hj ej).1 0, (ex.2.1 j hj ej).1 5⟩
        · rw [if_neg q2] at el S2
          exact lp_sclose hE0 o2 T2 S2 (by omega) b1.1.up ci c0 c7 v4.1 hSs ⟨by omega, by omega⟩ (fun σ' o' T' S' => cont r'.1 el σ' o' T' S')
  exact loop S.2.1 0 σ s (fun j F hF => by rw [Nat.zero_add]; exact hF) (by omega) hO hT hS hI hU (by omega) h0 h7 (fun a ha => by rw [hk] at ha; exact absurd ha (by simp)) (by rw [hA]; omega) rfl
theorem lyR_all (hm : Nn → ∀ σ', RyO m t σ0 σ' → gI σ' 1282 m 0 = 1 → Q none σ') (hE0 : EnR σ0 m t b En Ss im len h) (hW : LW En Ss) (hB : ∀ fl F, gF Ss fl = some F → F.ki = 3 → BiO F.es 0 (8 * tw F.ty) ∧ F.es.length ≤ 12) (hsz : ∀ x, szS Ss x ≤ 1000000) : ∀ r : Nat, r ≤ 20 → LyR g l e m t b Ss len σ0 Q Nn (lyS En Ss h len r) r := by
  intro r
  induction r with
  | zero => intro _; exact lyR_0 hE0 hW
  | succ r ih => intro hr; exact lyR_s hm hE0 hW hB hsz hr (ih (by omega))
/-- no node at all -/
abbrev TS0 : TS := (0, fun _ _ => 0, fun _ => [])
theorem TI0 : TI Ss len TS0 := ⟨by show 0 ≤ 400; omega, fun i hi => absurd hi (Nat.not_lt_zero _)⟩
theorem TU0 : TU Ss len TS0 := fun i hi => absurd hi (Nat.not_lt_zero _)
theorem m_laid {place : Int} {P : St → Prop} (hE : EnR σ m t b En Ss im len h) (hT : TrR σ m t b TS0) (hW : LW En Ss) (hB : ∀ fl F, gF Ss fl = some F → F.ki = 3 → BiO F.es 0 (8 * tw F.ty) ∧ F.es.length ≤ 12) (hsz : ∀ x, szS Ss x ≤ 1000000) (h1 : 0 ≤ place ∧ place ≤ len) (hst : 0 ≤ st ∧ st < Ss.length)
    (ho : ∀ s', lyT En Ss h len st place = some s' → ∀ σ', RyO m t σ σ' → TrR σ' m t b s' → P σ') (hn : lyT En Ss h len st place = none → ∀ σ', RyO m t σ σ' → gI σ' 1282 m 0 = 1 → P σ') : ACv g l (e + 13) MX12_laid [vR 12 (some m), vI st, vI place] σ P := by
  have F0 : Frm (fun f r => r = m ∧ (1283 ≤ f ∧ f ≤ 1285)) σ (sI σ 1285 m 0 0) := Frm.sI ⟨rfl, by omega⟩
  have o0 : RyO m t σ (sI σ 1285 m 0 0) := ⟨F0.mono (fun f r q => Or.inr q), fun f j z => F0.I (fun q => by omega) j⟩
  have T0 : TrR (sI σ 1285 m 0 0) m t b TS0 := hT.wk (F0.mono (fun f r q => ⟨q.1, by omega⟩))
  have S0 : SkR (sI σ 1285 m 0 0) m t [] := ⟨gI_slf _ _ _ _ _, fun q x hx => absurd hx (by simp)⟩
  have E0 := hE.ry o0
  have cs : TS0.c = 0 := rfl
  refine AC.of mo_X12_laid (Nat.le_of_ble_eq_true rfl) (bk_X12_laid_0 (m_begun (s := TS0) (r := 20) (par := -1) (fld := -1) (nm := nmS Ss st) (K := []) rfl rfl E0 T0 S0 (by show 0 < 128; omega) (fun i hi => absurd hi (Nat.not_lt_zero _)) ⟨by omega, by show (-1 : Int) < 0; omega⟩ (by show (0 : Int) = 20 - ((20 : Nat) : Int); omega) (Nat.le_refl _) (fun nc => absurd (by show 0 < 400; omega) nc) (fun hc σ1 o1 T1 S1 => ?_)))
  have el : lyT En Ss h len st place = lyS En Ss h len 20 (mkM TS0 0 (-1) place (-1) place st 0 (nmS Ss st)) 0 st := by
    unfold lyT addS mkO
    rw [if_pos hc]
  obtain ⟨I1, U1⟩ := add_mk (Ss := Ss) (len := len) (s := TS0) (par := -1) (place := place) (st := st) TI0 TU0 hc ⟨by omega, by show (-1 : Int) < 0; omega⟩ (fun i ei => by omega) h1 hst
  have n5 : (mkM TS0 0 (-1) place (-1) place st 0 (nmS Ss st)).d 5 0 = -1 := rfl
  refine lyR_all (Nn := lyT En Ss h len st place = none) (Q := fun v σ' => v = none ∧ P σ') (σ0 := σ) (fun nn σ' o' mm => ⟨rfl, hn nn σ' o' mm⟩) hE hW hB hsz 20 (Nat.le_refl _) σ1 (mkM TS0 0 (-1) place (-1) place st 0 (nmS Ss st)) 0 st [] (o0.trans o1) T1 S1 (by show 0 + 2 * 20 ≤ 60; omega) I1 U1 rfl rfl rfl rfl (by rw [n5]; show (0 : Int) = 20 - ((20 : Nat) : Int); omega) (fun en => by rw [el]; exact en) (fun s' es σ2 o2 T2 S2 => ?_)
  have s5 : s'.d 5 0 = -1 := by
    have ex := (lyS_ok (h := h) (len := len) hW 20 _ 0 st s' I1 U1 rfl rfl rfl rfl es).2.2
    rw [ex.2.2 5 (by decide) (by decide) (by decide)]; exact n5
  have ec : clS s' 0 = s' := by unfold clS; rw [if_pos (Or.inl (by rw [s5]; decide))]
  rw [ec] at T2
  exact bk_X12_laid_13 ⟨fun _ => ⟨rfl, ho s' (by rw [el]; exact es) σ2 o2 T2⟩, fun w => absurd (by rw [S2.1]; decide) w⟩
end R9
section N9
variable {g : GP} {l : Launch} {d e : Nat} {σ σ' : St} {tr a dd c rk H Z : Nat} {no : Nat → Nat} {so : Nat → Nat} {fo : Nat → Nat → Nat} {En : List Enm} {Ss : List Stc} {s : TS} {h : Int → Int} {len st place : Int} {Own : Nat → Prop}
/-- what layAll may change -/
def LyA (tr rk : Nat) (Own : Nat → Prop) (f r : Nat) : Prop := LyF tr rk Own f r ∨ (r = tr ∧ (f = 1000 ∨ f = 1001 ∨ f = 1002 ∨ f = 1006 ∨ f = 1007))
theorem x_layAll {P : St → Prop} (hL10 : LC 10 σ tr ∧ tr < hs σ) (hL7 : LC 7 σ rk ∧ rk < hs σ) (hIm : LC 3 σ a ∧ gI σ 304 a 0 = len ∧ (0 ≤ len ∧ len ≤ 2000) ∧ (∀ p : Int, 0 ≤ p → p < len → gI σ 301 a p.toNat = h p) ∧ a < hs σ) (hD : DSi σ dd c so fo) (hC : DCo σ dd c so fo En Ss ∧ gI σ 2 c 0 ≤ 3001 ∧ gI σ 109 dd 0 ≤ 3000) (hOwn : ∀ r, hs σ ≤ r → Own r) (hNA : NA σ tr Own) (hH : hs σ ≤ H ∧ sl σ ≤ Z) (hW : LW En Ss) (hsz : ∀ x, szS Ss x ≤ 1000000) (hh : ∀ p : Int, 0 ≤ p → p < len → 0 ≤ h p ∧ h p ≤ 255) (hR : H + 400 ≤ gB g + 600000 ∧ Z + 6800 ≤ 7302250) (h1 : 0 ≤ place ∧ place ≤ len) (hst : 0 ≤ st ∧ st < Ss.length)
    (ho : ∀ s', lyT En Ss h len st place = some s' → ∀ σ' no', Fr (LyA tr rk Own) σ σ' → EnC σ' tr a dd c rk so fo En Ss len h Own → TrC σ' tr no' fo Ss Own H Z s' → gI σ' 1001 tr 0 = st → gI σ' 1002 tr 0 = place → P σ') (hn : lyT En Ss h len st place = none → ∀ σ', Fr (LyA tr rk Own) σ σ' → EnC σ' tr a dd c rk so fo En Ss len h Own → TrG σ' tr Own H Z → P σ') : ACv g l (e + 98) MX10_layAll [vR 10 (some tr), vR 3 (some a), vI st, vI place, vR 1 (some dd), vR 7 (some rk)] σ P := by
  generalize hσ1 : (sI (sI (sR (sR (sI (sI (sR σ 1000 tr 0 (some a)) 1001 tr 0 st) 1002 tr 0 place) 1006 tr 0 (some dd)) 1007 tr 0 (some rk)) 1004 tr 0 0) 1005 tr 0 0) = σ1
  have F1 : Frm (LyA tr rk Own) σ σ1 := by
    rw [← hσ1]
    exact (Frm.sR (Or.inr ⟨rfl, by omega⟩)).trans ((Frm.sI (Or.inr ⟨rfl, by omega⟩)).trans ((Frm.sI (Or.inr ⟨rfl, by omega⟩)).trans ((Frm.sR (Or.inr ⟨rfl, by omega⟩)).trans ((Frm.sR (Or.inr ⟨rfl, by omega⟩)).trans ((Frm.sI (Or.inl (LyF.t (by omega)))).trans (Frm.sI (Or.inl (LyF.t (by omega)))))))))
  have F2 : Frm (fun f r => r = tr ∧ (f = 1000 ∨ f = 1001 ∨ f = 1002 ∨ f = 1004 ∨ f = 1005 ∨ f = 1006 ∨ f = 1007)) σ σ1 := by
    rw [← hσ1]
    exact (Frm.sR ⟨rfl, by omega⟩).trans ((Frm.sI ⟨rfl, by omega⟩).trans ((Frm.sI ⟨rfl, by omega⟩).trans ((Frm.sR ⟨rfl, by omega⟩).trans ((Frm.sR ⟨rfl, by omega⟩).trans ((Frm.sI ⟨rfl, by omega⟩).trans (Frm.sI ⟨rfl, by omega⟩))))))
  have v0 : gR σ1 1000 tr 0 = some a := by rw [← hσ1]; simp only [gR_sI, gR_sR, true_and, and_true, false_and, if_false, if_true, Nat.reduceEqDiff]
  have v6 : gR σ1 1006 tr 0 = some dd := by rw [← hσ1]; simp only [gR_sI, gR_sR, true_and, and_true, false_and, if_false, if_true, Nat.reduceEqDiff]
  have v7 : gR σ1 1007 tr 0 = some rk := by rw [← hσ1]; simp only [gR_sI, gR_sR, true_and, and_true, false_and, if_false, if_true, Nat.reduceEqDiff]
  have v1 : gI σ1 1001 tr 0 = st := by rw [← hσ1]; simp only [gI_sI, gI_sR, true_and, and_true, false_and, if_false, if_true, Nat.reduceEqDiff]
  have v2 : gI σ1 1002 tr 0 = place := by rw [← hσ1]; simp only [gI_sI, gI_sR, true_and, and_true, false_and, if_false, if_true, Nat.reduceEqDiff]
  have v4 : gI σ1 1004 tr 0 = 0 := by rw [← hσ1]; simp only [gI_sI, gI_sR, true_and, and_true, false_and, if_false, if_true, Nat.reduceEqDiff]
  have v5 : gI σ1 1005 tr 0 = 0 := by rw [← hσ1]; simp only [gI_sI, gI_sR, true_and, and_true, false_and, if_false, if_true, Nat.reduceEqDiff]
  have n : ∀ f r, f < 1000 ∨ f = 1003 → ¬ (r = tr ∧ (f = 1000 ∨ f = 1001 ∨ f = 1002 ∨ f = 1004 ∨ f = 1005 ∨ f = 1006 ∨ f = 1007)) := fun f r z q => by omega
  obtain ⟨f1, g1⟩ := hD.fr F2.fr (fun f r z => n f r (by omega))
  obtain ⟨i1, i2, i3, i4, i5⟩ := hIm
  have E1 : EnC σ1 tr a dd c rk so fo En Ss len h Own := by
    refine ⟨⟨v0, v6, v7, F1.lc hL10.1, by rw [F1.2.1]; exact hL10.2, F1.lc hL7.1, by rw [F1.2.1]; exact hL7.2⟩, ⟨F1.lc i1, by rw [F2.I (n _ _ (by omega))]; exact i2, i3, fun p p0 p1 => by rw [F2.I (n _ _ (by omega))]; exact i4 p p0 p1, by rw [F1.2.1]; exact i5⟩, f1, ⟨hC.1.ag g1, by rw [g1.1.I (by decide) (by decide)]; exact hC.2.1, by rw [g1.2.1.I (by decide) (by decide)]; exact hC.2.2⟩, fun r hr => hOwn r (by rw [F1.2.1] at hr; exact hr)⟩
  have T1 : TrC σ1 tr (fun _ => 0) fo Ss Own H Z TS0 := by
    refine ⟨⟨v4, v5, by show 0 ≤ 400; omega⟩, fun j hj => absurd hj (Nat.not_lt_zero _), fun j r hj hr => ?_, fun i hi => absurd hi (Nat.not_lt_zero _), fun i hi => absurd hi (Nat.not_lt_zero _), by rw [F1.2.1]; show hs σ ≤ H + 0; omega, by rw [F1.2.2.1]; show sl σ ≤ Z + 17 * 0; omega⟩
    rw [F2.R (n _ _ (by omega))] at hr
    rw [F2.I (n _ _ (by omega)), F1.2.1]
    exact hNA j r hj hr
  have hL := x_layStruct (g := g) (l := l) (tr := tr) (a := a) (dd := dd) (c := c) (rk := rk) (so := so) (fo := fo) (Own := Own) (H := H) (Z := Z) hW hsz hh hR 20 (Nat.le_refl _)
  have keep : ∀ σ2, Fr (LyF tr rk Own) σ1 σ2 → Fr (LyA tr rk Own) σ σ2 ∧ gI σ2 1001 tr 0 = st ∧ gI σ2 1002 tr 0 = place := fun σ2 f2 => by
    have trh : tr < hs σ1 := by rw [F1.2.1]; exact hL10.2
    have nn : ∀ f, f = 1001 ∨ f = 1002 → ¬ LyF tr rk Own f tr := fun f z q => by
      rcases q with q | q | q
      · have := q.2; omega
      · have := q.2; omega
      · have := q.2; omega
    exact ⟨F1.fr.trans (f2.mono (fun f r q => Or.inl q)), by rw [f2.I trh (nn _ (by omega))]; exact v1, by rw [f2.I trh (nn _ (by omega))]; exact v2⟩
  refine AC.of mo_X10_layAll (Nat.le_of_ble_eq_true rfl) (bk_X10_layAll_0 ?_)
  rw [hσ1]
  refine x_addStruct (e := e + 88) (s := TS0) (no := fun _ => 0) (par := -1) hL (lyS_ok hW 20) (by omega) rfl E1 T1 TI0 TU0 ⟨by omega, by show (-1 : Int) < 0; omega⟩ (fun i ei => by omega) h1 hst hR (fun s' es σ2 no2 f2 T2 _ => ?_) (fun en v σ2 f2 T2 => ?_)
  · obtain ⟨k1, k2, k3⟩ := keep σ2 f2
    exact ⟨rfl, ho s' es σ2 no2 k1 (E1.fr f2) T2 k2 k3⟩
  · obtain ⟨k1, k2, k3⟩ := keep σ2 f2
    exact ⟨rfl, hn en σ2 k1 (E1.fr f2) T2⟩
end N9
