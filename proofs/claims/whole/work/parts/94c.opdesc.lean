/-! describe -/
abbrev DFm (f _r : Nat) : Prop := f ≤ 2 ∨ (100 ≤ f ∧ f ≤ 110) ∨ (200 ≤ f ∧ f ≤ 216) ∨ (600 ≤ f ∧ f ≤ 610) ∨ (800 ≤ f ∧ f ≤ 804) ∨ (901 ≤ f ∧ f ≤ 905) ∨ f = 1105 ∨ f = 1106 ∨ f = 1110 ∨ f = 1111 ∨ (1211 ≤ f ∧ f ≤ 1262) ∨ f = 1264
theorem DF2_r {p dd c : Nat} {so : Nat → Nat} {fo : Nat → Nat → Nat} {f r : Nat} (h : DF2 p dd c so fo f r) : (600 ≤ f ∧ f ≤ 610 ∧ r = p) ∨ (f ≤ 2 ∧ r = c) ∨ (101 ≤ f ∧ f ≤ 109 ∧ r = dd) ∨ (800 ≤ f ∧ f ≤ 804 ∧ ¬ f = 801 ∧ ∃ s, s < 20 ∧ r = so s) ∨ (201 ≤ f ∧ f ≤ 216 ∧ ∃ s k, s < 20 ∧ k < 14 ∧ r = fo s k) := by
  rcases h with h | ⟨s, s1, s2, s3⟩
  · rcases h with q | q | q | q | q
    · exact Or.inl ⟨by omega, by omega, q.1⟩
    · exact Or.inr (Or.inl ⟨by omega, q.1⟩)
    · exact Or.inr (Or.inr (Or.inl ⟨by omega, by omega, q.1⟩))
    · obtain ⟨s, s1, s2, s3, s4⟩ := q
      exact Or.inr (Or.inr (Or.inr (Or.inl ⟨by omega, by omega, by omega, s, s1, by omega⟩)))
    · obtain ⟨s, k, s1, s2, s3, s4, s5⟩ := q
      exact Or.inr (Or.inr (Or.inr (Or.inr ⟨by omega, by omega, s, k, s1, s2, s3⟩)))
  · exact Or.inr (Or.inr (Or.inr (Or.inl ⟨by omega, by omega, by omega, s, s1, s2⟩)))
theorem DSi.ag {σ σ' : St} {dd c : Nat} {so : Nat → Nat} {fo : Nat → Nat → Nat} (h : DSi σ dd c so fo) (ag : AgD σ σ' dd c so fo) (hh : hs σ ≤ hs σ') : DSi σ' dd c so fo := by
  obtain ⟨a1, a2, a3, a4, a5, a6, a7, a8⟩ := h
  exact ⟨ag.2.1.lc a1, by rw [ag.2.1.R (by decide) (by decide)]; exact a2, ag.1.lc a3, a4.ag ag, by omega, by omega, fun s hs => by have := a7 s hs; omega, fun s k hs hk => by have := a8 s k hs hk; omega⟩
theorem aim_es {n : Nat} {Ss0 Ss : List Stc} (hW : WFs n Ss0) (h : aimS (Ss0.map (fun s => s.1)) Ss0 = .ok Ss) : ∀ (s : Nat) (S : Stc), Ss[s]? = some S → ∃ S0, Ss0[s]? = some S0 ∧ S = (S0.1, S0.2.1.map (aimO (Ss0.map (fun s => s.1))), S0.2.2) ∧ ∀ F ∈ S.2.1, F.es.length ≤ 16 := by
  obtain ⟨c1, _⟩ := aimS_ok _ _ h
  intro s S hS
  rw [c1, List.getElem?_map] at hS
  cases h0 : Ss0[s]? with
  | none => rw [h0] at hS; exact absurd hS (by simp)
  | some S0 =>
    rw [h0] at hS
    have hS : (S0.1, S0.2.1.map (aimO (Ss0.map (fun s => s.1))), S0.2.2) = S := Option.some.inj hS
    refine ⟨S0, rfl, hS.symm, fun F hF => ?_⟩
    rw [← hS] at hF
    obtain ⟨G, hG, e⟩ := List.mem_map.mp hF
    have := ((hW s S0 h0).2.2.2.2 G hG).2.2.2.1
    rw [← e]
    unfold aimO
    split
    · exact this
    · exact this
theorem DR.oth {σ σ' : St} {m b : Nat} {En : List Enm} {Ss : List Stc} (h : DR σ m b (3000 * b + 3000) En Ss) (b2 : b < 2) (hO : Out m (RB (1 - b)) σ σ') (hW : ∀ (s : Nat) (S : Stc), Ss[s]? = some S → ∀ F ∈ S.2.1, F.es.length ≤ 16) : DR σ' m b (3000 * b + 3000) En Ss := by
  have l20 := h.2.1
  have l8 := h.2.2.2.1
  have nt : ∀ f i, (1219 ≤ f ∧ f ≤ 1245) ∨ f = 1262 → ¬ RTk f i := fun f i z q => by unfold RTk at q; omega
  have nn : ∀ f i, (1219 ≤ f ∧ f ≤ 1245) ∨ f = 1262 → RB (1 - b) f i → (((f = 1219 ∨ f = 1220) ∧ i = 1 - b) ∨ (1221 ≤ f ∧ f ≤ 1223 ∧ 20 * (1 - b) ≤ i ∧ i < 20 * (1 - b) + 20) ∨ (1224 ≤ f ∧ f ≤ 1225 ∧ 8 * (1 - b) ≤ i ∧ i < 8 * (1 - b) + 8) ∨ (1226 ≤ f ∧ f ≤ 1227 ∧ 80 * (1 - b) ≤ i ∧ i < 80 * (1 - b) + 80) ∨ (1228 ≤ f ∧ f ≤ 1238 ∧ 280 * (1 - b) ≤ i ∧ i < 280 * (1 - b) + 280) ∨ (1239 ≤ f ∧ f ≤ 1241 ∧ 4480 * (1 - b) ≤ i ∧ i < 4480 * (1 - b) + 4480) ∨ (((1242 ≤ f ∧ f ≤ 1245) ∨ f = 1262) ∧ 3000 * (1 - b) ≤ i ∧ i < 3000 * (1 - b) + 3000)) := fun f i z q => by
    have := nt f i z
    unfold RB at q
    rcases q with q | q | q | q | q | q | q | q | q | q | q
    · exact absurd q this
    all_goals omega
  refine h.out hO hW (fun f i z0 z1 z2 z3 q => ?_) (fun f z q => ?_) (fun f s z0 z1 z2 q => ?_) (fun f e z0 z1 z2 q => ?_) (fun f e j z0 z1 z2 z3 q => ?_) (fun f s k z0 z1 z2 z3 q => ?_) (fun f s k p z0 z1 z2 z3 z4 q => ?_)
  · have := nn f i (by omega) q; omega
  · have := nn f b (by omega) q; omega
  · have := nn f (20 * b + s) (by omega) q; omega
  · have := nn f (8 * b + e) (by omega) q; omega
  · have := nn f (10 * (8 * b + e) + j) (by omega) q; omega
  · have := nn f (14 * (20 * b + s) + k) (by omega) q; omega
  · have := nn f (16 * (14 * (20 * b + s) + k) + p) (by omega) q; omega
section O1
variable {g : GP} {l : Launch} {d : Nat} {σ : St} {x m p b : Nat} {A B : DPa} {En : List Enm} {Ss : List Stc}
theorem op_describe (hS : SOK g) (hT : TapI σ x m) (hK : ∀ i : Int, gJ σ 906 (tpe σ x) i.toNat = kwd i) (hD : DsI σ x m p A B En Ss b) : ACi g l (d + 150) MX11_describe [vR 11 (some x)] σ (fun a σ1 => ACi g l (d + 150) MX12_describe [vR 12 (some m)] σ1 (fun r σ2 => a = r ∧ TapI σ2 x m ∧ Frm DFm σ σ2 ∧ ((DsI σ2 x m p A B En Ss b ∧ gI σ2 1110 x 0 = gI σ 1110 x 0 ∧ gI σ2 1264 m 0 = gI σ 1264 m 0) ∨ ∃ En' Ss' b', DsI σ2 x m p B A En' Ss' b' ∧ gI σ2 1110 x 0 = 0 ∧ gI σ2 1264 m 0 = 0))) := by
  obtain ⟨t1, t2, t3, t4, t5, t6, t7, t8, t9⟩ := id hT
  obtain ⟨⟨a1, a2, a3, a4, a5, a6, a7⟩, ⟨b1, b2⟩, ⟨c1, c2, c3, c4⟩, ⟨d1, d2, d3, d4⟩, ⟨e1, e2, e3⟩, ⟨w1, Ss00, w2, w3⟩, v⟩ := id hD
  refine AC.of mo_X11_describe (Nat.le_of_ble_eq_true rfl) (bk_X11_describe_0 ⟨tpe σ x, t1, x_split hS t2 t8.1 t8.2 t7 (fun _ => rfl) hK (fun i h0 h1 => by rw [(t9 i h0 h1).1]; exact (t9 i h0 h1).2) (fun σ3 spl => ?_)⟩)
  obtain ⟨F3, n901, K, tok, qK, ql, Kn⟩ := spl
  have hA : ∀ z : Int, 0 ≤ z → z < gI σ 1211 m 0 → gI σ 900 (tpe σ x) z.toNat = gI σ 1210 m z.toNat := fun z h0 h1 => (t9 z h0 h1).1
  obtain ⟨X, hXT, hXn, hXK⟩ : ∃ X : Txt, X.T = (fun z => gI σ 1210 m z.toNat) ∧ X.n = gI σ 1211 m 0 ∧ X.K = K := ⟨(_, _, K), rfl, rfl, rfl⟩
  have qe := fun i => qs_c (T := fun i => gI σ 900 (tpe σ x) i.toNat) (T' := fun z => gI σ 1210 m z.toNat) t8.1 hA i
  have hX : X.OK := by
    refine ⟨by rw [hXn]; exact t8.1, by rw [hXn]; exact t8.2, fun i h0 h1 => ?_, ?_, fun i hi => ?_, ?_⟩
    · rw [hXT]; rw [hXn] at h1; exact (t9 i h0 h1).2
    · show qs X.T X.n X.K = X.n; rw [hXT, hXn, hXK, ← qe K]; exact qK
    · show qs X.T X.n i < X.n; rw [hXT, hXn, ← qe i]; exact ql i (by omega)
    · rw [hXK, hXn]; exact Kn
  have tok' : TokC kwd σ3 (tpe σ x) X.T X.n ((X.K : Int) + 1) := by rw [hXT, hXn, hXK]; exact TokC_c t8.1 hA tok
  refine ⟨p, by rw [F3.R (fun q => by omega)]; exact a3, ?_⟩
  rw [F3.R (f := 1102) (fun q => by omega), t1, F3.R (f := 1106) (fun q => by omega), a2]
  obtain ⟨g2, _⟩ := b2.fr F3.fr (fun f r z q => by omega)
  have nD : ∀ f r, (3 ≤ f ∧ f ≤ 100) ∨ f = 110 ∨ f = 200 ∨ (611 ≤ f ∧ f < 800) ∨ f = 801 ∨ 805 ≤ f → ¬ DF2 p B.1 B.2.1 B.2.2.1 B.2.2.2 f r := fun f r z q => by
    rcases DF2_r q with q | q | q | ⟨q1, q2, q3, _⟩ | ⟨q1, q2, _⟩ <;> omega
  -- what holds of both descriptions behind the class's run
  have mid : ∀ σ6, Frm (DF2 p B.1 B.2.1 B.2.2.1 B.2.2.2) σ3 σ6 → Frm DFm σ σ6 ∧ hs σ6 = hs σ ∧ DSi σ6 A.1 A.2.1 A.2.2.1 A.2.2.2 ∧ AgD σ σ6 A.1 A.2.1 A.2.2.1 A.2.2.2 ∧ DSi σ6 B.1 B.2.1 B.2.2.1 B.2.2.2 ∧ (∀ f r i, 906 ≤ f → gI σ6 f r i = gI σ f r i ∧ gJ σ6 f r i = gJ σ f r i ∧ gR σ6 f r i = gR σ f r i) ∧ gI σ6 901 (tpe σ x) 0 = 0 := by
    intro σ6 F6
    have F36 : Frm (fun f r => DF2 p B.1 B.2.1 B.2.2.1 B.2.2.2 f r ∨ (901 ≤ f ∧ f ≤ 905)) σ σ6 := (F3.mono (fun f r z => Or.inr (by omega))).trans (F6.mono (fun f r z => Or.inl z))
    have agA : AgD σ σ6 A.1 A.2.1 A.2.2.1 A.2.2.2 := by
      refine ⟨AgA.of F36.fr b1.2.2.2.2.2.1 (fun f z0 z1 q => ?_), AgA.of F36.fr b1.2.2.2.2.1 (fun f z0 z1 q => ?_), fun s hs => AgA.of F36.fr (b1.2.2.2.2.2.2.1 s hs) (fun f z0 z1 q => ?_), fun s k hs hk => AgA.of F36.fr (b1.2.2.2.2.2.2.2 s k hs hk) (fun f z0 z1 q => ?_)⟩
      · rcases q with q | q
        · rcases DF2_r q with q | q | q | ⟨q1, q2, q3, _⟩ | ⟨q1, q2, _⟩
          · omega
          · exact c2 q.2
          · omega
          · omega
          · omega
        · omega
      · rcases q with q | q
        · rcases DF2_r q with q | q | q | ⟨q1, q2, q3, _⟩ | ⟨q1, q2, _⟩
          · omega
          · omega
          · exact c1 q.2.2
          · omega
          · omega
        · omega
      · rcases q with q | q
        · rcases DF2_r q with q | q | q | ⟨q1, q2, q3, s', hs', e⟩ | ⟨q1, q2, _⟩
          · omega
          · omega
          · omega
          · exact c3 s s' hs hs' e
          · omega
        · omega
      · rcases q with q | q
        · rcases DF2_r q with q | q | q | ⟨q1, q2, q3, _⟩ | ⟨q1, q2, s', k', hs', hk', e⟩
          · omega
          · omega
          · omega
          · omega
          · exact c4 s k s' k' hs hk hs' hk' e
        · omega
    obtain ⟨z1, z2, z3, z4, z5, z6, z7, z8⟩ := g2
    refine ⟨F36.mono (fun f r z => ?_), F36.2.1, b1.ag agA (by have := F36.2.1; omega), agA, ⟨F6.lc z1, by rw [F6.R (nD _ _ (by omega))]; exact z2, F6.lc z3, z4.gen F6 (fun f r z => nD f r (by omega)), by rw [F6.2.1]; exact z5, by rw [F6.2.1]; exact z6, fun s hs => by rw [F6.2.1]; exact z7 s hs, fun s k hs hk => by rw [F6.2.1]; exact z8 s k hs hk⟩, fun f r i z => ?_, ?_⟩
    · rcases z with z | z
      · unfold DFm
        rcases DF2_r z with q | q | q | ⟨q1, q2, q3, _⟩ | ⟨q1, q2, _⟩ <;> omega
      · unfold DFm; omega
    · have nn : ¬ (DF2 p B.1 B.2.1 B.2.2.1 B.2.2.2 f r ∨ (901 ≤ f ∧ f ≤ 905)) := fun q => by
        rcases q with q | q
        · exact nD f r (by omega) q
        · omega
      exact ⟨F36.I nn i, F36.J nn i, F36.R nn i⟩
    · rw [F6.I (nD _ _ (by omega))]; exact n901
  -- the tape is empty in the end
  have tapE : ∀ σ2, Frm (fun f r => f = 1105 ∨ f = 1106 ∨ f = 1110 ∨ f = 1111 ∨ (r = m ∧ 1211 ≤ f)) σ σ2 ∨ True → gR σ2 1102 x 0 = gR σ 1102 x 0 → LC 9 σ2 (tpe σ x) → hs σ2 = hs σ → LC 12 σ2 m → gI σ2 901 (tpe σ x) 0 = 0 → gI σ2 1211 m 0 = 0 → TapI σ2 x m := by
    intro σ2 _ h1 h2 h3 h4 h5 h6
    have et : tpe σ2 x = tpe σ x := by unfold tpe; rw [h1]
    refine ⟨by rw [et, h1]; exact t1, by rw [et]; exact h2, by rw [et, h3]; exact t3, by rw [h3]; exact t4, by rw [h3]; exact t5, h4, by rw [et, h5, h6], by rw [h6]; omega, fun k k0 k1 => by rw [h6] at k1; omega⟩
  refine c_desc (by omega) hX tok' (F3.lc t2) g2.1 g2.2.1 g2.2.2.1 g2.2.2.2.1 (fun En' Ss0 Ss' r1 r2 we ws σ6 F6 sh co bt f0 cc ee => ?_) (fun e er σ6 F6 ft => ?_)
  · obtain ⟨y1, y2, y3, y4, y5, y6, y7⟩ := mid σ6 F6
    refine ⟨p, by rw [(y6 1103 x 0 (by omega)).2.2]; exact a3, fun _ => ⟨B.1, by rw [(y6 1106 x 0 (by omega)).2.2]; exact a2, _, rfl, ?_⟩, fun z => absurd z (by decide)⟩
    rw [(y6 1106 x 0 (by omega)).2.2, a2, (y6 1105 x 0 (by omega)).2.2, a1, f0]
    have F7 : Frm (fun f r => r = x ∧ (f = 1111 ∨ f = 1105 ∨ f = 1106 ∨ f = 1110)) σ6 (sI (sR (sR (sI σ6 1111 x 0 0) 1105 x 0 (some B.1)) 1106 x 0 (some A.1)) 1110 x 0 0) := (Frm.sI (by simp)).trans ((Frm.sR (by simp)).trans ((Frm.sR (by simp)).trans (Frm.sI (by simp))))
    have v05 : gR (sI (sR (sR (sI σ6 1111 x 0 0) 1105 x 0 (some B.1)) 1106 x 0 (some A.1)) 1110 x 0 0) 1105 x 0 = some B.1 := by show gR (sR (sR (sI σ6 1111 x 0 0) 1105 x 0 (some B.1)) 1106 x 0 (some A.1)) 1105 x 0 = _; rw [gR_sR, if_neg (by simp), gR_slf]
    have v06 : gR (sI (sR (sR (sI σ6 1111 x 0 0) 1105 x 0 (some B.1)) 1106 x 0 (some A.1)) 1110 x 0 0) 1106 x 0 = some A.1 := by show gR (sR (sR (sI σ6 1111 x 0 0) 1105 x 0 (some B.1)) 1106 x 0 (some A.1)) 1106 x 0 = _; rw [gR_slf]
    have v10 : gI (sI (sR (sR (sI σ6 1111 x 0 0) 1105 x 0 (some B.1)) 1106 x 0 (some A.1)) 1110 x 0 0) 1110 x 0 = 0 := gI_slf _ _ _ _ _
    have v11 : gI (sI (sR (sR (sI σ6 1111 x 0 0) 1105 x 0 (some B.1)) 1106 x 0 (some A.1)) 1110 x 0 0) 1111 x 0 = 0 := by rw [gI_sI, if_neg (by simp)]; show gI (sI σ6 1111 x 0 0) 1111 x 0 = 0; rw [gI_slf]
    generalize sI (sR (sR (sI σ6 1111 x 0 0) 1105 x 0 (some B.1)) 1106 x 0 (some A.1)) 1110 x 0 0 = σ7 at *
    have i12 : ∀ f i, 1200 ≤ f → gI σ7 f m i = gI σ f m i ∧ gJ σ7 f m i = gJ σ f m i := fun f i z => ⟨by rw [F7.I (fun q => by omega)]; exact (y6 f m i (by omega)).1, by rw [F7.J (fun q => by omega)]; exact (y6 f m i (by omega)).2.1⟩
    have L7 : LC 12 σ7 m := F7.lc (y1.lc a7)
    refine m_describe (b := 1 - b) (by omega) hX L7 (by rw [(i12 1211 0 (by decide)).1, hXn]) (fun z => by rw [(i12 1210 _ (by decide)).1, hXT]) (by rw [(i12 1218 0 (by decide)).1, e1]; omega) (by omega) (fun En2 Ss02 Ss2 q1 q2 _ _ τ O dr => ?_) (fun e er => ?_)
    · rw [r1] at q1
      cases q1
      rw [r2] at q2
      cases q2
      have F8 : Frm (fun f r => r = m ∧ 1211 ≤ f ∧ f ≤ 1264 ∧ ¬ f = 1263) σ7 (sI (sI (sI (sI τ 1211 m 0 0) 1212 m 0 0) 1218 m 0 ((1 - b : Nat) : Int)) 1264 m 0 0) := (O.1.mono (fun f r z => ⟨z.1, by have := z.2; omega, by have := z.2; omega, by have := z.2; omega⟩)).trans ((Frm.sI (by simp)).trans ((Frm.sI (by simp)).trans ((Frm.sI (by simp)).trans (Frm.sI (by simp)))))
      have F9 : Frm (fun f r => r = m ∧ (f = 1211 ∨ f = 1212 ∨ f = 1218 ∨ f = 1264)) τ (sI (sI (sI (sI τ 1211 m 0 0) 1212 m 0 0) 1218 m 0 ((1 - b : Nat) : Int)) 1264 m 0 0) := (Frm.sI (by simp)).trans ((Frm.sI (by simp)).trans ((Frm.sI (by simp)).trans (Frm.sI (by simp))))
      have u11 : gI (sI (sI (sI (sI τ 1211 m 0 0) 1212 m 0 0) 1218 m 0 ((1 - b : Nat) : Int)) 1264 m 0 0) 1211 m 0 = 0 := by simp [gI_sI]
      have u12 : gI (sI (sI (sI (sI τ 1211 m 0 0) 1212 m 0 0) 1218 m 0 ((1 - b : Nat) : Int)) 1264 m 0 0) 1212 m 0 = 0 := by simp [gI_sI]
      have u18 : gI (sI (sI (sI (sI τ 1211 m 0 0) 1212 m 0 0) 1218 m 0 ((1 - b : Nat) : Int)) 1264 m 0 0) 1218 m 0 = ((1 - b : Nat) : Int) := by rw [gI_sI, if_neg (by simp), gI_slf]
      have u64 : gI (sI (sI (sI (sI τ 1211 m 0 0) 1212 m 0 0) 1218 m 0 ((1 - b : Nat) : Int)) 1264 m 0 0) 1264 m 0 = 0 := gI_slf _ _ _ _ _
      generalize sI (sI (sI (sI τ 1211 m 0 0) 1212 m 0 0) 1218 m 0 ((1 - b : Nat) : Int)) 1264 m 0 0 = σ2 at *
      have F69 : Frm (fun f r => (r = x ∧ (f = 1111 ∨ f = 1105 ∨ f = 1106 ∨ f = 1110)) ∨ (r = m ∧ 1211 ≤ f ∧ f ≤ 1264 ∧ ¬ f = 1263)) σ6 σ2 := (F7.mono (fun f r z => Or.inl z)).trans (F8.mono (fun f r z => Or.inr z))
      obtain ⟨sA, _⟩ := y3.fr F69.fr (fun f r z q => by omega)
      obtain ⟨sB, gB⟩ := y5.fr F69.fr (fun f r z q => by omega)
      have hh : hs σ2 = hs σ := by rw [F69.2.1, y2]
      refine ⟨co.1, tapE σ2 (Or.inr trivial) ?_ (F69.lc (y1.lc t2)) hh (F69.lc (y1.lc a7)) ?_ u11, y1.trans (F69.mono (fun f r z => by unfold DFm; omega)), Or.inr ⟨En', Ss', 1 - b, ⟨⟨by rw [F8.R (fun q => by omega)]; exact v05, by rw [F8.R (fun q => by omega)]; exact v06, ?_, by omega, by omega, by omega, F69.lc (y1.lc a7)⟩, ⟨sB, sA⟩, ⟨fun z => c1 z.symm, fun z => c2 z.symm, fun s s' hs hs' z => c3 s' s hs' hs z.symm, fun s k s' k' hs hk hs' hk' z => c4 s' k' s k hs' hk' hs hk z.symm⟩, ⟨co.ag gB, fun s hs => (bt s hs).ag (gB.2.2.1 s (by have := co.2.1; omega)), by rw [gB.1.I (by decide) (by decide)]; exact cc, by rw [gB.2.1.I (by decide) (by decide)]; exact ee⟩, ⟨u18, by omega, dr.ag (fun f i z => ⟨F9.I (fun q => by omega) i, F9.J (fun q => by omega) i⟩)⟩, ⟨we, Ss0, ws, r2⟩, by rw [F8.I (fun q => by omega), v11, u12], WNs_aim (rItems_xn hX _ _ _ _ _ (Nat.zero_le _) r1 (fun S hS => absurd hS (by simp))) r2⟩, by rw [F8.I (fun q => by omega)]; exact v10, u64⟩⟩
      · rw [F69.R (fun q => by omega)]; exact (y6 1102 x 0 (by omega)).2.2
      · rw [F69.I (fun q => by omega)]; exact y7
      · rw [F69.R (fun q => by omega), (y6 1103 x 0 (by omega)).2.2]; exact a3
    · exfalso
      unfold rDesc at er
      rw [r1, bx_ok] at er
      have er : bx (aimS (Ss0.map (fun s => s.1)) Ss0) _ = .error e := er
      rw [r2, bx_ok] at er
      cases er
  · obtain ⟨y1, y2, y3, y4, y5, y6, y7⟩ := mid σ6 F6
    have eb := rDesc_eb hX e er
    unfold EB at eb
    refine ⟨p, by rw [(y6 1103 x 0 (by omega)).2.2]; exact a3, fun z => absurd rfl z, fun _ => ?_⟩
    rw [ft.1, ft.2]
    refine ⟨⟨by omega, by omega⟩, _, rfl, ?_⟩
    have F7 : Frm (fun f r => r = x ∧ f = 1111) σ6 (sI σ6 1111 x 0 e.1) := Frm.sI (by simp)
    have v11 : gI (sI σ6 1111 x 0 e.1) 1111 x 0 = e.1 := gI_slf _ _ _ _ _
    generalize sI σ6 1111 x 0 e.1 = σ7 at *
    have i12 : ∀ f i, 1200 ≤ f → gI σ7 f m i = gI σ f m i ∧ gJ σ7 f m i = gJ σ f m i := fun f i z => ⟨by rw [F7.I (fun q => by omega)]; exact (y6 f m i (by omega)).1, by rw [F7.J (fun q => by omega)]; exact (y6 f m i (by omega)).2.1⟩
    have L7 : LC 12 σ7 m := F7.lc (y1.lc a7)
    refine m_describe (b := 1 - b) (by omega) hX L7 (by rw [(i12 1211 0 (by decide)).1, hXn]) (fun z => by rw [(i12 1210 _ (by decide)).1, hXT]) (by rw [(i12 1218 0 (by decide)).1, e1]; omega) (by omega) (fun En2 Ss02 Ss2 q1 q2 _ _ τ O dr => ?_) (fun e' er' ep τ O _ _ => ?_)
    · exfalso
      unfold rDesc at er
      rw [q1, bx_ok] at er
      have er : bx (aimS (Ss02.map (fun s => s.1)) Ss02) _ = .error e := er
      rw [q2, bx_ok] at er
      cases er
    · rw [er] at er'
      cases er'
      have F8 : Frm (fun f r => r = m ∧ 1211 ≤ f ∧ f ≤ 1262 ∧ ¬ f = 1218) σ7 (sI (sI τ 1211 m 0 0) 1212 m 0 e.1) := (O.1.mono (fun f r z => ⟨z.1, by have := z.2; omega, by have := z.2; omega, by have := z.2; omega⟩)).trans ((Frm.sI (by simp)).trans (Frm.sI (by simp)))
      have F9 : Frm (fun f r => r = m ∧ (f = 1211 ∨ f = 1212)) τ (sI (sI τ 1211 m 0 0) 1212 m 0 e.1) := (Frm.sI (by simp)).trans (Frm.sI (by simp))
      have u11 : gI (sI (sI τ 1211 m 0 0) 1212 m 0 e.1) 1211 m 0 = 0 := by rw [gI_sI, if_neg (by simp), gI_slf]
      have u12 : gI (sI (sI τ 1211 m 0 0) 1212 m 0 e.1) 1212 m 0 = e.1 := gI_slf _ _ _ _ _
      generalize sI (sI τ 1211 m 0 0) 1212 m 0 e.1 = σ2 at *
      have F69 : Frm (fun f r => (r = x ∧ f = 1111) ∨ (r = m ∧ 1211 ≤ f ∧ f ≤ 1262 ∧ ¬ f = 1218)) σ6 σ2 := (F7.mono (fun f r z => Or.inl z)).trans (F8.mono (fun f r z => Or.inr z))
      obtain ⟨sA, gA⟩ := y3.fr F69.fr (fun f r z q => by omega)
      obtain ⟨sB, gB⟩ := y5.fr F69.fr (fun f r z q => by omega)
      have hh : hs σ2 = hs σ := by rw [F69.2.1, y2]
      have dr7 : DR σ7 m b (3000 * b + 3000) En Ss := e3.ag (fun f i z => i12 f i (by omega))
      have dr8 := dr7.oth e2 O (fun s S hS => (aim_es w2 w3 s S hS).choose_spec.2.2)
      refine ⟨rfl, tapE σ2 (Or.inr trivial) ?_ (F69.lc (y1.lc t2)) hh (F69.lc (y1.lc a7)) ?_ u11, y1.trans (F69.mono (fun f r z => by unfold DFm; omega)), Or.inl ⟨⟨⟨?_, ?_, ?_, by omega, by omega, by omega, F69.lc (y1.lc a7)⟩, ⟨sA, sB⟩, ⟨c1, c2, c3, c4⟩, ⟨(d1.ag y4).ag gA, fun s hs => ((d2 s hs).ag (y4.2.2.1 s (by have := d1.2.1; omega))).ag (gA.2.2.1 s (by have := d1.2.1; omega)), by rw [gA.1.I (by decide) (by decide), y4.1.I (by decide) (by decide)]; exact d3, by rw [gA.2.1.I (by decide) (by decide), y4.2.1.I (by decide) (by decide)]; exact d4⟩, ⟨?_, e2, dr8.ag (fun f i z => ⟨F9.I (fun q => by omega) i, F9.J (fun q => by omega) i⟩)⟩, ⟨w1, Ss00, w2, w3⟩, ?_, v.2⟩, ?_, ?_⟩⟩
      · rw [F69.R (fun q => by omega)]; exact (y6 1102 x 0 (by omega)).2.2
      · rw [F69.I (fun q => by omega)]; exact y7
      · rw [F69.R (fun q => by omega), (y6 1105 x 0 (by omega)).2.2]; exact a1
      · rw [F69.R (fun q => by omega), (y6 1106 x 0 (by omega)).2.2]; exact a2
      · rw [F69.R (fun q => by omega), (y6 1103 x 0 (by omega)).2.2]; exact a3
      · rw [F8.I (fun q => by omega), (i12 1218 0 (by decide)).1]; exact e1
      · rw [F8.I (fun q => by omega), v11, u12]
      · rw [F69.I (fun q => by omega)]; exact (y6 1110 x 0 (by omega)).1
      · rw [F69.I (fun q => by omega)]; exact (y6 1264 m 0 (by omega)).1
end O1
