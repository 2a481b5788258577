/-! the class reads a description, from its first token to the aims -/
theorem WK.mono {n n' : Nat} {Ss : List Stc} {F : Fld} (h : WK n Ss F) (hn : n ≤ n') : WK n' Ss F := by
  rcases h with h | h | h | h | h | h | h | h | h | h
  · exact Or.inl h
  · exact Or.inr (Or.inl ⟨h.1, h.2.1, h.2.2.1, h.2.2.2.1, h.2.2.2.2.1, by have := h.2.2.2.2.2; omega⟩)
  · exact Or.inr (Or.inr (Or.inl h))
  · exact Or.inr (Or.inr (Or.inr (Or.inl h)))
  · exact Or.inr (Or.inr (Or.inr (Or.inr (Or.inl h))))
  · exact Or.inr (Or.inr (Or.inr (Or.inr (Or.inr (Or.inl h)))))
  · exact Or.inr (Or.inr (Or.inr (Or.inr (Or.inr (Or.inr (Or.inl h))))))
  · exact Or.inr (Or.inr (Or.inr (Or.inr (Or.inr (Or.inr (Or.inr (Or.inl h)))))))
  · exact Or.inr (Or.inr (Or.inr (Or.inr (Or.inr (Or.inr (Or.inr (Or.inr (Or.inl h))))))))
  · exact Or.inr (Or.inr (Or.inr (Or.inr (Or.inr (Or.inr (Or.inr (Or.inr (Or.inr h))))))))
theorem WFs.mono {n n' : Nat} {Ss : List Stc} (h : WFs n Ss) (hn : n ≤ n') : WFs n' Ss := fun s S hS => by
  obtain ⟨a1, a2, a3, a4, a5⟩ := h s S hS
  exact ⟨a1, a2, a3, a4, fun F hF => ⟨(a5 F hF).1, (a5 F hF).2.1, (a5 F hF).2.2.1, (a5 F hF).2.2.2.1, (a5 F hF).2.2.2.2.mono hn⟩⟩
theorem WFs.str {n : Nat} {Ss : List Stc} {S : Stc} (h : WFs n Ss) (h1 : IsN S.1) (h2 : S.2.1.length ≤ 14) (h3 : -1 ≤ S.2.2) (h4 : S.2.2 ≤ 1000000) (h5 : ∀ F ∈ S.2.1, WFf n Ss F) : WFs n (Ss ++ [S]) := fun s T hT => by
  rcases app_q hT with ⟨z, y⟩ | ⟨rfl, rfl⟩
  · obtain ⟨a1, a2, a3, a4, a5⟩ := h s T y
    refine ⟨a1, a2, a3, a4, fun F hF => ?_⟩
    rw [List.take_append_of_le_length (by omega)]
    exact a5 F hF
  · refine ⟨h1, h2, h3, h4, fun F hF => ?_⟩
    rw [List.take_append_of_le_length (Nat.le_refl _), List.take_length]
    exact h5 F hF
theorem WFe.enm {En : List Enm} {E : Enm} (h : WFe En) (h1 : IsN E.1) (h2 : E.2.length ≤ 10) (h3 : ∀ x ∈ E.2, IsN x.1) : WFe (En ++ [E]) := fun e T hT => by
  rcases app_q hT with ⟨z, y⟩ | ⟨rfl, rfl⟩
  · exact h e T y
  · exact ⟨h1, h2, h3⟩
def aimO (Ns : List Int64) (F : Fld) : Fld := if F.ki = 7 then F.wSt (idx Ns F.an 0) else F
theorem aimF_ok {Ns : List Int64} : ∀ (Fs : List Fld) (Gs : List Fld), aimF Ns Fs = .ok Gs → Gs = Fs.map (aimO Ns) ∧ ∀ F ∈ Fs, F.ki = 7 → ¬ idx Ns F.an 0 = -1
  | [], Gs, h => by cases h; exact ⟨rfl, fun F hF => absurd hF (by simp)⟩
  | F :: Fs, Gs, h => by
    rw [aimF] at h
    obtain ⟨a, a1, a2⟩ := bx_inv h
    obtain ⟨b, b1, b2⟩ := bx_inv a2
    obtain ⟨c1, c2⟩ := aimF_ok Fs b b1
    cases b2
    unfold aim at a1
    rw [List.map_cons, c1]
    by_cases k : F.ki = 7
    · rw [if_pos k] at a1
      by_cases q : idx Ns F.an 0 = -1
      · rw [if_pos q] at a1; exact absurd a1 (by simp)
      · rw [if_neg q] at a1
        cases a1
        refine ⟨by unfold aimO; rw [if_pos k], fun G hG hk => ?_⟩
        rcases List.mem_cons.mp hG with rfl | hG
        · exact q
        · exact c2 G hG hk
    · rw [if_neg k] at a1
      cases a1
      refine ⟨by unfold aimO; rw [if_neg k], fun G hG hk => ?_⟩
      rcases List.mem_cons.mp hG with rfl | hG
      · exact absurd hk k
      · exact c2 G hG hk
theorem aimS_ok {Ns : List Int64} : ∀ (Ss Ts : List Stc), aimS Ns Ss = .ok Ts → Ts = Ss.map (fun S => (S.1, S.2.1.map (aimO Ns), S.2.2)) ∧ ∀ S ∈ Ss, ∀ F ∈ S.2.1, F.ki = 7 → ¬ idx Ns F.an 0 = -1
  | [], Ts, h => by cases h; exact ⟨rfl, fun F hF => absurd hF (by simp)⟩
  | S :: Ss, Ts, h => by
    rw [aimS] at h
    obtain ⟨a, a1, a2⟩ := bx_inv h
    obtain ⟨b, b1, b2⟩ := bx_inv a2
    obtain ⟨c1, c2⟩ := aimS_ok Ss b b1
    obtain ⟨d1, d2⟩ := aimF_ok _ _ a1
    cases b2
    rw [List.map_cons, c1, d1]
    refine ⟨rfl, fun T hT => ?_⟩
    rcases List.mem_cons.mp hT with rfl | hT
    · exact d2
    · exact c2 T hT
theorem aim_usr {n : Nat} {Ss Ts : List Stc} (hW : WFs n Ss) (h20 : Ss.length ≤ 20) (h : aimS (Ss.map (fun s => s.1)) Ss = .ok Ts) : ∀ (s : Nat) (S : Stc), Ts[s]? = some S → ∀ F ∈ S.2.1, UsR F := by
  obtain ⟨c1, c2⟩ := aimS_ok _ _ h
  intro s S hS F hF
  rw [c1, List.getElem?_map] at hS
  cases e : Ss[s]? with
  | none => rw [e] at hS; exact absurd hS (by simp)
  | some T =>
    rw [e] at hS
    cases hS
    obtain ⟨G, g1, g2⟩ := List.mem_map.mp hF
    have wf := (hW s T e).2.2.2.2 G g1
    have ls : (Ss.take s).length ≤ 20 := by rw [List.length_take]; omega
    have ig := idx_ge (w := G.an) (Ss.map (fun s => s.1)) 0 (by decide)
    rw [List.length_map] at ig
    rw [← g2]
    unfold aimO
    obtain ⟨_, _, _, _, wk⟩ := wf
    by_cases k : G.ki = 7
    · rw [if_pos k]
      have nn := c2 T (List.mem_of_getElem? e) G g1 k
      exact ⟨by show -1 ≤ idx _ _ _; omega, by show idx _ _ _ < 20; omega, fun z => absurd z (by show ¬ G.ki = 6; omega), fun x _ z => absurd z (by show ¬ G.ki = 6; omega)⟩
    · rw [if_neg k]
      rcases wk with q | q | q | q | q | q | q | q | q | q
      · exact ⟨by omega, by omega, fun z => by omega, fun x _ z => by omega⟩
      · exact ⟨by omega, by omega, fun z => by omega, fun x _ z => by omega⟩
      · exact ⟨by omega, by omega, fun z => by omega, fun x _ z => by omega⟩
      · exact ⟨by omega, by omega, fun z => by omega, fun x _ z => by omega⟩
      · exact ⟨by omega, by omega, fun z => by omega, fun x _ z => by omega⟩
      · obtain ⟨q1, q2, q3, q4, q5, q6, q7, q8⟩ := q
        exact ⟨by omega, by omega, fun z => ⟨q6, by omega⟩, fun x hx z => ⟨(q8 x hx).1, by have := (q8 x hx).2; omega⟩⟩
      · omega
      · exact ⟨by omega, by omega, fun z => by omega, fun x _ z => by omega⟩
      · exact ⟨by omega, by omega, fun z => by omega, fun x _ z => by omega⟩
      · exact ⟨by omega, by omega, fun z => by omega, fun x _ z => by omega⟩
section X30
variable {g : GP} {l : Launch} {D : Nat} {σ : St} {p t dd c : Nat} {so : Nat → Nat} {fo : Nat → Nat → Nat} {X : Txt}
theorem c_desc {P : Int → St → Prop} (hD : 128 ≤ D) (hX : X.OK) (hTok : TokC kwd σ t X.T X.n ((X.K : Int) + 1)) (hLt : LC 9 σ t) (hLd : LC 1 σ dd) (h110 : gR σ 110 dd 0 = some c) (hLc : LC 0 σ c) (hS : DSh σ dd so fo)
    (h1 : ∀ En Ss0 Ss, rItems X (X.K + 1) [] [] 0 = .ok (En, Ss0) → aimS (Ss0.map (fun s => s.1)) Ss0 = .ok Ss → WFe En → WFs En.length Ss0 → ∀ σ', Frm (DF2 p dd c so fo) σ σ' → DSh σ' dd so fo → DCo σ' dd c so fo En Ss → (∀ s, s < Ss.length → Bt σ' (so s) (fun b => Wr Ss Ss.length s b)) → gI σ' 600 p 0 = 0 → gI σ' 2 c 0 ≤ 3001 → gI σ' 109 dd 0 ≤ 3000 → P 1 σ')
    (h0 : ∀ e, rDesc X = .error e → ∀ σ', Frm (DF2 p dd c so fo) σ σ' → FLT σ' p e → P 0 σ') : ACi g l D MX6_readDescription [vR 6 (some p), vR 9 (some t), vR 1 (some dd)] σ P := by
  obtain ⟨d, rfl⟩ : ∃ d, D = d + 1 := ⟨D - 1, by omega⟩
  have h3 := hX.h3
  have hKn := hX.hKn
  have s104 : ∀ (En : List Enm) (Ss : List Stc) (i : Nat) (τ : St), IG σ τ p t dd c so fo X En Ss i → WFe En → WFs En.length Ss → rItems X (X.K + 1) [] [] 0 = .ok (En, Ss) → AW g l (d + 1) MX6_readDescription 104 [some (vR 6 (some p)), none, some (vR 1 (some dd)), none] [] τ (fun v σ' => ∃ r, v = some (vI r) ∧ P r σ') := by
    intro En Ss i τ s1 we ws hr
    obtain ⟨a1, a2, a3, a4, a5⟩ := s1
    obtain ⟨nc, q1, q2⟩ := a2.2.2.2.2.2.1
    obtain ⟨ne, q3, q4⟩ := a2.2.2.2.2.2.2
    have iK := a2.1.2.2.2.1
    obtain ⟨d, rfl⟩ : ∃ d', d = d' + 2 := ⟨d - 2, by omega⟩
    refine bk_X6_readDescription_104 (x_findAims a2.2.1 a2.2.2.2.1 a3 a4 (fun S' e σ1 hF1 hS1 hC1 => ⟨fun _ => ⟨dd, rfl, ?_⟩, fun z => absurd z (by decide)⟩) (fun e e1 σ1 hF1 hf => ⟨fun z => absurd rfl z, fun _ => ⟨_, rfl, h0 e ?_ σ1 (a1.trans (hF1.mono (fun f r z => ?_))) hf⟩⟩))
    · have lS : S'.length = Ss.length := by rw [(aimS_ok _ _ e).1, List.length_map]
      refine x_gather (hF1.lc a2.2.2.2.1) hS1 hC1 (by rw [hF1.I (fun q => by omega)]; omega) (aim_usr ws a4.2.1 e) (fun σ2 hF2 hB => ⟨_, rfl, ?_⟩)
      have hM := Mo.frm (dd := dd) (c := c) hF2 (fun f hf q => by omega) (fun f f0 f1 q => by omega)
      have z600 := a2.1.2.2.2.2.2.2.2
      refine h1 En Ss S' hr e we ws σ2 ((a1.trans (hF1.mono (fun f r z => ?_))).trans (hF2.mono (fun f r z => ?_))) (hS1.gen hF2 (fun f r z q => by omega)) (hC1.gen hF2 hM (fun f r z q => by omega) (fun s f _ z q => by omega) (fun s k f _ _ _ _ q => by omega)) hB ?_ ?_ ?_
      · obtain ⟨z0, s, k, z1, z2, z3⟩ := z
        exact Or.inl (Or.inr (Or.inr (Or.inr (Or.inr ⟨s, k, z1, z2, z3, by omega, by omega⟩))))
      · obtain ⟨z0, s, z1, z2⟩ := z
        exact Or.inl (Or.inr (Or.inr (Or.inr (Or.inl ⟨s, z1, z2, by omega, by omega⟩))))
      · rw [hF2.I (fun q => by omega), hF1.I (fun q => by omega)]; exact z600
      · rw [hF2.I (f := 2) (fun q => by omega), hF1.I (f := 2) (fun q => by omega)]; omega
      · rw [hF2.I (f := 109) (fun q => by omega), hF1.I (f := 109) (fun q => by omega)]; omega
    · unfold rDesc
      rw [hr, bx_ok]
      show bx (aimS (Ss.map (fun s => s.1)) Ss) _ = _
      rw [e1, bx_er]
    · rcases z with ⟨z0, s, k, z1, z2, z3⟩ | z
      · exact Or.inl (Or.inr (Or.inr (Or.inr (Or.inr ⟨s, k, z1, z2, z3, by omega, by omega⟩))))
      · exact Or.inl (Or.inl ⟨z.1, by omega, by omega⟩)
  have loop : ∀ (f : Nat) (En : List Enm) (Ss : List Stc) (i : Nat) (x3 : Int) (τ : St), IG σ τ p t dd c so fo X En Ss i → WFe En → WFs En.length Ss → X.K < i + f → 0 ≤ x3 → x3 ≤ i → rItems X (X.K + 1) [] [] 0 = rItems X f En Ss i → AW g l (d + 1) MX6_readDescription 34 [some (vR 6 (some p)), none, some (vR 1 (some dd)), some (vI x3)] [] τ (fun v σ' => ∃ r, v = some (vI r) ∧ P r σ') := by
    intro f
    induction f with
    | zero =>
      intro En Ss i x3 τ s1 _ _ hf
      have := s1.2.1.1.2.2.2.1
      omega
    | succ f ih =>
      intro En Ss i x3 τ s1 we ws hf x0 xi hr
      have iK := s1.2.1.1.2.2.2.1
      have ek := s1.2.1.1.2.2.2.2.2.1
      conv at hr =>
        rhs
        rw [rItems]
      have sz : ∀ (s : Nat) (S : Stc), Ss[s]? = some S → -1 ≤ S.2.2 ∧ S.2.2 ≤ 1000000 := fun s S hS => ⟨(ws s S hS).2.2.1, (ws s S hS).2.2.2.1⟩
      have s16 : ∀ (En' : List Enm) (Ss' : List Stc) (i' : Nat) (τ' : St), IG σ τ' p t dd c so fo X En' Ss' i' → WFe En' → WFs En'.length Ss' → i < i' → rItems X (X.K + 1) [] [] 0 = (if X.k i' = 0 then .ok (En', Ss') else rItems X f En' Ss' i') → R32 (x3 + 1) ∧ AW g l (d + 1) MX6_readDescription 16 [some (vR 6 (some p)), none, some (vR 1 (some dd)), some (vI (x3 + 1))] [] τ' (fun v σ' => ∃ r, v = some (vI r) ∧ P r σ') := by
        intro En' Ss' i' τ' s2 we2 ws2 hi' hr'
        have iK' := s2.2.1.1.2.2.2.1
        have ek' := s2.2.1.1.2.2.2.2.2.1
        refine ⟨⟨by omega, by omega⟩, bk_X6_readDescription_16 ⟨fun q => absurd q (by omega), fun _ => ⟨fun q => absurd q (by omega), fun _ => ?_⟩⟩⟩
        rw [ek']
        refine ⟨fun k0 => ?_, fun k0 => ?_⟩
        · rw [if_pos k0] at hr'
          exact s104 En' Ss' i' τ' s2 we2 ws2 hr'
        · rw [if_neg k0] at hr'
          exact ih En' Ss' i' (x3 + 1) τ' s2 we2 ws2 (by omega) (by omega) (by omega) hr'
      have er : ∀ e, rItems X (X.K + 1) [] [] 0 = .error e → rDesc X = .error e := fun e he => by unfold rDesc; rw [he, bx_er]
      have s60 : ∀ y : Int, (y = 1 ∧ (X.k i = 200 ∨ X.k i = 201) ∨ y = 0 ∧ ¬ (X.k i = 200 ∨ X.k i = 201)) → AW g l (d + 1) MX6_readDescription 60 [some (vR 6 (some p)), none, some (vR 1 (some dd)), some (vI x3)] [vI y, vR 6 (some p)] τ (fun v σ' => ∃ r, v = some (vI r) ∧ P r σ') := by
        intro y hy
        refine bk_X6_readDescription_60 ⟨p, rfl, c_check hX s1.2.1.1 (by omega) (fun q => ⟨fun _ => ?_, fun z => absurd z (by decide)⟩) (fun q σ2 hF2 hf => ⟨fun z => absurd rfl z, fun _ => ⟨_, rfl, h0 _ (er _ ?_) σ2 (s1.1.trans (hF2.mono DF2_p)) hf⟩⟩)⟩
        · rw [ek]
          refine ⟨fun k => ?_, fun k => ?_⟩
          · have k1 : X.k i = 201 := by omega
            rw [if_neg (by omega), if_pos k1] at hr
            refine c_str (by omega) hX sz s1 (by omega) (fun r e σ2 s2 => ⟨fun _ => ?_, fun z => absurd z (by decide)⟩) (fun e e1 σ2 eg => ⟨fun z => absurd rfl z, fun _ => ⟨_, rfl, h0 e (er e (by rw [hr, e1, bx_er])) σ2 eg.1 eg.2⟩⟩)
            rw [e, bx_ok] at hr
            obtain ⟨w1, w2, w3, w4, w5, w6, w7, w8⟩ := rStr_wf hX iK (by omega) e
            exact s16 En (Ss ++ [r.2]) r.1 σ2 s2 we (ws.str w3 w4 w5 w6 w7) w1 hr
          · rw [if_pos k] at hr
            refine c_enm (by omega) hX s1 (by omega) (fun r e σ2 s2 => ⟨fun _ => ?_, fun z => absurd z (by decide)⟩) (fun e e1 σ2 eg => ⟨fun z => absurd rfl z, fun _ => ⟨_, rfl, h0 e (er e (by rw [hr, e1, bx_er])) σ2 eg.1 eg.2⟩⟩)
            rw [e, bx_ok] at hr
            obtain ⟨w1, w2, w3, w4, w5, w6⟩ := rEnm_wf hX iK (by omega) e
            exact s16 (En ++ [r.2]) Ss r.1 σ2 s2 (we.enm w3 w4 w5) (ws.mono (by rw [app_l]; omega)) w1 hr
        · rw [hr, if_neg (by omega), if_neg (by omega)]
      refine bk_X6_readDescription_34 ?_
      rw [ek]
      exact ⟨fun k => s60 1 (by omega), fun k => ⟨fun k2 => s60 0 (by omega), fun k2 => s60 1 (by omega)⟩⟩
  have t0 := hTok.2 0 (by omega)
  refine AC.of mo_X6_readDescription (Nat.le_of_ble_eq_true rfl) (bk_X6_readDescription_0 ⟨dd, rfl, ?_⟩)
  rw [h110]
  refine AC.of mo_X6_start (Nat.le_of_ble_eq_true rfl) (bk_X6_start_0 ⟨t, rfl, hLt, rfl, ?_⟩)
  rw [t0.1, t0.2.2]
  have hFs : Frm (fun f r => r = p ∧ 600 ≤ f ∧ f ≤ 607) σ (sJ (sI (sI (sI (sI (sR (sR (sR σ 602 p 0 (some t)) 606 p 0 (some dd)) 607 p 0 (some c)) 600 p 0 0) 601 p 0 0) 603 p 0 0) 604 p 0 (kd kwd X.T X.n (qs X.T X.n 0))) 605 p 0 (vl X.T X.n (qs X.T X.n 0))) := (Frm.sR (by simp)).trans ((Frm.sR (by simp)).trans ((Frm.sR (by simp)).trans ((Frm.sI (by simp)).trans ((Frm.sI (by simp)).trans ((Frm.sI (by simp)).trans ((Frm.sI (by simp)).trans (Frm.sJ (by simp))))))))
  have r602 : gR (sJ (sI (sI (sI (sI (sR (sR (sR σ 602 p 0 (some t)) 606 p 0 (some dd)) 607 p 0 (some c)) 600 p 0 0) 601 p 0 0) 603 p 0 0) 604 p 0 (kd kwd X.T X.n (qs X.T X.n 0))) 605 p 0 (vl X.T X.n (qs X.T X.n 0))) 602 p 0 = some t := by simp only [gR_sJ, gR_sI, gR_sR, true_and, false_and, if_false, Nat.reduceEqDiff, and_self, if_true]
  have r606 : gR (sJ (sI (sI (sI (sI (sR (sR (sR σ 602 p 0 (some t)) 606 p 0 (some dd)) 607 p 0 (some c)) 600 p 0 0) 601 p 0 0) 603 p 0 0) 604 p 0 (kd kwd X.T X.n (qs X.T X.n 0))) 605 p 0 (vl X.T X.n (qs X.T X.n 0))) 606 p 0 = some dd := by simp only [gR_sJ, gR_sI, gR_sR, true_and, false_and, if_false, Nat.reduceEqDiff, and_self, if_true]
  have r607 : gR (sJ (sI (sI (sI (sI (sR (sR (sR σ 602 p 0 (some t)) 606 p 0 (some dd)) 607 p 0 (some c)) 600 p 0 0) 601 p 0 0) 603 p 0 0) 604 p 0 (kd kwd X.T X.n (qs X.T X.n 0))) 605 p 0 (vl X.T X.n (qs X.T X.n 0))) 607 p 0 = some c := by simp only [gR_sJ, gR_sI, gR_sR, true_and, false_and, if_false, Nat.reduceEqDiff, and_self, if_true]
  have r603 : gI (sJ (sI (sI (sI (sI (sR (sR (sR σ 602 p 0 (some t)) 606 p 0 (some dd)) 607 p 0 (some c)) 600 p 0 0) 601 p 0 0) 603 p 0 0) 604 p 0 (kd kwd X.T X.n (qs X.T X.n 0))) 605 p 0 (vl X.T X.n (qs X.T X.n 0))) 603 p 0 = 0 := by simp only [gI_sJ, gI_sI, gI_sR, true_and, false_and, if_false, Nat.reduceEqDiff, and_self, if_true]
  have r604 : gI (sJ (sI (sI (sI (sI (sR (sR (sR σ 602 p 0 (some t)) 606 p 0 (some dd)) 607 p 0 (some c)) 600 p 0 0) 601 p 0 0) 603 p 0 0) 604 p 0 (kd kwd X.T X.n (qs X.T X.n 0))) 605 p 0 (vl X.T X.n (qs X.T X.n 0))) 604 p 0 = X.k 0 := by simp only [gI_sJ, gI_sI, gI_sR, true_and, false_and, if_false, Nat.reduceEqDiff, and_self, if_true]; rfl
  have r605 : gJ (sJ (sI (sI (sI (sI (sR (sR (sR σ 602 p 0 (some t)) 606 p 0 (some dd)) 607 p 0 (some c)) 600 p 0 0) 601 p 0 0) 603 p 0 0) 604 p 0 (kd kwd X.T X.n (qs X.T X.n 0))) 605 p 0 (vl X.T X.n (qs X.T X.n 0))) 605 p 0 = X.v 0 := by rw [gJ_slf]; rfl
  have r600 : gI (sJ (sI (sI (sI (sI (sR (sR (sR σ 602 p 0 (some t)) 606 p 0 (some dd)) 607 p 0 (some c)) 600 p 0 0) 601 p 0 0) 603 p 0 0) 604 p 0 (kd kwd X.T X.n (qs X.T X.n 0))) 605 p 0 (vl X.T X.n (qs X.T X.n 0))) 600 p 0 = 0 := by simp only [gI_sJ, gI_sI, gI_sR, true_and, false_and, if_false, Nat.reduceEqDiff, and_self, if_true]
  generalize (sJ (sI (sI (sI (sI (sR (sR (sR σ 602 p 0 (some t)) 606 p 0 (some dd)) 607 p 0 (some c)) 600 p 0 0) 601 p 0 0) 603 p 0 0) 604 p 0 (kd kwd X.T X.n (qs X.T X.n 0))) 605 p 0 (vl X.T X.n (qs X.T X.n 0))) = τ1 at *
  refine AC.of mo_X1_forget (Nat.le_of_ble_eq_true rfl) (bk_X1_forget_0 ⟨c, by rw [hFs.R (fun q => by omega)]; exact h110, rfl, ?_⟩)
  have hFf : Frm (fun f r => r = dd ∧ (f = 101 ∨ f = 105 ∨ f = 109) ∨ r = c ∧ f = 2) τ1 (sI (sI (sI (sI τ1 101 dd 0 0) 105 dd 0 0) 109 dd 0 0) 2 c 0 0) := (Frm.sI (by simp)).trans ((Frm.sI (by simp)).trans ((Frm.sI (by simp)).trans (Frm.sI (by simp))))
  have z101 : gI (sI (sI (sI (sI τ1 101 dd 0 0) 105 dd 0 0) 109 dd 0 0) 2 c 0 0) 101 dd 0 = 0 := by simp only [gI_sI, true_and, false_and, if_false, Nat.reduceEqDiff, and_self, if_true]
  have z105 : gI (sI (sI (sI (sI τ1 101 dd 0 0) 105 dd 0 0) 109 dd 0 0) 2 c 0 0) 105 dd 0 = 0 := by simp only [gI_sI, true_and, false_and, if_false, Nat.reduceEqDiff, and_self, if_true]
  have z109 : gI (sI (sI (sI (sI τ1 101 dd 0 0) 105 dd 0 0) 109 dd 0 0) 2 c 0 0) 109 dd 0 = 0 := by simp only [gI_sI, true_and, false_and, if_false, Nat.reduceEqDiff, and_self, if_true]
  have z2 : gI (sI (sI (sI (sI τ1 101 dd 0 0) 105 dd 0 0) 109 dd 0 0) 2 c 0 0) 2 c 0 = 0 := gI_slf _ _ _ _ _
  generalize sI (sI (sI (sI τ1 101 dd 0 0) 105 dd 0 0) 109 dd 0 0) 2 c 0 0 = τ2 at *
  have pt1 : PT τ1 p t X 0 := ⟨r602, hFs.lc hLt, hTok.frm hFs (fun f f0 f1 q => by omega), Nat.zero_le _, r603, r604, r605, r600⟩
  have ig : IG σ τ2 p t dd c so fo X [] [] 0 := by
    refine ⟨(hFs.mono (fun f r z => Or.inl (Or.inl ⟨z.1, by omega, by omega⟩))).trans (hFf.mono (fun f r z => ?_)), ⟨pt1.frm hFf (fun f f0 f1 q => by omega) (fun f f0 f1 q => by omega), by rw [hFf.R (fun q => by omega)]; exact r606, by rw [hFf.R (fun q => by omega)]; exact r607, hFf.lc (hFs.lc hLd), hFf.lc (hFs.lc hLc), ⟨0, z2, Nat.zero_le _⟩, 0, z109, Nat.zero_le _⟩, (hS.gen hFs (fun f r z q => by omega)).gen hFf (fun f r z q => by omega), ⟨z101, Nat.zero_le _, z105, Nat.zero_le _, fun e E hE => absurd hE (by simp), fun s S hS => absurd hS (by simp)⟩, by rw [hFf.R (fun q => by omega), hFs.R (fun q => by omega)]; exact h110⟩
    rcases z with z | z
    · exact Or.inl (Or.inr (Or.inr (Or.inl ⟨z.1, by omega, by omega⟩)))
    · exact Or.inl (Or.inr (Or.inl ⟨z.1, by omega⟩))
  have we0 : WFe [] := fun e E hE => absurd hE (by simp)
  have ws0 : WFs (([] : List Enm).length) [] := fun s S hS => absurd hS (by simp)
  exact bk_X6_readDescription_16 ⟨fun q => absurd q (by decide), fun _ => ⟨fun _ => loop (X.K + 1) [] [] 0 0 τ2 ig we0 ws0 (by omega) (by decide) (by decide) rfl, fun q => absurd rfl q⟩⟩
end X30
