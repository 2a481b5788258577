/-! a question: read by both -/
section Q1
variable {g : GP} {l : Launch} {D : Nat} {σ0 σ : St} {p t dd c : Nat} {so : Nat → Nat} {fo : Nat → Nat → Nat} {X : Txt} {En : List Enm} {Ss : List Stc} {Fs : List Fld} {i a ne : Nat} {F : Fld}
theorem x_opnW {d : Nat} {τ : St} {w : Int64} {sn c0 : Nat} {P : Int → St → Prop} (e1 : DSh σ dd so fo) (e3 : sn < 20) (e4 : gR σ 608 p 0 = some (so sn)) (e5 : gI σ 802 (so sn) 0 = (Fs.length : Int)) (e6 : Fs.length ≤ 14) (e7 : ∀ k G, Fs[k]? = some G → FC σ dd c0 (fo sn k) G) (h6 : gR σ 606 p 0 = some dd) (hL : LC 1 σ dd) (h3 : gI σ 109 dd 0 ≤ 3000) (hF : Frm (EFr p c) σ τ) (h : P (opn Fs w 0) τ) : ACi g l d MX6_operandNamed [vR 6 (some p), vJ w] τ P := by
  have nE : ∀ f r, (3 ≤ f ∧ f < 600 ∨ f = 606 ∨ f = 608 ∨ 611 ≤ f) → ¬ EFr p c f r := fun f r hf q => by
    rcases q with q | q
    · have := q.2; omega
    · omega
  have loop : ∀ (L : List Fld) (j : Nat), (∀ k G, L[k]? = some G → FC σ dd c0 (fo sn (j + k)) G) → j + L.length = Fs.length → P (opn L w j) τ → AW g l d MX6_operandNamed 2 [some (vR 6 (some p)), some (vJ w), none, some (vI (j : Int)), none, none, none] [] τ (fun v σ' => ∃ r, v = some (vI r) ∧ P r σ') := by
    intro L
    induction L with
    | nil =>
      intro j _ hj hP
      have hj : j + 0 = Fs.length := hj
      refine bk_X6_operandNamed_2 ⟨so sn, by rw [hF.R (nE _ _ (by omega))]; exact e4, fun _ => ⟨_, rfl, hP⟩, fun q => absurd ?_ q⟩
      rw [hF.I (nE _ _ (by omega)), e5]; omega
    | cons G L ih =>
      intro j hn hj hP
      have hj : j + (L.length + 1) = Fs.length := hj
      obtain ⟨b1, b2, b3⟩ := e1.1 sn e3
      obtain ⟨c1, c2⟩ := b3 j (by omega)
      have hG := hn 0 G rfl
      rw [Nat.add_zero] at hG
      have c1' : gR τ 801 (so sn) j = some (fo sn j) := by rw [hF.R (nE _ _ (by omega))]; exact c1
      have ki : gI τ 201 (fo sn j) 0 = G.ki := by rw [hF.I (nE _ _ (by omega))]; exact hG.ki
      have nm : gJ τ 202 (fo sn j) 0 = G.nm := by rw [hF.J (nE _ _ (by omega))]; exact hG.nm
      have next : P (opn L w (j + 1 : Int)) τ → R32 ((j : Int) + 1) ∧ AW g l d MX6_operandNamed 2 [some (vR 6 (some p)), some (vJ w), none, some (vI ((j : Int) + 1)), none, none, none] [] τ (fun v σ' => ∃ r, v = some (vI r) ∧ P r σ') := fun hP => ⟨⟨by omega, by omega⟩, ih (j + 1) (fun k G' hG' => by rw [show j + 1 + k = j + (k + 1) by omega]; exact hn (k + 1) G' hG') (by omega) hP⟩
      rw [opn] at hP
      obtain ⟨bb, q1, q2, q3, q4⟩ := hG.es
      have i3 : gI τ 213 (fo sn j) 0 = bb := by rw [hF.I (nE _ _ (by omega))]; exact q1
      have i4 : gI τ 214 (fo sn j) 0 = G.es.length := by rw [hF.I (nE _ _ (by omega))]; exact q2
      have s83 : ¬ ((G.ki = 1 ∨ G.ki = 10 ∨ G.ki = 7) ∧ G.nm = w) → AW g l d MX6_operandNamed 83 [some (vR 6 (some p)), some (vJ w), none, some (vI (j : Int)), some (vR 2 (some (fo sn j))), none, some (vI 0)] [] τ (fun v σ' => ∃ r, v = some (vI r) ∧ P r σ') := by
        intro hno
        rw [if_neg hno] at hP
        by_cases k3 : G.ki = 3
        · have inner : ∀ (M : List Ent) (q : Nat), (∀ k S, M[k]? = some S → gJ σ 106 dd (bb + q + k) = S.1) → q + M.length = G.es.length → (idx (M.map (fun e => e.1)) w q = -1 → P (opn L w (j + 1 : Int)) τ) → (¬ idx (M.map (fun e => e.1)) w q = -1 → P (13 * (j : Int) + 1 + idx (M.map (fun e => e.1)) w q) τ) → AW g l d MX6_operandNamed 83 [some (vR 6 (some p)), some (vJ w), none, some (vI (j : Int)), some (vR 2 (some (fo sn j))), none, some (vI (q : Int))] [] τ (fun v σ' => ∃ r, v = some (vI r) ∧ P r σ') := by
            intro M
            induction M with
            | nil =>
              intro q _ hq hP1 _
              have hq : q + 0 = G.es.length := hq
              refine bk_X6_operandNamed_83 ⟨_, rfl, ?_⟩
              rw [ki, i4]
              exact ⟨fun z => absurd k3 z, fun _ => ⟨fun _ => next (hP1 rfl), fun z => absurd (by omega) z⟩⟩
            | cons S M ihM =>
              intro q hS hq hP1 hP0
              have hq : q + (M.length + 1) = G.es.length := hq
              have e := hS 0 S rfl
              rw [Nat.add_zero] at e
              rw [List.map_cons, idx] at hP1 hP0
              refine bk_X6_operandNamed_83 ⟨_, rfl, ?_⟩
              rw [ki, i4, i3]
              refine ⟨fun z => absurd k3 z, fun _ => ⟨fun z => absurd z (by omega), fun _ => ⟨dd, by rw [hF.R (nE _ _ (by omega))]; exact h6, hF.lc hL, ⟨by omega, by omega⟩, ⟨by omega, by omega⟩, ?_⟩⟩⟩
              rw [show ((bb : Int) + (q : Int)).toNat = bb + q by omega, hF.J (nE 106 _ (by omega)), e]
              refine ⟨fun z => ⟨⟨by omega, by omega⟩, ?_⟩, fun z => ⟨⟨by omega, by omega⟩, ⟨by omega, by omega⟩, ⟨by omega, by omega⟩, _, rfl, ?_⟩⟩
              · rw [if_neg z] at hP1 hP0
                exact ihM (q + 1) (fun k S' hS' => by rw [show bb + (q + 1) + k = bb + q + (k + 1) by omega]; exact hS (k + 1) S' hS') (by omega) hP1 hP0
              · rw [if_pos z] at hP0
                have := hP0 (by omega)
                rw [show (j : Int) * 13 + 1 + (q : Int) = 13 * (j : Int) + 1 + (q : Int) by omega]
                exact this
          refine inner G.es 0 (fun k S hS => by rw [Nat.add_zero]; exact (q4 k S hS).1) (by omega) (fun z => ?_) (fun z => ?_)
          · rw [if_neg (fun y => y.2 z)] at hP; exact hP
          · rw [if_pos ⟨k3, z⟩] at hP; exact hP
        · rw [if_neg (fun y => k3 y.1)] at hP
          refine bk_X6_operandNamed_83 ⟨_, rfl, ?_⟩
          rw [ki]
          exact ⟨fun _ => next hP, fun z => absurd z k3⟩
      have s58 : ∀ y : Int, (y = 1 ∧ (G.ki = 1 ∨ G.ki = 10 ∨ G.ki = 7) ∨ y = 0 ∧ ¬ (G.ki = 1 ∨ G.ki = 10 ∨ G.ki = 7)) → AW g l d MX6_operandNamed 58 [some (vR 6 (some p)), some (vJ w), none, some (vI (j : Int)), some (vR 2 (gR τ 801 (so sn) ((j : Int)).toNat)), none, none] [vI y] τ (fun v σ' => ∃ r, v = some (vI r) ∧ P r σ') := by
        intro y hy
        rw [show ((j : Int)).toNat = j by omega, c1']
        refine bk_X6_operandNamed_58 ⟨fun z => s83 (fun q => by omega), fun z => ⟨_, rfl, ?_⟩⟩
        rw [nm]
        refine ⟨fun z2 => s83 (fun q => z2 q.2), fun z2 => ⟨⟨by omega, by omega⟩, _, rfl, ?_⟩⟩
        rw [if_pos ⟨by omega, z2⟩] at hP
        rw [show (j : Int) * 13 = 13 * (j : Int) by omega]; exact hP
      refine bk_X6_operandNamed_2 ⟨so sn, by rw [hF.R (nE _ _ (by omega))]; exact e4, fun q => absurd q ?_, fun _ => ⟨hF.lc b2, ⟨by omega, by omega⟩, fo sn j, c1', ?_⟩⟩
      · rw [hF.I (nE _ _ (by omega)), e5]; omega
      · rw [ki]
        exact ⟨fun z => s58 1 (by omega), fun z => ⟨fun z2 => s58 1 (by omega), fun z2 => ⟨fun z3 => s58 0 (by omega), fun z3 => s58 1 (by omega)⟩⟩⟩
  exact AC.of mo_X6_operandNamed (Nat.le_of_ble_eq_true rfl) (bk_X6_operandNamed_0 (loop Fs 0 (fun k G hG => by rw [Nat.zero_add]; exact e7 k G hG) (by omega) h))
abbrev QFr (p c f r : Nat) : Prop := (r = p ∧ 600 ≤ f ∧ f ≤ 610) ∨ (r = c ∧ f ≤ 2)
/-- the class reads a question -/
theorem x_question {sn c0 : Nat} {P : Int → St → Prop} (hD : 130 ≤ D) (hX : X.OK) (tok : TokC kwd σ t X.T X.n ((X.K : Int) + 1)) (hL9 : LC 9 σ t) (hL1 : LC 1 σ dd) (hL0 : LC 0 σ c) (e1 : DSh σ dd so fo) (e3 : sn < 20) (e5 : gI σ 802 (so sn) 0 = (Fs.length : Int)) (e6 : Fs.length ≤ 14) (hB : EsB Fs) (e7 : ∀ k G, Fs[k]? = some G → FC σ dd c0 (fo sn k) G) (hc0 : ¬ c = c0) (h3 : gI σ 109 dd 0 ≤ 3000)
    (h1 : ∀ i' N, rx X Fs 0 = .ok (i', N) → X.k i' = 0 → ∀ σ', Frm (QFr p c) σ σ' → CN σ' c 0 N → gI σ' 0 c N.length = 0 → gI σ' 2 c 0 = (N.length : Int) + 1 → N.length ≤ 3000 → gI σ' 600 p 0 = 0 → P 1 σ')
    (h0 : ∀ e, (rx X Fs 0 = .error e ∨ ∃ i' N, rx X Fs 0 = .ok (i', N) ∧ ¬ X.k i' = 0 ∧ e = ck X i' 2) → ∀ σ', Frm (QFr p c) σ σ' → FLT σ' p e → P 0 σ') : ACi g l D MX6_readQuestion [vR 6 (some p), vR 9 (some t), vR 1 (some dd), vI (sn : Int), vR 0 (some c)] σ P := by
  obtain ⟨d, rfl⟩ : ∃ d, D = d + 2 := ⟨D - 2, by omega⟩
  have hx3 := hX.h3
  have hKn := hX.hKn
  have tk0 := tok.2 0 (by omega)
  refine AC.of mo_X6_readQuestion (Nat.le_of_ble_eq_true rfl) (bk_X6_readQuestion_0 (AC.of mo_X6_start (Nat.le_of_ble_eq_true rfl) (bk_X6_start_0 ⟨t, rfl, hL9, rfl, c, rfl, dd, rfl, ?_⟩)))
  generalize hσ1 : sJ (sI (sI (sI (sI (sR (sR (sR σ 602 p 0 (some t)) 606 p 0 (some dd)) 607 p 0 (some c)) 600 p 0 0) 601 p 0 0) 603 p 0 0) 604 p 0 (gI σ 902 t 0)) 605 p 0 (gJ σ 904 t 0) = σ1
  have F1 : Frm (fun f r => r = p ∧ 600 ≤ f ∧ f ≤ 610) σ σ1 := by
    rw [← hσ1]
    exact (Frm.sR ⟨rfl, by omega⟩).trans ((Frm.sR ⟨rfl, by omega⟩).trans ((Frm.sR ⟨rfl, by omega⟩).trans ((Frm.sI ⟨rfl, by omega⟩).trans ((Frm.sI ⟨rfl, by omega⟩).trans ((Frm.sI ⟨rfl, by omega⟩).trans ((Frm.sI ⟨rfl, by omega⟩).trans (Frm.sJ ⟨rfl, by omega⟩)))))))
  refine ⟨F1.lc hL1, ⟨by omega, by omega⟩, ?_⟩
  rw [Int.toNat_natCast, show gR σ1 100 dd sn = some (so sn) by rw [F1.R (fun q => by omega)]; exact (e1.1 sn e3).1]
  generalize hσ2 : sR (sI σ1 2 c 0 0) 608 p 0 (some (so sn)) = σ2
  have F12 : Frm (QFr p c) σ1 σ2 := by rw [← hσ2]; exact (Frm.sI (Or.inr ⟨rfl, by omega⟩)).trans (Frm.sR (Or.inl ⟨rfl, by omega⟩))
  have F2 : Frm (QFr p c) σ σ2 := (F1.mono (fun f r q => Or.inl q)).trans F12
  have g602 : gR σ2 602 p 0 = some t := by rw [← hσ2, ← hσ1]; simp only [gR_sI, gR_sJ, gR_sR, true_and, and_true, false_and, if_false, if_true, Nat.reduceEqDiff]
  have g606 : gR σ2 606 p 0 = some dd := by rw [← hσ2, ← hσ1]; simp only [gR_sI, gR_sJ, gR_sR, true_and, and_true, false_and, if_false, if_true, Nat.reduceEqDiff]
  have g607 : gR σ2 607 p 0 = some c := by rw [← hσ2, ← hσ1]; simp only [gR_sI, gR_sJ, gR_sR, true_and, and_true, false_and, if_false, if_true, Nat.reduceEqDiff]
  have g608 : gR σ2 608 p 0 = some (so sn) := by rw [← hσ2]; exact gR_slf _ _ _ _ _
  have g600 : gI σ2 600 p 0 = 0 := by rw [← hσ2, ← hσ1]; simp only [gI_sR, gI_sJ, gI_sI, true_and, and_true, false_and, if_false, if_true, Nat.reduceEqDiff]
  have g603 : gI σ2 603 p 0 = 0 := by rw [← hσ2, ← hσ1]; simp only [gI_sR, gI_sJ, gI_sI, true_and, and_true, false_and, if_false, if_true, Nat.reduceEqDiff]
  have g604 : gI σ2 604 p 0 = gI σ 902 t 0 := by rw [← hσ2, ← hσ1]; simp only [gI_sR, gI_sJ, gI_sI, true_and, and_true, false_and, if_false, if_true, Nat.reduceEqDiff]
  have g605 : gJ σ2 605 p 0 = gJ σ 904 t 0 := by rw [← hσ2, ← hσ1]; simp only [gJ_sR, gJ_sI, gJ_sJ, true_and, and_true, false_and, if_false, if_true, Nat.reduceEqDiff]
  have g2 : gI σ2 2 c 0 = 0 := by rw [← hσ2]; show gI (sI σ1 2 c 0 0) 2 c 0 = 0; exact gI_slf _ _ _ _ _
  have pt : PT σ2 p t X 0 := ⟨g602, F2.lc hL9, tok.frm F2 (fun f z0 z1 q => by omega), Nat.zero_le _, g603, by rw [g604]; exact tk0.1, by rw [g605]; exact tk0.2.2, g600⟩
  have ps : PS σ2 σ2 p t c X 0 0 [] := ⟨⟨Frm.rfl, fun _ _ => ⟨rfl, rfl⟩, by rw [g2]; exact Int.le_refl _⟩, pt, by rw [g2]; rfl, fun j x hx => absurd hx (by simp)⟩
  have ds2 : DSh σ2 dd so fo := e1.gen F2 (fun f r z q => by omega)
  have fc2 : ∀ k G, Fs[k]? = some G → FC σ2 dd c0 (fo sn k) G := fun k G hG => (e7 k G hG).frm F2 (fun f z0 z1 q => by omega) (Mo.frm F2 (fun f z q => by omega) (fun f z0 z1 q => by omega))
  obtain ⟨r, hr⟩ := rl_tot (ln := fun w => opn Fs w 0) hX.k0 (7 * (X.K - 0) + 8) none 0 0 0 [] (Nat.zero_le _) (by omega) (by omega) (fun _ => by omega) (fun q => absurd rfl q)
  have er : rx X Fs 0 = r := by unfold rx; rw [hr]
  have eF : ∀ τ, Frm (EFr p c) σ2 τ → Frm (QFr p c) σ τ := fun τ F => F2.trans (F.mono (fun f r q => by
    rcases q with q | q
    · exact Or.inl ⟨q.1, by have := q.2; omega, by have := q.2; omega⟩
    · exact Or.inr q))
  refine AC.of mo_X6_readExpression (Nat.le_of_ble_eq_true rfl) (bk_X6_readExpression_0 ⟨c, g607, (x_rl (b := 0) hX hX.k0 (F2.lc hL0) g607 (fun w => opn_ge Fs 0 (by decide) (by omega) hB) (fun τ hF d w P hP => x_opnW ds2 e3 g608 (by rw [F2.I (fun q => by omega)]; exact e5) e6 fc2 g606 (F2.lc hL1) (by rw [F2.I (fun q => by omega)]; exact h3) hF hP) (7 * (X.K - 0) + 8)).2.1 d 0 0 0 [] σ2 r _ (by omega) hr ps (by show 0 + 0 ≤ 0; omega) (by omega) (by omega) (fun v τ' hR => ?_)⟩)
  match r, hr, er, hR with
  | .error e, hr, er, hR =>
    obtain ⟨rfl, r1, r2⟩ := hR
    exact ⟨fun z => absurd rfl z, fun _ => ⟨_, rfl, fun _ => ⟨_, rfl, h0 e (Or.inl er) τ' (eF τ' r1.1) r2⟩, fun z => absurd rfl z⟩⟩
  | .ok (i', N), hr, er, hR =>
    obtain ⟨rfl, hS⟩ := hR
    have hS : PS σ2 τ' p t c X 0 i' N := hS
    obtain ⟨c1, c2, c3, M, c4, c5, _⟩ := rl_ok hX.k0 _ _ _ _ _ _ i' N hr (Nat.zero_le _) (by omega) (by omega)
    have c3 : N.length + 0 ≤ 0 + i' := c3
    have hc2 : gR τ' 607 p 0 = some c := by rw [hS.1.1.R EFr_607]; exact g607
    refine ⟨fun _ => ⟨c, hc2, c_add (a' := 0) (b' := 0) (F2.lc hL0) hS (by omega) (fun τ2 hS2 => ⟨_, rfl, ?_⟩)⟩, fun z => absurd z (by decide)⟩
    have cnt := hS2.2.2.1
    rw [app_l] at cnt
    rw [g2]
    refine ⟨fun z => absurd z (by decide), fun _ => ?_⟩
    have pt2 := hS2.2.1
    have k4 : gI τ2 604 p 0 = X.k i' := pt2.2.2.2.2.2.1
    rw [k4]
    refine ⟨fun z => c_check hX pt2 (Or.inl rfl) (fun q => absurd q (by decide)) (fun _ σ' F' flt => ⟨fun _ => ⟨_, rfl, h0 _ (Or.inr ⟨i', N, er, z, rfl⟩) σ' ((eF τ2 hS2.1.1).trans (F'.mono (fun f r q => Or.inl ⟨q.1, by have := q.2; omega, by have := q.2; omega⟩))) flt⟩, fun q => absurd rfl q⟩), fun z => c_check hX pt2 (Or.inr rfl) (fun _ => ⟨fun q => absurd q (by decide), fun _ => ⟨_, rfl, ?_⟩⟩) (fun q => absurd q (by decide))⟩
    refine h1 i' N er z τ2 (eF τ2 hS2.1.1) (fun j x hx => ?_) ?_ (by rw [cnt]; omega) (by omega) pt2.2.2.2.2.2.2.2
    · exact hS2.2.2.2 j x (app_in hx)
    · have := (hS2.2.2.2 N.length _ app_at).1
      rw [Nat.zero_add] at this
      exact this
end Q1
def QR (m : Nat) (σ σ' : St) : Prop := Frm (fun f r => r = m ∧ ((1213 ≤ f ∧ f ≤ 1217) ∨ (1242 ≤ f ∧ f ≤ 1246) ∨ f = 1251 ∨ f = 1252 ∨ f = 1255 ∨ (1258 ≤ f ∧ f ≤ 1262))) σ σ' ∧ ∀ f j : Nat, j < 6000 → (1242 ≤ f ∧ f ≤ 1245) ∨ f = 1262 → gI σ' f m j = gI σ f m j ∧ gJ σ' f m j = gJ σ f m j
section Q2
variable {g : GP} {l : Launch} {d : Nat} {σ : St} {m b : Nat} {X : Txt} {En : List Enm} {Sx : List Stc} {Fs : List Fld}
/-- the reference reads one -/
theorem m_eitherQ {P : Int → St → Prop} (hX : X.OK) (hR : RT σ m X 0) (h46 : gI σ 1246 m 0 = 6000) (h51 : gI σ 1251 m 0 = 0) (h55 : gI σ 1255 m 0 = 0) (b53 : gI σ 1253 m 0 = (b : Int)) (b2 : b < 2) (h54 : gI σ 1254 m 0 = (Sx.length : Int)) (s20 : Sx.length < 20) (h57 : gI σ 1257 m 0 = (Fs.length : Int)) (h14 : Fs.length ≤ 14) (hF : ∀ k G, Fs[k]? = some G → gI σ 1228 m (14 * (20 * b + Sx.length) + k) = kR G ∧ (¬ G.nm = 0 → gJ σ 1238 m (14 * (20 * b + Sx.length) + k) = rho G.nm) ∧ gI σ 1237 m (14 * (20 * b + Sx.length) + k) = (G.es.length : Int) ∧ ∀ p e, G.es[p]? = some e → ¬ e.1 = 0 → gJ σ 1239 m (16 * (14 * (20 * b + Sx.length) + k) + p) = rho e.1) (hW : ∀ G ∈ Fs, WFf En.length Sx G)
    (h1 : ∀ i' N, rx X Fs 0 = .ok (i', N) → ∀ σ', QR m σ σ' → RT σ' m X i' → gI σ' 1251 m 0 = 0 → 1 ≤ N.length → N.length ≤ 3000 → RN σ' m 6000 N → gI σ' 1262 m (6000 + N.length - 1) = 6000 → P ((6000 + N.length - 1 : Nat) : Int) σ')
    (h0 : ∀ e, rx X Fs 0 = .error e → 0 < e.1 → ∀ σ', QR m σ σ' → gI σ' 1251 m 0 = e.1 → gI σ' 1252 m 0 = e.2 → P (-1) σ') : ACi g l (d + 6) MX12_either [vR 12 (some m)] σ P := by
  have h3 := hX.h3
  have hKn := hX.hKn
  obtain ⟨r, hr⟩ := rl_tot (ln := fun w => opn Fs w 0) hX.k0 (7 * (X.K - 0) + 8) none 0 0 0 [] (Nat.zero_le _) (by omega) (by omega) (fun _ => by omega) (fun q => absurd rfl q)
  have er : rx X Fs 0 = r := by unfold rx; rw [hr]
  refine AC.of mo_X12_either (Nat.le_of_ble_eq_true rfl) (bk_X12_either_0 ?_)
  rw [h46]
  have hF1 : Frm (fun f r => r = m ∧ (f = 1260 ∨ f = 1261)) σ (sI (sI σ 1260 m 0 0) 1261 m 0 0) := (Frm.sI (by simp)).trans (Frm.sI (by simp))
  have z60 : gI (sI (sI σ 1260 m 0 0) 1261 m 0 0) 1260 m 0 = 0 := by rw [gI_sI, if_neg (by simp), gI_slf]
  have z61 : gI (sI (sI σ 1260 m 0 0) 1261 m 0 0) 1261 m 0 = 0 := gI_slf _ _ _ _ _
  generalize sI (sI σ 1260 m 0 0) 1261 m 0 0 = σ1 at *
  have T1 : RT σ1 m X 0 := hR.frm hF1 (fun f z0 z1 q => by omega)
  have rs : RS σ1 σ1 m X 6000 9000 0 [] [] [] 0 := ⟨Frm.rfl, fun _ _ _ _ _ => ⟨rfl, rfl⟩, T1, by rw [hF1.I (fun q => by omega)]; exact h46, fun j x hx => absurd hx (by simp), z60, fun j x hx => absurd hx (by simp), z61, fun j x hx => absurd hx (by simp), by rw [hF1.I (fun q => by omega)]; exact h55, by rw [hF1.I (fun q => by omega)]; exact h51⟩
  have qr : ∀ τ, Frm (RFr m) σ1 τ → (∀ j f : Nat, j < 6000 ∨ 9000 ≤ j → 1242 ≤ f → f ≤ 1245 → gI τ f m j = gI σ1 f m j ∧ gJ τ f m j = gJ σ1 f m j) → QR m σ τ := fun τ F hA => by
    refine ⟨(hF1.mono (fun f r q => ⟨q.1, by have := q.2; omega⟩)).trans (F.mono (fun f r q => ⟨q.1, by have := q.2; omega⟩)), fun f j hj z => ?_⟩
    rcases z with z | z
    · obtain ⟨u1, u2⟩ := hA j f (Or.inl hj) z.1 z.2
      rw [u1, u2]
      exact ⟨hF1.I (fun q => by omega) j, hF1.J (fun q => by omega) j⟩
    · rw [F.I (fun q => by have := q.2; omega), F.J (fun q => by have := q.2; omega)]
      exact ⟨hF1.I (fun q => by omega) j, hF1.J (fun q => by omega) j⟩
  have HL : ∀ τ i, Frm (RFr m) σ1 τ → RT τ m X i → X.k i = 2 → ∀ d (P : Int → St → Prop), P (if opn Fs (X.v i) 0 = -1 then -1 else cv (opn Fs (X.v i) 0)) τ → ACi g l (d + 1) MX12_lookedUp [vR 12 (some m)] τ P := by
    intro τ j F hT k2 d P hP
    have rI : ∀ f i, ¬ RFr m f m → ¬ f = 1260 → ¬ f = 1261 → gI τ f m i = gI σ f m i ∧ gJ τ f m i = gJ σ f m i := fun f i z y1 y2 => ⟨by rw [F.I z, hF1.I (fun q => by omega)], by rw [F.J z, hF1.J (fun q => by omega)]⟩
    have nf : ∀ f, (1218 ≤ f ∧ f ≤ 1241) ∨ f = 1253 ∨ f = 1254 ∨ f = 1257 → ¬ RFr m f m := fun f z q => by have := q.2; omega
    refine g_lookedUp hX hT.1 (b := b) (Ss := Sx) (Fs := Fs) (En := En) (by rw [(rI 1253 0 (nf _ (by omega)) (by decide) (by decide)).1]; exact b53) b2 (by rw [(rI 1254 0 (nf _ (by omega)) (by decide) (by decide)).1]; exact h54) s20 (by rw [(rI 1257 0 (nf _ (by omega)) (by decide) (by decide)).1]; exact h57) h14 (fun k G hk => ?_) hW hT k2 hP
    obtain ⟨f1, f2, f3, f4⟩ := hF k G hk
    rw [(rI 1228 _ (nf _ (by omega)) (by decide) (by decide)).1, (rI 1238 _ (nf _ (by omega)) (by decide) (by decide)).2, (rI 1237 _ (nf _ (by omega)) (by decide) (by decide)).1]
    exact ⟨f1, f2, f3, fun p e he hz => by rw [(rI 1239 _ (nf _ (by omega)) (by decide) (by decide)).2]; exact f4 p e he hz⟩
  have ob : ∀ w, -1 ≤ opn Fs w 0 ∧ opn Fs w 0 ≤ 1000 := fun w => opn_ge Fs 0 (by decide) (by omega) (fun G hG => (hW G hG).2.2.2.1)
  refine e_opr rs.bd ((r_rl (g := g) (l := l) (d := d) (Q := fun v σ' => ∃ r, v = some (vI r) ∧ P r σ') hX hX.k0 (by omega) ob HL (7 * (X.K - 0) + 8)).2.1 0 0 0 [] [] [] σ1 r (by omega) hr (Nat.zero_le _) rs (fun o ho => absurd ho (by simp)) (by simp) (by simp) (by omega) (by simp; omega) (fun i' N' er' τ' N0 Pt eN s hN0 hPt hSO hPl => ?_) (fun e ee he τ' hRF => ⟨_, rfl, h0 e (by rw [er, ee]) he τ' (qr τ' hRF.1 hRF.2.1) hRF.2.2.1 hRF.2.2.2⟩))
  obtain ⟨b1, b2', b3, M, b4, b5, _⟩ := rl_ok hX.k0 _ _ _ _ _ _ i' N' (by rw [hr, er']) (Nat.zero_le _) (by omega) (by omega)
  have lj := jn_len Pt N0
  rw [← eN] at lj
  have b3 : N'.length + 0 ≤ 0 + i' := b3
  have l6 : 6000 + N0.length + Pt.length ≤ 9000 := by omega
  refine go_end hX s (by show 0 + Pt.length ≤ 127; omega) (by show 0 + Pt.length ≤ 126; omega) l6 (Nat.le_refl _) hN0 (fun p hp => by have := hPt p hp; omega) hSO (fun o ho => absurd ho (by simp)) (fun _ => n18 Pt (fun p hp => by have := hPt p hp; omega)) (fun τ2 s2 => ?_)
  rw [← eN] at s2
  refine ⟨fun q => absurd s2.w q, fun _ => bk_X12_either_82 ⟨m, rfl, r_must hX s2.T s2.bd (by decide) (by decide) (fun _ => ⟨fun _ => ?_, fun q => absurd q (by decide)⟩) (fun q => absurd q (by decide))⟩⟩
  have h0' : gI τ2 1259 m 0 = ((6000 + (N'.length - 1) : Nat) : Int) := s2.hs 0 _ rfl
  rw [h0', Int.toNat_natCast]
  refine ⟨s2.T.1, ⟨by omega, by omega⟩, _, rfl, ?_⟩
  have hFw : Frm (fun f r => r = m ∧ f = 1262) τ2 (sI τ2 1262 m (6000 + (N'.length - 1)) 6000) := Frm.sI (by simp)
  have q2 := qr τ2 s2.F s2.A
  have ei : 6000 + (N'.length - 1) = 6000 + N'.length - 1 := by omega
  have fin := h1 i' N' (by rw [er, er']) (sI τ2 1262 m (6000 + (N'.length - 1)) 6000) ⟨q2.1.trans (Frm.sI ⟨rfl, by omega⟩), fun f j hj z => by
    have := q2.2 f j hj z
    refine ⟨?_, this.2⟩
    rw [gI_sI, if_neg (by omega)]; exact this.1⟩ (s2.T.frm hFw (fun f z0 z1 q => by omega)) (by rw [hFw.I (fun q => by omega)]; exact s2.bd) (by omega) (by omega) (fun j x hx => by
    rw [hFw.I (f := 1242) (fun q => by omega), hFw.I (f := 1243) (fun q => by omega), hFw.I (f := 1244) (fun q => by omega), hFw.J (f := 1245) (fun q => by omega)]
    exact s2.R j x hx) (by rw [← ei]; exact gI_slf _ _ _ _ _)
  rw [← ei] at fin
  exact fin
end Q2
