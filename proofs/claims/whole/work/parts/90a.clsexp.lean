/-! the class's expressions within a field -/
theorem opn_ge {w : Int64} : ∀ (Fs : List Fld) (f : Int), 0 ≤ f → f + Fs.length ≤ 14 → (∀ F ∈ Fs, F.es.length ≤ 16) → -1 ≤ opn Fs w f ∧ opn Fs w f ≤ 1000
  | [], f, _, _, _ => ⟨by show (-1 : Int) ≤ -1; decide, by show (-1 : Int) ≤ 1000; decide⟩
  | F :: Fs, f, h0, h1, he => by
    have e : ((F :: Fs).length : Int) = Fs.length + 1 := by rw [List.length_cons]; omega
    unfold opn
    split
    · omega
    · split
      · have := idx_ge (w := w) (F.es.map (fun e => e.1)) 0 (by decide)
        rw [List.length_map] at this
        have := he F List.mem_cons_self
        omega
      · exact opn_ge Fs (f + 1) (by omega) (by omega) (fun G hG => he G (List.mem_cons_of_mem _ hG))
section X18
variable {g : GP} {l : Launch} {D : Nat} {σ0 σ : St} {p t dd c : Nat} {so : Nat → Nat} {fo : Nat → Nat → Nat} {X : Txt} {En : List Enm} {Ss : List Stc} {Fs : List Fld} {i a ne : Nat} {F : Fld}
theorem x_opn {d : Nat} {τ : St} {w : Int64} {P : Int → St → Prop} (hE : ENV σ p dd c so fo En Ss Fs) (h6 : gR σ 606 p 0 = some dd) (hL : LC 1 σ dd) (h3 : gI σ 109 dd 0 ≤ 3000) (hF : Frm (EFr p c) σ τ) (h : P (opn Fs w 0) τ) : ACi g l d MX6_operandNamed [vR 6 (some p), vJ w] τ P := by
  obtain ⟨e1, e2, e3, e4, e5, e6, e7⟩ := hE
  have nE : ∀ f r, (3 ≤ f ∧ f < 600 ∨ f = 606 ∨ f = 608 ∨ 611 ≤ f) → ¬ EFr p c f r := fun f r hf q => by
    rcases q with q | q
    · have := q.2; omega
    · omega
  have loop : ∀ (L : List Fld) (j : Nat), (∀ k G, L[k]? = some G → FC σ dd c (fo Ss.length (j + k)) G) → j + L.length = Fs.length → P (opn L w j) τ → AW g l d MX6_operandNamed 2 [some (vR 6 (some p)), some (vJ w), none, some (vI (j : Int)), none, none, none] [] τ (fun v σ' => ∃ r, v = some (vI r) ∧ P r σ') := by
    intro L
    induction L with
    | nil =>
      intro j _ hj hP
      have hj : j + 0 = Fs.length := hj
      refine bk_X6_operandNamed_2 ⟨so Ss.length, by rw [hF.R (nE _ _ (by omega))]; exact e4, fun _ => ⟨_, rfl, hP⟩, fun q => absurd ?_ q⟩
      rw [hF.I (nE _ _ (by omega)), e5]; omega
    | cons G L ih =>
      intro j hn hj hP
      have hj : j + (L.length + 1) = Fs.length := hj
      obtain ⟨b1, b2, b3⟩ := e1.1 Ss.length e3
      obtain ⟨c1, c2⟩ := b3 j (by omega)
      have hG := hn 0 G rfl
      rw [Nat.add_zero] at hG
      have c1' : gR τ 801 (so Ss.length) j = some (fo Ss.length j) := by rw [hF.R (nE _ _ (by omega))]; exact c1
      have ki : gI τ 201 (fo Ss.length j) 0 = G.ki := by rw [hF.I (nE _ _ (by omega))]; exact hG.ki
      have nm : gJ τ 202 (fo Ss.length j) 0 = G.nm := by rw [hF.J (nE _ _ (by omega))]; exact hG.nm
      have next : P (opn L w (j + 1 : Int)) τ → R32 ((j : Int) + 1) ∧ AW g l d MX6_operandNamed 2 [some (vR 6 (some p)), some (vJ w), none, some (vI ((j : Int) + 1)), none, none, none] [] τ (fun v σ' => ∃ r, v = some (vI r) ∧ P r σ') := fun hP => ⟨⟨by omega, by omega⟩, ih (j + 1) (fun k G' hG' => by rw [show j + 1 + k = j + (k + 1) by omega]; exact hn (k + 1) G' hG') (by omega) hP⟩
      rw [opn] at hP
      obtain ⟨bb, q1, q2, q3, q4⟩ := hG.es
      have i3 : gI τ 213 (fo Ss.length j) 0 = bb := by rw [hF.I (nE _ _ (by omega))]; exact q1
      have i4 : gI τ 214 (fo Ss.length j) 0 = G.es.length := by rw [hF.I (nE _ _ (by omega))]; exact q2
      have s83 : ¬ ((G.ki = 1 ∨ G.ki = 10 ∨ G.ki = 7) ∧ G.nm = w) → AW g l d MX6_operandNamed 83 [some (vR 6 (some p)), some (vJ w), none, some (vI (j : Int)), some (vR 2 (some (fo Ss.length j))), none, some (vI 0)] [] τ (fun v σ' => ∃ r, v = some (vI r) ∧ P r σ') := by
        intro hno
        rw [if_neg hno] at hP
        by_cases k3 : G.ki = 3
        · have inner : ∀ (M : List Ent) (q : Nat), (∀ k S, M[k]? = some S → gJ σ 106 dd (bb + q + k) = S.1) → q + M.length = G.es.length → (idx (M.map (fun e => e.1)) w q = -1 → P (opn L w (j + 1 : Int)) τ) → (¬ idx (M.map (fun e => e.1)) w q = -1 → P (13 * (j : Int) + 1 + idx (M.map (fun e => e.1)) w q) τ) → AW g l d MX6_operandNamed 83 [some (vR 6 (some p)), some (vJ w), none, some (vI (j : Int)), some (vR 2 (some (fo Ss.length j))), none, some (vI (q : Int))] [] τ (fun v σ' => ∃ r, v = some (vI r) ∧ P r σ') := by
            intro M
            induction M with
            | nil =>
              intro q _ hq hP1 _
              have hq : q + 0 = G.es.length := hq
              refine bk_X6_operandNamed_83 ⟨_, rfl, ?_⟩
              rw [ki, i4]
              exact ⟨fun z => absurd k3 z, fun _ => ⟨fun _ => next (hP1 rfl), fun z => absurd (by omega) z⟩⟩
            | cons S M ihM =>
              intro q hS hq hP1 hP0
              have hq : q + (M.length + 1) = G.es.length := hq
              have e := hS 0 S rfl
              rw [Nat.add_zero] at e
              rw [List.map_cons, idx] at hP1 hP0
              refine bk_X6_operandNamed_83 ⟨_, rfl, ?_⟩
              rw [ki, i4, i3]
              refine ⟨fun z => absurd k3 z, fun _ => ⟨fun z => absurd z (by omega), fun _ => ⟨dd, by rw [hF.R (nE _ _ (by omega))]; exact h6, hF.lc hL, ⟨by omega, by omega⟩, ⟨by omega, by omega⟩, ?_⟩⟩⟩
              rw [show ((bb : Int) + (q : Int)).toNat = bb + q by omega, hF.J (nE 106 _ (by omega)), e]
              refine ⟨fun z => ⟨⟨by omega, by omega⟩, ?_⟩, fun z => ⟨⟨by omega, by omega⟩, ⟨by omega, by omega⟩, ⟨by omega, by omega⟩, _, rfl, ?_⟩⟩
              · rw [if_neg z] at hP1 hP0
                exact ihM (q + 1) (fun k S' hS' => by rw [show bb + (q + 1) + k = bb + q + (k + 1) by omega]; exact hS (k + 1) S' hS') (by omega) hP1 hP0
              · rw [if_pos z] at hP0
                have := hP0 (by omega)
                rw [show (j : Int) * 13 + 1 + (q : Int) = 13 * (j : Int) + 1 + (q : Int) by omega]
                exact this
          refine inner G.es 0 (fun k S hS => by rw [Nat.add_zero]; exact (q4 k S hS).1) (by omega) (fun z => ?_) (fun z => ?_)
          · rw [if_neg (fun y => y.2 z)] at hP; exact hP
          · rw [if_pos ⟨k3, z⟩] at hP; exact hP
        · rw [if_neg (fun y => k3 y.1)] at hP
          refine bk_X6_operandNamed_83 ⟨_, rfl, ?_⟩
          rw [ki]
          exact ⟨fun _ => next hP, fun z => absurd z k3⟩
      have s58 : ∀ y : Int, (y = 1 ∧ (G.ki = 1 ∨ G.ki = 10 ∨ G.ki = 7) ∨ y = 0 ∧ ¬ (G.ki = 1 ∨ G.ki = 10 ∨ G.ki = 7)) → AW g l d MX6_operandNamed 58 [some (vR 6 (some p)), some (vJ w), none, some (vI (j : Int)), some (vR 2 (gR τ 801 (so Ss.length) ((j : Int)).toNat)), none, none] [vI y] τ (fun v σ' => ∃ r, v = some (vI r) ∧ P r σ') := by
        intro y hy
        rw [show ((j : Int)).toNat = j by omega, c1']
        refine bk_X6_operandNamed_58 ⟨fun z => s83 (fun q => by omega), fun z => ⟨_, rfl, ?_⟩⟩
        rw [nm]
        refine ⟨fun z2 => s83 (fun q => z2 q.2), fun z2 => ⟨⟨by omega, by omega⟩, _, rfl, ?_⟩⟩
        rw [if_pos ⟨by omega, z2⟩] at hP
        rw [show (j : Int) * 13 = 13 * (j : Int) by omega]; exact hP
      refine bk_X6_operandNamed_2 ⟨so Ss.length, by rw [hF.R (nE _ _ (by omega))]; exact e4, fun q => absurd q ?_, fun _ => ⟨hF.lc b2, ⟨by omega, by omega⟩, fo Ss.length j, c1', ?_⟩⟩
      · rw [hF.I (nE _ _ (by omega)), e5]; omega
      · rw [ki]
        exact ⟨fun z => s58 1 (by omega), fun z => ⟨fun z2 => s58 1 (by omega), fun z2 => ⟨fun z3 => s58 0 (by omega), fun z3 => s58 1 (by omega)⟩⟩⟩
  exact AC.of mo_X6_operandNamed (Nat.le_of_ble_eq_true rfl) (bk_X6_operandNamed_0 (loop Fs 0 (fun k G hG => by rw [Nat.zero_add]; exact e7 k G hG) (by omega) h))
theorem FS.em {σ' : St} {i' a' b : Nat} (h : FS σ0 σ p t dd c so fo X En Ss Fs i a ne F) (hb : gI σ 2 c 0 = b) (hE : EE σ σ' p c b) (hT : PT σ' p t X i') (hi : i ≤ i') (ha : a' ≤ 1) (hn : ∃ nc : Nat, gI σ' 2 c 0 = nc ∧ nc ≤ i' + a') : FS σ0 σ' p t dd c so fo X En Ss Fs i' a' ne F := by
  obtain ⟨a1, a2, a3, a4, a5, a6, a7, a8, a9, a10⟩ := h
  obtain ⟨b1, b2, b3, b4, b5, b6, b7⟩ := a2
  have nE : ∀ f r, (3 ≤ f ∧ f < 600 ∨ f = 602 ∨ f = 606 ∨ f = 607 ∨ f = 608 ∨ f = 609 ∨ 611 ≤ f) → ¬ EFr p c f r := fun f r hf q => by
    rcases q with q | q
    · have := q.2; omega
    · omega
  have cm : CM σ σ' p dd c (fo Ss.length Fs.length) := ⟨hE.1.mono (fun f r q => q.elim Or.inl (fun z => Or.inr (Or.inl z))), by
    refine ⟨by rw [hb]; exact hE.2.2, fun j hj => hE.2.1 j (by omega), by rw [hE.1.I (nE 109 _ (by omega))]; omega, fun j _ => ⟨hE.1.J (nE 106 _ (by omega)) j, hE.1.J (nE 107 _ (by omega)) j, hE.1.I (nE 108 _ (by omega)) j⟩⟩⟩
  have e109 : gI σ' 109 dd 0 = ne := by rw [hE.1.I (nE 109 _ (by omega))]; exact a7
  refine ⟨a1.trans (cm.1.mono (DFr_c a3.2.2.1 a6)), ⟨hT, by rw [hE.1.R (nE _ _ (by omega))]; exact b2, by rw [hE.1.R (nE _ _ (by omega))]; exact b3, hE.1.lc b4, hE.1.lc b5, hn, ne, e109, by omega⟩, a3.cm a6 cm, by rw [hE.1.R (nE _ _ (by omega))]; exact a4, a5.frm hE.1 (fun f f0 f1 => nE f _ (by omega)) cm.2, a6, e109, by omega, ha, fun q => by rw [hE.1.I (nE 213 _ (by omega))]; exact a10 q⟩
theorem FS.ere {σ' : St} {b : Nat} {e : Int × Int} (h : FS σ0 σ p t dd c so fo X En Ss Fs i a ne F) (hE : EE σ σ' p c b) (hf : FLT σ' p e) : ER σ0 σ' p dd c so fo (fo Ss.length Fs.length) e :=
  ⟨h.1.trans (hE.1.mono (fun f r q => q.elim (DFr_p f r) (fun z => Or.inr (Or.inl z)))), hf, by rw [hE.1.R (fun q => by rcases q with q | q; have := q.2; omega; omega)]; exact h.r9⟩
/-- entries of a field: at most 16 -/
def EsB (Fs : List Fld) : Prop := ∀ F ∈ Fs, F.es.length ≤ 16
theorem f_rx {P : Int → St → Prop} (hD : 120 ≤ D) (hX : X.OK) (hB : EsB Fs) (h : FS σ0 σ p t dd c so fo X En Ss Fs i 0 ne F) (h1 : ∀ i' N, rx X Fs i = .ok (i', N) → ∀ σ' (b : Nat), FS σ0 σ' p t dd c so fo X En Ss Fs i' 1 ne F → XC σ' c b (some N) → P b σ') (h0 : ∀ e, rx X Fs i = .error e → ∀ σ', ER σ0 σ' p dd c so fo (fo Ss.length Fs.length) e → P (-1) σ') : ACi g l D MX6_readExpression [vR 6 (some p)] σ P := by
  obtain ⟨d, rfl⟩ : ∃ d, D = d + 1 := ⟨D - 1, by omega⟩
  have h3 := hX.h3
  have hKn := hX.hKn
  have hiK := h.T.2.2.2.1
  obtain ⟨b1, b2, b3, b4, b5, ⟨nc, b6, b7⟩, _⟩ := h.2.1
  have h7 := h.2.2.2.2.2.2.1
  have h8 := h.2.2.2.2.2.2.2.1
  have e6 := h.env.2.2.2.2.2.1
  obtain ⟨r, hr⟩ := rl_tot (ln := fun w => opn Fs w 0) hX.k0 (7 * (X.K - i) + 8) none 0 0 i [] hiK (by omega) (by omega) (fun _ => by omega) (fun q => absurd rfl q)
  have er : rx X Fs i = r := by unfold rx; rw [hr]
  have ps : PS σ σ p t c X nc i [] := ⟨⟨Frm.rfl, fun _ _ => ⟨rfl, rfl⟩, by omega⟩, b1, by rw [b6]; rfl, fun j x hx => absurd hx (by simp)⟩
  refine AC.of mo_X6_readExpression (Nat.le_of_ble_eq_true rfl) (bk_X6_readExpression_0 ⟨c, b3, (x_rl (b := nc) hX hX.k0 b5 b3 (fun w => opn_ge Fs 0 (by decide) (by omega) hB) (fun τ hF d w P hP => x_opn h.env b2 b4 (by omega) hF hP) (7 * (X.K - i) + 8)).2.1 d 0 0 i [] σ r _ (by omega) hr ps (by show nc + 0 ≤ i; omega) (by omega) (by omega) (fun v τ' hR => ?_)⟩)
  match r, hr, er, hR with
  | .error e, hr, er, hR =>
    obtain ⟨rfl, r1, r2⟩ := hR
    exact ⟨fun z => absurd rfl z, fun _ => ⟨_, rfl, h0 e er τ' (h.ere r1 r2)⟩⟩
  | .ok (i', N), hr, er, hR =>
    obtain ⟨rfl, hS⟩ := hR
    have hS : PS σ τ' p t c X nc i' N := hS
    obtain ⟨c1, c2, c3, M, c4, c5, _⟩ := rl_ok hX.k0 _ _ _ _ _ _ i' N hr hiK (by omega) (by omega)
    have c3 : N.length + i ≤ 0 + i' := c3
    have hc2 : gR τ' 607 p 0 = some c := by rw [hS.1.1.R EFr_607]; exact b3
    refine ⟨fun _ => ⟨c, hc2, c_add (a' := 0) (b' := 0) b5 hS (by omega) (fun τ2 hS2 => ⟨_, rfl, ?_⟩)⟩, fun z => absurd z (by decide)⟩
    rw [b6]
    have cnt := hS2.2.2.1
    rw [app_l] at cnt
    refine h1 i' N er τ2 nc (h.em b6 hS2.1 hS2.2.1 c1 (by omega) ⟨nc + (N.length + 1), cnt, by omega⟩) ⟨nc, rfl, by rw [cnt]; omega, fun j x hx => hS2.2.2.2 j x (app_in hx), ?_⟩
    exact (hS2.2.2.2 N.length _ app_at).1
theorem f_startsCore {P : Int → St → Prop} (hD : 1 ≤ D) (hX : X.OK) (hT : PT σ p t X i) (h6 : gR σ 606 p 0 = some dd) (hL : LC 1 σ dd) (hS : DSh σ dd so fo) (hC : DCo σ dd c so fo En Ss) (h1 : tC X Ss i = .ok () → P 1 σ) (h0 : ∀ e, tC X Ss i = .error e → ∀ σ', Frm (PFr p) σ σ' → FLT σ' p e → P 0 σ') : ACi g l D MX6_startsCore [vR 6 (some p)] σ P := by
  obtain ⟨d, rfl⟩ : ∃ d, D = d + 1 := ⟨D - 1, by omega⟩
  have ek := hT.2.2.2.2.2.1
  have ev := hT.2.2.2.2.2.2.1
  have good : ¬ X.k i = 2 → (X.k i = 4 ∨ X.k i = 204 ∨ X.k i = 205 ∨ X.k i = 207 ∨ X.k i = 210 ∨ X.k i = 214 ∨ X.k i = 215 ∨ X.k i = 216) → ∃ r, some (vI 1) = some (vI r) ∧ P r σ := fun _ q => ⟨_, rfl, h1 (by unfold tC; rw [if_pos q])⟩
  refine AC.of mo_X6_startsCore (Nat.le_of_ble_eq_true rfl) (bk_X6_startsCore_0 ?_)
  rw [ek, ev]
  refine ⟨fun z => ⟨dd, h6, x_structNamed hL hS hC ⟨fun y => c_check hX hT (by decide) (fun q => absurd q (by decide)) (fun _ σ' hF hf => ⟨Or.inl rfl, _, rfl, h0 _ ?_ σ' hF hf⟩), fun y => c_check hX hT (by decide) (fun _ => ⟨Or.inr rfl, _, rfl, h1 ?_⟩) (fun q => absurd q (by decide))⟩⟩, fun z => good (by omega) (by omega), fun z => good (by omega) (by omega), fun z => good (by omega) (by omega), fun z => good (by omega) (by omega), fun z => good (by omega) (by omega), fun z => good (by omega) (by omega), fun z => good (by omega) (by omega), fun z => good (by omega) (by omega), fun z1 z2 z3 z4 z5 z6 z7 z8 z9 => c_check hX hT (by decide) (fun q => absurd q (by decide)) (fun _ σ' hF hf => ⟨Or.inl rfl, _, rfl, h0 _ ?_ σ' hF hf⟩)⟩
  · unfold tC; rw [if_neg (by omega), if_pos z, if_pos y]
  · unfold tC; rw [if_neg (by omega), if_pos z, if_neg y]
  · unfold tC; rw [if_neg (by omega), if_neg (by omega)]
end X18
