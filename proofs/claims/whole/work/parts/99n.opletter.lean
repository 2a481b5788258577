/-! letter -/
/-- the name that is paired with a value -/
def prF (En : List Enm) (pr : Int) (v : Int64) : Option Int64 := match En[pr.toNat]? with
  | none => none
  | some E => (E.2.find? (fun e => e.2.1 == v)).map (fun e => e.1)
def pnm (En : List Enm) (Ss : List Stc) (h : Int → Int) (s : TS) (k : Nat) : Option Int64 := if s.d 0 k = 1 then (match gF Ss (s.d 6 k) with
  | none => none
  | some F => if F.pr < 0 then none else prF En F.pr (vlN Ss h s k)) else none
def ltA (En : List Enm) (Ss : List Stc) (h : Int → Int) (s : TS) (k : Nat) (w i : Int) : Int := if w = 0 then ltV (nmN Ss s k) i else if w = 1 then (match pnm En Ss h s k with
  | none => -1
  | some v => ltV v i) else -1
theorem ltV_0 {i : Int} : ltV 0 i = -1 := by
  unfold ltV
  refine if_neg (fun z => z.2.2 ?_)
  rw [byt_U 0 z.1 (by omega)]
  show ((0 / 256 ^ i.toNat % 256 : Nat) : Int) = 0
  rw [Nat.zero_div]
  rfl
theorem kR_z {F : Fld} : kR F = 0 ↔ F.ki = 1 := by
  unfold kR
  constructor
  · intro e
    by_cases q : F.ki = 1
    · exact q
    · exfalso
      by_cases c0 : F.ki = 0
      · rw [if_pos c0] at e; omega
      rw [if_neg c0, if_neg q] at e
      by_cases c2 : F.ki = 2
      · rw [if_pos c2] at e; split at e <;> omega
      rw [if_neg c2] at e
      by_cases c3 : F.ki = 3
      · rw [if_pos c3] at e; omega
      rw [if_neg c3] at e
      by_cases c5 : F.ki = 5
      · rw [if_pos c5] at e; split at e <;> omega
      rw [if_neg c5] at e
      by_cases c6 : F.ki = 6
      · rw [if_pos c6] at e; omega
      rw [if_neg c6] at e
      by_cases c7 : F.ki = 7
      · rw [if_pos c7] at e; omega
      rw [if_neg c7] at e
      by_cases c8 : F.ki = 8
      · rw [if_pos c8] at e; omega
      rw [if_neg c8] at e
      by_cases c9 : F.ki = 9
      · rw [if_pos c9] at e; omega
      rw [if_neg c9] at e; omega
  · intro q
    rw [if_neg (by omega), if_pos q]
section N2
variable {g : GP} {l : Launch} {d e : Nat} {σ σ' σ2 : St} {x m p b dd c : Nat} {A B : DPa} {En : List Enm} {Ss : List Stc} {i len im t k w : Int} {h : Int → Int} {s : TS} {v : Int64} {T : Nat → TS} {I : Nat → Int} {so : Nat → Nat} {fo : Nat → Nat → Nat}
theorem x_pairNm {pr : Int} {P : Int → St → Prop} (hL : LC 1 σ dd) (hD : DCo σ dd c so fo En Ss) (h3 : gI σ 109 dd 0 ≤ 3000) (hp : 0 ≤ pr ∧ pr < En.length) (h1 : prF En pr v = none → P (-1) σ) (h2 : ∀ (w : Int64) (q : Int), prF En pr v = some w → 0 ≤ q → q < 3000 → gJ σ 106 dd q.toNat = w → P q σ) : ACi g l (d + 1) MX1_pairWith [vR 1 (some dd), vI pr, vJ v] σ P := by
  obtain ⟨_, _, e3, e4, e5, _⟩ := hD
  have hget : En[pr.toNat]? = some En[pr.toNat] := List.getElem?_eq_getElem (by omega)
  generalize En[pr.toNat] = E at hget
  obtain ⟨_, b0, ea, en, hb, he⟩ := e5 _ _ hget
  unfold prF at h1 h2
  rw [hget] at h1 h2
  dsimp only at h1 h2
  have loop : ∀ (W : List Ent) (p : Nat), (∀ j e, W[j]? = some e → E.2[p + j]? = some e) → p + W.length = E.2.length → E.2.find? (fun e => e.2.1 == v) = W.find? (fun e => e.2.1 == v) → AW g l d MX1_entryWith 3 [some (vR 1 (some dd)), some (vI (gI σ 103 dd pr.toNat)), some (vI (gI σ 104 dd pr.toNat)), some (vJ v), none, some (vI ((b0 + p : Nat) : Int))] [] σ (fun v σ' => ∃ r, v = some (vI r) ∧ ∃ a, some (vI r) = some (vI a) ∧ P a σ') := by
    intro W
    induction W with
    | nil =>
      intro p _ hp ef
      have hp : p + 0 = E.2.length := hp
      exact bk_X1_entryWith_3 ⟨⟨by omega, by omega⟩, fun _ => ⟨_, rfl, _, rfl, h1 (by rw [ef]; rfl)⟩, fun w => absurd (by omega) w⟩
    | cons y W ih =>
      intro p hE hp ef
      have hp : p + (W.length + 1) = E.2.length := hp
      have x0 := hE 0 y rfl
      rw [Nat.add_zero] at x0
      obtain ⟨y1, y2, y3⟩ := he p y x0
      rw [List.find?_cons] at ef
      refine bk_X1_entryWith_3 ⟨⟨by omega, by omega⟩, fun w => absurd w (by omega), fun _ => ⟨fun w => absurd w (by omega), fun _ => ⟨hL, ⟨by omega, by omega⟩, ?_⟩⟩⟩
      rw [Int.toNat_natCast, y2]
      refine ⟨fun w => ⟨⟨by omega, by omega⟩, ?_⟩, fun w => ⟨_, rfl, _, rfl, ?_⟩⟩
      · rw [show (y.2.1 == v) = false by simp [w]] at ef
        rw [show ((b0 + p : Nat) : Int) + 1 = ((b0 + (p + 1) : Nat) : Int) by omega]
        exact ih (p + 1) (fun j e hj => by rw [show p + 1 + j = p + (j + 1) by omega]; exact hE (j + 1) e hj) (by omega) ef
      · rw [show (y.2.1 == v) = true by simp [w]] at ef
        exact h2 y.1 _ (by rw [ef]; rfl) (by omega) (by omega) (by rw [Int.toNat_natCast]; exact y1)
  refine AC.of mo_X1_pairWith (Nat.le_of_ble_eq_true rfl) (bk_X1_pairWith_0 ⟨fun w => absurd w (by omega), fun _ => ⟨fun _ => ⟨hL, ⟨by omega, by omega⟩, AC.of mo_X1_entryWith (Nat.le_of_ble_eq_true rfl) (bk_X1_entryWith_0 ?_)⟩, fun w => absurd (by omega) w⟩⟩)
  have := loop E.2 0 (fun j e hj => by rw [Nat.zero_add]; exact hj) (by omega) rfl
  rw [Nat.add_zero, ← ea] at this
  exact this
theorem m_pairNm {P : Int → St → Prop} {t k : Nat} {fl : Int} {F : Fld} (hR : ImR σ m im len h) (b2 : b < 2) (hb : gI σ 1218 m 0 = (b : Int)) (hD : DR σ m b (3000 * b + 3000) En Ss) (hB : ∀ fl F, gF Ss fl = some F → F.ki = 3 → BiO F.es 0 (8 * tw F.ty) ∧ F.es.length ≤ 12) (ht : t < 7) (hc : s.c ≤ 400) (hN : NdR σ m t b s k) (hV : NdW Ss len s k) (hk : k < s.c) (hF : gF Ss fl = some F) (hp : 0 ≤ F.pr ∧ F.pr < En.length) (h1 : prF En F.pr (vlN Ss h s k) = none → P (-1) σ) (h2 : ∀ (w : Int64) (q : Int), prF En F.pr (vlN Ss h s k) = some w → 0 ≤ q → q < 160 → gJ σ 1226 m q.toNat = rho w → P q σ) : ACi g l (d + 4) MX12_paired [vR 12 (some m), vI ((400 * t + k : Nat) : Int), vI (fxR b fl : Int)] σ P := by
  have fd := fdr_of b2 hD
  obtain ⟨fl5, fr⟩ := fd.2 fl F hF
  have f0 := (gF_some hF).1
  have e30 := fr.1.2.2.2.1
  obtain ⟨_, _, _, l8, hen, _⟩ := id hD
  have hL := hR.1
  have hget : En[F.pr.toNat]? = some En[F.pr.toNat] := List.getElem?_eq_getElem (by omega)
  generalize En[F.pr.toNat] = E at hget
  obtain ⟨_, x2, x3, x4⟩ := hen _ E hget
  unfold prF at h1 h2
  rw [hget] at h1 h2
  dsimp only at h1 h2
  have loop : ∀ (W : List Ent) (p : Nat), (∀ j e, W[j]? = some e → E.2[p + j]? = some e) → p + W.length = E.2.length → E.2.find? (fun e => e.2.1 == vlN Ss h s k) = W.find? (fun e => e.2.1 == vlN Ss h s k) → AW g l (d + 4) MX12_paired 25 [some (vR 12 (some m)), none, none, some (vI ((8 * b + F.pr.toNat : Nat) : Int)), some (vJ (vlN Ss h s k)), none, some (vI (p : Int))] [] σ (fun v σ' => ∃ r, v = some (vI r) ∧ P r σ') := by
    intro W
    induction W with
    | nil =>
      intro p _ hp' ef
      have hp' : p + 0 = E.2.length := hp'
      refine bk_X12_paired_25 ⟨hL, ⟨by omega, by omega⟩, ?_⟩
      rw [Int.toNat_natCast, x2]
      exact ⟨fun _ => ⟨_, rfl, h1 (by rw [ef]; rfl)⟩, fun w => absurd (by omega) w⟩
    | cons y W ih =>
      intro p hW hp' ef
      have hp' : p + (W.length + 1) = E.2.length := hp'
      have hy : E.2[p]? = some y := hW 0 y rfl
      obtain ⟨y1, y2⟩ := x4 p y hy
      rw [List.find?_cons] at ef
      refine bk_X12_paired_25 ⟨hL, ⟨by omega, by omega⟩, ?_⟩
      rw [Int.toNat_natCast, x2]
      refine ⟨fun w => absurd w (by omega), fun _ => ⟨⟨by omega, by omega⟩, ⟨by omega, by omega⟩, ⟨by omega, by omega⟩, ?_⟩⟩
      have en : (10 * ((8 * b + F.pr.toNat : Nat) : Int) + (p : Int)).toNat = 10 * (8 * b + F.pr.toNat) + p := by omega
      rw [en, y2]
      refine ⟨fun w => ⟨⟨by omega, by omega⟩, ?_⟩, fun w => ⟨_, rfl, ?_⟩⟩
      · rw [show (y.2.1 == vlN Ss h s k) = false by simp [w]] at ef
        rw [show (p : Int) + 1 = ((p + 1 : Nat) : Int) by omega]
        exact ih (p + 1) (fun j e he => by rw [show p + 1 + j = p + (j + 1) by omega]; exact hW (j + 1) e he) (by omega) ef
      · rw [show (y.2.1 == vlN Ss h s k) = true by simp [w]] at ef
        exact h2 y.1 _ (by rw [ef]; rfl) (by omega) (by omega) (by rw [en]; exact y1)
  refine AC.of mo_X12_paired (Nat.le_of_ble_eq_true rfl) (bk_X12_paired_0 ?_)
  rw [Int.toNat_natCast, e30, hb]
  refine ⟨⟨by omega, by omega⟩, hL, ⟨by unfold fxR; omega, by unfold fxR; omega⟩, ⟨by omega, by omega⟩, fun z5 hz => m_valueOf hR fd hB (by omega) ht hN hV ?_⟩
  rw [show z5 = ((8 * b + F.pr.toNat : Nat) : Int) by omega]
  exact loop E.2 0 (fun j e he => by rw [Nat.zero_add]; exact he) (by omega) rfl
/-- the reference's letter of a node -/
theorem m_letterN {P : Int → St → Prop} {t k : Nat} (hR : ImR σ m im len h) (b2 : b < 2) (hb : gI σ 1218 m 0 = (b : Int)) (hD : DR σ m b (3000 * b + 3000) En Ss) (hW : NmW En Ss) (hB : ∀ fl F, gF Ss fl = some F → F.ki = 3 → BiO F.es 0 (8 * tw F.ty) ∧ F.es.length ≤ 12) (ht : t < 7) (hN : ∀ i, i < s.c → NdR σ m t b s i) (hI : TI Ss len s) (hU : TU Ss len s) (hJ : JT Ss s) (hk : k < s.c) (hP : P (ltA En Ss h s k w i) σ) : AW g l (d + 5) MX12_letter_ 34 [some (vR 12 (some m)), none, none, some (vI w), some (vI i), some (vI ((400 * t + k : Nat) : Int)), none, none, none, none, none] [vJ (if w = 0 then rho (nmN Ss s k) else 0)] σ (fun v σ' => ∃ r, v = some (vI r) ∧ P r σ') := by
  have c400 := hI.1
  have fd := fdr_of b2 hD
  obtain ⟨r1, _, _, _, _, r6, r7, _⟩ := hN k hk
  obtain ⟨_, v2, v3, v4, _⟩ := (hI.2 k hk).1
  unfold ltA at hP
  by_cases w0 : w = 0
  · rw [if_pos w0] at hP ⊢
    exact bk_X12_letter__34 ⟨fun _ => m_letters (nmN_n hW hI hk) hP, fun z => by omega⟩
  · rw [if_neg w0] at hP ⊢
    have zero : ∀ {Q : Int → St → Prop}, Q (-1) σ → AW g l (d + 5) MX12_letter_ 122 [none, none, none, none, some (vI i), none, some (vJ 0), none, some (vI 0), some (vJ 0), none] [] σ (fun v σ' => ∃ r, v = some (vI r) ∧ Q r σ') := fun {Q} q => by
      have := m_letters (g := g) (l := l) (d := d + 4) (σ := σ) (v := 0) (i := i) (P := Q) (Or.inr rfl) (by rw [ltV_0]; exact q)
      rw [rho_zero] at this
      exact this
    by_cases w1 : w = 1
    · rw [if_pos w1] at hP
      unfold pnm at hP
      refine bk_X12_letter__34 ⟨fun z => absurd w1 z, fun _ => ?_⟩
      rw [Int.toNat_natCast, r1, r7]
      refine ⟨hR.1, ⟨by omega, by omega⟩, fun z => zero ?_, fun z => ?_⟩
      · rw [if_neg z] at hP; exact hP
      · rw [if_pos z] at hP
        rcases v3 with v3 | ⟨q0, F, hF, q2, q3⟩
        · omega
        obtain ⟨f280, fr⟩ := fd.2 _ F hF
        obtain ⟨_, _, _, n4, n5⟩ := hW.2.1 _ F hF
        rw [hF] at hP
        dsimp only at hP
        rw [if_neg (by omega), show (((280 * b : Nat) : Int) + s.d 6 k).toNat = 280 * b + (s.d 6 k).toNat by omega, fr.2.1, fr.1.2.2.2.1, kR_z]
        refine ⟨⟨by omega, by omega⟩, fun y => zero ?_, fun y => ⟨fun y2 => zero ?_, fun y2 => ?_⟩⟩
        · rw [if_pos (by have := n4 y; omega)] at hP; exact hP
        · rw [if_pos y2] at hP; exact hP
        · rw [if_neg y2] at hP
          have pb := n5 y
          rw [show ((280 * b : Nat) : Int) + s.d 6 k = (fxR b (s.d 6 k) : Int) by unfold fxR; omega]
          refine m_pairNm hR b2 hb hD hB ht c400 (hN k hk) (hI.ndw hU hk) hk hF ⟨by omega, pb.2⟩ (fun en => ⟨fun q => absurd q (by decide), fun _ => zero ?_⟩) (fun u q eu q0 q1 qj => ⟨fun _ => ⟨hR.1, ⟨q0, by omega⟩, ?_⟩, fun q => absurd q0 q⟩)
          · rw [en] at hP; exact hP
          · rw [eu] at hP
            rw [qj]
            refine m_letters (Or.inl ?_) hP
            unfold prF at eu
            have hget : En[F.pr.toNat]? = some En[F.pr.toNat] := List.getElem?_eq_getElem (by omega)
            rw [hget] at eu
            dsimp only at eu
            obtain ⟨x, x1, x2⟩ := map_inv eu
            rw [← x2]
            exact hW.2.2 _ _ hget x (List.mem_of_find?_eq_some x1)
    · rw [if_neg w1] at hP
      exact bk_X12_letter__34 ⟨fun _ => zero hP, fun z => absurd z w1⟩
theorem op_letter (hI : ImgI σ x m) (hD : DsI σ x m p A B En Ss b) (hT : TreI σ x m A.2.2.2 Ss b T I) : ACi g l (d + 6) MX11_letter [vR 11 (some x), vI t, vI k, vI w, vI i] σ (fun a σ1 => ACi g l (d + 6) MX12_letter_ [vR 12 (some m), vI t, vI k, vI w, vI i] σ1 (fun r σ2 => a = r ∧ Frm (fun f r => r = m ∧ LkF f r) σ σ2)) := by
  obtain ⟨i1, i2, i3, i4, i5, i6, i7, i8, i9⟩ := id hI
  obtain ⟨hW, hsz, hB⟩ := hD.lw
  have nw := hD.nmw
  obtain ⟨⟨x1, _⟩, ⟨s1, _⟩, _, ⟨d1, _, _, d4⟩, ⟨y1, y2, y3⟩, _⟩ := id hD
  have none' : ¬ ((0 ≤ t ∧ t < gI σ 1110 x 0) ∧ (0 ≤ k ∧ k < (T t.toNat).c)) → ACi g l (d + 6) MX12_letter_ [vR 12 (some m), vI t, vI k, vI w, vI i] σ (fun r σ2 => (-1 : Int) = r ∧ Frm (fun f r => r = m ∧ LkF f r) σ σ2) := fun q =>
    AC.of mo_X12_letter_ (Nat.le_of_ble_eq_true rfl) (bk_X12_letter__0 (m_isNode i2 y1 hT (fun _ => ⟨fun z => absurd rfl z, fun _ => ⟨_, rfl, rfl, Frm.rfl⟩⟩) (fun t0 t1 k0 k1 => absurd ⟨⟨t0, t1⟩, k0, k1⟩ q)))
  refine AC.of mo_X11_letter (Nat.le_of_ble_eq_true rfl) (bk_X11_letter_0 (x_treeOf i1 hT (fun q => x_nodeOf i1 hT (fun q2 => ⟨fun _ => ⟨_, rfl, none' q2⟩, (fun r z => nomatch z)⟩) (fun t0 t1 => absurd ⟨t0, t1⟩ q)) (fun t0 t1 tr f1 o1 v1 => x_nodeOf i1 hT (fun q2 => ⟨(fun z => nomatch z), fun r er => ⟨fun _ => ⟨_, rfl, none' q2⟩, (fun r z => nomatch z)⟩⟩) (fun _ _ k0 k1 tr' f1' _ _ => ⟨(fun z => nomatch z), fun r er => ⟨(fun z => nomatch z), fun r7 er7 => ?_⟩⟩))))
  rw [f1] at f1'
  cases f1'
  cases er
  cases er7
  have kc : k.toNat < (T t.toNat).c := by omega
  have c4 := v1.2.1.2.2.2.1
  have a2 := hT.1.2.1
  have him := v1.1.1
  obtain ⟨q1, q2, q3⟩ := i7 (I t.toNat) him.1 him.2
  have l304 : gI σ 304 (img σ x (I t.toNat)) 0 = gI σ 1201 m (I t.toNat).toNat := q3.1
  have c304 := q2.2.1
  obtain ⟨w1, w2⟩ := v1.2.2.2.2.2.2.1
  have jt := v1.2.2.2.2.2.2.2.2.1
  obtain ⟨nc, nj⟩ := v1.2.2.2.1 k.toNat kc
  have ek : ((400 * t.toNat + k.toNat : Nat) : Int) = 400 * t + k := by omega
  have ref : ∀ a : Int, ltA En Ss (fun q => hasM σ m (I t.toNat) q) (T t.toNat) k.toNat w i = a → ACi g l (d + 6) MX12_letter_ [vR 12 (some m), vI t, vI k, vI w, vI i] σ (fun r σ2 => a = r ∧ Frm (fun f r => r = m ∧ LkF f r) σ σ2) := by
    intro a ha
    refine AC.of mo_X12_letter_ (Nat.le_of_ble_eq_true rfl) (bk_X12_letter__0 (m_isNode i2 y1 hT (fun q => absurd ⟨⟨t0, t1⟩, k0, k1⟩ q) (fun _ _ _ _ σ1 F1 h80 h81 h53 => ⟨fun _ => ⟨⟨by omega, by omega⟩, ⟨by omega, by omega⟩, ?_⟩, fun z => absurd z (by decide)⟩)))
    have I1 : ImgI σ1 x m := hI.fr F1.fr (fun f r z q => by have := q.2; omega)
    have eI : ∀ f j, ¬ LkF f m → gI σ1 f m j = gI σ f m j := fun f j z => F1.I (fun q => z q.2) j
    have ir := imr_of (im := I t.toNat) I1 ⟨him.1, by rw [F1.I (fun q => by have := q.2; omega)]; exact him.2⟩ h81
    have eh : (fun q => hasM σ1 m (I t.toNat) q) = fun q => hasM σ m (I t.toNat) q := by
      funext q
      unfold hasM
      rw [eI 1203 _ (by omega), eI 1202 _ (by omega)]
      exact hv_congr (fun i _ => eI 1204 _ (by omega)) rfl
    rw [eh, eI 1201 _ (by omega)] at ir
    have D1 : DR σ1 m b (3000 * b + 3000) En Ss := y3.ag (fun f i z => ⟨eI f i (by omega), F1.J (fun q => by have := q.2; omega) i⟩)
    have b1 : gI σ1 1218 m 0 = (b : Int) := by rw [eI _ _ (by omega)]; exact y1
    have N1 : ∀ i, i < (T t.toNat).c → NdR σ1 m t.toNat b (T t.toNat) i := fun i hi => (v1.2.2.2.2.1 i hi).ag (fun f j z0 z1 => eI f _ (by omega))
    have lt := m_letterN (g := g) (l := l) (d := d + 1) (w := w) (i := i) (P := fun r σ2 => a = r ∧ Frm (fun f r => r = m ∧ LkF f r) σ σ2) ir y2 b1 D1 nw hB (show t.toNat < 7 by omega) N1 w1 w2 jt kc ⟨ha.symm, F1⟩
    rw [ek] at lt
    refine ⟨fun z => by rw [if_neg z] at lt; exact lt, fun z => ?_⟩
    rw [← ek] at lt ⊢
    refine m_nameOf ir.1 y2 b1 D1 nw (show t.toNat < 7 by omega) N1 w1 jt kc ?_
    rw [if_pos z] at lt
    exact lt
  obtain ⟨_, _, v3, _, v5⟩ := (w1.2 k.toNat kc).1
  rw [nc.1, nc.2.2.2.2.2.2.1]
  unfold ltA at ref
  refine ⟨fun z => ⟨fun z1 => ⟨_, rfl, ref _ (by rw [if_neg z, if_neg z1])⟩, fun z1 => ?_⟩, fun z => ?_⟩
  · rw [if_neg z, if_pos z1] at ref
    unfold pnm at ref
    refine ⟨fun k1 => ⟨_, rfl, ref _ (by rw [if_neg k1])⟩, fun k1 => ?_⟩
    rw [if_pos k1] at ref
    rcases v3 with v3 | ⟨q0, F, hF, q2', q3'⟩
    · omega
    rw [hF] at ref
    dsimp only at ref
    unfold oF
    rw [if_neg (by omega)]
    refine ⟨(fun z => nomatch z), fun r12 e12 => ?_⟩
    cases e12
    have fc := hD.fdc _ F hF
    obtain ⟨_, _, _, n4, n5⟩ := nw.2.1 _ F hF
    rw [fc.2.2.2.2.2.2.1]
    refine ⟨fun y => ?_, fun y => ⟨_, rfl, ref _ (by rw [if_pos (by omega)])⟩⟩
    have pb : 0 ≤ F.pr ∧ F.pr < En.length := by
      by_cases z : F.ki = 1
      · have := n5 z; omega
      · exact absurd (n4 z) y
    rw [if_neg (by omega)] at ref
    rw [v1.1.2.1]
    refine x_reading (h := fun q => hasM σ m (I t.toNat) q) (len := gI σ 1201 m (I t.toNat).toNat) q2.1 l304 (by omega) (fun q a0 a1 => q3.has q2 a0 (by omega)) nc (w1.ndw w2 kc) (hD.fdc _) ⟨A.1, x1, ?_⟩
    refine x_pairNm s1.1 d1 d4 pb (fun en => ⟨fun z => absurd rfl z, fun _ => ⟨_, rfl, ref _ (by rw [en])⟩⟩) (fun u q eu q0 q1 qj => ⟨fun _ => ⟨A.1, x1, s1.1, ⟨q0, by omega⟩, x_letterOf ⟨_, rfl, ref _ ?_⟩⟩, fun z => by omega⟩)
    rw [eu, qj]
  · refine x_letterOf ⟨_, rfl, ref _ ?_⟩
    rw [if_pos z, nj, v5, Int64.ofInt_toInt]
end N2
