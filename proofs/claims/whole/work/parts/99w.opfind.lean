/-! find -/
/-- the kid of node n that token i names, or -1 -/
def kdT (Ss : List Stc) (s : TS) (X : Txt) (i n : Nat) : Int := if X.k i = 2 then (match (s.k n).find? (fun a => nmN Ss s a == X.v i) with
  | some a => (a : Int)
  | none => -1) else if X.k i = 3 then kdN s n (X.v i).toInt else -1
def fnd (Ss : List Stc) (s : TS) (X : Txt) : Nat → Nat → Nat → Int
  | 0, _, n => n
  | f + 1, i, n => if X.k i = 0 then (n : Int) else if kdT Ss s X i n < 0 then -10 - (i : Int) else fnd Ss s X f (i + 1) (kdT Ss s X i n).toNat
abbrev FdF (f _r : Nat) : Prop := (901 ≤ f ∧ f ≤ 905) ∨ f = 1211 ∨ (1213 ≤ f ∧ f ≤ 1217) ∨ f = 1253 ∨ f = 1280 ∨ f = 1281
section W1
variable {g : GP} {l : Launch} {d e : Nat} {σ σ1 σ2 : St} {x m p b tr n i : Nat} {A B : DPa} {En : List Enm} {Ss : List Stc} {T : Nat → TS} {I : Nat → Int} {len im t k : Int} {h : Int → Int} {v : Int64} {fo : Nat → Nat → Nat} {s : TS} {no : Nat → Nat} {X : Txt}
/-- the tape's tokens, by both -/
theorem x_splitX {P : St → Prop} (hS : SOK g) (hT : TapI σ x m) (hK : ∀ i : Int, gJ σ 906 (tpe σ x) i.toNat = kwd i) (hP : ∀ (σ3 : St) (X : Txt), X.OK → X.T = (fun z => gI σ 1210 m z.toNat) → X.n = gI σ 1211 m 0 → Frm (fun f r => r = tpe σ x ∧ (901 ≤ f ∧ f ≤ 905)) σ σ3 → gI σ3 901 (tpe σ x) 0 = 0 → TokC kwd σ3 (tpe σ x) X.T X.n ((X.K : Int) + 1) → P σ3) : ACv g l (d + 4) MX9_split [vR 9 (some (tpe σ x))] σ P := by
  obtain ⟨t1, t2, t3, t4, t5, t6, t7, t8, t9⟩ := id hT
  refine x_split hS t2 t8.1 t8.2 t7 (fun _ => rfl) hK (fun i h0 h1 => by rw [(t9 i h0 h1).1]; exact (t9 i h0 h1).2) (fun σ3 spl => ?_)
  obtain ⟨F3, n901, K, tok, qK, ql, Kn⟩ := spl
  have hA : ∀ z : Int, 0 ≤ z → z < gI σ 1211 m 0 → gI σ 900 (tpe σ x) z.toNat = gI σ 1210 m z.toNat := fun z h0 h1 => (t9 z h0 h1).1
  obtain ⟨X, hXT, hXn, hXK⟩ : ∃ X : Txt, X.T = (fun z => gI σ 1210 m z.toNat) ∧ X.n = gI σ 1211 m 0 ∧ X.K = K := ⟨(_, _, K), rfl, rfl, rfl⟩
  have qe := fun i => qs_c (T := fun i => gI σ 900 (tpe σ x) i.toNat) (T' := fun z => gI σ 1210 m z.toNat) t8.1 hA i
  have hX : X.OK := by
    refine ⟨by rw [hXn]; exact t8.1, by rw [hXn]; exact t8.2, fun i h0 h1 => ?_, ?_, fun i hi => ?_, ?_⟩
    · rw [hXT]; rw [hXn] at h1; exact (t9 i h0 h1).2
    · show qs X.T X.n X.K = X.n; rw [hXT, hXn, hXK, ← qe K]; exact qK
    · show qs X.T X.n i < X.n; rw [hXT, hXn, ← qe i]; exact ql i (by omega)
    · rw [hXK, hXn]; exact Kn
  have tok' : TokC kwd σ3 (tpe σ x) X.T X.n ((X.K : Int) + 1) := by rw [hXT, hXn, hXK]; exact TokC_c t8.1 hA tok
  exact hP σ3 X hX hXT hXn (F3.mono (fun f r q => ⟨q.1, by have := q.2; omega⟩)) n901 tok'
/-- the tape is read up -/
theorem tap_e (hT : TapI σ x m) (h1 : gR σ1 1102 x 0 = gR σ 1102 x 0) (h2 : LC 9 σ1 (tpe σ x)) (h3 : hs σ1 = hs σ) (h4 : LC 12 σ1 m) (h5 : gI σ1 901 (tpe σ x) 0 = 0) (h6 : gI σ1 1211 m 0 = 0) : TapI σ1 x m := by
  obtain ⟨t1, t2, t3, t4, t5, t6, t7, t8, t9⟩ := hT
  have et : tpe σ1 x = tpe σ x := by unfold tpe; rw [h1]
  refine ⟨by rw [et, h1]; exact t1, by rw [et]; exact h2, by rw [et, h3]; exact t3, by rw [h3]; exact t4, by rw [h3]; exact t5, h4, by rw [et, h5, h6], by rw [h6]; omega, fun k k0 k1 => by rw [h6] at k1; omega⟩
theorem x_kidNamed {P : Option Nat → St → Prop} (hN : NdC σ no fo Ss s n) (hj : ∀ a ∈ s.k n, gJ σ 506 (no a) 0 = nmN Ss s a) (hP : P (((s.k n).find? (fun a => nmN Ss s a == v)).map no) σ) : ACr g l d MX5_kidNamed 5 [vR 5 (some (no n)), vJ v] σ P := by
  obtain ⟨_, _, _, _, _, _, _, _, _, n10, _, n12, _⟩ := hN
  have loop : ∀ (W : List Nat) (q : Nat), (∀ j a, W[j]? = some a → (s.k n)[q + j]? = some a) → q + W.length = (s.k n).length → (s.k n).find? (fun a => nmN Ss s a == v) = W.find? (fun a => nmN Ss s a == v) → AW g l d MX5_kidNamed 5 [none, some (vJ v), none, some (vR 5 ((s.k n)[q]?.map no))] [] σ (fun v' σ' => ∃ r, v' = some (vR 5 r) ∧ P r σ') := by
    intro W
    induction W with
    | nil =>
      intro q _ hl ef
      have hl : q + 0 = (s.k n).length := hl
      rw [List.getElem?_eq_none (by omega)]
      refine bk_X5_kidNamed_5 ⟨fun _ => ⟨_, rfl, ?_⟩, (fun r z => nomatch z)⟩
      rw [ef] at hP; exact hP
    | cons a W ih =>
      intro q hW hl ef
      have hl : q + (W.length + 1) = (s.k n).length := hl
      have ha := hW 0 a rfl
      rw [Nat.add_zero] at ha
      rw [List.find?_cons] at ef
      rw [ha]
      refine bk_X5_kidNamed_5 ⟨(fun z => nomatch z), fun r1 er => ?_⟩
      cases er
      rw [hj a (List.mem_of_getElem? ha)]
      refine ⟨fun z => ?_, fun z => ⟨_, rfl, ?_⟩⟩
      · rw [show (nmN Ss s a == v) = false by simp [z]] at ef
        rw [n12 q a ha]
        exact ih (q + 1) (fun j c hc => by rw [show q + 1 + j = q + (j + 1) by omega]; exact hW (j + 1) c hc) (by omega) ef
      · rw [show (nmN Ss s a == v) = true by simp [z]] at ef
        rw [ef] at hP; exact hP
  refine AC.of mo_X5_kidNamed (Nat.le_of_ble_eq_true rfl) (bk_X5_kidNamed_0 ?_)
  rw [n10]
  exact loop (s.k n) 0 (fun j a ha => by rw [Nat.zero_add]; exact ha) (by omega) rfl
/-- the reference's kid by name -/
theorem m_kidByName {x3 : Int} {Q : Option AV → St → Prop} {t : Nat} (hX : X.OK) (hR : RT σ m X i) (hk2 : X.k i = 2) (b2 : b < 2) (hb : gI σ 1218 m 0 = (b : Int)) (hD : DR σ m b (3000 * b + 3000) En Ss) (hW : NmW En Ss) (ht : t < 7) (hN : ∀ i, i < s.c → NdR σ m t b s i) (hI : TI Ss len s) (hJ : JT Ss s) (hn : n < s.c) (hQ : AW g l (d + 3) MX12_find 112 [some (vR 12 (some m)), none, none, some (vI x3), some (vI (oI t (kdT Ss s X i n))), none] [] σ Q) : AW g l (d + 3) MX12_find 65 [some (vR 12 (some m)), none, none, some (vI x3), some (vI (-1)), some (vI (gI σ 1276 m (400 * t + n)))] [] σ Q := by
  have c400 := hI.1
  obtain ⟨r11, _, r13⟩ := (hN n hn).x
  have kk := (hI.2 n hn).2.1.2.1
  obtain ⟨_, _, _, _, s5, _⟩ := RT.sort hX hR
  obtain ⟨w16, isn⟩ := s5 hk2
  unfold kdT at hQ
  rw [if_pos hk2] at hQ
  have fin : ∀ (a : Nat) (y : Int), a < s.c → AW g l (d + 3) MX12_find 112 [some (vR 12 (some m)), none, none, some (vI x3), some (vI ((400 * t + a : Nat) : Int)), none] [] σ Q → AW g l (d + 3) MX12_find 65 [some (vR 12 (some m)), none, none, some (vI x3), some (vI ((400 * t + a : Nat) : Int)), some (vI y)] [] σ Q := fun a y ha hq => bk_X12_find_65 ⟨fun _ => hq, fun _ => ⟨fun _ => hq, fun z => absurd (by omega) z⟩⟩
  have loop : ∀ (W : List Nat) (q : Nat), (∀ j a, W[j]? = some a → (s.k n)[q + j]? = some a) → q + W.length = (s.k n).length → (s.k n).find? (fun a => nmN Ss s a == X.v i) = W.find? (fun a => nmN Ss s a == X.v i) → AW g l (d + 3) MX12_find 65 [some (vR 12 (some m)), none, none, some (vI x3), some (vI (-1)), some (vI (oX t (s.k n)[q]?))] [] σ Q := by
    intro W
    induction W with
    | nil =>
      intro q _ hl ef
      have hl : q + 0 = (s.k n).length := hl
      rw [List.getElem?_eq_none (by omega)]
      rw [ef] at hQ
      refine bk_X12_find_65 ⟨fun _ => ?_, fun z => absurd (show (-1 : Int) < 0 by decide) z⟩
      exact hQ
    | cons a W ih =>
      intro q hW' hl ef
      have hl : q + (W.length + 1) = (s.k n).length := hl
      have ha := hW' 0 a rfl
      rw [Nat.add_zero] at ha
      have ac := (kk a (List.mem_of_getElem? ha)).1
      rw [List.find?_cons] at ef
      rw [ha]
      show AW g l (d + 3) MX12_find 65 [some (vR 12 (some m)), none, none, some (vI x3), some (vI (-1)), some (vI ((400 * t + a : Nat) : Int))] [] σ Q
      refine bk_X12_find_65 ⟨fun z => absurd z (by omega), fun _ => ⟨fun z => absurd z (by decide), fun _ => r_isName hX hR ?_⟩⟩
      rw [if_pos hk2]
      refine ⟨fun z => absurd z (by decide), fun _ => m_nameOf hR.1 b2 hb hD hW ht hN hI hJ ac ?_⟩
      rw [w16, Int.toNat_natCast, r13 q a ha]
      have key : rho (nmN Ss s a) = rho (X.v i) ↔ nmN Ss s a = X.v i := by
        rcases nmN_n hW hI ac with z | z
        · exact rho_iff z isn
        · rw [z, rho_zero]
          exact ⟨fun y => absurd y.symm isn.nm.nz.2, fun y => absurd y.symm isn.nz⟩
      refine ⟨fun z => ⟨hR.1, ⟨by omega, by omega⟩, ?_⟩, fun z => ⟨hR.1, ⟨by omega, by omega⟩, ?_⟩⟩
      · have z : ¬ nmN Ss s a = X.v i := fun y => z (key.mpr y)
        rw [show (nmN Ss s a == X.v i) = false by simp [z]] at ef
        exact ih (q + 1) (fun j c hc => by rw [show q + 1 + j = q + (j + 1) by omega]; exact hW' (j + 1) c hc) (by omega) ef
      · have z := key.mp z
        rw [show (nmN Ss s a == X.v i) = true by simp [z]] at ef
        rw [ef] at hQ
        refine fin a _ ac ?_
        have e : oI t (a : Int) = ((400 * t + a : Nat) : Int) := by unfold oI; rw [if_neg (by omega)]; omega
        dsimp only at hQ
        rw [e] at hQ
        exact hQ
  rw [r11]
  exact loop (s.k n) 0 (fun j a ha => by rw [Nat.zero_add]; exact ha) (by omega) rfl
theorem kdN_b {q : Int} (hk : ∀ a ∈ s.k n, a < s.c) : -1 ≤ kdN s n q ∧ kdN s n q < s.c := by
  unfold kdN
  by_cases c : q < 0
  · rw [if_pos c]; exact ⟨Int.le_refl _, by omega⟩
  · rw [if_neg c]
    cases e : (s.k n)[q.toNat]? with
    | none => exact ⟨Int.le_refl _, by show (-1 : Int) < s.c; omega⟩
    | some a =>
      have := hk a (List.mem_of_getElem? e)
      exact ⟨by show (-1 : Int) ≤ a; omega, by show (a : Int) < s.c; omega⟩
theorem kdT_b (hI : TI Ss len s) (hn : n < s.c) : -1 ≤ kdT Ss s X i n ∧ kdT Ss s X i n < s.c := by
  have kk := (hI.2 n hn).2.1.2.1
  unfold kdT
  by_cases c2 : X.k i = 2
  · rw [if_pos c2]
    cases e : (s.k n).find? (fun a => nmN Ss s a == X.v i) with
    | none => exact ⟨Int.le_refl _, by show (-1 : Int) < s.c; omega⟩
    | some a =>
      have := (kk a (List.mem_of_find?_eq_some e)).1
      exact ⟨by show (-1 : Int) ≤ a; omega, by show (a : Int) < s.c; omega⟩
  · rw [if_neg c2]
    by_cases c3 : X.k i = 3
    · rw [if_pos c3]
      exact kdN_b (fun a ha => (kk a ha).1)
    · rw [if_neg c3]; exact ⟨Int.le_refl _, by omega⟩
/-- the reference's search -/
theorem m_find {P : Int → St → Prop} {t : Nat} (hX : X.OK) (b2 : b < 2) (hb : gI σ 1218 m 0 = (b : Int)) (hD : DR σ m b (3000 * b + 3000) En Ss) (hW : NmW En Ss) (ht : t < 7) (h80 : gI σ 1280 m 0 = (t : Int)) (hN : ∀ i, i < s.c → NdR σ m t b s i) (hI : TI Ss len s) (hJ : JT Ss s) (h0 : 0 < s.c) (hR0 : RT σ m X 0) (hP : ∀ σ', Frm (fun f r => r = m ∧ (f = 1211 ∨ (1213 ≤ f ∧ f ≤ 1217))) σ σ' → gI σ' 1211 m 0 = 0 → P (fnd Ss s X (X.K + 1) 0 0) σ') : AW g l (d + 3) MX12_find 28 [some (vR 12 (some m)), none, some (vI (400 * (t : Int))), some (vI 0), none, none] [] σ (fun v σ' => ∃ r, v = some (vI r) ∧ P r σ') := by
  have c400 := hI.1
  have K3 : X.K ≤ 3000 := by have := hX.hKn; have := hX.h3; omega
  have loop : ∀ (f i n : Nat) (τ : St), i + f = X.K + 1 → i ≤ X.K → n < s.c → Frm (fun f r => r = m ∧ (1213 ≤ f ∧ f ≤ 1217)) σ τ → RT τ m X i → fnd Ss s X (X.K + 1) 0 0 = fnd Ss s X f i n → AW g l (d + 3) MX12_find 28 [some (vR 12 (some m)), none, some (vI ((400 * t + n : Nat) : Int)), some (vI (i : Int)), none, none] [] τ (fun v σ' => ∃ r, v = some (vI r) ∧ P r σ') := by
    intro f
    induction f with
    | zero => intro i n τ hf hi; omega
    | succ f ih =>
      intro i n τ hf hi hn F hR ef
      have aI : ∀ f j, ¬ (1213 ≤ f ∧ f ≤ 1217) → gI τ f m j = gI σ f m j ∧ gJ τ f m j = gJ σ f m j := fun f j z => ⟨F.I (fun q => z q.2) j, F.J (fun q => z q.2) j⟩
      have Nτ : ∀ i, i < s.c → NdR τ m t b s i := fun i hi => (hN i hi).ag (fun f j z0 z1 => (aI f _ (by omega)).1)
      have Dτ : DR τ m b (3000 * b + 3000) En Ss := hD.ag (fun f j z => aI f j (by omega))
      have bτ : gI τ 1218 m 0 = (b : Int) := by rw [(aI _ _ (by decide)).1]; exact hb
      obtain ⟨s1, s2, s3, s4, s5, s6, s7, s8⟩ := RT.sort hX hR
      have fe : fnd Ss s X (f + 1) i n = if X.k i = 0 then (n : Int) else if kdT Ss s X i n < 0 then -10 - (i : Int) else fnd Ss s X f (i + 1) (kdT Ss s X i n).toNat := rfl
      rw [fe] at ef
      have kb := kdT_b (X := X) (i := i) hI hn
      -- behind the kid
      have s112 : ¬ X.k i = 0 → AW g l (d + 3) MX12_find 112 [some (vR 12 (some m)), none, none, some (vI (i : Int)), some (vI (oI t (kdT Ss s X i n))), none] [] τ (fun v σ' => ∃ r, v = some (vI r) ∧ P r σ') := fun nz => by
        rw [if_neg nz] at ef
        by_cases q : kdT Ss s X i n < 0
        · have e : oI t (kdT Ss s X i n) = -1 := by unfold oI; rw [if_pos q]
          rw [if_pos q] at ef
          rw [e]
          refine bk_X12_find_112 ⟨fun z => absurd z (by decide), fun _ => ⟨⟨by omega, by omega⟩, _, rfl, ?_⟩⟩
          rw [← ef]
          exact hP _ ((F.mono (fun f r q => ⟨q.1, by have := q.2; omega⟩)).trans (Frm.sI ⟨rfl, by omega⟩)) (gI_slf _ _ _ _ _)
        · have e : oI t (kdT Ss s X i n) = ((400 * t + (kdT Ss s X i n).toNat : Nat) : Int) := by unfold oI; rw [if_neg q]; omega
          rw [if_neg q] at ef
          have iK : i < X.K := by
            have : ¬ i = X.K := fun z => nz (s6.mpr z)
            omega
          rw [e]
          refine bk_X12_find_112 ⟨fun _ => ⟨⟨by omega, by omega⟩, r_next hX hR (fun σ3 F3 R3 => ?_)⟩, fun z => absurd (by omega) z⟩
          have nx : X.nx i = i + 1 := by unfold Txt.nx; rw [if_pos iK]
          rw [nx] at R3
          rw [show (i : Int) + 1 = ((i + 1 : Nat) : Int) by omega]
          exact ih (i + 1) _ σ3 (by omega) (by omega) (by omega) (F.trans F3) R3 ef
      refine bk_X12_find_28 ⟨fun z => ?_, fun z => ⟨fun z2 => ⟨hR.1, ⟨by omega, by omega⟩, ?_⟩, fun z2 => ?_⟩⟩
      · have k0 := s1.mp z
        rw [if_pos k0] at ef
        have F' : Frm (fun f r => r = m ∧ (f = 1211 ∨ (1213 ≤ f ∧ f ≤ 1217))) σ (sI τ 1211 m 0 0) := (F.mono (fun f r q => ⟨q.1, by have := q.2; omega⟩)).trans (Frm.sI ⟨rfl, by omega⟩)
        have ow := m_outward (g := g) (l := l) (d := d + 2) (σ := sI τ 1211 m 0 0) (m := m) (t := (t : Int)) (y := (n : Int)) (P := fun r σ' => ∃ a, some (vI r) = some (vI a) ∧ P a σ') (by rw [F'.I (fun q => by omega)]; exact h80) ⟨by omega, by omega⟩ ⟨by omega, by omega⟩ ⟨_, rfl, by rw [← ef]; exact hP _ F' (gI_slf _ _ _ _ _)⟩
        rw [Int.toNat_natCast, show oI t (n : Int) = ((400 * t + n : Nat) : Int) by unfold oI; rw [if_neg (by omega)]; omega] at ow
        exact ow
      · have nz : ¬ X.k i = 0 := fun y => z (s1.mpr y)
        have n3 : ¬ X.k i = 3 := fun y => z2 (s2.mpr y)
        rw [Int.toNat_natCast]
        by_cases c2 : X.k i = 2
        · exact m_kidByName hX hR c2 b2 bτ Dτ hW ht Nτ hI hJ hn (s112 nz)
        · have e : kdT Ss s X i n = -1 := by unfold kdT; rw [if_neg c2, if_neg n3]
          have w := s112 nz
          rw [e] at w
          have w : AW g l (d + 3) MX12_find 112 [some (vR 12 (some m)), none, none, some (vI (i : Int)), some (vI (-1)), none] [] τ (fun v σ' => ∃ r, v = some (vI r) ∧ P r σ') := w
          refine bk_X12_find_65 ⟨fun _ => w, fun _ => ⟨fun y => absurd y (by decide), fun _ => r_isName hX hR ?_⟩⟩
          rw [if_neg c2]
          exact ⟨fun _ => w, fun y => absurd rfl y⟩
      · have k3 := s2.mp z2
        have nz : ¬ X.k i = 0 := by omega
        have e : kdT Ss s X i n = kdN s n (X.v i).toInt := by unfold kdT; rw [if_neg (by omega), if_pos k3]
        have w := s112 nz
        rw [s4 k3]
        have kk := (hI.2 n hn).2.1
        refine m_kidOf hR.1 (Nτ n hn) ht (by omega) c400 (fun a ha => (kk.2.1 a ha).1) (Nat.le_trans (inc_len _ s.c kk.1 (fun x hx => (kk.2.1 x hx).1)) c400) ⟨hR.1, ⟨by omega, by omega⟩, ?_⟩
        rw [← e]
        refine bk_X12_find_65 ⟨fun _ => w, fun _ => ⟨fun _ => w, fun _ => r_isName hX hR ?_⟩⟩
        rw [if_neg (by omega)]
        exact ⟨fun _ => w, fun y => absurd rfl y⟩
  have := loop (X.K + 1) 0 0 σ (by omega) (by omega) h0 Frm.rfl hR0 rfl
  rw [show ((400 * t + 0 : Nat) : Int) = 400 * (t : Int) by omega] at this
  exact this
/-- the class's search -/
theorem x_find {P : Int → St → Prop} (hx : LC 11 σ x) (hX : X.OK) (htp : gR σ 1102 x 0 = some tr) (hL9 : LC 9 σ tr) (tok : TokC kwd σ tr X.T X.n ((X.K : Int) + 1)) (hN : ∀ i, i < s.c → NdC σ no fo Ss s i) (hj : ∀ i, i < s.c → gJ σ 506 (no i) 0 = Int64.ofInt (s.d 10 i)) (h5 : ∀ i : Nat, i < s.c → gI σ 500 (no i) 0 = (i : Int)) (hI : TI Ss len s) (h0 : 0 < s.c) (hP : P (fnd Ss s X (X.K + 1) 0 0) σ) : AW g l (d + 2) MX11_find 22 [some (vR 11 (some x)), none, some (vR 5 (some (no 0))), some (vI 0), none] [] σ (fun v σ' => ∃ r, v = some (vI r) ∧ P r σ') := by
  have c400 := hI.1
  have K3 : X.K ≤ 3000 := by have := hX.hKn; have := hX.h3; omega
  have zK : ∀ i, i ≤ X.K → (X.k i = 0 ↔ i = X.K) := fun i hi => by
    rcases tk_or hX hi with ⟨e1, e, b1, b2⟩ | ⟨hlt, hiK, ⟨b1, b2⟩ | ⟨b1, b2, b3⟩ | ⟨b1, be, b2, b3⟩ | ⟨b1, b2, b3, _, b4⟩ | ⟨b1, ty, ev, _, _, b2⟩⟩
    · omega
    · omega
    · omega
    · omega
    · omega
    · have : X.k i = 2 ∨ 200 ≤ X.k i := by rcases b2 with b2 | ⟨j, _, b2⟩ <;> omega
      omega
  have nj : ∀ a, a < s.c → gJ σ 506 (no a) 0 = nmN Ss s a := fun a ha => by
    rw [hj a ha, (hI.2 a ha).1.2.2.2.2, Int64.ofInt_toInt]
  have loop : ∀ (f i n : Nat), i + f = X.K + 1 → i ≤ X.K → n < s.c → fnd Ss s X (X.K + 1) 0 0 = fnd Ss s X f i n → AW g l (d + 2) MX11_find 22 [some (vR 11 (some x)), none, some (vR 5 (some (no n))), some (vI (i : Int)), none] [] σ (fun v σ' => ∃ r, v = some (vI r) ∧ P r σ') := by
    intro f
    induction f with
    | zero => intro i n hf hi; omega
    | succ f ih =>
      intro i n hf hi hn ef
      have fe : fnd Ss s X (f + 1) i n = if X.k i = 0 then (n : Int) else if kdT Ss s X i n < 0 then -10 - (i : Int) else fnd Ss s X f (i + 1) (kdT Ss s X i n).toNat := rfl
      rw [fe] at ef
      have kb := kdT_b (X := X) (i := i) hI hn
      have tk := tok.2 i (by omega)
      have t2 : gI σ 902 tr i = X.k i := tk.1
      have t4 : gJ σ 904 tr i = X.v i := tk.2.2
      have kk := (hI.2 n hn).2.1
      refine bk_X11_find_22 ⟨tr, htp, ?_⟩
      rw [tok.1, Int.toNat_natCast, t2]
      refine ⟨fun z => absurd z (by omega), fun _ => ⟨hL9, ⟨by omega, by omega⟩, fun z => ⟨no n, rfl, _, rfl, ?_⟩, fun z => ?_⟩⟩
      · rw [h5 n hn]
        rw [if_pos z] at ef
        rw [← ef]; exact hP
      · rw [if_neg z] at ef
        have iK : i < X.K := by
          have : ¬ i = X.K := fun y => z ((zK i hi).mpr y)
          omega
        -- behind the kid
        have beh : ∀ o : Option Nat, (o = if kdT Ss s X i n < 0 then none else some (no (kdT Ss s X i n).toNat)) → ((o = none → R32 ((-10) - (i : Int)) ∧ (∃ r, some (vI ((-10) - (i : Int))) = some (vI r) ∧ P r σ)) ∧ (∀ r13, o = some r13 → R32 ((i : Int) + 1) ∧ AW g l (d + 2) MX11_find 22 [some (vR 11 (some x)), none, some (vR 5 o), some (vI ((i : Int) + 1)), none] [] σ (fun v σ' => ∃ r, v = some (vI r) ∧ P r σ'))) := fun o ho => by
          by_cases q : kdT Ss s X i n < 0
          · rw [if_pos q] at ho ef
            subst ho
            exact ⟨fun _ => ⟨⟨by omega, by omega⟩, _, rfl, by rw [← ef]; exact hP⟩, (fun r y => nomatch y)⟩
          · rw [if_neg q] at ho ef
            subst ho
            refine ⟨(fun y => nomatch y), fun r13 er => ⟨⟨by omega, by omega⟩, ?_⟩⟩
            rw [show (i : Int) + 1 = ((i + 1 : Nat) : Int) by omega]
            exact ih (i + 1) _ (by omega) (by omega) (by omega) ef
        refine AC.of mo_X11_kidByToken (Nat.le_of_ble_eq_true rfl) (bk_X11_kidByToken_0 ⟨tr, htp, hL9, ⟨by omega, by omega⟩, ?_⟩)
        have z4 : (400 : Int64).toInt = 400 := by decide
        rw [Int.toNat_natCast, t2, t4, z4]
        refine ⟨fun y2 => ⟨fun y3 => ⟨_, rfl, beh none ?_⟩, fun y3 => ⟨fun y4 => ⟨_, rfl, beh none ?_⟩, fun y4 => ⟨no n, rfl, ?_⟩⟩⟩, fun y2 => ⟨no n, rfl, ?_⟩⟩
        · have e : kdT Ss s X i n = -1 := by unfold kdT; rw [if_neg y2, if_neg y3]
          rw [e]; rfl
        · have e : kdT Ss s X i n = -1 := by
            unfold kdT kdN
            have l4 := Nat.le_trans (inc_len _ s.c kk.1 (fun x hx => (kk.2.1 x hx).1)) c400
            rw [if_neg y2, if_pos y3, if_neg (by omega), List.getElem?_eq_none (by omega)]
          rw [e]; rfl
        · have v0 := hX.num i hi y3
          have l4 := Nat.le_trans (inc_len _ s.c kk.1 (fun x hx => (kk.2.1 x hx).1)) c400
          rw [j2i_eq, w32_id (by omega) (by omega)]
          refine x_kidAt (hN n hn) l4 (by omega) ⟨_, rfl, beh _ ?_⟩
          have ee : kdT Ss s X i n = (match (s.k n)[(X.v i).toInt.toNat]? with
            | none => -1
            | some a => (a : Int)) := by unfold kdT kdN; rw [if_neg y2, if_pos y3, if_neg (show ¬ (X.v i).toInt < 0 by omega)]; cases (s.k n)[(X.v i).toInt.toNat]? <;> rfl
          rw [ee, if_pos v0]
          cases e : (s.k n)[(X.v i).toInt.toNat]? with
          | none => rfl
          | some a =>
            show some (no a) = if (a : Int) < 0 then none else some (no (a : Int).toNat)
            rw [if_neg (by omega), Int.toNat_natCast]
        · refine x_kidNamed (hN n hn) (fun a ha => nj a (kk.2.1 a ha).1) ⟨_, rfl, beh _ ?_⟩
          unfold kdT
          rw [if_pos y2]
          cases e : (s.k n).find? (fun a => nmN Ss s a == X.v i) with
          | none => rfl
          | some a =>
            show some (no a) = if (a : Int) < 0 then none else some (no (a : Int).toNat)
            rw [if_neg (by omega), Int.toNat_natCast]
  exact loop (X.K + 1) 0 0 (by omega) (by omega) h0 rfl
theorem op_find (hS : SOK g) (hTp : TapI σ x m) (hK : ∀ i : Int, gJ σ 906 (tpe σ x) i.toNat = kwd i) (hI : ImgI σ x m) (hD : DsI σ x m p A B En Ss b) (hT : TreI σ x m A.2.2.2 Ss b T I) : ACi g l (d + 6) MX11_find [vR 11 (some x), vI t] σ (fun a σ1 => ACi g l (d + 6) MX12_find [vR 12 (some m), vI t] σ1 (fun r σ2 => a = r ∧ TapI σ2 x m ∧ Frm FdF σ σ2)) := by
  obtain ⟨i1, i2, i3, i4, i5, i6, i7, i8, i9⟩ := id hI
  have nw := hD.nmw
  obtain ⟨_, _, _, _, ⟨y1, y2, y3⟩, _⟩ := id hD
  obtain ⟨t1', t2', _⟩ := id hTp
  refine AC.of mo_X11_find (Nat.le_of_ble_eq_true rfl) (bk_X11_find_0 (x_nodeOf i1 hT (fun q => ⟨fun _ => ⟨_, rfl, AC.of mo_X12_find (Nat.le_of_ble_eq_true rfl) (bk_X12_find_0 (m_isNode i2 y1 hT (fun _ => ⟨fun z => absurd rfl z, fun _ => ⟨_, rfl, rfl, hTp, Frm.rfl⟩⟩) (fun t0 t1 k0 k1 => absurd ⟨⟨t0, t1⟩, k0, k1⟩ q)))⟩, (fun r z => nomatch z)⟩) (fun t0 t1 k0 k1 tr f1 o1 v1 => ⟨(fun z => nomatch z), fun r er => ⟨tpe σ x, t1', ?_⟩⟩)))
  cases er
  obtain ⟨n, rfl⟩ : ∃ n : Nat, t = (n : Int) := ⟨t.toNat, by omega⟩
  rw [Int.toNat_natCast] at f1 v1 k1
  have a2 := hT.1.2.1
  have c0 := v1.2.1.2.2.1
  have c4 := v1.2.1.2.2.2.1
  have ti := v1.2.2.2.2.2.2.1.1
  refine x_splitX hS hTp hK (fun σ3 X hX hXT hXn F3 n901 tok => ?_)
  have e3 : ∀ f r j, ¬ (901 ≤ f ∧ f ≤ 905) → gI σ3 f r j = gI σ f r j ∧ gJ σ3 f r j = gJ σ f r j ∧ gR σ3 f r j = gR σ f r j := fun f r j z => ⟨F3.I (fun q => z q.2) j, F3.J (fun q => z q.2) j, F3.R (fun q => z q.2) j⟩
  have T3 : TreI σ3 x m A.2.2.2 Ss b T I := hT.fr ⟨i3, i4⟩ F3.fr (fun f r z q => by omega) (by rw [(e3 _ _ _ (by decide)).1]; exact Int.le_refl _) (fun im _ _ => ⟨by unfold img; rw [(e3 _ _ _ (by decide)).2.2], by rw [(e3 _ _ _ (by decide)).1]; exact Int.le_refl _⟩)
  have en : noO σ3 tr = noO σ tr := by funext j; unfold noO; rw [(e3 _ _ _ (by decide)).2.2]
  have ag : ∀ i, i < (T n).c → NdC σ3 (noO σ tr) A.2.2.2 Ss (T n) i := fun i hi => (v1.2.2.2.1 i hi).1.agn hi (fun x hx => ((ti.2 i hi).2.1.2.1 x hx).1) (fun f j f0 f1 hj => e3 f _ _ (by omega))
  have go := x_find (g := g) (l := l) (d := d + 4) (P := fun a σ1 => ACi g l (d + 6) MX12_find [vR 12 (some m), vI (n : Int)] σ1 (fun r σ2 => a = r ∧ TapI σ2 x m ∧ Frm FdF σ σ2)) (F3.lc i1) hX (by rw [(e3 _ _ _ (by decide)).2.2]; exact t1') (F3.lc t2') tok ag (fun i hi => by rw [(e3 _ _ _ (by decide)).2.1]; exact (v1.2.2.2.1 i hi).2) (fun i hi => by rw [(e3 _ _ _ (by decide)).1]; exact (o1.2.2 i _ (by omega) (v1.2.2.1 i hi)).2) ti c0 ?_
  · exact go
  · refine AC.of mo_X12_find (Nat.le_of_ble_eq_true rfl) (bk_X12_find_0 (m_isNode (F3.lc i2) (by rw [(e3 _ _ _ (by decide)).1]; exact y1) T3 (fun q => absurd ⟨⟨t0, by rw [(e3 _ _ _ (by decide)).1]; exact t1⟩, by omega, by rw [Int.toNat_natCast]; omega⟩ q) (fun _ _ _ _ σ4 F4 h80 h81 h53 => ⟨fun _ => ⟨⟨by omega, by omega⟩, ?_⟩, fun z => absurd z (by decide)⟩)))
    have F5 : Frm (fun f r => r = m ∧ (LkF f r ∨ f = 1215)) σ3 (sI σ4 1215 m 0 0) := (F4.mono (fun f r q => ⟨q.1, Or.inl q.2⟩)).trans (Frm.sI ⟨rfl, Or.inr rfl⟩)
    have L5 := F5.lc (F3.lc i2)
    refine r_first hX L5 (by rw [F5.I (fun q => by have := q.2; omega), (e3 _ _ _ (by decide)).1, hXn]) (fun z => by rw [F5.I (fun q => by have := q.2; omega), (e3 _ _ _ (by decide)).1, hXT]) (gI_slf _ _ _ _ _) (fun σ6 F6 R6 => ?_)
    have F36 : Frm (fun f r => r = m ∧ (LkF f r ∨ (1213 ≤ f ∧ f ≤ 1217))) σ3 σ6 := (F5.mono (fun f r q => ⟨q.1, by have := q.2; omega⟩)).trans (F6.mono (fun f r q => ⟨q.1, Or.inr q.2⟩))
    have e6 : ∀ f j, ¬ (LkF f m ∨ (1213 ≤ f ∧ f ≤ 1217)) → ¬ (901 ≤ f ∧ f ≤ 905) → gI σ6 f m j = gI σ f m j ∧ gJ σ6 f m j = gJ σ f m j := fun f j z z2 => ⟨by rw [F36.I (fun q => z q.2), (e3 _ _ _ z2).1], by rw [F36.J (fun q => z q.2), (e3 _ _ _ z2).2.1]⟩
    refine m_find (d := d + 3) (s := T n) (Ss := Ss) (En := En) hX y2 (by rw [(e6 _ _ (by omega) (by decide)).1]; exact y1) (y3.ag (fun f j z => e6 f j (by omega) (by omega))) nw (show n < 7 by omega) (by rw [F6.I (fun q => by omega), gI_sI, if_neg (by simp)]; exact h80) (fun i hi => (v1.2.2.2.2.1 i hi).ag (fun f j z0 z1 => (e6 f _ (by omega) (by omega)).1)) ti v1.2.2.2.2.2.2.2.2.1 c0 R6 (fun σ7 F7 z11 => ⟨rfl, ?_, ?_⟩)
    · have F37 : Frm (fun f r => r = m ∧ (LkF f r ∨ f = 1211 ∨ (1213 ≤ f ∧ f ≤ 1217))) σ3 σ7 := (F36.mono (fun f r q => ⟨q.1, by have := q.2; omega⟩)).trans (F7.mono (fun f r q => ⟨q.1, Or.inr q.2⟩))
      exact tap_e hTp (by rw [F37.R (fun q => by have := q.2; omega), (e3 _ _ _ (by decide)).2.2]) (F37.lc (F3.lc t2')) (by rw [F37.2.1, F3.2.1]) (F37.lc (F3.lc i2)) (by rw [F37.I (fun q => by have := q.2; omega)]; exact n901) z11
    · exact (F3.mono (fun f r q => by omega)).trans ((F36.mono (fun f r q => by have := q.2; omega)).trans (F7.mono (fun f r q => by omega)))
end W1
