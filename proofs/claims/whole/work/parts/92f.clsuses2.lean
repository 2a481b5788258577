/-! the class gathers uses -/
def Bt (σ : St) (r : Nat) (Q : Nat → Prop) : Prop := ∃ u : Nat, u < 1048576 ∧ gI σ 804 r 0 = (u : Int) ∧ ∀ b, b < 20 → (u.testBit b = true ↔ Q b)
def UsR (F : Fld) : Prop := -1 ≤ F.st ∧ F.st < 20 ∧ (F.ki = 6 → -1 ≤ F.ot ∧ F.ot < 20) ∧ ∀ e ∈ F.es, F.ki = 6 → 0 ≤ e.2.2 ∧ e.2.2 < 20
theorem tb_or {u v b : Nat} : (u ||| v).testBit b = true ↔ (u.testBit b = true ∨ v.testBit b = true) := by rw [Nat.testBit_or, Bool.or_eq_true]
theorem tb_pow {a b : Nat} : (2 ^ a).testBit b = true ↔ a = b := by rw [Nat.testBit_two_pow]; simp
section X28
variable {g : GP} {l : Launch} {d : Nat} {σ : St} {dd c r : Nat} {so : Nat → Nat} {fo : Nat → Nat → Nat} {En : List Enm} {Ss : List Stc} {F : Fld}
theorem x_usedBy {P : Int → St → Prop} (hL1 : LC 1 σ dd) (h9 : gI σ 109 dd 0 ≤ 3000) (hF : FC σ dd c r F) (hu : UsR F) (h : ∀ u : Nat, u < 1048576 → (∀ b : Nat, b < 20 → (u.testBit b = true ↔ dUse F b)) → P (u : Int) σ) : ACi g l d MX1_usedBy [vR 1 (some dd), vR 2 (some r)] σ P := by
  obtain ⟨u1, u2, u34, u5⟩ := hu
  obtain ⟨bb, q1, q2, q3, q4⟩ := hF.es
  have pl : ∀ a : Nat, a < 20 → 2 ^ a < 1048576 := fun a ha => Nat.pow_lt_pow_right (by decide) (by omega : a < 20)
  have sh : ∀ a : Int, 0 ≤ a → a < 20 → i_shl 1 a = ((2 ^ a.toNat : Nat) : Int) := fun a h0 h1 => by
    have := i_shl_nat a.toNat (by omega)
    rw [Int.toNat_of_nonneg h0] at this
    exact this
  have orl : ∀ u v : Nat, u < 1048576 → v < 1048576 → u ||| v < 1048576 := fun u v hu hv => Nat.or_lt_two_pow (n := 20) hu hv
  have loop : F.ki = 6 → ∀ (L : List Ent) (j u : Nat), (∀ k e, L[k]? = some e → gI σ 108 dd (bb + j + k) = e.2.2) → (∀ e ∈ L, e ∈ F.es) → j + L.length = F.es.length → u < 1048576 → (∀ w : Nat, w < 1048576 → (∀ b : Nat, b < 20 → (w.testBit b = true ↔ (u.testBit b = true ∨ ∃ e ∈ L, e.2.2 = (b : Int)))) → P (w : Int) σ) → AW g l d MX1_usedBy 54 [some (vR 1 (some dd)), some (vR 2 (some r)), some (vI (u : Int)), some (vI ((bb + j : Nat) : Int))] [] σ (fun v σ' => ∃ r, v = some (vI r) ∧ P r σ') := by
    intro k6 L
    induction L with
    | nil =>
      intro j u _ _ hj hu hP
      have hj : j + 0 = F.es.length := hj
      refine bk_X1_usedBy_54 ⟨r, rfl, ?_⟩
      rw [q1, q2]
      exact ⟨⟨by omega, by omega⟩, fun _ => ⟨_, rfl, hP u hu (fun b _ => by simp)⟩, fun q => absurd (by omega) q⟩
    | cons e L ih =>
      intro j u hn hm hj hu hP
      have hj : j + (L.length + 1) = F.es.length := hj
      have e0 := hn 0 e rfl
      rw [Nat.add_zero] at e0
      have er := u5 e (hm e List.mem_cons_self) k6
      refine bk_X1_usedBy_54 ⟨r, rfl, ?_⟩
      rw [q1, q2]
      refine ⟨⟨by omega, by omega⟩, fun q => absurd q (by omega), fun _ => ⟨hL1, ⟨by omega, by omega⟩, fun z7 hz => ⟨⟨by omega, by omega⟩, ?_⟩⟩⟩
      rw [show (((bb + j : Nat) : Int)).toNat = bb + j by omega, e0, sh _ er.1 er.2, i_or_nat hu (pl _ (by omega))] at hz
      rw [hz]
      refine ih (j + 1) _ (fun k e' he => by rw [show bb + (j + 1) + k = bb + j + (k + 1) by omega]; exact hn (k + 1) e' he) (fun e' he => hm e' (List.mem_cons_of_mem _ he)) (by omega) (orl _ _ hu (pl _ (by omega))) (fun w hw hb => hP w hw (fun b b20 => ?_))
      rw [hb b b20, tb_or, tb_pow]
      constructor
      · rintro ((h | h) | ⟨e', h1, h2⟩)
        · exact Or.inl h
        · exact Or.inr ⟨e, List.mem_cons_self, by omega⟩
        · exact Or.inr ⟨e', List.mem_cons_of_mem _ h1, h2⟩
      · rintro (h | ⟨e', h1, h2⟩)
        · exact Or.inl (Or.inl h)
        · rcases List.mem_cons.mp h1 with rfl | h1
          · exact Or.inl (Or.inr (by omega))
          · exact Or.inr ⟨e', h1, h2⟩
  have s18 : ∀ u : Nat, u < 1048576 → (∀ b : Nat, b < 20 → (u.testBit b = true ↔ F.st = (b : Int))) → AW g l d MX1_usedBy 18 [some (vR 1 (some dd)), some (vR 2 (some r)), none, none] [vI (u : Int)] σ (fun v σ' => ∃ r, v = some (vI r) ∧ P r σ') := by
    intro u hu hb
    refine bk_X1_usedBy_18 ⟨r, rfl, ?_⟩
    rw [hF.ki, hF.ot, q1]
    refine ⟨fun k6 => ⟨_, rfl, h u hu (fun b b20 => ?_)⟩, fun k6 => ⟨fun q => fun z5 hz => ?_, fun q => ?_⟩⟩
    · rw [hb b b20]
      exact ⟨fun e => Or.inl e, fun e => e.elim id (fun z => absurd z.1 k6)⟩
    · obtain ⟨u3, u4⟩ := u34 k6
      rw [sh _ (by omega) u4, i_or_nat hu (pl _ (by omega))] at hz
      rw [hz]
      refine loop k6 F.es 0 _ (fun k e he => by rw [Nat.add_zero]; exact (q4 k e he).2.2) (fun e he => he) (by omega) (orl _ _ hu (pl _ (by omega))) (fun w hw hb2 => h w hw (fun b b20 => ?_))
      rw [hb2 b b20, tb_or, hb b b20, tb_pow]
      unfold dUse
      constructor
      · rintro ((z | z) | z)
        · exact Or.inl z
        · exact Or.inr ⟨k6, Or.inl (by omega)⟩
        · exact Or.inr ⟨k6, Or.inr z⟩
      · rintro (z | ⟨_, z | z⟩)
        · exact Or.inl (Or.inl z)
        · exact Or.inl (Or.inr (by omega))
        · exact Or.inr z
    · have z0 : i_or (u : Int) 0 = (u : Int) := by
        have := i_or_nat (y := 0) hu (by decide)
        rw [Nat.or_zero] at this
        exact this
      rw [z0]
      refine loop k6 F.es 0 _ (fun k e he => by rw [Nat.add_zero]; exact (q4 k e he).2.2) (fun e he => he) (by omega) hu (fun w hw hb2 => h w hw (fun b b20 => ?_))
      rw [hb2 b b20, hb b b20]
      unfold dUse
      constructor
      · rintro (z | z)
        · exact Or.inl z
        · exact Or.inr ⟨k6, Or.inr z⟩
      · rintro (z | ⟨_, z | z⟩)
        · exact Or.inl z
        · omega
        · exact Or.inr z
  refine AC.of mo_X1_usedBy (Nat.le_of_ble_eq_true rfl) (bk_X1_usedBy_0 ⟨r, rfl, ?_⟩)
  rw [hF.st]
  refine ⟨fun q => ?_, fun q => ?_⟩
  · rw [sh _ (by omega) u2]
    exact s18 _ (pl _ (by omega)) (fun b b20 => by rw [tb_pow]; omega)
  · refine s18 0 (by decide) (fun b b20 => ?_)
    simp
    omega
theorem x_gather {P : St → Prop} (hL1 : LC 1 σ dd) (hS : DSh σ dd so fo) (hD : DCo σ dd c so fo En Ss) (h9 : gI σ 109 dd 0 ≤ 3000) (hU : ∀ (s : Nat) (S : Stc), Ss[s]? = some S → ∀ F ∈ S.2.1, UsR F) (h : ∀ σ', Frm (fun f r => f = 804 ∧ ∃ s, s < 20 ∧ r = so s) σ σ' → (∀ s, s < Ss.length → Bt σ' (so s) (fun b => Wr Ss Ss.length s b)) → P σ') : ACv g l (d + 1) MX1_gatherUses [vR 1 (some dd)] σ P := by
  have n20 := hD.2.1
  have rd : ∀ {τ : St}, Frm (fun f r => f = 804 ∧ ∃ s, s < 20 ∧ r = so s) σ τ → ∀ f r, ¬ f = 804 → ∀ i, gI τ f r i = gI σ f r i ∧ gR τ f r i = gR σ f r i := fun hF f r hf i => ⟨hF.I (fun q => hf q.1) i, hF.R (fun q => hf q.1) i⟩
  have st1 : ∀ {τ : St} {s : Nat} {v : Int}, s < 20 → Frm (fun f r => f = 804 ∧ ∃ s, s < 20 ∧ r = so s) σ τ → Frm (fun f r => f = 804 ∧ ∃ s, s < 20 ∧ r = so s) σ (sI τ 804 (so s) 0 v) := fun hs hF => hF.trans (Frm.sI ⟨rfl, _, hs, rfl⟩)
  have other : ∀ {τ : St} {s s' : Nat} {v : Int} {Q : Nat → Prop}, s < 20 → s' < 20 → ¬ s' = s → Bt τ (so s') Q → Bt (sI τ 804 (so s) 0 v) (so s') Q := fun {τ s s' v Q} hs hs' hne hB => by
    obtain ⟨u, u1, u2, u3⟩ := hB
    refine ⟨u, u1, ?_, u3⟩
    rw [gI_sI, if_neg (fun z => hne (hS.2.1 s' s hs' hs z.2.1))]; exact u2
  -- by way of
  have wl : ∀ (j w : Nat) (τ : St), w + j = Ss.length → Frm (fun f r => f = 804 ∧ ∃ s, s < 20 ∧ r = so s) σ τ → (∀ s, s < Ss.length → Bt τ (so s) (fun b => Wr Ss w s b)) → AW g l (d + 1) MX1_gatherUses 65 [some (vR 1 (some dd)), some (vI (w : Int)), none, none] [] τ (fun v σ' => v = none ∧ P σ') := by
    intro j
    induction j with
    | zero =>
      intro w τ hw hF hB
      obtain rfl : w = Ss.length := by omega
      exact bk_X1_gatherUses_65 ⟨fun _ => ⟨rfl, h τ hF hB⟩, fun q => absurd (by rw [(rd hF 101 dd (by decide) 0).1, hD.1]; omega) q⟩
    | succ j ih =>
      intro w τ hw hF hB
      refine bk_X1_gatherUses_65 ⟨fun q => absurd q (by rw [(rd hF 101 dd (by decide) 0).1, hD.1]; omega), fun _ => ?_⟩
      have inner : ∀ (k s : Nat) (τ1 : St), s + k = Ss.length → Frm (fun f r => f = 804 ∧ ∃ s, s < 20 ∧ r = so s) σ τ1 → (∀ s', s' < s → Bt τ1 (so s') (fun b => Wr Ss (w + 1) s' b)) → (∀ s', s ≤ s' → s' < Ss.length → Bt τ1 (so s') (fun b => Wr Ss w s' b)) → AW g l (d + 1) MX1_gatherUses 75 [some (vR 1 (some dd)), some (vI (w : Int)), some (vI (s : Int)), none] [] τ1 (fun v σ' => v = none ∧ P σ') := by
        intro k
        induction k with
        | zero =>
          intro s τ1 hs hF1 hB1 hB2
          obtain rfl : s = Ss.length := by omega
          exact bk_X1_gatherUses_75 ⟨fun _ => ⟨⟨by omega, by omega⟩, ih (w + 1) τ1 (by omega) hF1 hB1⟩, fun q => absurd (by rw [(rd hF1 101 dd (by decide) 0).1, hD.1]; omega) q⟩
        | succ k ihk =>
          intro s τ1 hs hF1 hB1 hB2
          have e100 : ∀ z, z < 20 → gR τ1 100 dd z = some (so z) := fun z hz => by rw [(rd hF1 100 dd (by decide) z).2]; exact (hS.1 z hz).1
          obtain ⟨u, u1, u2, u3⟩ := hB2 s (Nat.le_refl _) (by omega)
          have roww : Bt τ1 (so w) (fun b => Wr Ss w w b) := by
            by_cases c : s ≤ w
            · exact hB2 w c (by omega)
            · obtain ⟨v, v1, v2, v3⟩ := hB1 w (by omega)
              refine ⟨v, v1, v2, fun b hb => (v3 b hb).trans ?_⟩
              exact ⟨fun z => z.elim id (fun y => y.2), fun z => Or.inl z⟩
          refine bk_X1_gatherUses_75 ⟨fun q => absurd q (by rw [(rd hF1 101 dd (by decide) 0).1, hD.1]; omega), fun _ => ⟨hF1.lc hL1, ⟨by omega, by omega⟩, so s, by rw [show ((s : Int)).toNat = s by omega]; exact e100 s (by omega), ?_⟩⟩
          rw [u2, tb_nat u1 (by omega)]
          by_cases tbw : u.testBit w = true
          · rw [if_pos tbw]
            obtain ⟨v, v1, v2, v3⟩ := roww
            refine ⟨fun q => absurd q (by decide), fun _ => ⟨⟨by omega, by omega⟩, so w, by rw [show ((w : Int)).toNat = w by omega]; exact e100 w (by omega), ⟨by omega, by omega⟩, ?_⟩⟩
            rw [v2, i_or_nat u1 v1]
            refine ihk (s + 1) _ (by omega) (st1 (by omega) hF1) (fun s' hs' => ?_) (fun s' h1 h2 => other (by omega) (by omega) (by omega) (hB2 s' (by omega) h2))
            by_cases e : s' = s
            · rw [e]
              refine ⟨u ||| v, Nat.or_lt_two_pow (n := 20) u1 v1, gI_slf _ _ _ _ _, fun b hb => ?_⟩
              rw [tb_or, u3 b hb, v3 b hb]
              have hw' : Wr Ss w s w := (u3 w (by omega)).mp tbw
              exact ⟨fun z => z.elim Or.inl (fun y => Or.inr ⟨hw', y⟩), fun z => z.elim Or.inl (fun y => Or.inr y.2)⟩
            · exact other (by omega) (by omega) e (hB1 s' (by omega))
          · rw [if_neg tbw]
            refine ⟨fun _ => ⟨⟨by omega, by omega⟩, ihk (s + 1) τ1 (by omega) hF1 (fun s' hs' => ?_) (fun s' h1 h2 => hB2 s' (by omega) h2)⟩, fun q => absurd rfl q⟩
            by_cases e : s' = s
            · rw [e]
              refine ⟨u, u1, u2, fun b hb => (u3 b hb).trans ?_⟩
              have hw' : ¬ Wr Ss w s w := fun z => tbw ((u3 w (by omega)).mpr z)
              exact ⟨fun z => Or.inl z, fun z => z.elim id (fun y => absurd y.1 hw')⟩
            · exact hB1 s' (by omega)
      exact inner Ss.length 0 τ (by omega) hF (fun s' hs => absurd hs (by omega)) (fun s' _ h2 => hB s' h2)
  -- by itself
  have dl : ∀ (j s : Nat) (τ : St), s + j = Ss.length → Frm (fun f r => f = 804 ∧ ∃ s, s < 20 ∧ r = so s) σ τ → (∀ s', s' < s → Bt τ (so s') (fun b => dU Ss s' b)) → AW g l (d + 1) MX1_gatherUses 2 [some (vR 1 (some dd)), some (vI (s : Int)), none, none] [] τ (fun v σ' => v = none ∧ P σ') := by
    intro j
    induction j with
    | zero =>
      intro s τ hs hF hB
      obtain rfl : s = Ss.length := by omega
      exact bk_X1_gatherUses_2 ⟨fun _ => wl Ss.length 0 τ (by omega) hF hB, fun q => absurd (by rw [(rd hF 101 dd (by decide) 0).1, hD.1]; omega) q⟩
    | succ j ih =>
      intro s τ hs hF hB
      have hlt : s < Ss.length := by omega
      have hSs := List.getElem?_eq_getElem hlt
      obtain ⟨c1, c2, c3, c4, c5⟩ := hD.2.2.2.2.2 s _ hSs
      obtain ⟨b1, b2, b3⟩ := hS.1 s (by omega)
      have e100 : gR τ 100 dd s = some (so s) := by rw [(rd hF 100 dd (by decide) s).2]; exact b1
      refine bk_X1_gatherUses_2 ⟨fun q => absurd q (by rw [(rd hF 101 dd (by decide) 0).1, hD.1]; omega), fun _ => ⟨hF.lc hL1, ⟨by omega, by omega⟩, so s, by rw [show ((s : Int)).toNat = s by omega]; exact e100, ?_⟩⟩
      rw [show ((s : Int)).toNat = s by omega, e100]
      have inner : ∀ (L : List Fld) (k : Nat) (τ1 : St), (∀ q F, L[q]? = some F → Ss[s].2.1[k + q]? = some F) → k + L.length = Ss[s].2.1.length → Frm (fun f r => f = 804 ∧ ∃ s, s < 20 ∧ r = so s) σ τ1 → (∀ s', s' < s → Bt τ1 (so s') (fun b => dU Ss s' b)) → Bt τ1 (so s) (fun b => ∃ q F, q < k ∧ Ss[s].2.1[q]? = some F ∧ dUse F b) → AW g l (d + 1) MX1_gatherUses 24 [some (vR 1 (some dd)), some (vI (s : Int)), some (vR 8 (some (so s))), some (vI (k : Int))] [] τ1 (fun v σ' => v = none ∧ P σ') := by
        intro L
        induction L with
        | nil =>
          intro k τ1 _ hk hF1 hB1 hBs
          have hk : k + 0 = Ss[s].2.1.length := hk
          refine bk_X1_gatherUses_24 ⟨so s, rfl, fun _ => ⟨⟨by omega, by omega⟩, ih (s + 1) τ1 (by omega) hF1 (fun s' hs' => ?_)⟩, fun q => absurd (by rw [(rd hF1 802 (so s) (by decide) 0).1, c2]; omega) q⟩
          by_cases e : s' = s
          · rw [e]
            obtain ⟨u, u1, u2, u3⟩ := hBs
            refine ⟨u, u1, u2, fun b hb => (u3 b hb).trans ⟨?_, ?_⟩⟩
            · rintro ⟨q, F, _, h2, h3⟩
              exact ⟨_, hSs, F, List.mem_of_getElem? h2, h3⟩
            · rintro ⟨S, h1, F, h2, h3⟩
              rw [hSs] at h1
              cases h1
              obtain ⟨q, hq, e⟩ := List.getElem_of_mem h2
              exact ⟨q, F, by omega, by rw [List.getElem?_eq_getElem hq, e], h3⟩
          · exact hB1 s' (by omega)
        | cons F L ihL =>
          intro k τ1 hn hk hF1 hB1 hBs
          have hk : k + (L.length + 1) = Ss[s].2.1.length := hk
          have f0 := hn 0 F rfl
          rw [Nat.add_zero] at f0
          have fm : F ∈ Ss[s].2.1 := List.mem_of_getElem? f0
          obtain ⟨d1, d2⟩ := b3 k (by omega)
          have hM1 := Mo.frm (dd := dd) (c := c) hF1 (fun f hf q => by omega) (fun f f0 f1 q => by omega)
          have fc : FC τ1 dd c (fo s k) F := (c5 k F f0).frm hF1 (fun f f0 f1 q => by omega) hM1
          refine bk_X1_gatherUses_24 ⟨so s, rfl, fun q => absurd q (by rw [(rd hF1 802 (so s) (by decide) 0).1, c2]; omega), fun _ => ⟨hF1.lc b2, ⟨by omega, by omega⟩, ?_⟩⟩
          rw [show ((k : Int)).toNat = k by omega, (rd hF1 801 (so s) (by decide) k).2, d1]
          refine x_usedBy (hF1.lc hL1) (by rw [(rd hF1 109 dd (by decide) 0).1]; exact h9) fc (hU s _ hSs F fm) (fun v v1 v2 => ⟨⟨by omega, by omega⟩, ?_⟩)
          obtain ⟨u, u1, u2, u3⟩ := hBs
          rw [u2, i_or_nat u1 v1]
          refine ihL (k + 1) _ (fun q G hG => by rw [show k + 1 + q = k + (q + 1) by omega]; exact hn (q + 1) G hG) (by omega) (st1 (by omega) hF1) (fun s' hs' => other (by omega) (by omega) (by omega) (hB1 s' hs')) ⟨u ||| v, Nat.or_lt_two_pow (n := 20) u1 v1, gI_slf _ _ _ _ _, fun b hb => ?_⟩
          rw [tb_or, u3 b hb, v2 b hb]
          constructor
          · rintro (⟨q, G, h1, h2, h3⟩ | h3)
            · exact ⟨q, G, by omega, h2, h3⟩
            · exact ⟨k, F, by omega, f0, h3⟩
          · rintro ⟨q, G, h1, h2, h3⟩
            by_cases e : q = k
            · rw [e, f0] at h2
              cases h2
              exact Or.inr h3
            · exact Or.inl ⟨q, G, by omega, h2, h3⟩
      refine inner Ss[s].2.1 0 _ (fun q F hq => by rw [Nat.zero_add]; exact hq) (by omega) (st1 (by omega) hF) (fun s' hs' => other (by omega) (by omega) (by omega) (hB s' hs')) ⟨0, by decide, gI_slf _ _ _ _ _, fun b hb => ?_⟩
      simp
  exact AC.of mo_X1_gatherUses (Nat.le_of_ble_eq_true rfl) (bk_X1_gatherUses_0 (dl Ss.length 0 σ (by omega) Frm.rfl (fun s' hs => absurd hs (by omega))))
end X28
