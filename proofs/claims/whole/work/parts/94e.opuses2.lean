/-! uses -/
def mu (σ : St) (m : Nat) : Nat → Nat
  | 0 => 0
  | k + 1 => mu σ m k + (if gI σ 1263 m k = 0 then 1 else 0)
theorem mu_eq {σ σ' : St} {m : Nat} : ∀ k : Nat, (∀ j, j < k → gI σ' 1263 m j = gI σ 1263 m j) → mu σ' m k = mu σ m k
  | 0, _ => rfl
  | k + 1, h => by unfold mu; rw [mu_eq k (fun j hj => h j (by omega)), h k (by omega)]
theorem mu_set {σ : St} {m i : Nat} (h0 : gI σ 1263 m i = 0) : ∀ k : Nat, i < k → mu (sI σ 1263 m i 1) m k + 1 = mu σ m k
  | 0, h => by omega
  | k + 1, h => by
    unfold mu
    by_cases c : i = k
    · rw [mu_eq (σ := σ) (σ' := sI σ 1263 m i 1) k (fun j hj => by rw [gI_sI, if_neg (by omega)]), ← c, gI_slf, h0, if_neg (by decide), if_pos rfl]
    · have := mu_set h0 k (by omega)
      have e : gI (sI σ 1263 m i 1) 1263 m k = gI σ 1263 m k := by rw [gI_sI, if_neg (by omega)]
      rw [e]
      omega
section O3
variable {g : GP} {l : Launch} {d : Nat} {σ : St} {x m p b : Nat} {A B : DPa} {En : List Enm} {Ss : List Stc}
theorem op_uses {s t : Int} (hD : DsI σ x m p A B En Ss b) : ACi g l (d + 3) MX11_uses [vR 11 (some x), vI s, vI t] σ (fun a σ1 => ACi g l (d + 3) MX12_uses [vR 12 (some m), vI s, vI t] σ1 (fun r σ2 => a = r ∧ Frm (fun f r => r = m ∧ (f = 1253 ∨ f = 1263)) σ σ2)) := by
  obtain ⟨⟨a1, a2, a3, a4, a5, a6, a7⟩, ⟨b1, b2⟩, c, ⟨d1, d2, d3, d4⟩, ⟨e1, e2, e3⟩, ⟨w1, Ss00, w2, w3⟩, v⟩ := id hD
  have l20 := d1.2.1
  have n19 := e3.1
  have hG : ∀ (s : Nat) (S : Stc), Ss[s]? = some S → ∀ G ∈ S.2.1, GfO En.length Ss s G := fun s S hS => (gf_of w2 w3 hS).2
  have dlt : ∀ {a b : Nat}, dU Ss a b → a < Ss.length := fun ⟨S, h, _⟩ => (List.getElem?_eq_some_iff.mp h).1
  -- the reference
  have ref : ∀ (r : Int), ((0 ≤ s ∧ s < Ss.length) → (0 ≤ t ∧ t < Ss.length) → (Wr Ss Ss.length s.toNat t.toNat → r = 1) ∧ (¬ Wr Ss Ss.length s.toNat t.toNat → r = 0)) → (¬ ((0 ≤ s ∧ s < Ss.length) ∧ (0 ≤ t ∧ t < Ss.length)) → r = -1) → ACi g l (d + 3) MX12_uses [vR 12 (some m), vI s, vI t] σ (fun b σ2 => r = b ∧ Frm (fun f r => r = m ∧ (f = 1253 ∨ f = 1263)) σ σ2) := by
    intro r h1 h0
    refine AC.of mo_X12_uses (Nat.le_of_ble_eq_true rfl) (bk_X12_uses_0 (m_isStruct a7 e1 e2 n19 ?_))
    by_cases c1 : 0 ≤ s ∧ s < Ss.length
    · rw [if_pos c1]
      refine ⟨fun q => absurd q (by decide), fun _ => m_isStruct a7 e1 e2 n19 ?_⟩
      by_cases c2 : 0 ≤ t ∧ t < Ss.length
      · rw [if_pos c2]
        refine ⟨fun _ => ?_, fun q => absurd q (by decide)⟩
        rw [e1]
        obtain ⟨y1, y0⟩ := h1 c1 c2
        have F0 : Frm (fun f r => r = m ∧ (f = 1253 ∨ f = 1263)) σ (sI σ 1253 m 0 (b : Int)) := Frm.sI (by simp)
        have v53 : gI (sI σ 1253 m 0 (b : Int)) 1253 m 0 = (b : Int) := gI_slf _ _ _ _ _
        generalize sI σ 1253 m 0 (b : Int) = σ0 at *
        -- what stays
        have st : ∀ τ, Frm (fun f r => r = m ∧ f = 1263) σ0 τ → LC 12 τ m ∧ gI τ 1253 m 0 = (b : Int) ∧ gI τ 1218 m 0 = (b : Int) ∧ gI τ 1219 m b = (Ss.length : Int) ∧ DR τ m b (3000 * b + 3000) En Ss ∧ Frm (fun f r => r = m ∧ (f = 1253 ∨ f = 1263)) σ τ := fun τ hF => by
          have F2 := F0.trans (hF.mono (fun f r z => ⟨z.1, Or.inr z.2⟩))
          exact ⟨F2.lc a7, by rw [hF.I (fun q => by omega)]; exact v53, by rw [F2.I (fun q => by omega)]; exact e1, by rw [F2.I (fun q => by omega)]; exact n19, e3.ag (fun f i z => ⟨F2.I (fun q => by omega) i, F2.J (fun q => by omega) i⟩), F2⟩
        -- the passes
        have pass : ∀ (M : Nat) (τ : St) (x3 : Int), mu τ m 20 < M → Frm (fun f r => r = m ∧ f = 1263) σ0 τ → (∀ j : Nat, j < Ss.length → ¬ gI τ 1263 m j = 0 → Wr Ss Ss.length s.toNat j) → (x3 = 0 → ∀ a : Nat, a < Ss.length → ((a : Int) = s ∨ ¬ gI τ 1263 m a = 0) → ∀ c : Nat, c < Ss.length → dU Ss a c → ¬ gI τ 1263 m c = 0) → AW g l (d + 3) MX12_uses 49 [some (vR 12 (some m)), some (vI s), some (vI t), some (vI x3), none, none] [] τ (fun v σ' => ∃ r', v = some (vI r') ∧ r = r' ∧ Frm (fun f r => r = m ∧ (f = 1253 ∨ f = 1263)) σ σ') := by
          intro M
          induction M with
          | zero => intro τ x3 h; omega
          | succ M ih =>
            intro τ x3 hM hF snd cl
            obtain ⟨z1, z2, z3, z4, z5, z6⟩ := st τ hF
            refine bk_X12_uses_49 ⟨fun q => ⟨z1, ⟨by omega, by omega⟩, fun q2 => ⟨_, rfl, y0 (fun w => ?_), z6⟩, fun q2 => ⟨_, rfl, y1 (snd t.toNat (by omega) q2), z6⟩⟩, fun q => ?_⟩
            · have cl := cl q
              have W := (Wr_cl (Ss := Ss) (a := s.toNat) (R := fun j => j < Ss.length → ¬ gI τ 1263 m j = 0) (fun c hc l => cl s.toNat (by omega) (Or.inl (by omega)) c l hc) (fun a c ha hc l => cl a (dlt hc) (Or.inr (ha (dlt hc))) c l hc) Ss.length).1 t.toNat w
              exact W (by omega) q2
            · -- one pass
              have inner : ∀ (k : Nat) (a : Nat) (τ1 : St) (y : Int), k + a = Ss.length → (y = 0 ∨ y = 1) → Frm (fun f r => r = m ∧ f = 1263) σ0 τ1 → (∀ j : Nat, j < Ss.length → ¬ gI τ1 1263 m j = 0 → Wr Ss Ss.length s.toNat j) → mu τ1 m 20 ≤ M → (y = 1 → mu τ1 m 20 < M) → (y = 0 → ∀ a' : Nat, a' < a → ((a' : Int) = s ∨ ¬ gI τ1 1263 m a' = 0) → ∀ c : Nat, c < Ss.length → dU Ss a' c → ¬ gI τ1 1263 m c = 0) → AW g l (d + 3) MX12_uses 58 [some (vR 12 (some m)), some (vI s), some (vI t), some (vI y), some (vI (a : Int)), none] [] τ1 (fun v σ' => ∃ r', v = some (vI r') ∧ r = r' ∧ Frm (fun f r => r = m ∧ (f = 1253 ∨ f = 1263)) σ σ') := by
                intro k
                induction k with
                | zero =>
                  intro a τ1 y ha hy hF1 snd1 hmu hmu1 cl1
                  obtain ⟨u1, u2, u3, u4, u5, u6⟩ := st τ1 hF1
                  refine bk_X12_uses_58 ⟨u1, ?_⟩
                  rw [u3, Int.toNat_natCast, u4]
                  refine ⟨⟨by omega, by omega⟩, fun _ => ?_, fun w => absurd (by omega) w⟩
                  rcases hy with hy | hy
                  · -- nothing was new
                    refine bk_X12_uses_49 ⟨fun _ => ⟨u1, ⟨by omega, by omega⟩, fun q2 => ⟨_, rfl, y0 (fun w => ?_), u6⟩, fun q2 => ⟨_, rfl, y1 (snd1 t.toNat (by omega) q2), u6⟩⟩, fun q => absurd hy q⟩
                    have cl := cl1 hy
                    have W := (Wr_cl (Ss := Ss) (a := s.toNat) (R := fun j => j < Ss.length → ¬ gI τ1 1263 m j = 0) (fun c hc l => cl s.toNat (by omega) (Or.inl (by omega)) c l hc) (fun a c ha hc l => cl a (by have := dlt hc; omega) (Or.inr (ha (dlt hc))) c l hc) Ss.length).1 t.toNat w
                    exact W (by omega) q2
                  · exact ih τ1 y (hmu1 hy) hF1 snd1 (fun z => by omega)
                | succ k ihk =>
                  intro a τ1 y ha hy hF1 snd1 hmu hmu1 cl1
                  obtain ⟨u1, u2, u3, u4, u5, u6⟩ := st τ1 hF1
                  have bl : ∀ (kb : Nat) (c : Nat) (τ2 : St) (y : Int), kb + c = Ss.length → (y = 0 ∨ y = 1) → Frm (fun f r => r = m ∧ f = 1263) σ0 τ2 → (∀ j : Nat, j < Ss.length → ¬ gI τ2 1263 m j = 0 → Wr Ss Ss.length s.toNat j) → ((a : Int) = s ∨ ¬ gI τ2 1263 m a = 0) → mu τ2 m 20 ≤ M → (y = 1 → mu τ2 m 20 < M) → (y = 0 → (∀ a' : Nat, a' < a → ((a' : Int) = s ∨ ¬ gI τ2 1263 m a' = 0) → ∀ c : Nat, c < Ss.length → dU Ss a' c → ¬ gI τ2 1263 m c = 0) ∧ ∀ c' : Nat, c' < c → dU Ss a c' → ¬ gI τ2 1263 m c' = 0) → AW g l (d + 3) MX12_uses 94 [some (vR 12 (some m)), some (vI s), some (vI t), some (vI y), some (vI (a : Int)), some (vI (c : Int))] [] τ2 (fun v σ' => ∃ r', v = some (vI r') ∧ r = r' ∧ Frm (fun f r => r = m ∧ (f = 1253 ∨ f = 1263)) σ σ') := by
                    intro kb
                    induction kb with
                    | zero =>
                      intro c τ2 y hc hy hF2 snd2 act hmu hmu1 cl2
                      obtain ⟨q1, q2, q3, q4, q5, q6⟩ := st τ2 hF2
                      refine bk_X12_uses_94 ⟨q1, ?_⟩
                      rw [q3, Int.toNat_natCast, q4]
                      refine ⟨⟨by omega, by omega⟩, fun _ => ⟨⟨by omega, by omega⟩, ihk (a + 1) τ2 y (by omega) hy hF2 snd2 hmu hmu1 (fun z a' ha' hact c' hc' hd => ?_)⟩, fun w => absurd (by omega) w⟩
                      obtain ⟨cA, cB⟩ := cl2 z
                      rcases Nat.lt_or_ge a' a with w | w
                      · exact cA a' w hact c' hc' hd
                      · rw [show a' = a by omega] at hd
                        exact cB c' (by omega) hd
                    | succ kb ihb =>
                      intro c τ2 y hc hy hF2 snd2 act hmu hmu1 cl2
                      obtain ⟨q1, q2, q3, q4, q5, q6⟩ := st τ2 hF2
                      refine bk_X12_uses_94 ⟨q1, ?_⟩
                      rw [q3, Int.toNat_natCast, q4, Int.toNat_natCast]
                      refine ⟨⟨by omega, by omega⟩, fun w => absurd w (by omega), fun _ => ⟨⟨by omega, by omega⟩, fun w => ⟨⟨by omega, by omega⟩, ihb (c + 1) τ2 y (by omega) hy hF2 snd2 act hmu hmu1 (fun z => ⟨(cl2 z).1, fun c' hc' hd => ?_⟩)⟩, fun w => m_names q1 q2 e2 q5 hG (by omega) (by omega) (fun hd => ⟨fun _ => ⟨q1, ⟨by omega, by omega⟩, ?_⟩, fun z => absurd z (by decide)⟩) (fun hd => ⟨fun z => absurd rfl z, fun _ => ⟨⟨by omega, by omega⟩, ihb (c + 1) τ2 y (by omega) hy hF2 snd2 act hmu hmu1 (fun z => ⟨(cl2 z).1, fun c' hc' hd' => ?_⟩)⟩⟩)⟩⟩
                      · rcases Nat.lt_or_ge c' c with u | u
                        · exact (cl2 z).2 c' u hd
                        · rw [show c' = c by omega]; exact w
                      · have hd : dU Ss a c := hd
                        have hset := mu_set (σ := τ2) (m := m) (i := c) w 20 (by omega)
                        have F4 : Frm (fun f r => r = m ∧ f = 1263) σ0 (sI τ2 1263 m c 1) := hF2.trans (Frm.sI (by simp))
                        refine ihb (c + 1) _ 1 (by omega) (Or.inr rfl) F4 (fun j hj hn => ?_) ?_ (by omega) (fun _ => by omega) (fun z => by omega)
                        · by_cases u : j = c
                          · rw [u]
                            rcases act with ac | ac
                            · rw [show s.toNat = a by omega]; exact Wr_dU hd
                            · exact Wr_tr (show a < Ss.length by omega) (snd2 a (by omega) ac) (Wr_dU hd)
                          · rw [gI_sI, if_neg (by omega)] at hn
                            exact snd2 j hj hn
                        · rcases act with ac | ac
                          · exact Or.inl ac
                          · refine Or.inr ?_
                            rw [gI_sI]
                            split
                            · decide
                            · exact ac
                      · rcases Nat.lt_or_ge c' c with u | u
                        · exact (cl2 z).2 c' u hd'
                        · rw [show c' = c by omega] at hd'
                          exact absurd hd' hd
                  refine bk_X12_uses_58 ⟨u1, ?_⟩
                  rw [u3, Int.toNat_natCast, u4, Int.toNat_natCast]
                  refine ⟨⟨by omega, by omega⟩, fun w => absurd w (by omega), fun _ => ⟨fun w => bl Ss.length 0 τ1 y (by omega) hy hF1 snd1 (Or.inl w) hmu hmu1 (fun z => ⟨cl1 z, fun c' h => by omega⟩), fun w => ⟨⟨by omega, by omega⟩, fun w2 => bl Ss.length 0 τ1 y (by omega) hy hF1 snd1 (Or.inr w2) hmu hmu1 (fun z => ⟨cl1 z, fun c' h => by omega⟩), fun w2 => ⟨⟨by omega, by omega⟩, ihk (a + 1) τ1 y (by omega) hy hF1 snd1 hmu hmu1 (fun z a' ha' hact c' hc' hd => ?_)⟩⟩⟩⟩
                  rcases Nat.lt_or_ge a' a with u | u
                  · exact cl1 z a' u hact c' hc' hd
                  · rw [show a' = a by omega] at hact
                    rcases hact with ac | ac
                    · exact absurd ac w
                    · exact absurd w2 ac
              exact inner Ss.length 0 τ 0 (by omega) (Or.inl rfl) hF snd (by omega) (fun z => absurd z (by decide)) (fun _ a' h => by omega)
        -- first all are cleared
        have clr : ∀ (k : Nat) (j : Nat) (τ : St), k + j = 20 → Frm (fun f r => r = m ∧ f = 1263) σ0 τ → (∀ i : Nat, i < j → gI τ 1263 m i = 0) → AW g l (d + 3) MX12_uses 28 [some (vR 12 (some m)), some (vI s), some (vI t), some (vI (j : Int)), none, none] [] τ (fun v σ' => ∃ r', v = some (vI r') ∧ r = r' ∧ Frm (fun f r => r = m ∧ (f = 1253 ∨ f = 1263)) σ σ') := by
          intro k
          induction k with
          | zero =>
            intro j τ hj hF hz
            exact bk_X12_uses_28 ⟨fun _ => pass (mu τ m 20 + 1) τ 1 (by omega) hF (fun i hi hn => absurd (hz i (by omega)) hn) (fun z => absurd z (by decide)), fun w => absurd (by omega) w⟩
          | succ k ih =>
            intro j τ hj hF hz
            obtain ⟨z1, _⟩ := st τ hF
            refine bk_X12_uses_28 ⟨fun w => absurd w (by omega), fun _ => ⟨z1, ⟨by omega, by omega⟩, ⟨by omega, by omega⟩, ?_⟩⟩
            rw [Int.toNat_natCast]
            refine ih (j + 1) _ (by omega) (hF.trans (Frm.sI (by simp))) (fun i hi => ?_)
            by_cases u : i = j
            · rw [u, gI_slf]
            · rw [gI_sI, if_neg (by omega)]; exact hz i (by omega)
        exact clr 20 0 σ0 rfl Frm.rfl (fun i h => by omega)
      · rw [if_neg c2]
        exact ⟨fun q => absurd rfl q, fun _ => ⟨_, rfl, h0 (fun z => c2 z.2), Frm.rfl⟩⟩
    · rw [if_neg c1]
      exact ⟨fun _ => ⟨_, rfl, h0 (fun z => c1 z.1), Frm.rfl⟩, fun q => absurd rfl q⟩
  refine AC.of mo_X11_uses (Nat.le_of_ble_eq_true rfl) (bk_X11_uses_0 (x_isStructure hD ?_))
  by_cases c1 : 0 ≤ s ∧ s < Ss.length
  · rw [if_pos c1]
    refine ⟨fun q => absurd q (by decide), fun _ => x_isStructure hD ?_⟩
    by_cases c2 : 0 ≤ t ∧ t < Ss.length
    · rw [if_pos c2]
      have sh := b1.2.2.2.1.1 s.toNat (by omega)
      obtain ⟨u, u1, u2, u3⟩ := d2 s.toNat (by omega)
      refine ⟨fun _ => ⟨A.1, a1, b1.1, ⟨by omega, by omega⟩, A.2.2.1 s.toNat, sh.1, _, rfl, ref _ (fun _ _ => ?_) (fun z => absurd ⟨c1, c2⟩ z)⟩, fun q => absurd q (by decide)⟩
      have e := tb_nat (x := u) (b := t.toNat) u1 (by omega)
      rw [show ((t.toNat : Nat) : Int) = t by omega] at e
      have u4 := u3 t.toNat (by omega)
      rw [u2, e]
      exact ⟨fun w => by rw [u4.mpr w]; rfl, fun w => by
        have : u.testBit t.toNat = false := by
          cases h : u.testBit t.toNat with
          | false => rfl
          | true => exact absurd (u4.mp h) w
        rw [this]; rfl⟩
    · rw [if_neg c2]
      exact ⟨fun q => absurd rfl q, fun _ => ⟨_, rfl, ref _ (fun _ z => absurd z c2) (fun _ => rfl)⟩⟩
  · rw [if_neg c1]
    exact ⟨fun _ => ⟨_, rfl, ref _ (fun z => absurd z c1) (fun _ => rfl)⟩, fun q => absurd rfl q⟩
end O3
