/-! wrong, size, uses -/
/-- a field of the description: as it was read, and its aim -/
def GfO (nE : Nat) (Ss : List Stc) (s : Nat) (G : Fld) : Prop := ∃ (Ss0 : List Stc) (F : Fld), WFf nE (Ss0.take s) F ∧ G = aimO (Ss0.map (fun s => s.1)) F ∧ Ss0.length = Ss.length ∧ (F.ki = 7 → ¬ idx (Ss0.map (fun s => s.1)) F.an 0 = -1) ∧ ∀ s' : Int, szS (Ss0.take s) s' = if s' < s then szS Ss s' else -1
theorem szS_map {f : Stc → Stc} (hf : ∀ S, (f S).2.2 = S.2.2) {Ss : List Stc} {s : Int} : szS (Ss.map f) s = szS Ss s := by
  unfold szS
  split
  · rfl
  · rw [List.getElem?_map]
    cases Ss[s.toNat]? with
    | none => rfl
    | some S => exact hf S
theorem szS_take {Ss : List Stc} {n : Nat} {s : Int} : szS (Ss.take n) s = if s < n then szS Ss s else -1 := by
  unfold szS
  by_cases c : s < 0
  · rw [if_pos c, if_pos c]; split <;> rfl
  · rw [if_neg c, if_neg c, List.getElem?_take]
    by_cases c2 : s < n
    · rw [if_pos (by omega), if_pos c2]
    · rw [if_neg (by omega), if_neg c2]
theorem gf_of {nE : Nat} {Ss0 Ss : List Stc} (hW : WFs nE Ss0) (h : aimS (Ss0.map (fun s => s.1)) Ss0 = .ok Ss) {s : Nat} {S : Stc} (hS : Ss[s]? = some S) : (IsN S.1 ∧ S.2.1.length ≤ 14 ∧ -1 ≤ S.2.2 ∧ S.2.2 ≤ 1000000) ∧ ∀ G ∈ S.2.1, GfO nE Ss s G := by
  obtain ⟨S0, h0, e, _⟩ := aim_es hW h s S hS
  obtain ⟨c1, c2⟩ := aimS_ok _ _ h
  obtain ⟨w1, w2, w3, w4, w5⟩ := hW s S0 h0
  refine ⟨by rw [e]; exact ⟨w1, by rw [List.length_map]; exact w2, w3, w4⟩, fun G hG => ?_⟩
  rw [e] at hG
  obtain ⟨F, hF, e2⟩ := List.mem_map.mp hG
  refine ⟨Ss0, F, w5 F hF, e2.symm, by rw [c1, List.length_map], c2 S0 (List.mem_of_getElem? h0) F hF, fun s' => ?_⟩
  rw [szS_take, c1, szS_map (f := fun S => (S.1, S.2.1.map (aimO (Ss0.map (fun s => s.1))), S.2.2)) (fun _ => rfl)]
theorem gf_st {nE : Nat} {Ss : List Stc} {s : Nat} {G : Fld} (h : GfO nE Ss s G) : -1 ≤ G.st ∧ G.st < Ss.length ∧ (0 ≤ G.st ↔ (kR G = 2 ∨ kR G = 3 ∨ kR G = 8)) ∧ (kR G = 7 ↔ G.ki = 6) ∧ G.es.length ≤ 16 ∧ (G.ki = 6 → (-1 ≤ G.ot ∧ G.ot < Ss.length) ∧ ∀ e ∈ G.es, 0 ≤ e.2.2 ∧ e.2.2 < Ss.length) := by
  obtain ⟨Ss0, F, w, rfl, l0, a7, _⟩ := h
  obtain ⟨k1, k2, k3, k4, _, _, _, _, _, _, k5, k6⟩ := aimO_k (Ns := Ss0.map (fun s => s.1)) (F := F)
  have tk : (Ss0.take s).length ≤ Ss0.length := by rw [List.length_take]; omega
  have ig := idx_ge (w := F.an) (Ss0.map (fun s => s.1)) 0 (by decide)
  rw [List.length_map] at ig
  rw [k3, k2, k1]
  obtain ⟨_, _, _, w4, wk⟩ := w
  rcases wk with q | q | q | q | q | q | q | q | q | q
  · have e := kR_0 (F := aimO (Ss0.map (fun s => s.1)) F) (by rw [k1]; exact q.1)
    have := k5 (by omega)
    exact ⟨by omega, by omega, by omega, by omega, w4, fun z => by omega⟩
  · have e := kR_1 (F := aimO (Ss0.map (fun s => s.1)) F) (by rw [k1]; exact q.1)
    have := k5 (by omega)
    exact ⟨by omega, by omega, by omega, by omega, w4, fun z => by omega⟩
  · have e : kR (aimO (Ss0.map (fun s => s.1)) F) = if F.st = -1 then 1 else 3 := by unfold kR; rw [k1, k5 (by omega), if_neg (by omega), if_neg (by omega), if_pos q.1]
    have := k5 (by omega)
    have q2 := q.2.2.2
    rw [e]
    refine ⟨by omega, by omega, ?_, ?_, w4, fun z => by omega⟩ <;> split <;> omega
  · have e := kR_3 (F := aimO (Ss0.map (fun s => s.1)) F) (by rw [k1]; exact q.1)
    have := k5 (by omega)
    have := q.2.2.2.2.1
    exact ⟨by omega, by omega, by omega, by omega, w4, fun z => by omega⟩
  · have e := kR_5 (F := aimO (Ss0.map (fun s => s.1)) F) (by rw [k1]; exact q.1)
    have := k5 (by omega)
    have := q.2.2.2.1
    rw [e]
    refine ⟨by omega, by omega, ?_, ?_, w4, fun z => by omega⟩ <;> split <;> omega
  · have e := kR_6 (F := aimO (Ss0.map (fun s => s.1)) F) (by rw [k1]; exact q.1)
    have := k5 (by omega)
    have := q.2.2.2.1
    exact ⟨by omega, by omega, by omega, by omega, w4, fun _ => ⟨⟨q.2.2.2.2.2.1, by have := q.2.2.2.2.2.2.1; omega⟩, fun x hx => ⟨(q.2.2.2.2.2.2.2 x hx).1, by have := (q.2.2.2.2.2.2.2 x hx).2; omega⟩⟩⟩
  · have e := kR_7 (F := aimO (Ss0.map (fun s => s.1)) F) (by rw [k1]; exact q.1)
    have := k6 q.1
    have := a7 q.1
    exact ⟨by omega, by omega, by omega, by omega, w4, fun z => by omega⟩
  · have e := kR_8 (F := aimO (Ss0.map (fun s => s.1)) F) (by rw [k1]; exact q.1)
    have := k5 (by omega)
    have := q.2.2.2.1
    exact ⟨by omega, by omega, by omega, by omega, w4, fun z => by omega⟩
  · have e := kR_9 (F := aimO (Ss0.map (fun s => s.1)) F) (by rw [k1]; exact q.1)
    have := k5 (by omega)
    have := q.2.2.2.1
    exact ⟨by omega, by omega, by omega, by omega, w4, fun z => by omega⟩
  · have e := kR_10 (F := aimO (Ss0.map (fun s => s.1)) F) (by rw [k1]; exact q.1)
    have := k5 (by omega)
    have := q.2.2.2.2.1
    exact ⟨by omega, by omega, by omega, by omega, w4, fun z => by omega⟩
section O2
variable {g : GP} {l : Launch} {d : Nat} {σ : St} {x m p b : Nat} {A B : DPa} {En : List Enm} {Ss : List Stc}
theorem op_wrong (hD : DsI σ x m p A B En Ss b) : ACi g l d MX11_wrong [vR 11 (some x)] σ (fun a σ1 => ACi g l d MX12_wrong [vR 12 (some m)] σ1 (fun r σ2 => a = r ∧ σ2 = σ)) :=
  AC.of mo_X11_wrong (Nat.le_of_ble_eq_true rfl) (bk_X11_wrong_0 ⟨_, rfl, AC.of mo_X12_wrong (Nat.le_of_ble_eq_true rfl) (bk_X12_wrong_0 ⟨_, rfl, hD.2.2.2.2.2.2.1, rfl⟩)⟩)
theorem x_isStructure {s : Int} {P : Int → St → Prop} (hD : DsI σ x m p A B En Ss b) (h : P (if 0 ≤ s ∧ s < Ss.length then 1 else 0) σ) : ACi g l d MX11_isStructure [vR 11 (some x), vI s] σ P := by
  have e := hD.2.2.2.1.1.1
  refine AC.of mo_X11_isStructure (Nat.le_of_ble_eq_true rfl) (bk_X11_isStructure_0 ⟨fun q => ⟨_, rfl, ?_⟩, fun q => ⟨A.1, hD.1.1, fun q2 => ⟨_, rfl, ?_⟩, fun q2 => ⟨_, rfl, ?_⟩⟩⟩)
  · rw [if_neg (by omega)] at h; exact h
  · rw [if_neg (by omega)] at h; exact h
  · rw [if_pos (by omega)] at h; exact h
theorem m_isStruct {σ1 : St} {s : Int} {P : Int → St → Prop} (hL : LC 12 σ1 m) (hb : gI σ1 1218 m 0 = (b : Int)) (b2 : b < 2) (hn : gI σ1 1219 m b = (Ss.length : Int)) (h : P (if 0 ≤ s ∧ s < Ss.length then 1 else 0) σ1) : ACi g l d MX12_isStruct [vR 12 (some m), vI s] σ1 P := by
  refine AC.of mo_X12_isStruct (Nat.le_of_ble_eq_true rfl) (bk_X12_isStruct_0 ⟨fun q => ⟨_, rfl, ?_⟩, fun q => ⟨hL, ⟨by omega, by omega⟩, ?_⟩⟩)
  · rw [if_neg (by omega)] at h; exact h
  · rw [hb, Int.toNat_natCast, hn]
    refine ⟨fun q2 => ⟨_, rfl, ?_⟩, fun q2 => ⟨_, rfl, ?_⟩⟩
    · rw [if_neg (by omega)] at h; exact h
    · rw [if_pos (by omega)] at h; exact h
theorem at_q {α : Type} {L : List α} {s : Int} (h0 : 0 ≤ s) (h1 : s < L.length) : ∃ S, L[s.toNat]? = some S := ⟨L[s.toNat]'(by omega), List.getElem?_eq_getElem (by omega)⟩
theorem op_size {s : Int} (hD : DsI σ x m p A B En Ss b) : ACi g l (d + 2) MX11_size [vR 11 (some x), vI s] σ (fun a σ1 => ACi g l (d + 2) MX12_size [vR 12 (some m), vI s] σ1 (fun r σ2 => a = r ∧ σ2 = σ)) := by
  obtain ⟨⟨a1, a2, a3, a4, a5, a6, a7⟩, ⟨b1, b2⟩, c, ⟨d1, d2, d3, d4⟩, ⟨e1, e2, e3⟩, ⟨w1, Ss00, w2, w3⟩, v⟩ := id hD
  have l20 := d1.2.1
  have ref : ∀ (r : Int), ((0 ≤ s ∧ s < Ss.length) → ∀ S, Ss[s.toNat]? = some S → r = if S.2.2 = -1 then -3 else S.2.2) → (¬ (0 ≤ s ∧ s < Ss.length) → r = -1) → ACi g l (d + 2) MX12_size [vR 12 (some m), vI s] σ (fun b σ2 => r = b ∧ σ2 = σ) := by
    intro r h1 h0
    refine AC.of mo_X12_size (Nat.le_of_ble_eq_true rfl) (bk_X12_size_0 (m_isStruct a7 e1 e2 e3.1 ?_))
    by_cases c : 0 ≤ s ∧ s < Ss.length
    · obtain ⟨S, hS⟩ := at_q c.1 c.2
      have g1 := (gf_of w2 w3 hS).1
      have er := h1 c S hS
      rw [if_pos c]
      refine ⟨fun _ => ⟨a7, ?_⟩, fun q => absurd q (by decide)⟩
      rw [e1, show (20 * (b : Int) + s).toNat = 20 * b + s.toNat by omega, (e3.2.2.2.2.2 _ S hS).2.2.1]
      refine ⟨⟨by omega, by omega⟩, ⟨by omega, by omega⟩, ⟨by omega, by omega⟩, fun z hz => ⟨fun q => ⟨_, rfl, ?_, rfl⟩, fun q => ⟨_, rfl, ?_, rfl⟩⟩⟩
      · rw [er, if_neg (by omega)]; omega
      · rw [er, if_pos (by omega)]
    · rw [if_neg c]
      exact ⟨fun q => absurd rfl q, fun _ => ⟨_, rfl, h0 c, rfl⟩⟩
  refine AC.of mo_X11_size (Nat.le_of_ble_eq_true rfl) (bk_X11_size_0 (x_isStructure hD ?_))
  by_cases c : 0 ≤ s ∧ s < Ss.length
  · obtain ⟨S, hS⟩ := at_q c.1 c.2
    have g1 := (gf_of w2 w3 hS).1
    have sh := b1.2.2.2.1.1 s.toNat (by omega)
    have sc := d1.2.2.2.2.2 _ S hS
    rw [if_pos c]
    refine ⟨fun _ => ⟨A.1, a1, b1.1, ⟨by omega, by omega⟩, A.2.2.1 s.toNat, sh.1, ?_⟩, fun q => absurd q (by decide)⟩
    rw [sc.2.2.1]
    refine ⟨fun q => ⟨_, rfl, ref _ (fun _ T hT => ?_) (fun z => absurd c z)⟩, fun q => ⟨_, rfl, ref _ (fun _ T hT => ?_) (fun z => absurd c z)⟩⟩
    · rw [hS] at hT; cases hT; rw [if_neg q]
    · rw [hS] at hT; cases hT; rw [if_pos q]
  · rw [if_neg c]
    exact ⟨fun q => absurd rfl q, fun _ => ⟨_, rfl, ref _ (fun z => absurd z c) (fun _ => rfl)⟩⟩
theorem m_names {a : Nat} {c : Int} {τ : St} {P : Int → St → Prop} (hL : LC 12 τ m) (hb : gI τ 1253 m 0 = (b : Int)) (b2 : b < 2) (hR : DR τ m b (3000 * b + 3000) En Ss) (hG : ∀ (s : Nat) (S : Stc), Ss[s]? = some S → ∀ G ∈ S.2.1, GfO En.length Ss s G) (ha : a < Ss.length) (hc : 0 ≤ c) (h1 : dU Ss a c.toNat → P 1 τ) (h0 : ¬ dU Ss a c.toNat → P 0 τ) : ACi g l (d + 1) MX12_names [vR 12 (some m), vI (a : Int), vI c] τ P := by
  have hS : Ss[a]? = some Ss[a] := List.getElem?_eq_getElem ha
  have du : dU Ss a c.toNat ↔ ∃ F ∈ Ss[a].2.1, dUse F c := by
    constructor
    · rintro ⟨S, e, F, hF, hu⟩
      rw [hS] at e; cases e
      exact ⟨F, hF, by rw [show c = ((c.toNat : Nat) : Int) by omega]; exact hu⟩
    · rintro ⟨F, hF, hu⟩
      exact ⟨Ss[a], hS, F, hF, by rw [show ((c.toNat : Nat) : Int) = c by omega]; exact hu⟩
  rw [du] at h1 h0
  obtain ⟨r1, r2, r3, r4, r5⟩ := hR.2.2.2.2.2 a _ hS
  have hGs := hG a _ hS
  have l20 := hR.2.1
  generalize Ss[a].2.1 = Fs at *
  have o00 : i_or 0 0 = 0 := by decide
  have o01 : i_or 0 1 = 1 := by decide
  have o10 : i_or 1 0 = 1 := by decide
  have o11 : i_or 1 1 = 1 := by decide
  have oz : ∀ y : Int, y = 0 ∨ y = 1 → i_or y 0 = y ∧ i_or y 1 = 1 := fun y hy => by rcases hy with rfl | rfl <;> exact ⟨by decide, by decide⟩
  have loop : ∀ (L : List Fld) (j : Nat) (y : Int), (∀ k F, L[k]? = some F → Fs[j + k]? = some F) → j + L.length = Fs.length → (y = 0 ∨ y = 1) → ((y = 1 ∨ ∃ F ∈ L, dUse F c) → P 1 τ) → ((y = 0 ∧ ¬ ∃ F ∈ L, dUse F c) → P 0 τ) → AW g l (d + 1) MX12_names 5 [some (vR 12 (some m)), some (vI (a : Int)), some (vI c), some (vI y), some (vI (j : Int)), none, none] [] τ (fun v σ' => ∃ r, v = some (vI r) ∧ P r σ') := by
    intro L
    induction L with
    | nil =>
      intro j y _ hj hy p1 p0
      have hj : j + 0 = Fs.length := hj
      refine bk_X12_names_5 ⟨hL, ?_⟩
      rw [hb, show (20 * (b : Int) + (a : Int)).toNat = 20 * b + a by omega, r2]
      refine ⟨⟨by omega, by omega⟩, ⟨by omega, by omega⟩, ⟨by omega, by omega⟩, fun _ => ⟨hy, _, rfl, ?_⟩, fun q => absurd (by omega) q⟩
      rcases hy with e | e
      · rw [e]; exact p0 ⟨e, by simp⟩
      · rw [e]; exact p1 (Or.inl e)
    | cons G L ih =>
      intro j y hA hj hy p1 p0
      have hj : j + (L.length + 1) = Fs.length := hj
      have c0 := hA 0 G rfl
      rw [Nat.add_zero] at c0
      have fr := (r5 j G c0).1
      obtain ⟨g1, g2, g3, g4, g5, g6⟩ := gf_st (hGs G (List.mem_of_getElem? c0))
      obtain ⟨⟨_, _, _, _, q5, q6, q7, _, _, q10⟩, q11, _, _⟩ := fr
      generalize hfx : 14 * (20 * b + a) + j = fx at *
      have fn : ((fx : Int)).toNat = fx := by omega
      have next : ∀ y' : Int, (y' = 0 ∨ y' = 1) → ((y' = 1) ↔ (y = 1 ∨ dUse G c)) → R32 ((j : Int) + 1) ∧ AW g l (d + 1) MX12_names 5 [some (vR 12 (some m)), some (vI (a : Int)), some (vI c), some (vI y'), some (vI ((j : Int) + 1)), none, none] [] τ (fun v σ' => ∃ r, v = some (vI r) ∧ P r σ') := fun y' hy' e => ⟨⟨by omega, by omega⟩, ih (j + 1) y' (fun k F hk => by rw [show j + 1 + k = j + (k + 1) by omega]; exact hA (k + 1) F hk) (by omega) hy' (fun z => p1 (by
          rcases z with z | ⟨F, hF, hu⟩
          · rcases e.mp z with w | w
            · exact Or.inl w
            · exact Or.inr ⟨G, List.mem_cons_self, w⟩
          · exact Or.inr ⟨F, List.mem_cons_of_mem _ hF, hu⟩)) (fun z => p0 ⟨by
            rcases hy with w | w
            · exact w
            · have := e.mpr (Or.inl w); omega, fun ⟨F, hF, hu⟩ => by
            rcases List.mem_cons.mp hF with rfl | hF
            · have := e.mpr (Or.inr hu); omega
            · exact z.2 ⟨F, hF, hu⟩⟩)⟩
      have s144 : ∀ y' : Int, (y' = 0 ∨ y' = 1) → ((y' = 1) ↔ (y = 1 ∨ G.st = c ∨ (G.ki = 6 ∧ ∃ e ∈ G.es, e.2.2 = c))) → AW g l (d + 1) MX12_names 144 [some (vR 12 (some m)), some (vI (a : Int)), some (vI c), some (vI y'), some (vI (j : Int)), some (vI (fx : Int)), none] [] τ (fun v σ' => ∃ r, v = some (vI r) ∧ P r σ') := by
        intro y' hy' e
        refine bk_X12_names_144 ⟨hL, ⟨by omega, by omega⟩, ?_⟩
        rw [fn, q11, q5, (oz y' hy').1, (oz y' hy').2]
        refine ⟨fun z => next y' hy' ?_, fun z => ⟨fun z2 => next y' hy' ?_, fun z2 => next 1 (Or.inr rfl) ?_⟩⟩
        · have n6 : ¬ G.ki = 6 := fun w => z (g4.mpr w)
          unfold dUse
          rw [e]
          exact ⟨fun w => by
            rcases w with w | w | w
            · exact Or.inl w
            · exact Or.inr (Or.inl w)
            · exact absurd w.1 n6, fun w => by
            rcases w with w | w | w
            · exact Or.inl w
            · exact Or.inr (Or.inl w)
            · exact absurd w.1 n6⟩
        · have k6 := g4.mp z
          unfold dUse
          rw [e]
          exact ⟨fun w => by
            rcases w with w | w | w
            · exact Or.inl w
            · exact Or.inr (Or.inl w)
            · exact Or.inr (Or.inr ⟨k6, Or.inr w.2⟩), fun w => by
            rcases w with w | w | ⟨_, w | w⟩
            · exact Or.inl w
            · exact Or.inr (Or.inl w)
            · exact absurd w z2
            · exact Or.inr (Or.inr ⟨k6, w⟩)⟩
        · have k6 := g4.mp z
          exact ⟨fun _ => Or.inr (Or.inr ⟨k6, Or.inl z2⟩), fun _ => rfl⟩
      have s89 : ∀ (E : List Ent) (q : Nat) (y' : Int), (∀ k e, E[k]? = some e → G.es[q + k]? = some e) → q + E.length = G.es.length → (y' = 0 ∨ y' = 1) → (∀ y2 : Int, (y2 = 0 ∨ y2 = 1) → ((y2 = 1) ↔ (y' = 1 ∨ (G.ki = 6 ∧ ∃ e ∈ E, e.2.2 = c))) → AW g l (d + 1) MX12_names 144 [some (vR 12 (some m)), some (vI (a : Int)), some (vI c), some (vI y2), some (vI (j : Int)), some (vI (fx : Int)), none] [] τ (fun v σ' => ∃ r, v = some (vI r) ∧ P r σ')) → AW g l (d + 1) MX12_names 89 [some (vR 12 (some m)), some (vI (a : Int)), some (vI c), some (vI y'), some (vI (j : Int)), some (vI (fx : Int)), some (vI (q : Int))] [] τ (fun v σ' => ∃ r, v = some (vI r) ∧ P r σ') := by
        intro E
        induction E with
        | nil =>
          intro q y' _ hq hy' k
          have hq : q + 0 = G.es.length := hq
          have go := k y' hy' ⟨fun w => Or.inl w, fun w => by
            rcases w with w | ⟨_, e, he, _⟩
            · exact w
            · exact absurd he (by simp)⟩
          refine bk_X12_names_89 ⟨hL, ⟨by omega, by omega⟩, ?_⟩
          rw [fn, q11, q7]
          exact ⟨fun _ => go, fun _ => ⟨fun _ => go, fun w => absurd (by omega) w⟩⟩
        | cons e E ihE =>
          intro q y' hE hq hy' k
          have hq : q + (E.length + 1) = G.es.length := hq
          have m0 := hE 0 e rfl
          rw [Nat.add_zero] at m0
          refine bk_X12_names_89 ⟨hL, ⟨by omega, by omega⟩, ?_⟩
          rw [fn, q11, q7]
          refine ⟨fun z => k y' hy' ?_, fun z => ⟨fun w => absurd w (by omega), fun _ => ?_⟩⟩
          · have n6 : ¬ G.ki = 6 := fun w => z (g4.mpr w)
            exact ⟨fun w => Or.inl w, fun w => w.elim id (fun u => absurd u.1 n6)⟩
          · have k6 := g4.mp z
            have pe := (q10 q e m0).2.2 k6
            rw [show (16 * (fx : Int) + (q : Int)).toNat = 16 * fx + q by omega, pe, (oz y' hy').1, (oz y' hy').2]
            refine ⟨⟨by omega, by omega⟩, ⟨by omega, by omega⟩, ⟨by omega, by omega⟩, fun z2 => ⟨⟨by omega, by omega⟩, ihE (q + 1) y' (fun k e' he => by rw [show q + 1 + k = q + (k + 1) by omega]; exact hE (k + 1) e' he) (by omega) hy' (fun y2 hy2 e2 => k y2 hy2 ?_)⟩, fun z2 => ⟨⟨by omega, by omega⟩, ihE (q + 1) 1 (fun k e' he => by rw [show q + 1 + k = q + (k + 1) by omega]; exact hE (k + 1) e' he) (by omega) (Or.inr rfl) (fun y2 hy2 e2 => k y2 hy2 ?_)⟩⟩
            · rw [e2]
              exact ⟨fun w => w.imp id (fun ⟨u, x, hx, hu⟩ => ⟨u, x, List.mem_cons_of_mem _ hx, hu⟩), fun w => w.imp id (fun ⟨u, x, hx, hu⟩ => by
                rcases List.mem_cons.mp hx with rfl | hx
                · exact absurd hu z2
                · exact ⟨u, x, hx, hu⟩)⟩
            · rw [e2]
              exact ⟨fun _ => Or.inr ⟨k6, e, List.mem_cons_self, z2⟩, fun _ => Or.inl rfl⟩
      have s89' : ∀ y' : Int, (y' = 0 ∨ y' = 1) → ((y' = 1) ↔ (y = 1 ∨ G.st = c)) → AW g l (d + 1) MX12_names 89 [some (vR 12 (some m)), some (vI (a : Int)), some (vI c), some (vI y'), some (vI (j : Int)), some (vI (fx : Int)), some (vI 0)] [] τ (fun v σ' => ∃ r, v = some (vI r) ∧ P r σ') := fun y' hy' e => s89 G.es 0 y' (fun k e he => by rw [Nat.zero_add]; exact he) (by omega) hy' (fun y2 hy2 e2 => s144 y2 hy2 (by
          rw [e2, e]
          exact ⟨fun w => by
            rcases w with (w | w) | w
            · exact Or.inl w
            · exact Or.inr (Or.inl w)
            · exact Or.inr (Or.inr w), fun w => by
            rcases w with w | w | w
            · exact Or.inl (Or.inl w)
            · exact Or.inl (Or.inr w)
            · exact Or.inr w⟩))
      have s68 : (kR G = 2 ∨ kR G = 3 ∨ kR G = 8) → AW g l (d + 1) MX12_names 68 [some (vR 12 (some m)), some (vI (a : Int)), some (vI c), none, some (vI (j : Int)), some (vI (fx : Int)), none] [vI y] τ (fun v σ' => ∃ r, v = some (vI r) ∧ P r σ') := fun _ => by
        refine bk_X12_names_68 ⟨hL, ⟨by omega, by omega⟩, ?_⟩
        rw [fn, q6, (oz y hy).1, (oz y hy).2]
        exact ⟨fun z => s89' y hy ⟨fun w => Or.inl w, fun w => w.elim id (fun u => absurd u z)⟩, fun z => s89' 1 (Or.inr rfl) ⟨fun _ => Or.inr z, fun _ => rfl⟩⟩
      refine bk_X12_names_5 ⟨hL, ?_⟩
      rw [hb, show (20 * (b : Int) + (a : Int)).toNat = 20 * b + a by omega, r2]
      refine ⟨⟨by omega, by omega⟩, ⟨by omega, by omega⟩, ⟨by omega, by omega⟩, fun q => absurd q (by omega), fun _ => m_field hb b2 (by omega) (by omega) ?_⟩
      rw [show 14 * (20 * (b : Int) + (a : Int)) + (j : Int) = (fx : Int) by omega, fn, q11, (oz y hy).1]
      refine ⟨hL, ⟨by omega, by omega⟩, fun z => s68 (Or.inl z), fun z => ⟨fun z2 => s68 (Or.inr (Or.inl z2)), fun z2 => ⟨fun z3 => s89' y hy ?_, fun z3 => s68 (Or.inr (Or.inr z3))⟩⟩⟩
      have : ¬ 0 ≤ G.st := fun w => by have := g3.mp w; omega
      exact ⟨fun w => Or.inl w, fun w => w.elim id (fun u => by omega)⟩
  exact AC.of mo_X12_names (Nat.le_of_ble_eq_true rfl) (bk_X12_names_0 (loop Fs 0 0 (fun k F hk => by rw [Nat.zero_add]; exact hk) (by omega) (Or.inl rfl) (fun z => h1 (z.elim (fun w => absurd w (by decide)) id)) (fun z => h0 z.2)))
end O2
