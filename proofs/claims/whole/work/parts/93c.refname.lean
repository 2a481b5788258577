/-! the reference's names -/
section M19
variable {g : GP} {l : Launch} {d : Nat} {σ0 σ : St} {m b fd lo la i nn : Nat} {X : Txt} {L : List (Nat × Int64 × Int)} {F : Fld} {bg : Int × Int × Int} {En : List Enm} {Ss : List Stc} {Fs : List Fld}
theorem rd0 (hO : Out m (RFd b fd lo la) σ0 σ) {f i : Nat} (hf : (1218 ≤ f ∧ f ≤ 1227) ∨ f = 1253 ∨ f = 1254) : gI σ f m i = gI σ0 f m i ∧ gJ σ f m i = gJ σ0 f m i := hO.2 f i (fun q => by
  rcases q with q | q | q | q | q
  · unfold RTk at q; omega
  · omega
  · omega
  · omega
  · omega)
theorem E0.dr (hE : E0 σ0 m b lo En Ss Fs) (hfd : fd = fdx b Ss Fs) (hO : Out m (RFd b fd lo la) σ0 σ) : DR σ m b lo En Ss := by
  obtain ⟨e1, e2, e3, e4, e5, e6, e7, e8, e9, e10, e11, e12⟩ := hE
  have hfd : fd = 14 * (20 * b + Ss.length) + Fs.length := hfd
  refine e5.out hO (fun s S hS F hF => ((e11 s S hS).2.2.2.2 F hF).2.2.2.1) (fun f i z0 z1 z2 z3 q => ?_) (fun f z q => ?_) (fun f s z0 z1 z2 q => ?_) (fun f e z0 z1 z2 q => ?_) (fun f e j z0 z1 z2 z3 q => ?_) (fun f s k z0 z1 z2 z3 q => ?_) (fun f s k p z0 z1 z2 z3 z4 q => ?_) <;> rcases q with q | q | q | q | q <;> first | (unfold RTk at q; omega) | omega
theorem E0.fr (hE : E0 σ0 m b lo En Ss Fs) (hfd : fd = fdx b Ss Fs) (hO : Out m (RFd b fd lo la) σ0 σ) {k : Nat} {G : Fld} (hk : Fs[k]? = some G) : FR σ m b (14 * (20 * b + Ss.length) + k) G := by
  obtain ⟨e1, e2, e3, e4, e5, e6, e7, e8, e9, e10, e11, e12⟩ := hE
  have hfd : fd = 14 * (20 * b + Ss.length) + Fs.length := hfd
  have lt := (List.getElem?_eq_some_iff.mp hk).1
  obtain ⟨c1, c2⟩ := e9 k G hk
  have w16 := (e10 G (List.mem_of_getElem? hk)).2.2.2.1
  refine (c1.out c2 hO (fun f i z0 z1 z2 z3 q => ?_) (fun f z0 z1 q => ?_) (fun f p z0 z1 z2 q => ?_)).1 <;> rcases q with q | q | q | q | q <;> first | (unfold RTk at q; omega) | omega
theorem rho_ne {v w : Int64} (hv : IsN v) (hw : IsN w) : (rho v = rho w) ↔ v = w := rho_iff hv hw
theorem g_structNamed {w : Int64} {n : Int} {P : Int → St → Prop} (hE : E0 σ0 m b lo En Ss Fs) (hO : Out m (RFd b fd lo la) σ0 σ) (hw : IsN w) (hn : n = (Ss.length : Int)) (h : P (idx (Ss.map (fun s => s.1)) w 0) σ) : ACi g l d MX12_structNamed [vR 12 (some m), vJ (rho w), vI n] σ P := by
  obtain ⟨e1, e2, e3, e4, e5, e6, e7, e8, e9, e10, e11, e12⟩ := hE
  have b53 : gI σ 1253 m 0 = (b : Int) := by rw [(rd0 hO (by omega)).1]; exact e2
  have loop : ∀ (A : List Stc) (j : Nat), (∀ k S, A[k]? = some S → gJ σ 1221 m (20 * b + (j + k)) = rho S.1 ∧ IsN S.1) → j + A.length = Ss.length → P (idx (A.map (fun s => s.1)) w j) σ → AW g l d MX12_structNamed 3 [some (vR 12 (some m)), some (vJ (rho w)), none, some (vI n), some (vI (j : Int))] [] σ (fun v σ' => ∃ r, v = some (vI r) ∧ P r σ') := by
    intro A
    induction A with
    | nil =>
      intro j _ hj hP
      have hj : j + 0 = Ss.length := hj
      exact bk_X12_structNamed_3 ⟨fun _ => ⟨_, rfl, hP⟩, fun q => absurd (by omega) q⟩
    | cons S A ih =>
      intro j hA hj hP
      have hj : j + (A.length + 1) = Ss.length := hj
      obtain ⟨c1, c2⟩ := hA 0 S rfl
      rw [Nat.add_zero] at c1
      rw [List.map_cons, idx] at hP
      refine bk_X12_structNamed_3 ⟨fun q => absurd q (by omega), fun _ => ⟨hO.1.lc e1, ?_⟩⟩
      rw [b53, show (20 * (b : Int) + (j : Int)).toNat = 20 * b + j by omega, c1]
      refine ⟨⟨by omega, by omega⟩, ⟨by omega, by omega⟩, ⟨by omega, by omega⟩, fun q => ⟨⟨by omega, by omega⟩, ?_⟩, fun q => ⟨_, rfl, ?_⟩⟩
      · rw [if_neg (fun z => q (by rw [z]))] at hP
        exact ih (j + 1) (fun k S' hS' => by rw [show j + 1 + k = j + (k + 1) by omega]; exact hA (k + 1) S' hS') (by omega) hP
      · rw [if_pos ((rho_iff c2 hw).mp q)] at hP
        exact hP
  refine AC.of mo_X12_structNamed (Nat.le_of_ble_eq_true rfl) (bk_X12_structNamed_0 (loop Ss 0 (fun k S hk => ?_) (by omega) h))
  rw [Nat.zero_add, (rd0 hO (by omega)).2]
  exact ⟨(e5.2.2.2.2.2 k S hk).1, (e11 k S hk).1⟩
theorem g_enumNamed {w : Int64} {P : Int → St → Prop} (hE : E0 σ0 m b lo En Ss Fs) (hO : Out m (RFd b fd lo la) σ0 σ) (hw : IsN w) (h : P (idx (En.map (fun s => s.1)) w 0) σ) : ACi g l d MX12_enumNamed [vR 12 (some m), vJ (rho w)] σ P := by
  obtain ⟨e1, e2, e3, e4, e5, e6, e7, e8, e9, e10, e11, e12⟩ := hE
  have b53 : gI σ 1253 m 0 = (b : Int) := by rw [(rd0 hO (by omega)).1]; exact e2
  have n20 : gI σ 1220 m b = (En.length : Int) := by rw [(rd0 hO (by omega)).1]; exact e5.2.2.1
  have n8 := e5.2.2.2.1
  have loop : ∀ (A : List Enm) (j : Nat), (∀ k S, A[k]? = some S → gJ σ 1224 m (8 * b + (j + k)) = rho S.1 ∧ IsN S.1) → j + A.length = En.length → P (idx (A.map (fun s => s.1)) w j) σ → AW g l d MX12_enumNamed 2 [some (vR 12 (some m)), some (vJ (rho w)), none, some (vI (j : Int))] [] σ (fun v σ' => ∃ r, v = some (vI r) ∧ P r σ') := by
    intro A
    induction A with
    | nil =>
      intro j _ hj hP
      have hj : j + 0 = En.length := hj
      refine bk_X12_enumNamed_2 ⟨hO.1.lc e1, ?_⟩
      rw [b53, show ((b : Int)).toNat = b by omega, n20]
      exact ⟨⟨by omega, by omega⟩, fun _ => ⟨_, rfl, hP⟩, fun q => absurd (by omega) q⟩
    | cons S A ih =>
      intro j hA hj hP
      have hj : j + (A.length + 1) = En.length := hj
      obtain ⟨c1, c2⟩ := hA 0 S rfl
      rw [Nat.add_zero] at c1
      rw [List.map_cons, idx] at hP
      refine bk_X12_enumNamed_2 ⟨hO.1.lc e1, ?_⟩
      rw [b53, show ((b : Int)).toNat = b by omega, n20, show (8 * (b : Int) + (j : Int)).toNat = 8 * b + j by omega, c1]
      refine ⟨⟨by omega, by omega⟩, fun q => absurd q (by omega), fun _ => ⟨⟨by omega, by omega⟩, ⟨by omega, by omega⟩, ⟨by omega, by omega⟩, fun q => ⟨⟨by omega, by omega⟩, ?_⟩, fun q => ⟨_, rfl, ?_⟩⟩⟩
      · rw [if_neg (fun z => q (by rw [z]))] at hP
        exact ih (j + 1) (fun k S' hS' => by rw [show j + 1 + k = j + (k + 1) by omega]; exact hA (k + 1) S' hS') (by omega) hP
      · rw [if_pos ((rho_iff c2 hw).mp q)] at hP
        exact hP
  refine AC.of mo_X12_enumNamed (Nat.le_of_ble_eq_true rfl) (bk_X12_enumNamed_0 (loop En 0 (fun k S hk => ?_) (by omega) h))
  rw [Nat.zero_add, (rd0 hO (by omega)).2]
  exact ⟨(e5.2.2.2.2.1 k S hk).1, (e12 k S hk).1⟩
theorem kR_iff {nE : Nat} {Ss : List Stc} {G : Fld} (h : WK nE Ss G) : (kR G = 0 ↔ G.ki = 1) ∧ (kR G = 11 ↔ G.ki = 10) ∧ (kR G = 8 ↔ G.ki = 7) ∧ (kR G = 4 ↔ G.ki = 3) ∧ (kR G = 9 ↔ G.ki = 8) ∧ (¬ G.ki = 8 → IsN G.nm) ∧ (G.ki = 8 → G.nm = 0) := by
  unfold kR
  rcases h with q | q | q | q | q | q | q | q | q | q
  · rw [if_pos q.1]; have := q.1; exact ⟨by omega, by omega, by omega, by omega, by omega, fun _ => q.2.1, fun z => by omega⟩
  · rw [if_neg (by omega), if_pos q.1]; have := q.1; exact ⟨by omega, by omega, by omega, by omega, by omega, fun _ => q.2.1, fun z => by omega⟩
  · rw [if_neg (by omega), if_neg (by omega), if_pos q.1]; have := q.1
    refine ⟨?_, ?_, ?_, ?_, ?_, fun _ => q.2.1, fun z => by omega⟩ <;> split <;> omega
  · rw [if_neg (by omega), if_neg (by omega), if_neg (by omega), if_pos q.1]; have := q.1; exact ⟨by omega, by omega, by omega, by omega, by omega, fun _ => q.2.1, fun z => by omega⟩
  · rw [if_neg (by omega), if_neg (by omega), if_neg (by omega), if_neg (by omega), if_pos q.1]; have := q.1
    refine ⟨?_, ?_, ?_, ?_, ?_, fun _ => q.2.1, fun z => by omega⟩ <;> split <;> omega
  · rw [if_neg (by omega), if_neg (by omega), if_neg (by omega), if_neg (by omega), if_neg (by omega), if_pos q.1]; have := q.1; exact ⟨by omega, by omega, by omega, by omega, by omega, fun _ => q.2.1, fun z => by omega⟩
  · rw [if_neg (by omega), if_neg (by omega), if_neg (by omega), if_neg (by omega), if_neg (by omega), if_neg (by omega), if_pos q.1]; have := q.1; exact ⟨by omega, by omega, by omega, by omega, by omega, fun _ => q.2.1, fun z => by omega⟩
  · rw [if_neg (by omega), if_neg (by omega), if_neg (by omega), if_neg (by omega), if_neg (by omega), if_neg (by omega), if_neg (by omega), if_pos q.1]; have := q.1; exact ⟨by omega, by omega, by omega, by omega, by omega, fun z => absurd q.1 z, fun _ => q.2.1⟩
  · rw [if_neg (by omega), if_neg (by omega), if_neg (by omega), if_neg (by omega), if_neg (by omega), if_neg (by omega), if_neg (by omega), if_neg (by omega), if_pos q.1]; have := q.1; exact ⟨by omega, by omega, by omega, by omega, by omega, fun _ => q.2.1, fun z => by omega⟩
  · rw [if_neg (by omega), if_neg (by omega), if_neg (by omega), if_neg (by omega), if_neg (by omega), if_neg (by omega), if_neg (by omega), if_neg (by omega), if_neg (by omega)]; have := q.1; exact ⟨by omega, by omega, by omega, by omega, by omega, fun _ => q.2.1, fun z => by omega⟩
theorem BiO_n : ∀ (es : List Ent) (a w : Int), BiO es a w → ∀ e ∈ es, IsN e.1
  | [], _, _, _, e, he => absurd he (by simp)
  | f :: es, a, w, h, e, he => by
    rcases List.mem_cons.mp he with rfl | he
    · exact h.1
    · exact BiO_n es _ w h.2.2.2.2 e he
theorem WK_bits {nE : Nat} {Ss : List Stc} {G : Fld} (h : WK nE Ss G) (k3 : G.ki = 3) : (∀ e ∈ G.es, IsN e.1) ∧ G.es.length ≤ 12 := by
  rcases h with q | q | q | q | q | q | q | q | q | q
  · omega
  · omega
  · omega
  · exact ⟨BiO_n _ _ _ q.2.2.2.2.2.1, q.2.2.2.2.2.2⟩
  · omega
  · omega
  · omega
  · omega
  · omega
  · omega
theorem g_told {fx : Nat} {G : Fld} {w : Int64} {nE : Nat} {P : Int → St → Prop} (hL : LC 12 σ m) (hf : fx < 560) (hG : FR σ m b fx G) (hW : WFf nE Ss G) (hw : IsN w) (h : P (if tf w G = true then 1 else 0) σ) : ACi g l d MX12_told [vR 12 (some m), vI (fx : Int), vJ (rho w)] σ P := by
  obtain ⟨k1, k2, k3, k4, k5, k6, k7⟩ := kR_iff hW.2.2.2.2
  have ek := hG.2.1
  have s27 : ¬ G.nm = w → AW g l d MX12_told 27 [some (vR 12 (some m)), some (vI (fx : Int)), some (vJ (rho w)), none, some (vI 0)] [] σ (fun v σ' => ∃ r, v = some (vI r) ∧ P r σ') := by
    intro hn
    have et : tf w G = (G.ki == 3 && G.es.any (fun e => e.1 == w)) := by unfold tf; rw [show (G.nm == w) = false by simpa using hn, Bool.false_or]
    by_cases b3 : G.ki = 3
    · have bw := (WK_bits hW.2.2.2.2 b3)
      have et : tf w G = G.es.any (fun e => e.1 == w) := by rw [et, b3]; rfl
      rw [et] at h
      have loop : ∀ (A : List Ent) (j : Nat), (∀ k e, A[k]? = some e → gJ σ 1239 m (16 * fx + (j + k)) = rho e.1 ∧ IsN e.1) → j + A.length = G.es.length → P (if A.any (fun e => e.1 == w) = true then 1 else 0) σ → AW g l d MX12_told 27 [some (vR 12 (some m)), some (vI (fx : Int)), some (vJ (rho w)), none, some (vI (j : Int))] [] σ (fun v σ' => ∃ r, v = some (vI r) ∧ P r σ') := by
        intro A
        induction A with
        | nil =>
          intro j _ hj hP
          have hj : j + 0 = G.es.length := hj
          refine bk_X12_told_27 ⟨hL, ⟨by omega, by omega⟩, ?_⟩
          rw [show ((fx : Int)).toNat = fx by omega, ek, hG.1.2.2.2.2.2.2.1]
          exact ⟨fun q => absurd (k4.mpr b3) q, fun _ => ⟨fun _ => ⟨_, rfl, hP⟩, fun q => absurd (by omega) q⟩⟩
        | cons e A ih =>
          intro j hA hj hP
          have hj : j + (A.length + 1) = G.es.length := hj
          obtain ⟨c1, c2⟩ := hA 0 e rfl
          rw [Nat.add_zero] at c1
          rw [List.any_cons] at hP
          refine bk_X12_told_27 ⟨hL, ⟨by omega, by omega⟩, ?_⟩
          rw [show ((fx : Int)).toNat = fx by omega, ek, hG.1.2.2.2.2.2.2.1, show (16 * (fx : Int) + (j : Int)).toNat = 16 * fx + j by omega, c1]
          refine ⟨fun q => absurd (k4.mpr b3) q, fun _ => ⟨fun q => absurd q (by omega), fun _ => ⟨⟨by omega, by omega⟩, ⟨by omega, by omega⟩, ⟨by omega, by omega⟩, fun q => ⟨⟨by omega, by omega⟩, ?_⟩, fun q => ⟨_, rfl, ?_⟩⟩⟩⟩
          · have : (e.1 == w) = false := by simpa using (fun z => q (by rw [z]) : ¬ e.1 = w)
            rw [this, Bool.false_or] at hP
            exact ih (j + 1) (fun k e' he => by rw [show j + 1 + k = j + (k + 1) by omega]; exact hA (k + 1) e' he) (by omega) hP
          · rw [(rho_iff c2 hw).mp q] at hP
            simpa using hP
      refine loop G.es 0 (fun k e he => ?_) (by omega) h
      have ie := bw.1 e (List.mem_of_getElem? he)
      rw [Nat.zero_add]
      exact ⟨(hG.1.2.2.2.2.2.2.2.2.2 k e he).1 ie.nz, ie⟩
    · have et : tf w G = false := by rw [et]; simp [b3]
      rw [et] at h
      refine bk_X12_told_27 ⟨hL, ⟨by omega, by omega⟩, ?_⟩
      rw [show ((fx : Int)).toNat = fx by omega, ek]
      exact ⟨fun _ => ⟨_, rfl, h⟩, fun q => absurd (k4.mp q) b3⟩
  refine AC.of mo_X12_told (Nat.le_of_ble_eq_true rfl) (bk_X12_told_0 ⟨hL, ⟨by omega, by omega⟩, ?_⟩)
  rw [show ((fx : Int)).toNat = fx by omega, ek]
  refine ⟨fun q => s27 (fun z => hw.nz (by rw [← z]; exact k7 (k5.mp q))), fun q => ?_⟩
  have hN := k6 (fun z => q (k5.mpr z))
  rw [hG.1.2.2.2.2.2.2.2.1 hN.nz]
  refine ⟨fun q2 => s27 (fun z => q2 (by rw [z])), fun q2 => ⟨_, rfl, ?_⟩⟩
  have : tf w G = true := by unfold tf; rw [(rho_iff hN hw).mp q2]; simp
  rw [this] at h
  exact h
end M19
