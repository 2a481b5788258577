/-! the reference's exprs within a field -/
section M21
variable {g : GP} {l : Launch} {D : Nat} {σ0 σ : St} {m b fd lo la i nn : Nat} {X : Txt} {L : List (Nat × Int64 × Int)} {F : Fld} {bg : Int × Int × Int} {En : List Enm} {Ss : List Stc} {Fs : List Fld}
theorem cv_13 {f p : Int} (h0 : 0 ≤ p) (h1 : p < 13) : cv (13 * f + p) = 16 * f + p := by unfold cv; omega
/-- a name in an expr -/
theorem g_lookedUp {τ : St} {d : Nat} {P : Int → St → Prop} (hX : X.OK) (hL : LC 12 τ m) (hb : gI τ 1253 m 0 = (b : Int)) (b2 : b < 2) (hs : gI τ 1254 m 0 = (Ss.length : Int)) (s20 : Ss.length < 20) (hkn : gI τ 1257 m 0 = (Fs.length : Int)) (h14 : Fs.length ≤ 14) (hF : ∀ k G, Fs[k]? = some G → gI τ 1228 m (14 * (20 * b + Ss.length) + k) = kR G ∧ (¬ G.nm = 0 → gJ τ 1238 m (14 * (20 * b + Ss.length) + k) = rho G.nm) ∧ gI τ 1237 m (14 * (20 * b + Ss.length) + k) = (G.es.length : Int) ∧ ∀ p e, G.es[p]? = some e → ¬ e.1 = 0 → gJ τ 1239 m (16 * (14 * (20 * b + Ss.length) + k) + p) = rho e.1) (hW : ∀ G ∈ Fs, WFf En.length Ss G) (hT : RT τ m X i) (k2 : X.k i = 2)
    (h : P (if opn Fs (X.v i) 0 = -1 then -1 else cv (opn Fs (X.v i) 0)) τ) : ACi g l (d + 1) MX12_lookedUp [vR 12 (some m)] τ P := by
  obtain ⟨ew, iw⟩ := (hT.sort hX).2.2.2.2.1 k2
  generalize X.v i = w at *
  have loop : ∀ (A : List Fld) (j : Nat), (∀ k G, A[k]? = some G → Fs[j + k]? = some G) → j + A.length = Fs.length → P (if opn A w j = -1 then -1 else cv (opn A w j)) τ → AW g l (d + 1) MX12_lookedUp 2 [some (vR 12 (some m)), some (vI (j : Int)), none, none] [] τ (fun v σ' => ∃ r, v = some (vI r) ∧ P r σ') := by
    intro A
    induction A with
    | nil =>
      intro j _ hj hP
      have hj : j + 0 = Fs.length := hj
      refine bk_X12_lookedUp_2 ⟨fun _ => ⟨_, rfl, ?_⟩, fun q => absurd (by rw [hkn]; omega) q⟩
      rw [opn, if_pos rfl] at hP
      exact hP
    | cons G A ih =>
      intro j hA hj hP
      have hj : j + (A.length + 1) = Fs.length := hj
      have c0 := hA 0 G rfl
      rw [Nat.add_zero] at c0
      obtain ⟨f1, f2, f3, f4⟩ := hF j G c0
      have wG := hW G (List.mem_of_getElem? c0)
      obtain ⟨k1, k2', k3, k4, k5, k6, k7⟩ := kR_iff wG.2.2.2.2
      generalize hfx : 14 * (20 * b + Ss.length) + j = fx at *
      have fx5 : fx < 560 := by omega
      have fxn : ((fx : Int)).toNat = fx := by omega
      rw [opn] at hP
      have next : P (if opn A w ((j : Int) + 1) = -1 then -1 else cv (opn A w ((j : Int) + 1))) τ → R32 ((j : Int) + 1) ∧ AW g l (d + 1) MX12_lookedUp 2 [some (vR 12 (some m)), some (vI ((j : Int) + 1)), none, none] [] τ (fun v σ' => ∃ r, v = some (vI r) ∧ P r σ') := fun hP => ⟨⟨by omega, by omega⟩, ih (j + 1) (fun k G' hG' => by rw [show j + 1 + k = j + (k + 1) by omega]; exact hA (k + 1) G' hG') (by omega) hP⟩
      have s72 : ¬ ((G.ki = 1 ∨ G.ki = 10 ∨ G.ki = 7) ∧ G.nm = w) → AW g l (d + 1) MX12_lookedUp 72 [some (vR 12 (some m)), some (vI (j : Int)), some (vI (fx : Int)), some (vI 0)] [] τ (fun v σ' => ∃ r, v = some (vI r) ∧ P r σ') := by
        intro hno
        rw [if_neg hno] at hP
        by_cases b3 : G.ki = 3
        · obtain ⟨bn, b12⟩ := WK_bits wG.2.2.2.2 b3
          have inner : ∀ (M : List Ent) (q : Nat), (∀ k e, M[k]? = some e → G.es[q + k]? = some e) → q + M.length = G.es.length → (idx (M.map (fun e => e.1)) w q = -1 → P (if opn A w ((j : Int) + 1) = -1 then -1 else cv (opn A w ((j : Int) + 1))) τ) → (¬ idx (M.map (fun e => e.1)) w q = -1 → P (16 * (j : Int) + 1 + idx (M.map (fun e => e.1)) w q) τ) → AW g l (d + 1) MX12_lookedUp 72 [some (vR 12 (some m)), some (vI (j : Int)), some (vI (fx : Int)), some (vI (q : Int))] [] τ (fun v σ' => ∃ r, v = some (vI r) ∧ P r σ') := by
            intro M
            induction M with
            | nil =>
              intro q _ hq hP1 _
              have hq : q + 0 = G.es.length := hq
              refine bk_X12_lookedUp_72 ⟨hL, ⟨by omega, by omega⟩, ?_⟩
              rw [fxn, f1, f3]
              exact ⟨fun z => absurd (k4.mpr b3) z, fun _ => ⟨fun _ => next (hP1 rfl), fun z => absurd (by omega) z⟩⟩
            | cons e M ihM =>
              intro q hM hq hP1 hP0
              have hq : q + (M.length + 1) = G.es.length := hq
              have m0 := hM 0 e rfl
              rw [Nat.add_zero] at m0
              have ie := bn e (List.mem_of_getElem? m0)
              have en := f4 q e m0 ie.nz
              rw [List.map_cons, idx] at hP1 hP0
              refine bk_X12_lookedUp_72 ⟨hL, ⟨by omega, by omega⟩, ?_⟩
              rw [fxn, f1, f3, show (16 * (fx : Int) + (q : Int)).toNat = 16 * fx + q by omega, en, ew]
              refine ⟨fun z => absurd (k4.mpr b3) z, fun _ => ⟨fun z => absurd z (by omega), fun _ => ⟨⟨by omega, by omega⟩, ⟨by omega, by omega⟩, ⟨by omega, by omega⟩, fun z => ⟨⟨by omega, by omega⟩, ?_⟩, fun z => ⟨⟨by omega, by omega⟩, ⟨by omega, by omega⟩, ⟨by omega, by omega⟩, _, rfl, ?_⟩⟩⟩⟩
              · have ne : ¬ e.1 = w := fun y => z (by rw [y])
                rw [if_neg ne] at hP1 hP0
                exact ihM (q + 1) (fun k e' he => by rw [show q + 1 + k = q + (k + 1) by omega]; exact hM (k + 1) e' he) (by omega) hP1 hP0
              · rw [if_pos ((rho_iff ie iw).mp z)] at hP0
                exact hP0 (by omega)
          refine inner G.es 0 (fun k e he => by rw [Nat.zero_add]; exact he) (by omega) (fun z => ?_) (fun z => ?_)
          · have c3 : ¬ (G.ki = 3 ∧ ¬ idx (G.es.map (fun e => e.1)) w 0 = -1) := fun y => y.2 z
            rw [if_neg c3] at hP; exact hP
          · have ig := idx_ge (w := w) (G.es.map (fun e => e.1)) 0 (by decide)
            rw [List.length_map] at ig
            rw [if_pos (⟨b3, z⟩ : G.ki = 3 ∧ ¬ idx (G.es.map (fun e => e.1)) w 0 = -1), if_neg (show ¬ 13 * (j : Int) + 1 + idx (G.es.map (fun e => e.1)) w 0 = -1 by omega), show 13 * (j : Int) + 1 + idx (G.es.map (fun e => e.1)) w 0 = 13 * (j : Int) + (1 + idx (G.es.map (fun e => e.1)) w 0) by omega, cv_13 (by omega) (by omega)] at hP
            show P (16 * (j : Int) + 1 + idx (G.es.map (fun e => e.1)) w 0) τ
            rw [show 16 * (j : Int) + 1 + idx (G.es.map (fun e => e.1)) w 0 = 16 * (j : Int) + (1 + idx (G.es.map (fun e => e.1)) w 0) by omega]; exact hP
        · have c3 : ¬ (G.ki = 3 ∧ ¬ idx (G.es.map (fun e => e.1)) w 0 = -1) := fun y => b3 y.1
          rw [if_neg c3] at hP
          refine bk_X12_lookedUp_72 ⟨hL, ⟨by omega, by omega⟩, ?_⟩
          rw [fxn, f1]
          exact ⟨fun _ => next hP, fun z => absurd (k4.mp z) b3⟩
      have s51 : (G.ki = 1 ∨ G.ki = 10 ∨ G.ki = 7) → AW g l (d + 1) MX12_lookedUp 51 [some (vR 12 (some m)), some (vI (j : Int)), some (vI (fx : Int)), none] [] τ (fun v σ' => ∃ r, v = some (vI r) ∧ P r σ') := by
        intro hk
        have hN := k6 (by omega)
        refine bk_X12_lookedUp_51 ⟨hL, ⟨by omega, by omega⟩, ?_⟩
        rw [fxn, f2 hN.nz, ew]
        refine ⟨fun z => s72 (fun y => z (by rw [y.2])), fun z => ⟨⟨by omega, by omega⟩, _, rfl, ?_⟩⟩
        have c1 : (G.ki = 1 ∨ G.ki = 10 ∨ G.ki = 7) ∧ G.nm = w := ⟨hk, (rho_iff hN iw).mp z⟩
        have c2 := cv_13 (f := (j : Int)) (p := 0) (by decide) (by decide)
        rw [Int.add_zero, Int.add_zero] at c2
        rw [if_pos c1, if_neg (show ¬ 13 * (j : Int) = -1 by omega), c2] at hP
        exact hP
      refine bk_X12_lookedUp_2 ⟨fun q => absurd q (by rw [hkn]; omega), fun _ => m_field hb b2 (by omega) (by omega) ?_⟩
      rw [hs, show 14 * (20 * (b : Int) + (Ss.length : Int)) + (j : Int) = (fx : Int) by omega, fxn, f1]
      exact ⟨hL, ⟨by omega, by omega⟩, fun z => s51 (Or.inl (k1.mp z)), fun z => ⟨fun z2 => s51 (Or.inr (Or.inl (k2'.mp z2))), fun z2 => ⟨fun z3 => s72 (fun y => y.1.elim (fun a => z (k1.mpr a)) (fun a => a.elim (fun c => z2 (k2'.mpr c)) (fun c => z3 (k3.mpr c)))), fun z3 => s51 (Or.inr (Or.inr (k3.mp z3)))⟩⟩⟩
  refine AC.of mo_X12_lookedUp (Nat.le_of_ble_eq_true rfl) (bk_X12_lookedUp_0 (loop Fs 0 (fun k G hk => by rw [Nat.zero_add]; exact hk) (by omega) h))
theorem n18 : ∀ Pt : List (Int × Nat), (∀ p ∈ Pt, 0 ≤ lv p.1) → ¬ (18 : Int) ∈ wP [] Pt
  | [], _, h => absurd h (by show ¬ (18 : Int) ∈ ([] : List Int); simp)
  | p :: P, hp, h => by
    have h : (18 : Int) ∈ wP [] P ++ [opR p.1] := h
    rcases List.mem_append.mp h with h | h
    · exact n18 P (fun q hq => hp q (List.mem_cons_of_mem _ hq)) h
    · rw [List.mem_singleton] at h
      exact (st_lv (hp p List.mem_cons_self)).2.1 h.symm
theorem g_ex {P : Int → St → Prop} (hD : 8 ≤ D) (hX : X.OK) (hE : E0 σ0 m b lo En Ss Fs) (hfd : fd = fdx b Ss Fs) (h14 : Fs.length < 14) (h : GS σ0 σ m X b fd lo la i nn L F bg)
    (h1 : ∀ i' N, rx X Fs i = .ok (i', N) → ∀ (v : Int) σ', GS σ0 σ' m X b fd lo la i' (nn + N.length) L F bg → XR σ' m b v (some N) → XL v (3000 * b + (nn + N.length)) → P v σ') (h0 : ∀ e, rx X Fs i = .error e → ∀ σ', GE σ0 σ' m b fd lo la e → P (-1) σ') : ACi g l D MX12_expr [vR 12 (some m)] σ P := by
  obtain ⟨d, rfl⟩ : ∃ d, D = d + 7 := ⟨D - 7, by omega⟩
  have hE' := hE
  obtain ⟨e1, e2, e3, e4, e5, e6, e7, e8, e9, e10, e11, e12⟩ := hE
  obtain ⟨a1, a2, a3, a4, a5, a6, a7, a8, a9, a10, a11, a12⟩ := h
  have h3 := hX.h3
  have hKn := hX.hKn
  have iK := a2.2.2.2.1
  have b53 : gI σ 1253 m 0 = (b : Int) := by rw [(rd0 a1 (by omega)).1]; exact e2
  have b54 : gI σ 1254 m 0 = (Ss.length : Int) := by rw [(rd0 a1 (by omega)).1]; exact e4
  have b22 : gI σ 1222 m (20 * b + Ss.length) = (Fs.length : Int) := by rw [(rd0 a1 (by omega)).1]; exact e7
  obtain ⟨r, hr⟩ := rl_tot (ln := fun w => opn Fs w 0) hX.k0 (7 * (X.K - i) + 8) none 0 0 i [] iK (by omega) (by omega) (fun _ => by omega) (fun q => absurd rfl q)
  have er : rx X Fs i = r := by unfold rx; rw [hr]
  refine AC.of mo_X12_expr (Nat.le_of_ble_eq_true rfl) (bk_X12_expr_0 ?_)
  rw [b53, b54, show (20 * (b : Int) + (Ss.length : Int)).toNat = 20 * b + Ss.length by omega, b22]
  refine ⟨a2.1, ⟨by omega, by omega⟩, ⟨by omega, by omega⟩, ⟨by omega, by omega⟩, AC.of mo_X12_either (Nat.le_of_ble_eq_true rfl) (bk_X12_either_0 ?_)⟩
  rw [show gI (sI σ 1257 m 0 (Fs.length : Int)) 1246 m 0 = ((3000 * b + nn : Nat) : Int) by rw [gI_sI, if_neg (by simp)]; exact a5]
  have hF1 : Frm (fun f r => r = m ∧ (f = 1257 ∨ f = 1260 ∨ f = 1261)) σ (sI (sI (sI σ 1257 m 0 (Fs.length : Int)) 1260 m 0 0) 1261 m 0 0) := (Frm.sI (by simp)).trans ((Frm.sI (by simp)).trans (Frm.sI (by simp)))
  have z57 : gI (sI (sI (sI σ 1257 m 0 (Fs.length : Int)) 1260 m 0 0) 1261 m 0 0) 1257 m 0 = (Fs.length : Int) := by rw [gI_sI, if_neg (by simp), gI_sI, if_neg (by simp), gI_slf]
  have z60 : gI (sI (sI (sI σ 1257 m 0 (Fs.length : Int)) 1260 m 0 0) 1261 m 0 0) 1260 m 0 = 0 := by rw [gI_sI, if_neg (by simp), gI_slf]
  have z61 : gI (sI (sI (sI σ 1257 m 0 (Fs.length : Int)) 1260 m 0 0) 1261 m 0 0) 1261 m 0 = 0 := gI_slf _ _ _ _ _
  generalize sI (sI (sI σ 1257 m 0 (Fs.length : Int)) 1260 m 0 0) 1261 m 0 0 = σ1 at *
  have T1 : RT σ1 m X i := a2.frm hF1 (fun f z0 z1 q => by omega)
  have rs : RS σ1 σ1 m X (3000 * b + nn) (3000 * b + 3000) i [] [] [] 0 := ⟨Frm.rfl, fun _ _ _ _ _ => ⟨rfl, rfl⟩, T1, by rw [hF1.I (fun q => by omega)]; exact a5, fun j x hx => absurd hx (by simp), z60, fun j x hx => absurd hx (by simp), z61, fun j x hx => absurd hx (by simp), by rw [hF1.I (fun q => by omega)]; exact a4, by rw [hF1.I (fun q => by omega)]; exact a3⟩
  have O1 : Out m (RFd b fd lo la) σ0 σ1 := a1.trans (Out.of hF1 (fun f r z => ⟨z.1, by omega, by omega, by omega⟩) (fun f i z => Or.inl (by unfold RTk; omega)))
  -- what the run changes
  have outR : ∀ τ, Frm (RFr m) σ1 τ → (∀ j f : Nat, j < 3000 * b + nn ∨ 3000 * b + 3000 ≤ j → 1242 ≤ f → f ≤ 1245 → gI τ f m j = gI σ1 f m j ∧ gJ τ f m j = gJ σ1 f m j) → Out m (fun f i => (RTk f i ∧ ¬ f = 1256 ∧ ¬ f = 1250) ∨ ((1242 ≤ f ∧ f ≤ 1245) ∧ 3000 * b + nn ≤ i ∧ i < 3000 * b + 3000)) σ1 τ := by
    intro τ hF hA
    refine ⟨hF.mono (fun f r z => ⟨z.1, by have := z.2; omega, by have := z.2; omega, by have := z.2; omega⟩), fun f j hn => ?_⟩
    by_cases hf : RFr m f m
    · have hz := hf.2
      have nT : ¬ RTk f j := fun q => hn (Or.inl ⟨q, by omega, by omega⟩)
      have f4 : 1242 ≤ f ∧ f ≤ 1245 := by unfold RTk at nT; omega
      have jr : j < 3000 * b + nn ∨ 3000 * b + 3000 ≤ j := by
        have : ¬ ((1242 ≤ f ∧ f ≤ 1245) ∧ 3000 * b + nn ≤ j ∧ j < 3000 * b + 3000) := fun q => hn (Or.inr q)
        omega
      exact hA j f jr f4.1 f4.2
    · exact ⟨hF.I hf j, hF.J hf j⟩
  have O1' : ∀ τ, Frm (RFr m) σ1 τ → (∀ j f : Nat, j < 3000 * b + nn ∨ 3000 * b + 3000 ≤ j → 1242 ≤ f → f ≤ 1245 → gI τ f m j = gI σ1 f m j ∧ gJ τ f m j = gJ σ1 f m j) → Out m (RFd b fd lo la) σ0 τ := fun τ hF hA => O1.trans ((outR τ hF hA).mono (fun f i z => z.elim (fun q => Or.inl q.1) (fun q => Or.inr (Or.inr (Or.inr (Or.inl ⟨Or.inl q.1, by omega, q.2.2⟩))))))
  have HL : ∀ τ i, Frm (RFr m) σ1 τ → RT τ m X i → X.k i = 2 → ∀ d (P : Int → St → Prop), P (if opn Fs (X.v i) 0 = -1 then -1 else cv (opn Fs (X.v i) 0)) τ → ACi g l (d + 1) MX12_lookedUp [vR 12 (some m)] τ P := by
    intro τ j hF hT k2 d P hP
    have rI : ∀ f i, ¬ RFr m f m → gI τ f m i = gI σ1 f m i ∧ gJ τ f m i = gJ σ1 f m i := fun f i z => ⟨hF.I z i, hF.J z i⟩
    have nf : ∀ f, (1218 ≤ f ∧ f ≤ 1241) ∨ f = 1253 ∨ f = 1254 ∨ f = 1257 → ¬ RFr m f m := fun f z q => by have := q.2; omega
    refine g_lookedUp hX hT.1 (b := b) (by rw [(rI 1253 0 (nf _ (by omega))).1, (rd0 O1 (by omega)).1]; exact e2) e3 (by rw [(rI 1254 0 (nf _ (by omega))).1, (rd0 O1 (by omega)).1]; exact e4) e6 (by rw [(rI 1257 0 (nf _ (by omega))).1]; exact z57) (by omega) (fun k G hk => ?_) (En := En) e10 hT k2 hP
    have fr := hE'.fr hfd O1 hk
    rw [(rI 1228 _ (nf _ (by omega))).1, (rI 1238 _ (nf _ (by omega))).2, (rI 1237 _ (nf _ (by omega))).1]
    exact ⟨fr.2.1, fr.1.2.2.2.2.2.2.2.1, fr.1.2.2.2.2.2.2.1, fun p e he hz => by rw [(rI 1239 _ (nf _ (by omega))).2]; exact (fr.1.2.2.2.2.2.2.2.2.2 p e he).1 hz⟩
  have ob : ∀ w, -1 ≤ opn Fs w 0 ∧ opn Fs w 0 ≤ 1000 := fun w => opn_ge Fs 0 (by decide) (by omega) (fun G hG => (e10 G hG).2.2.2.1)
  refine e_opr rs.bd ((r_rl (g := g) (l := l) (d := d) (Q := fun v σ' => ∃ r, v = some (vI r) ∧ ∃ r', some (vI r) = some (vI r') ∧ P r' σ') hX hX.k0 (by omega) ob HL (7 * (X.K - i) + 8)).2.1 0 0 i [] [] [] σ1 r (by omega) hr iK rs (fun o ho => absurd ho (by simp)) (by simp) (by simp) (by omega) (by simp; omega) (fun i' N' er' τ' N0 Pt eN s hN0 hPt hSO hPl => ?_) (fun e ee he τ' hRF => ⟨_, rfl, _, rfl, h0 e (by rw [er, ee]) τ' ⟨O1' τ' hRF.1 hRF.2.1, he, hRF.2.2.1, hRF.2.2.2⟩⟩))
  obtain ⟨b1, b2, b3, M, b4, b5, _⟩ := rl_ok hX.k0 _ _ _ _ _ _ i' N' (by rw [hr, er']) iK (by omega) (by omega)
  have lj := jn_len Pt N0
  rw [← eN] at lj
  have b3 : N'.length + i ≤ 0 + i' := b3
  have iK' : i' ≤ 3000 := by omega
  refine go_end hX s (by show 0 + Pt.length ≤ 127; omega) (by show 0 + Pt.length ≤ 126; omega) (by omega) (by omega) hN0 (fun p hp => by have := hPt p hp; omega) hSO (fun o ho => absurd ho (by simp)) (fun _ => n18 Pt (fun p hp => by have := hPt p hp; omega)) (fun τ2 s2 => ?_)
  rw [← eN] at s2
  refine ⟨fun q => absurd s2.w q, fun _ => bk_X12_either_82 ⟨m, rfl, r_must hX s2.T s2.bd (by decide) (by decide) (fun _ => ⟨fun _ => ?_, fun q => absurd q (by decide)⟩) (fun q => absurd q (by decide))⟩⟩
  have h0' : gI τ2 1259 m 0 = ((3000 * b + nn + (N'.length - 1) : Nat) : Int) := s2.hs 0 _ rfl
  rw [h0', Int.toNat_natCast]
  refine ⟨s2.T.1, ⟨by omega, by omega⟩, _, rfl, _, rfl, ?_⟩
  generalize hrt : 3000 * b + nn + (N'.length - 1) = rt at *
  have hFw : Frm (fun f r => r = m ∧ f = 1262) τ2 (sI τ2 1262 m rt ((3000 * b + nn : Nat) : Int)) := Frm.sI (by simp)
  have hO2 : Out m (fun f i => (RTk f i ∧ ¬ f = 1256 ∧ ¬ f = 1250) ∨ (((1242 ≤ f ∧ f ≤ 1245) ∨ f = 1262) ∧ 3000 * b + nn ≤ i ∧ i < 3000 * b + 3000)) σ (sI τ2 1262 m rt ((3000 * b + nn : Nat) : Int)) :=
    (Out.of hF1 (fun f r z => ⟨z.1, by omega, by omega, by omega⟩) (fun f i z => Or.inl (by unfold RTk; omega))).trans (((outR τ2 s2.F s2.A).mono (fun f i z => z.elim Or.inl (fun q => Or.inr ⟨Or.inl q.1, q.2⟩))).trans (Out.sI (Or.inr ⟨Or.inr rfl, by omega, by omega⟩) (by decide)))
  have n : ∀ f i, ¬ RTk f i → ¬ (((1242 ≤ f ∧ f ≤ 1245) ∨ f = 1262) ∧ 3000 * b + nn ≤ i) → ¬ ((RTk f i ∧ ¬ f = 1256 ∧ ¬ f = 1250) ∨ (((1242 ≤ f ∧ f ≤ 1245) ∨ f = 1262) ∧ 3000 * b + nn ≤ i ∧ i < 3000 * b + 3000)) := fun f i z0 z1 q => q.elim (fun y => z0 y.1) (fun y => z1 ⟨y.1, y.2.1⟩)
  have nk : ∀ f i, (1218 ≤ f ∧ f ≤ 1245) ∨ f = 1262 ∨ (1247 ≤ f ∧ f ≤ 1249) → ¬ RTk f i := fun f i z q => by unfold RTk at q; omega
  obtain ⟨c1, c2⟩ := a8.out a9 hO2 (fun f i z _ z2 _ => n f i (nk f i (by omega)) (by omega)) (fun f z0 z1 => n f _ (nk f _ (by omega)) (by omega)) (fun f p z0 z1 _ => n f _ (nk f _ (by omega)) (by omega))
  have c2' : PL (sI τ2 1262 m rt ((3000 * b + nn : Nat) : Int)) m fd (3000 * b + (nn + N'.length)) := by
    unfold PL XL at *; omega
  refine h1 i' N' (by rw [er, er']) _ _ ⟨(O1' τ2 s2.F s2.A).trans (Out.sI (Or.inr (Or.inr (Or.inr (Or.inl ⟨Or.inr rfl, by omega, by omega⟩)))) (by decide)), s2.T.frm hFw (fun f z0 z1 q => by omega), by rw [hFw.I (fun q => by omega)]; exact s2.bd, by rw [hFw.I (fun q => by omega)]; exact s2.dp, ?_, by omega, by omega, c1, c2', a10.out hO2 (fun i q => by rcases q with q | q <;> omega) (fun f i z0 z1 => n f i (nk f i (by omega)) (by omega)), a11, ?_, ?_, ?_⟩ ?_ ?_
  · rw [hFw.I (fun q => by omega), s2.c, Nat.add_assoc]
  · rw [(hO2.2 1256 0 (fun q => by rcases q with q | q <;> omega)).1]; exact a12.1
  · rw [(hO2.2 1228 fd (n _ _ (nk _ _ (by omega)) (by omega))).1]; exact a12.2.1
  · rw [(hO2.2 1235 fd (n _ _ (nk _ _ (by omega)) (by omega))).1]; exact a12.2.2
  · refine ⟨3000 * b + nn, by omega, by omega, by omega, by omega, fun j x hx => ?_, ?_⟩
    · rw [hFw.I (f := 1242) (fun q => by omega), hFw.I (f := 1243) (fun q => by omega), hFw.I (f := 1244) (fun q => by omega), hFw.J (f := 1245) (fun q => by omega)]
      exact s2.R j x hx
    · rw [show 3000 * b + nn + N'.length - 1 = rt by omega]; exact gI_slf _ _ _ _ _
  · unfold XL; omega
end M21
