/-! the reference: is a name fresh; names of fields -/
section M20
variable {g : GP} {l : Launch} {D : Nat} {σ0 σ : St} {m b fd lo la i nn : Nat} {X : Txt} {L : List (Nat × Int64 × Int)} {F : Fld} {bg : Int × Int × Int} {En : List Enm} {Ss : List Stc} {Fs : List Fld}
theorem g_fault {k : Int} {P : St → Prop} (hX : X.OK) (hT : RT σ m X i) (hb : gI σ 1251 m 0 = 0) (h : ∀ τ, Frm (fun f r => r = m ∧ (f = 1251 ∨ f = 1252)) σ τ → gI τ 1251 m 0 = (ck X i k).1 → gI τ 1252 m 0 = (ck X i k).2 → P τ) : ACv g l D MX12_fault [vR 12 (some m), vI k] σ P := by
  have hs := (hT.sort hX).2.2.1
  refine AC.of mo_X12_fault (Nat.le_of_ble_eq_true rfl) (bk_X12_fault_0 ⟨fun _ => ⟨fun q => ⟨rfl, h _ ((Frm.sI (by simp)).trans (Frm.sI (by simp))) ?_ ?_⟩, fun q => ⟨rfl, h _ ((Frm.sI (by simp)).trans (Frm.sI (by simp))) ?_ ?_⟩⟩, fun q => absurd (by omega) q⟩)
  · rw [gI_sI, if_neg (by simp), gI_slf]; exact (if_neg (fun c => q (hs.mpr c))).symm
  · rw [gI_slf]; exact hT.2.2.2.2.1
  · rw [gI_sI, if_neg (by simp), gI_slf]; exact (if_pos (hs.mp q)).symm
  · rw [gI_slf]; exact hT.2.2.2.2.1
theorem d_fault {k : Int} {P : St → Prop} (h : 0 < gI σ 1251 m 0) (hp : P σ) : ACv g l D MX12_fault [vR 12 (some m), vI k] σ P :=
  AC.of mo_X12_fault (Nat.le_of_ble_eq_true rfl) (bk_X12_fault_0 ⟨fun q => absurd q (by omega), fun _ => ⟨rfl, hp⟩⟩)
theorem m_field {x k : Int} {P : Int → St → Prop} (hb : gI σ 1253 m 0 = (b : Int)) (h1 : b < 2) (hx : 0 ≤ x ∧ x ≤ 20) (hk : 0 ≤ k ∧ k ≤ 14) (h : P (14 * (20 * (b : Int) + x) + k) σ) : ACi g l D MX12_field [vR 12 (some m), vI x, vI k] σ P := by
  refine AC.of mo_X12_field (Nat.le_of_ble_eq_true rfl) (bk_X12_field_0 ?_)
  rw [hb]
  exact ⟨⟨by omega, by omega⟩, ⟨by omega, by omega⟩, ⟨by omega, by omega⟩, ⟨by omega, by omega⟩, _, rfl, h⟩
theorem g_fresh {P : Int → St → Prop} (hD : 4 ≤ D) (hX : X.OK) (hE : E0 σ0 m b lo En Ss Fs) (hfd : fd = fdx b Ss Fs) (h14 : Fs.length < 14) (h : GS σ0 σ m X b fd lo la i nn L F bg) (hb : (bg.1 = 0 ∧ F.nm = 0 ∧ F.es = []) ∨ (bg.1 = 1 ∧ F.ki = 3 ∧ IsN F.nm ∧ (∀ e ∈ F.es, IsN e.1) ∧ F.es.length ≤ 12))
    (h1 : tO X Fs F i = .ok (X.nx i, X.v i) → X.k i = 2 → P 1 σ) (h0 : ∀ e, tO X Fs F i = .error e → ∀ σ', GE σ0 σ' m b fd lo la e → P 0 σ') : ACi g l D MX12_fresh [vR 12 (some m), vI (fd : Int)] σ P := by
  obtain ⟨d, rfl⟩ : ∃ d, D = d + 4 := ⟨D - 4, by omega⟩
  have hE' := hE
  obtain ⟨e1, e2, e3, e4, e5, e6, e7, e8, e9, e10, e11, e12⟩ := hE
  obtain ⟨a1, a2, a3, a4, a5, a6, a7, a8, a9, a10, a11, a12⟩ := h
  have fdv : fd = 14 * (20 * b + Ss.length) + Fs.length := hfd
  have ckp := ck_pos (X := X) (i := i) (n := 3) (by decide)
  refine AC.of mo_X12_fresh (Nat.le_of_ble_eq_true rfl) (bk_X12_fresh_0 (r_isName hX a2 ?_))
  by_cases k2 : X.k i = 2
  · rw [if_pos k2]
    obtain ⟨ew, iw⟩ := (a2.sort hX).2.2.2.2.1 k2
    generalize hw : X.v i = w at *
    have tOv : tO X Fs F i = if (Fs ++ [F]).any (tf w) = true then .error (ck X i 3) else .ok (X.nx i, w) := by unfold tO; rw [if_pos k2, hw]
    refine g_must (by omega) hX ⟨a1, a2, a3, a4, a5, a6, a7, a8, a9, a10, a11, a12⟩ (by decide) (by decide) (fun _ => ⟨fun _ => ?_, fun q => absurd q (by decide)⟩) (fun q => absurd q (by decide))
    -- the two ways
    have fin : ∀ τ, (τ = σ ∧ (Fs ++ [F]).any (tf w) = false) ∨ (Frm (fun f r => r = m ∧ (f = 1251 ∨ f = 1252)) σ τ ∧ gI τ 1251 m 0 = (ck X i 3).1 ∧ gI τ 1252 m 0 = (ck X i 3).2 ∧ (Fs ++ [F]).any (tf w) = true) → ((¬ (gI τ 1251 m 0) = 0 → ∃ r, some (vI 0) = some (vI r) ∧ P r τ) ∧ ((gI τ 1251 m 0) = 0 → ∃ r, some (vI 1) = some (vI r) ∧ P r τ)) := by
      intro τ hτ
      rcases hτ with ⟨rfl, ha⟩ | ⟨hF, f1, f2, ha⟩
      · exact ⟨fun q => absurd a3 q, fun _ => ⟨_, rfl, h1 (by rw [tOv, ha]; rfl) k2⟩⟩
      · refine ⟨fun _ => ⟨_, rfl, h0 (ck X i 3) (by rw [tOv, if_pos ha]) τ ⟨a1.trans (Out.of hF (fun f r z => ⟨z.1, by omega, by omega, by omega⟩) (fun f i z => Or.inl (by unfold RTk; omega))), ckp, f1, f2⟩⟩, fun q => absurd q (by omega)⟩
    have frm : ∀ τ, (τ = σ) ∨ Frm (fun f r => r = m ∧ (f = 1251 ∨ f = 1252)) σ τ → Frm (fun f r => r = m ∧ (f = 1251 ∨ f = 1252)) σ τ := fun τ q => q.elim (fun e => by rw [e]; exact Frm.rfl) id
    -- the parts of the field in the making
    have l96 : bg.1 = 1 → ∀ (A : List Ent) (j : Nat) (τ : St), (∀ k e, A[k]? = some e → F.es[j + k]? = some e) → j + A.length = F.es.length → ((τ = σ ∧ (Fs ++ [F]).any (tf w) = A.any (fun e => e.1 == w)) ∨ (Frm (fun f r => r = m ∧ (f = 1251 ∨ f = 1252)) σ τ ∧ gI τ 1251 m 0 = (ck X i 3).1 ∧ gI τ 1252 m 0 = (ck X i 3).2 ∧ (Fs ++ [F]).any (tf w) = true)) → AW g l (d + 4) MX12_fresh 96 [some (vR 12 (some m)), some (vI (fd : Int)), some (vI (j : Int))] [] τ (fun v σ' => ∃ r, v = some (vI r) ∧ P r σ') := by
      intro hbg A
      have hb1 : F.ki = 3 ∧ IsN F.nm ∧ (∀ e ∈ F.es, IsN e.1) ∧ F.es.length ≤ 12 := by
        rcases hb with q | q
        · omega
        · exact q.2
      induction A with
      | nil =>
        intro j τ _ hj hτ
        have hj : j + 0 = F.es.length := hj
        have hFt := frm τ (hτ.imp (fun q => q.1) (fun q => q.1))
        refine bk_X12_fresh_96 ?_
        rw [hFt.I (f := 1256) (fun q => by omega), a12.1, hFt.I (f := 1237) (fun q => by omega), show ((fd : Int)).toNat = fd by omega, a8.2.2.2.2.2.2.1]
        refine ⟨fun q => absurd q (by omega), fun _ => ⟨hFt.lc a2.1, ⟨by omega, by omega⟩, fun _ => fin τ (hτ.imp (fun q => ⟨q.1, by rw [q.2]; rfl⟩) id), fun q => absurd (by omega) q⟩⟩
      | cons e A ih =>
        intro j τ hA hj hτ
        have hj : j + (A.length + 1) = F.es.length := hj
        have hFt := frm τ (hτ.imp (fun q => q.1) (fun q => q.1))
        have c0 := hA 0 e rfl
        rw [Nat.add_zero] at c0
        have ie := hb1.2.2.1 e (List.mem_of_getElem? c0)
        have cn := (a8.2.2.2.2.2.2.2.2.2 j e c0).1 ie.nz
        refine bk_X12_fresh_96 ?_
        rw [hFt.I (f := 1256) (fun q => by omega), a12.1, hFt.I (f := 1237) (fun q => by omega), show ((fd : Int)).toNat = fd by omega, a8.2.2.2.2.2.2.1, hFt.J (f := 1239) (fun q => by omega), hFt.J (f := 1216) (fun q => by omega), show (16 * (fd : Int) + (j : Int)).toNat = 16 * fd + j by omega, cn, ew]
        refine ⟨fun q => absurd q (by omega), fun _ => ⟨hFt.lc a2.1, ⟨by omega, by omega⟩, fun q => absurd q (by omega), fun _ => ⟨⟨by omega, by omega⟩, ⟨by omega, by omega⟩, ⟨by omega, by omega⟩, fun q => ⟨⟨by omega, by omega⟩, ?_⟩, fun q => ?_⟩⟩⟩
        · have e0 : (e.1 == w) = false := by simpa using (fun z => q (by rw [z]) : ¬ e.1 = w)
          exact ih (j + 1) τ (fun k e' he => by rw [show j + 1 + k = j + (k + 1) by omega]; exact hA (k + 1) e' he) (by omega) (hτ.imp (fun q => ⟨q.1, by rw [q.2, List.any_cons, e0, Bool.false_or]⟩) id)
        · have e0 : e.1 = w := (rho_iff ie iw).mp q
          have nxt : ∀ τ', Frm (fun f r => r = m ∧ (f = 1251 ∨ f = 1252)) σ τ' → gI τ' 1251 m 0 = (ck X i 3).1 → gI τ' 1252 m 0 = (ck X i 3).2 → (Fs ++ [F]).any (tf w) = true → R32 ((j : Int) + 1) ∧ AW g l (d + 4) MX12_fresh 96 [some (vR 12 (some m)), some (vI (fd : Int)), some (vI ((j : Int) + 1))] [] τ' (fun v σ' => ∃ r, v = some (vI r) ∧ P r σ') := fun τ' z1 z2 z3 z4 => ⟨⟨by omega, by omega⟩, ih (j + 1) τ' (fun k e' he => by rw [show j + 1 + k = j + (k + 1) by omega]; exact hA (k + 1) e' he) (by omega) (Or.inr ⟨z1, z2, z3, z4⟩)⟩
          rcases hτ with ⟨rfl, ha⟩ | ⟨hF, f1, f2, ha⟩
          · exact g_fault hX a2 a3 (fun τ' z1 z2 z3 => nxt τ' z1 z2 z3 (by rw [ha, List.any_cons]; simp [e0]))
          · exact d_fault (by omega) (nxt τ hF f1 f2 ha)
    have s96 : ∀ τ, ((τ = σ ∧ (Fs ++ [F]).any (tf w) = (F.ki == 3 && F.es.any (fun e => e.1 == w))) ∨ (Frm (fun f r => r = m ∧ (f = 1251 ∨ f = 1252)) σ τ ∧ gI τ 1251 m 0 = (ck X i 3).1 ∧ gI τ 1252 m 0 = (ck X i 3).2 ∧ (Fs ++ [F]).any (tf w) = true)) → AW g l (d + 4) MX12_fresh 96 [some (vR 12 (some m)), some (vI (fd : Int)), some (vI 0)] [] τ (fun v σ' => ∃ r, v = some (vI r) ∧ P r σ') := by
      intro τ hτ
      rcases hb with q | q
      · have hFt := frm τ (hτ.imp (fun q => q.1) (fun q => q.1))
        refine bk_X12_fresh_96 ?_
        rw [hFt.I (f := 1256) (fun q => by omega), a12.1]
        refine ⟨fun _ => fin τ (hτ.imp (fun z => ⟨z.1, by rw [z.2, q.2.2]; simp⟩) id), fun z => absurd q.1 z⟩
      · exact l96 q.1 F.es 0 τ (fun k e he => by rw [Nat.zero_add]; exact he) (by omega) (hτ.imp (fun z => ⟨z.1, by rw [z.2, q.2.1]; rfl⟩) id)
    have l16 : ∀ (A : List Fld) (j : Nat) (τ : St), (∀ k G, A[k]? = some G → Fs[j + k]? = some G) → j + A.length = Fs.length → ((τ = σ ∧ (Fs ++ [F]).any (tf w) = (A.any (tf w) || tf w F)) ∨ (Frm (fun f r => r = m ∧ (f = 1251 ∨ f = 1252)) σ τ ∧ gI τ 1251 m 0 = (ck X i 3).1 ∧ gI τ 1252 m 0 = (ck X i 3).2 ∧ (Fs ++ [F]).any (tf w) = true)) → AW g l (d + 4) MX12_fresh 16 [some (vR 12 (some m)), some (vI (fd : Int)), some (vI (j : Int))] [] τ (fun v σ' => ∃ r, v = some (vI r) ∧ P r σ') := by
      intro A
      induction A with
      | nil =>
        intro j τ _ hj hτ
        have hj : j + 0 = Fs.length := hj
        have hFt := frm τ (hτ.imp (fun q => q.1) (fun q => q.1))
        have hOt : Out m (RFd b fd lo la) σ0 τ := a1.trans (Out.of hFt (fun f r z => ⟨z.1, by omega, by omega, by omega⟩) (fun f i z => Or.inl (by unfold RTk; omega)))
        refine bk_X12_fresh_16 ?_
        rw [(rd0 hOt (f := 1253) (by omega)).1, e2, (rd0 hOt (f := 1254) (by omega)).1, e4, show (20 * (b : Int) + (Ss.length : Int)).toNat = 20 * b + Ss.length by omega, (rd0 hOt (f := 1222) (by omega)).1, e7, hFt.I (f := 1256) (fun q => by omega), a12.1, hFt.J (f := 1238) (fun q => by omega), show ((fd : Int)).toNat = fd by omega, hFt.J (f := 1216) (fun q => by omega), ew]
        refine ⟨hFt.lc a2.1, ⟨by omega, by omega⟩, ⟨by omega, by omega⟩, ⟨by omega, by omega⟩, fun _ => ⟨fun q => ?_, fun q => ⟨⟨by omega, by omega⟩, ?_⟩⟩, fun q => absurd (by omega) q⟩
        · have hnm : (F.nm == w) = false := by
            rcases hb with z | z
            · rw [z.2.1]; simpa using (fun y => iw.nz y.symm : ¬ (0 : Int64) = w)
            · omega
          exact s96 τ (hτ.imp (fun z => ⟨z.1, by rw [z.2]; unfold tf; rw [hnm]; rfl⟩) id)
        · have hb1 : IsN F.nm := by
            rcases hb with z | z
            · omega
            · exact z.2.2.1
          rw [a8.2.2.2.2.2.2.2.1 hb1.nz]
          refine ⟨fun y => ?_, fun y => ?_⟩
          · have hnm : (F.nm == w) = false := by simpa using (fun z => y (by rw [z]) : ¬ F.nm = w)
            exact s96 τ (hτ.imp (fun z => ⟨z.1, by rw [z.2]; unfold tf; rw [hnm]; rfl⟩) id)
          · have hnm : F.nm = w := (rho_iff hb1 iw).mp y
            rcases hτ with ⟨rfl, ha⟩ | ⟨hF, f1, f2, ha⟩
            · exact g_fault hX a2 a3 (fun τ' z1 z2 z3 => s96 τ' (Or.inr ⟨z1, z2, z3, by rw [ha]; unfold tf; rw [hnm]; simp⟩))
            · exact d_fault (by omega) (s96 τ (Or.inr ⟨hF, f1, f2, ha⟩))
      | cons G A ih =>
        intro j τ hA hj hτ
        have hj : j + (A.length + 1) = Fs.length := hj
        have hFt := frm τ (hτ.imp (fun q => q.1) (fun q => q.1))
        have hOt : Out m (RFd b fd lo la) σ0 τ := a1.trans (Out.of hFt (fun f r z => ⟨z.1, by omega, by omega, by omega⟩) (fun f i z => Or.inl (by unfold RTk; omega)))
        have c0 := hA 0 G rfl
        rw [Nat.add_zero] at c0
        have fr := hE'.fr hfd hOt c0
        have wG := e10 G (List.mem_of_getElem? c0)
        have b53 : gI τ 1253 m 0 = (b : Int) := by rw [(rd0 hOt (f := 1253) (by omega)).1]; exact e2
        refine bk_X12_fresh_16 ?_
        rw [b53, (rd0 hOt (f := 1254) (by omega)).1, e4, show (20 * (b : Int) + (Ss.length : Int)).toNat = 20 * b + Ss.length by omega, (rd0 hOt (f := 1222) (by omega)).1, e7]
        refine ⟨hFt.lc a2.1, ⟨by omega, by omega⟩, ⟨by omega, by omega⟩, ⟨by omega, by omega⟩, fun q => absurd q (by omega), fun _ => m_field b53 e3 (by omega) (by omega) ?_⟩
        rw [show 14 * (20 * (b : Int) + (Ss.length : Int)) + (j : Int) = ((14 * (20 * b + Ss.length) + j : Nat) : Int) by omega, hFt.J (f := 1216) (fun q => by omega), ew]
        refine g_told (Ss := Ss) (hFt.lc a2.1) (by omega) fr wG iw ?_
        have nx : ∀ τ', ((τ' = σ ∧ (Fs ++ [F]).any (tf w) = (A.any (tf w) || tf w F)) ∨ (Frm (fun f r => r = m ∧ (f = 1251 ∨ f = 1252)) σ τ' ∧ gI τ' 1251 m 0 = (ck X i 3).1 ∧ gI τ' 1252 m 0 = (ck X i 3).2 ∧ (Fs ++ [F]).any (tf w) = true)) → R32 ((j : Int) + 1) ∧ AW g l (d + 4) MX12_fresh 16 [some (vR 12 (some m)), some (vI (fd : Int)), some (vI ((j : Int) + 1))] [] τ' (fun v σ' => ∃ r, v = some (vI r) ∧ P r σ') := fun τ' z => ⟨⟨by omega, by omega⟩, ih (j + 1) τ' (fun k G' hG' => by rw [show j + 1 + k = j + (k + 1) by omega]; exact hA (k + 1) G' hG') (by omega) z⟩
        cases ht : tf w G with
        | false =>
          rw [if_neg (by simp)]
          exact ⟨fun _ => nx τ (hτ.imp (fun z => ⟨z.1, by rw [z.2, List.any_cons, ht, Bool.false_or]⟩) id), fun q => absurd rfl q⟩
        | true =>
          rw [if_pos rfl]
          refine ⟨fun q => absurd q (by decide), fun _ => ?_⟩
          rcases hτ with ⟨rfl, ha⟩ | ⟨hF, f1, f2, ha⟩
          · exact g_fault hX a2 a3 (fun τ' z1 z2 z3 => nx τ' (Or.inr ⟨z1, z2, z3, by rw [ha, List.any_cons, ht]; rfl⟩))
          · exact d_fault (by omega) (nx τ (Or.inr ⟨hF, f1, f2, ha⟩))
    refine l16 Fs 0 σ (fun k G hk => by rw [Nat.zero_add]; exact hk) (by omega) (Or.inl ⟨rfl, ?_⟩)
    rw [List.any_append]
    simp
  · rw [if_neg k2]
    exact g_must (by omega) hX ⟨a1, a2, a3, a4, a5, a6, a7, a8, a9, a10, a11, a12⟩ (by decide) (by decide) (fun q => absurd q (by decide)) (fun _ σ' ge => ⟨fun q => absurd rfl q, fun _ => ⟨_, rfl, h0 _ (by unfold tO; rw [if_neg k2]) σ' ge⟩⟩)
theorem PR.wNm {w : Int64} (h : PR σ m b fd F) : PR (sJ σ 1238 m fd (rho w)) m b fd (F.wNm w) := by
  obtain ⟨a1, a2, a3, a4, a5, a6, a7, a8, a9, a10⟩ := h
  exact ⟨a1, a2, a3, a4, a5, a6, a7, fun _ => gJ_slf _ _ _ _ _, a9, a10⟩
theorem PR.wTy {w : Int64} {v : Int} (h : PR σ m b fd F) (hv : v = w.toInt) : PR (sI σ 1229 m fd v) m b fd (F.wTy w) := by
  obtain ⟨a1, a2, a3, a4, a5, a6, a7, a8, a9, a10⟩ := h
  exact ⟨a1, a2, a3, a4, a5, a6, a7, a8, fun _ => by rw [gI_slf]; exact hv, a10⟩
theorem PR.wPr {v : Int} (h : PR σ m b fd F) : PR (sI σ 1230 m fd v) m b fd (F.wPr v) := by
  obtain ⟨a1, a2, a3, a4, a5, a6, a7, a8, a9, a10⟩ := h
  exact ⟨a1, a2, a3, gI_slf _ _ _ _ _, a5, a6, a7, a8, a9, a10⟩
theorem PR.wOt {v : Int} (h : PR σ m b fd F) : PR (sI σ 1236 m fd v) m b fd (F.wOt v) := by
  obtain ⟨a1, a2, a3, a4, a5, a6, a7, a8, a9, a10⟩ := h
  exact ⟨a1, a2, a3, a4, gI_slf _ _ _ _ _, a6, a7, a8, a9, a10⟩
theorem PR.wSt {v : Int} (h : PR σ m b fd F) : PR (sI σ 1231 m fd v) m b fd (F.wSt v) := by
  obtain ⟨a1, a2, a3, a4, a5, a6, a7, a8, a9, a10⟩ := h
  exact ⟨a1, a2, a3, a4, a5, gI_slf _ _ _ _ _, a7, a8, a9, a10⟩
theorem PR.k {v k : Int} (h : PR σ m b fd F) (he : F.es = []) : PR (sI σ 1228 m fd v) m b fd (F.wKi k) := by
  obtain ⟨a1, a2, a3, a4, a5, a6, a7, a8, a9, a10⟩ := h
  exact ⟨a1, a2, a3, a4, a5, a6, a7, a8, a9, fun p e hp => absurd hp (by show ¬ F.es[p]? = some e; rw [he]; simp)⟩
theorem PR.k0 {k : Int} (h : PR σ m b fd F) (he : F.es = []) : PR σ m b fd (F.wKi k) := by
  obtain ⟨a1, a2, a3, a4, a5, a6, a7, a8, a9, a10⟩ := h
  exact ⟨a1, a2, a3, a4, a5, a6, a7, a8, a9, fun p e hp => absurd hp (by show ¬ F.es[p]? = some e; rw [he]; simp)⟩
theorem PR.n {v : Int} {w : Int64} (h : PR σ m b fd F) : PR (sI σ 1235 m fd v) m b fd (F.wNu w) := by
  obtain ⟨a1, a2, a3, a4, a5, a6, a7, a8, a9, a10⟩ := h
  exact ⟨a1, a2, a3, a4, a5, a6, a7, a8, a9, a10⟩
theorem PR.am {w : Int64} {v : Int} (h : PR σ m b fd F) : PR σ m b fd (F.wAm w v) := by
  obtain ⟨a1, a2, a3, a4, a5, a6, a7, a8, a9, a10⟩ := h
  exact ⟨a1, a2, a3, a4, a5, a6, a7, a8, a9, a10⟩
theorem PR.wEc {v : Int} {e : Exr} (h : PR σ m b fd F) (he : XR σ m b v e) : PR (sI σ 1232 m fd v) m b fd (F.wEc e) := by
  obtain ⟨a1, a2, a3, a4, a5, a6, a7, a8, a9, a10⟩ := h
  exact ⟨by rw [gI_slf]; exact he, a2, a3, a4, a5, a6, a7, a8, a9, a10⟩
theorem PR.wE1 {v : Int} {e : Exr} (h : PR σ m b fd F) (he : XR σ m b v e) : PR (sI σ 1233 m fd v) m b fd (F.wE1 e) := by
  obtain ⟨a1, a2, a3, a4, a5, a6, a7, a8, a9, a10⟩ := h
  exact ⟨a1, by rw [gI_slf]; exact he, a3, a4, a5, a6, a7, a8, a9, a10⟩
theorem PR.wE2 {v : Int} {e : Exr} (h : PR σ m b fd F) (he : XR σ m b v e) : PR (sI σ 1234 m fd v) m b fd (F.wE2 e) := by
  obtain ⟨a1, a2, a3, a4, a5, a6, a7, a8, a9, a10⟩ := h
  exact ⟨a1, a2, by rw [gI_slf]; exact he, a4, a5, a6, a7, a8, a9, a10⟩
theorem PL.e1 {v : Int} {hi : Nat} (h : PL σ m fd hi) (hv : XL v hi) : PL (sI σ 1233 m fd v) m fd hi := ⟨h.1, by rw [gI_slf]; exact hv, h.2.2⟩
theorem PL.e2 {v : Int} {hi : Nat} (h : PL σ m fd hi) (hv : XL v hi) : PL (sI σ 1234 m fd v) m fd hi := ⟨h.1, h.2.1, by rw [gI_slf]; exact hv⟩
theorem PL.ec {v : Int} {hi : Nat} (h : PL σ m fd hi) (hv : XL v hi) : PL (sI σ 1232 m fd v) m fd hi := ⟨by rw [gI_slf]; exact hv, h.2⟩
theorem GS.pr (h : GS σ0 σ m X b fd lo la i nn L F bg) : PR σ m b fd F := h.2.2.2.2.2.2.2.1
theorem GS.pl (h : GS σ0 σ m X b fd lo la i nn L F bg) : PL σ m fd (3000 * b + nn) := h.2.2.2.2.2.2.2.2.1
theorem GS.f (h : GS σ0 σ m X b fd lo la i nn L F bg) {F' : Fld} (hP : PR σ m b fd F') : GS σ0 σ m X b fd lo la i nn L F' bg := by
  obtain ⟨a1, a2, a3, a4, a5, a6, a7, a8, a9, a10, a11, a12⟩ := h
  exact ⟨a1, a2, a3, a4, a5, a6, a7, hP, a9, a10, a11, a12⟩
/-- its own name -/
theorem g_named {P : St → Prop} (hD : 5 ≤ D) (hX : X.OK) (hE : E0 σ0 m b lo En Ss Fs) (hfd : fd = fdx b Ss Fs) (h14 : Fs.length < 14) (h : GS σ0 σ m X b fd lo la i nn L F bg) (hbg : bg.1 = 0) (hn : F.nm = 0) (he : F.es = [])
    (h1 : tO X Fs F i = .ok (X.nx i, X.v i) → ∀ σ', GS σ0 σ' m X b fd lo la (X.nx i) nn L (F.wNm (X.v i)) bg → P σ') (h0 : ∀ e, tO X Fs F i = .error e → ∀ σ', GE σ0 σ' m b fd lo la e → P σ') : ACv g l D MX12_named [vR 12 (some m), vI (fd : Int)] σ P := by
  obtain ⟨d, rfl⟩ : ∃ d, D = d + 1 := ⟨D - 1, by omega⟩
  have fdv : fd = 14 * (20 * b + Ss.length) + Fs.length := hfd
  have e3 := hE.2.2.1
  have e6 := hE.2.2.2.2.2.1
  refine AC.of mo_X12_named (Nat.le_of_ble_eq_true rfl) (bk_X12_named_0 ⟨fun q => absurd q (by rw [h.2.2.1]; decide), fun _ => g_fresh (by omega) hX hE hfd h14 h (Or.inl ⟨hbg, hn, he⟩) (fun e k2 => ⟨fun _ => ⟨h.lc, ⟨by omega, by omega⟩, ?_⟩, fun q => absurd q (by decide)⟩) (fun e e1 σ' ge => ⟨fun q => absurd rfl q, fun _ => ⟨rfl, h0 e e1 σ' ge⟩⟩)⟩)
  obtain ⟨ew, iw⟩ := (h.2.1.sort hX).2.2.2.2.1 k2
  rw [ew, show ((fd : Int)).toNat = fd by omega]
  exact g_next (by omega) hX (h.wJ (by omega) h.pr.wNm) (fun σ' s' => ⟨rfl, h1 e σ' s'⟩)
theorem d_named {P : St → Prop} {x : Int} (hD : 1 ≤ D) (h : 0 < gI σ 1251 m 0) (hp : P σ) : ACv g l D MX12_named [vR 12 (some m), vI x] σ P := by
  obtain ⟨d, rfl⟩ : ∃ d, D = d + 1 := ⟨D - 1, by omega⟩
  exact AC.of mo_X12_named (Nat.le_of_ble_eq_true rfl) (bk_X12_named_0 ⟨fun _ => ⟨rfl, hp⟩, fun q => absurd h q⟩)
/-- a WHOLE -/
theorem g_whole {P : St → Prop} (hD : 3 ≤ D) (hX : X.OK) (hE : E0 σ0 m b lo En Ss Fs) (hfd : fd = fdx b Ss Fs) (h14 : Fs.length < 14) (h : GS σ0 σ m X b fd lo la i nn L F bg) (h1 : tT X i = .ok (X.nx i, X.v i) → ∀ σ', GS σ0 σ' m X b fd lo la (X.nx i) nn L (F.wTy (X.v i)) bg → P σ') (h0 : tT X i = .error (ck X i 2) → ∀ σ', GE σ0 σ' m b fd lo la (ck X i 2) → P σ') : ACv g l D MX12_readWhole [vR 12 (some m), vI (fd : Int)] σ P := by
  obtain ⟨d, rfl⟩ : ∃ d, D = d + 1 := ⟨D - 1, by omega⟩
  have fdv : fd = 14 * (20 * b + Ss.length) + Fs.length := hfd
  have e3 := hE.2.2.1
  have e6 := hE.2.2.2.2.2.1
  refine AC.of mo_X12_readWhole (Nat.le_of_ble_eq_true rfl) (bk_X12_readWhole_0 ⟨fun q => absurd q (by rw [h.2.2.1]; decide), fun _ => r_whole hX h.2.1 ?_⟩)
  by_cases k4 : X.k i = 4
  · obtain ⟨n, n1, n2, n3, n4⟩ := Txt.ty hX h.iK k4
    rw [if_pos k4]
    refine ⟨fun q => absurd q (by omega), fun _ => bk_X12_readWhole_20 ⟨m, rfl, g_must (by omega) hX h (by decide) (by decide) (fun _ => ⟨fun _ => ⟨h.lc, r_whole hX h.2.1 ?_⟩, fun q => absurd q (by decide)⟩) (fun q => absurd q (by decide))⟩⟩
    rw [if_pos k4, show ((fd : Int)).toNat = fd by omega]
    exact ⟨h.lc, ⟨by omega, by omega⟩, g_next (by omega) hX (h.wI (by omega) (h.pr.wTy rfl) h.pl) (fun σ' s' => ⟨rfl, h1 (if_pos k4) σ' s'⟩)⟩
  · rw [if_neg k4]
    exact ⟨fun _ => bk_X12_readWhole_20 ⟨m, rfl, g_must (by omega) hX h (by decide) (by decide) (fun q => absurd q (by decide)) (fun _ σ' ge => ⟨fun q => absurd rfl q, fun _ => ⟨rfl, h0 (if_neg k4) σ' ge⟩⟩)⟩, fun q => absurd (by decide) q⟩
theorem d_whole {P : St → Prop} {x : Int} (hD : 1 ≤ D) (h : 0 < gI σ 1251 m 0) (hp : P σ) : ACv g l D MX12_readWhole [vR 12 (some m), vI x] σ P := by
  obtain ⟨d, rfl⟩ : ∃ d, D = d + 1 := ⟨D - 1, by omega⟩
  exact AC.of mo_X12_readWhole (Nat.le_of_ble_eq_true rfl) (bk_X12_readWhole_0 ⟨fun _ => ⟨rfl, hp⟩, fun q => absurd h q⟩)
/-- a number within bounds -/
theorem g_bound {lo' hi' : Int64} {P : St → Prop} (hD : 3 ≤ D) (hX : X.OK) (hE : E0 σ0 m b lo En Ss Fs) (hfd : fd = fdx b Ss Fs) (h14 : Fs.length < 14) (hb : 0 ≤ lo'.toInt ∧ hi'.toInt ≤ 100000) (h : GS σ0 σ m X b fd lo la i nn L F bg) (h1 : tN X i lo'.toInt hi'.toInt = .ok (X.nx i, X.v i) → ∀ σ', GS σ0 σ' m X b fd lo la (X.nx i) nn L (F.wNu (X.v i)) (bg.1, bg.2.1, (X.v i).toInt) → P σ') (h0 : ∀ e, tN X i lo'.toInt hi'.toInt = .error e → ∀ σ', GE σ0 σ' m b fd lo la e → P σ') : ACv g l D MX12_bound [vR 12 (some m), vI (fd : Int), vJ lo', vJ hi'] σ P := by
  obtain ⟨d, rfl⟩ : ∃ d, D = d + 1 := ⟨D - 1, by omega⟩
  have fdv : fd = 14 * (20 * b + Ss.length) + Fs.length := hfd
  have e3 := hE.2.2.1
  have e6 := hE.2.2.2.2.2.1
  have sr := (h.2.1.sort hX)
  have s53 : ∀ y : Int, X.k i = 3 → (y = 1 ∧ (lo'.toInt ≤ (X.v i).toInt ∧ (X.v i).toInt ≤ hi'.toInt) ∨ y = 0 ∧ ¬ (lo'.toInt ≤ (X.v i).toInt ∧ (X.v i).toInt ≤ hi'.toInt)) → AW g l (d + 1) MX12_bound 53 [some (vR 12 (some m)), some (vI (fd : Int)), none, none, none, none] [vI y, vR 12 (some m)] σ (fun v σ' => v = none ∧ P σ') := by
    intro y k3 hy
    refine bk_X12_bound_53 ⟨m, rfl, g_must (by omega) hX h (by decide) (by omega) (fun q => ⟨fun _ => ⟨h.lc, ⟨by omega, by omega⟩, ?_⟩, fun z => absurd z (by decide)⟩) (fun q σ' ge => ⟨fun z => absurd rfl z, fun _ => ⟨rfl, h0 _ (by unfold tN; rw [if_pos k3, if_neg (by omega)]) σ' ge⟩⟩)⟩
    rw [sr.2.2.2.1 k3, show ((fd : Int)).toNat = fd by omega, j2i_eq, w32_id (by omega) (by omega)]
    exact g_next (by omega) hX (h.wN (h.pr.n (w := X.v i))) (fun σ' s' => ⟨rfl, h1 (by unfold tN; rw [if_pos k3, if_pos (by omega)]) σ' s'⟩)
  have s21 : ∀ y : Int, (y = 1 ∧ X.k i = 3 ∨ y = 0 ∧ ¬ X.k i = 3) → AW g l (d + 1) MX12_bound 21 [some (vR 12 (some m)), some (vI (fd : Int)), some (vJ lo'), none, some (vJ hi'), none] [vI y, vR 12 (some m)] σ (fun v σ' => v = none ∧ P σ') := by
    intro y hy
    refine bk_X12_bound_21 ⟨m, rfl, g_must (by omega) hX h (by decide) (by omega) (fun q => ⟨fun z => absurd z (by decide), fun _ => ?_⟩) (fun q σ' ge => ⟨fun _ => ⟨rfl, h0 _ (by unfold tN; rw [if_neg (by omega)]) σ' ge⟩, fun z => absurd rfl z⟩)⟩
    have k3 : X.k i = 3 := by omega
    rw [sr.2.2.2.1 k3]
    exact ⟨fun z => s53 0 k3 (by omega), fun z => ⟨fun z2 => s53 0 k3 (by omega), fun z2 => s53 1 k3 (by omega)⟩⟩
  exact AC.of mo_X12_bound (Nat.le_of_ble_eq_true rfl) (bk_X12_bound_0 ⟨fun q => absurd q (by rw [h.2.2.1]; decide), fun _ => ⟨fun q => s21 0 (Or.inr ⟨rfl, fun z => q (sr.2.1.mpr z)⟩), fun q => s21 1 (Or.inl ⟨rfl, sr.2.1.mp q⟩)⟩⟩)
theorem d_bound {P : St → Prop} {x : Int} {a c : Int64} (hD : 1 ≤ D) (h : 0 < gI σ 1251 m 0) (hp : P σ) : ACv g l D MX12_bound [vR 12 (some m), vI x, vJ a, vJ c] σ P := by
  obtain ⟨d, rfl⟩ : ∃ d, D = d + 1 := ⟨D - 1, by omega⟩
  exact AC.of mo_X12_bound (Nat.le_of_ble_eq_true rfl) (bk_X12_bound_0 ⟨fun _ => ⟨rfl, hp⟩, fun q => absurd h q⟩)
end M20
