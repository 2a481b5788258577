/-! the reference's entries: parts, bytes, cases -/
section M23
variable {g : GP} {l : Launch} {D : Nat} {σ0 σ : St} {m b fd lo la i nn : Nat} {X : Txt} {L : List (Nat × Int64 × Int)} {F : Fld} {bg : Int × Int × Int} {En : List Enm} {Ss : List Stc} {Fs : List Fld}
abbrev TkF (m f r : Nat) : Prop := r = m ∧ (1213 ≤ f ∧ f ≤ 1217)
theorem g_nextF {P : St → Prop} (hD : 2 ≤ D) (hX : X.OK) (h : GS σ0 σ m X b fd lo la i nn L F bg) (hp : ∀ σ', Frm (TkF m) σ σ' → GS σ0 σ' m X b fd lo la (X.nx i) nn L F bg → P σ') : ACv g l D MX12_next [vR 12 (some m)] σ P := by
  obtain ⟨d, rfl⟩ : ∃ d, D = d + 2 := ⟨D - 2, by omega⟩
  exact r_next hX h.2.1 (fun σ' hF hT => hp σ' hF (h.nx hF hT nx_ge))
theorem g_takeF {w : Int} {P : St → Prop} (hD : 3 ≤ D) (hX : X.OK) (h : GS σ0 σ m X b fd lo la i nn L F bg) (hw : 33 ≤ w ∧ w ≤ 125) (h1 : tk X i w = .ok (X.nx i) → ∀ σ', Frm (TkF m) σ σ' → GS σ0 σ' m X b fd lo la (X.nx i) nn L F bg → P σ') (h0 : tk X i w = .error (ck X i 2) → ∀ σ', GE σ0 σ' m b fd lo la (ck X i 2) → P σ') : ACv g l D MX12_take [vR 12 (some m), vI w] σ P := by
  obtain ⟨d, rfl⟩ : ∃ d, D = d + 1 := ⟨D - 1, by omega⟩
  refine AC.of mo_X12_take (Nat.le_of_ble_eq_true rfl) (bk_X12_take_0 (r_isSign hX h.2.1 hw.1 hw.2 ?_))
  by_cases e : X.k i = w
  · rw [if_pos e]
    exact g_must (by omega) hX h (by decide) (by decide) (fun _ => ⟨fun q => absurd q (by decide), fun _ => g_nextF (by omega) hX h (fun σ' hF s' => ⟨rfl, h1 (if_pos e) σ' hF s'⟩)⟩) (fun q => absurd q (by decide))
  · rw [if_neg e]
    exact g_must (by omega) hX h (by decide) (by decide) (fun q => absurd q (by decide)) (fun _ σ' ge => ⟨fun _ => ⟨rfl, h0 (if_neg e) σ' ge⟩, fun q => absurd rfl q⟩)
/-- what a write behind the entries keeps -/
theorem GS.keep {f k : Nat} {σ' : St} (h : GS σ0 σ m X b fd lo la i nn L F bg) (hO : Out m (fun f' i' => f' = f ∧ i' = k) σ σ') (hF : Frm (fun f' r => r = m ∧ f' = f) σ σ') (hf : (1239 ≤ f ∧ f ≤ 1241)) (hk : 16 * fd + F.es.length ≤ k) (hk2 : k < 16 * fd + 16) : GS σ0 σ' m X b fd lo la i nn L F bg := by
  obtain ⟨a1, a2, a3, a4, a5, a6, a7, a8, a9, a10, a11, a12⟩ := h
  have r : ∀ f' i', ¬ (f' = f ∧ i' = k) → gI σ' f' m i' = gI σ f' m i' := fun f' i' q => (hO.2 f' i' q).1
  obtain ⟨c1, c2⟩ := a8.out a9 hO (fun f' i' z _ _ _ q => by omega) (fun f' z0 z1 q => by omega) (fun f' p z0 z1 z2 q => by omega)
  refine ⟨a1.trans (hO.mono (fun f' i' q => Or.inr (Or.inr (Or.inl ⟨by omega, by omega, by omega, by omega⟩)))), ?_, by rw [r _ _ (by omega)]; exact a3, by rw [r _ _ (by omega)]; exact a4, by rw [r _ _ (by omega)]; exact a5, a6, a7, c1, c2, a10.out hO (fun i q => by omega) (fun f i z0 z1 q => by omega), a11, by rw [r _ _ (by omega)]; exact a12.1, by rw [r _ _ (by omega)]; exact a12.2.1, by rw [r _ _ (by omega)]; exact a12.2.2⟩
  exact a2.frm hF (fun f' z0 z1 q => by omega)
theorem GS.wPJ {f p : Nat} {v : Int64} (h : GS σ0 σ m X b fd lo la i nn L F bg) (hf : f = 1239 ∨ f = 1240) (hp : F.es.length ≤ p) (h16 : p < 16) : GS σ0 (sJ σ f m (16 * fd + p) v) m X b fd lo la i nn L F bg :=
  h.keep (f := f) (k := 16 * fd + p) (Out.sJ ⟨rfl, rfl⟩ (by omega)) (Frm.sJ (by simp)) (by omega) (by omega) (by omega)
theorem GS.wPI {p : Nat} {v : Int} (h : GS σ0 σ m X b fd lo la i nn L F bg) (hp : F.es.length ≤ p) (h16 : p < 16) : GS σ0 (sI σ 1241 m (16 * fd + p) v) m X b fd lo la i nn L F bg :=
  h.keep (f := 1241) (k := 16 * fd + p) (Out.sI ⟨rfl, rfl⟩ (by omega)) (Frm.sI (by simp)) (by omega) (by omega) (by omega)
theorem GE.wPJ {f p : Nat} {v : Int64} {e : Int × Int} (h : GE σ0 σ m b fd lo la e) (hf : 1239 ≤ f ∧ f ≤ 1241) (hp : p < 16) : GE σ0 (sJ σ f m (16 * fd + p) v) m b fd lo la e := by
  have hF : Frm (fun f' r => r = m ∧ f' = f) σ (sJ σ f m (16 * fd + p) v) := Frm.sJ (by simp)
  exact ⟨h.1.trans (Out.sJ (Or.inr (Or.inr (Or.inl ⟨hf.1, hf.2, by omega, by omega⟩))) (by omega)), h.2.1, by rw [hF.I (fun q => by omega)]; exact h.2.2.1, by rw [hF.I (fun q => by omega)]; exact h.2.2.2⟩
theorem GE.wPI {f p : Nat} {v : Int} {e : Int × Int} (h : GE σ0 σ m b fd lo la e) (hf : 1239 ≤ f ∧ f ≤ 1241) (hp : p < 16) : GE σ0 (sI σ f m (16 * fd + p) v) m b fd lo la e := by
  have hF : Frm (fun f' r => r = m ∧ f' = f) σ (sI σ f m (16 * fd + p) v) := Frm.sI (by simp)
  exact ⟨h.1.trans (Out.sI (Or.inr (Or.inr (Or.inl ⟨hf.1, hf.2, by omega, by omega⟩))) (by omega)), h.2.1, by rw [hF.I (fun q => by omega)]; exact h.2.2.1, by rw [hF.I (fun q => by omega)]; exact h.2.2.2⟩
/-- begun -/
theorem GS.wB {v : Int} (h : GS σ0 σ m X b fd lo la i nn L F bg) : GS σ0 (sI σ 1256 m 0 v) m X b fd lo la i nn L F (v, bg.2) := by
  obtain ⟨a1, a2, a3, a4, a5, a6, a7, a8, a9, a10, a11, a12⟩ := h
  have hO : Out m (fun f' i' => f' = 1256 ∧ i' = 0) σ (sI σ 1256 m 0 v) := Out.sI ⟨rfl, rfl⟩ (by decide)
  have hF : Frm (fun f' r => r = m ∧ f' = 1256) σ (sI σ 1256 m 0 v) := Frm.sI (by simp)
  obtain ⟨c1, c2⟩ := a8.out a9 hO (fun f' i' z _ _ _ q => by omega) (fun f' z0 z1 q => by omega) (fun f' p z0 z1 z2 q => by omega)
  exact ⟨a1.trans (hO.mono (fun f' i' q => Or.inl (by unfold RTk; omega))), a2.frm hF (fun f' z0 z1 q => by omega), by rw [hF.I (fun q => by omega)]; exact a3, by rw [hF.I (fun q => by omega)]; exact a4, by rw [hF.I (fun q => by omega)]; exact a5, a6, a7, c1, c2, a10.out hO (fun i q => by omega) (fun f i z0 z1 q => by omega), a11, gI_slf _ _ _ _ _, by rw [hF.I (f := 1228) (fun q => by omega)]; exact a12.2.1, by rw [hF.I (f := 1235) (fun q => by omega)]; exact a12.2.2⟩
theorem GE.wB {v : Int} {e : Int × Int} (h : GE σ0 σ m b fd lo la e) : GE σ0 (sI σ 1256 m 0 v) m b fd lo la e := by
  have hF : Frm (fun f' r => r = m ∧ f' = 1256) σ (sI σ 1256 m 0 v) := Frm.sI (by simp)
  exact ⟨h.1.trans (Out.sI (Or.inl (by unfold RTk; omega)) (by omega)), h.2.1, by rw [hF.I (fun q => by omega)]; exact h.2.2.1, by rw [hF.I (fun q => by omega)]; exact h.2.2.2⟩
/-- one entry more -/
theorem GS.add {e : Ent} {v : Int} (h : GS σ0 σ m X b fd lo la i nn L F bg) (hv : v = (F.es.length : Int) + 1) (h1 : ¬ e.1 = 0 → gJ σ 1239 m (16 * fd + F.es.length) = rho e.1) (h2 : gJ σ 1240 m (16 * fd + F.es.length) = e.2.1) (h3 : F.ki = 6 → gI σ 1241 m (16 * fd + F.es.length) = e.2.2) : GS σ0 (sI σ 1237 m fd v) m X b fd lo la i nn L (F.wEs (F.es ++ [e])) bg := by
  obtain ⟨p1, p2, p3, p4, p5, p6, p7, p8, p9, p10⟩ := h.pr
  refine h.wI (by omega) ⟨p1, p2, p3, p4, p5, p6, ?_, p8, p9, fun p x hx => ?_⟩ h.pl
  · rw [gI_slf, hv]; show _ = ((F.es ++ [e]).length : Int); rw [app_l]; omega
  · have hx : (F.es ++ [e])[p]? = some x := hx
    show (¬ x.1 = 0 → gJ σ 1239 m (16 * fd + p) = rho x.1) ∧ gJ σ 1240 m (16 * fd + p) = x.2.1 ∧ (F.ki = 6 → gI (sI σ 1237 m fd v) 1241 m (16 * fd + p) = x.2.2)
    rw [gI_sI, if_neg (by omega)]
    rcases Nat.lt_trichotomy p F.es.length with z | z | z
    · rw [List.getElem?_append_left z] at hx
      exact p10 p x hx
    · rw [z, app_at] at hx
      cases hx
      rw [z]; exact ⟨h1, h2, h3⟩
    · rw [List.getElem?_eq_none (by rw [app_l]; omega)] at hx
      exact absurd hx (by simp)
/-- a part of BITS -/
theorem g_part {bit : Int} {P : St → Prop} (hD : 6 ≤ D) (hX : X.OK) (hE : E0 σ0 m b lo En Ss Fs) (hfd : fd = fdx b Ss Fs) (h14 : Fs.length < 14) (h : GS σ0 σ m X b fd lo la i nn L F bg) (hb : bg.1 = 1) (hk : F.ki = 3) (hN : IsN F.nm) (hes : ∀ e ∈ F.es, IsN e.1) (h12 : F.es.length ≤ 12) (hT : TyR F.ty) (hbit : 0 ≤ bit ∧ bit ≤ 64)
    (h1 : ∀ q, rPart X Fs F bit i = .ok q → ∀ σ', GS σ0 σ' m X b fd lo la q.1 nn L q.2.1 bg → P σ') (h0 : ∀ e, rPart X Fs F bit i = .error e → ∀ σ', GE σ0 σ' m b fd lo la e → P σ') : ACv g l D MX12_part [vR 12 (some m), vI (fd : Int), vI bit] σ P := by
  obtain ⟨d, rfl⟩ : ∃ d, D = d + 1 := ⟨D - 1, by omega⟩
  have fdv : fd = 14 * (20 * b + Ss.length) + Fs.length := hfd
  have e3 := hE.2.2.1
  have e6 := hE.2.2.2.2.2.1
  have tn : ((fd : Int)).toNat = fd := by omega
  have nz : ¬ F.ty = 0 := fun q => by have := hT.1; rw [q] at this; exact absurd this (by decide)
  have m7 := fun (τ : St) {j : Nat} (s : GS σ0 τ m X b fd lo la j nn L F bg) => s.pr.2.2.2.2.2.2.1
  unfold rPart at h1 h0
  refine AC.of mo_X12_part (Nat.le_of_ble_eq_true rfl) (bk_X12_part_0 (g_fresh (by omega) hX hE hfd h14 h (Or.inr ⟨hb, hk, hN, hes, h12⟩) (fun et k2 => ⟨fun q => absurd q (by decide), fun _ => ⟨h.lc, ⟨by omega, by omega⟩, ?_⟩⟩) (fun e ee σ1 ge => ⟨fun _ => ⟨rfl, h0 e (by rw [ee, bx_er]) σ1 ge⟩, fun q => absurd rfl q⟩)))
  rw [et, bx_ok] at h1 h0
  rw [tn, m7 σ h]
  obtain ⟨ew, iw⟩ := (h.2.1.sort hX).2.2.2.2.1 k2
  by_cases l12 : F.es.length < 12
  · rw [if_pos l12] at h1 h0
    dsimp only at h1 h0
    refine ⟨fun q => absurd q (by omega), fun _ => bk_X12_part_25 ⟨m, rfl, g_must (by omega) hX h (by decide) (by decide) (fun _ => ⟨fun _ => ⟨⟨by omega, by omega⟩, h.lc, ⟨by omega, by omega⟩, ?_⟩, fun q => absurd q (by decide)⟩) (fun q => absurd q (by decide))⟩⟩
    rw [tn, m7 σ h, ew]
    refine ⟨⟨by omega, by omega⟩, fun z hz => ⟨⟨by omega, by omega⟩, ?_⟩⟩
    rw [show z.toNat = 16 * fd + F.es.length by omega]
    refine g_nextF (by omega) hX (h.wPJ (Or.inl rfl) (Nat.le_refl _) (by omega)) (fun σ1 hF1 s1 => g_takeF (by omega) hX s1 (by decide) (fun etk σ2 hF2 s2 => ⟨fun q => absurd q (by rw [s2.bd]; decide), fun _ => ?_⟩) (fun etk σ2 ge => ⟨fun _ => ⟨rfl, h0 _ (by rw [etk, bx_er]) σ2 ge⟩, fun q => absurd ge.bd q⟩))
    have n39 : gJ σ2 1239 m (16 * fd + F.es.length) = rho (X.v i) := by rw [hF2.J (fun q => by omega), hF1.J (fun q => by omega), gJ_slf]
    rw [etk, bx_ok] at h1 h0
    generalize X.nx (X.nx i) = j at *
    have sr := s2.2.1.sort hX
    have s86 : ∀ y : Int, (y = 1 ∧ X.k j = 3 ∨ y = 0 ∧ ¬ X.k j = 3) → AW g l (d + 1) MX12_part 86 [some (vR 12 (some m)), some (vI (fd : Int)), some (vI bit), some (vI z)] [vI y, vR 12 (some m)] σ2 (fun v σ' => v = none ∧ P σ') := by
      intro y hy
      refine bk_X12_part_86 ⟨m, rfl, g_must (by omega) hX s2 (by decide) (by omega) (fun q => ⟨fun q2 => absurd q2 (by decide), fun _ => ?_⟩) (fun q σ3 ge => ⟨fun _ => ⟨rfl, h0 _ (by unfold tN; rw [if_neg (by omega), bx_er]) σ3 ge⟩, fun q2 => absurd rfl q2⟩)⟩
      have k3 : X.k j = 3 := by omega
      have ev := sr.2.2.2.1 k3
      rw [ev, tn, s2.pr.2.2.2.2.2.2.2.2.1 nz, i_and15]
      have tw8 : 1 ≤ F.ty.toInt % 16 ∧ F.ty.toInt % 16 ≤ 8 := ⟨hT.1, hT.2.1⟩
      have te : tw F.ty = F.ty.toInt % 16 := rfl
      rw [te] at h1 h0
      have s143 : ∀ y : Int, (y = 1 ∧ (1 ≤ (X.v j).toInt ∧ (X.v j).toInt ≤ (if 64 ≤ 8 * (F.ty.toInt % 16) - bit then 64 else 8 * (F.ty.toInt % 16) - bit)) ∨ y = 0 ∧ ¬ (1 ≤ (X.v j).toInt ∧ (X.v j).toInt ≤ (if 64 ≤ 8 * (F.ty.toInt % 16) - bit then 64 else 8 * (F.ty.toInt % 16) - bit))) → AW g l (d + 1) MX12_part 143 [some (vR 12 (some m)), some (vI (fd : Int)), none, some (vI z)] [vI y, vR 12 (some m)] σ2 (fun v σ' => v = none ∧ P σ') := by
        intro y hy
        refine bk_X12_part_143 ⟨m, rfl, g_must (by omega) hX s2 (by decide) (by omega) (fun q => ⟨fun _ => ⟨s2.lc, ⟨by omega, by omega⟩, ⟨by omega, by omega⟩, ?_⟩, fun q2 => absurd q2 (by decide)⟩) (fun q σ3 ge => ⟨fun q2 => absurd rfl q2, fun _ => ⟨rfl, h0 _ (by unfold tN; rw [if_pos k3, if_neg (by omega), bx_er]) σ3 ge⟩⟩)⟩
        rw [tn, m7 σ2 s2, ev, show z.toNat = 16 * fd + F.es.length by omega]
        have s3 := s2.wPJ (f := 1240) (p := F.es.length) (v := X.v j) (Or.inr rfl) (Nat.le_refl _) (by omega)
        exact ⟨⟨by omega, by omega⟩, g_next (by omega) hX (s3.add (e := (X.v i, X.v j, bit)) rfl (fun _ => by rw [gJ_sJ, if_neg (by simp)]; exact n39) (gJ_slf _ _ _ _ _) (fun q => by omega)) (fun σ4 s4 => ⟨rfl, h1 (X.nx j, F.wEs (F.es ++ [(X.v i, X.v j, bit)]), bit + (X.v j).toInt) (by unfold tN; rw [if_pos k3, if_pos (by omega), bx_ok]) σ4 s4⟩)⟩
      have vn := hX.num j s2.iK k3
      have add : (1 ≤ (X.v j).toInt ∧ (X.v j).toInt ≤ 64) → (i2j bit + X.v j).toInt = bit + (X.v j).toInt := fun q => by rw [Int64.toInt_add, bmod64, i2j_toInt, w32_id (by omega) (by omega)]; omega
      refine ⟨fun q => s143 0 (Or.inr ⟨rfl, fun q2 => by have : (1 : Int64).toInt = 1 := rfl; omega⟩), fun q => ⟨fun q2 => s143 0 (Or.inr ⟨rfl, fun q3 => ?_⟩), fun q2 => ⟨s2.lc, ⟨by omega, by omega⟩, ⟨by omega, by omega⟩, ?_⟩⟩⟩
      · have : (64 : Int64).toInt = 64 := rfl
        split at q3 <;> omega
      · have e1 : (1 : Int64).toInt = 1 := rfl
        have e64 : (64 : Int64).toInt = 64 := rfl
        rw [i2j_toInt, w32_id (by omega) (by omega), add ⟨by omega, by omega⟩]
        refine ⟨fun q3 => s143 0 (Or.inr ⟨rfl, fun q4 => ?_⟩), fun q3 => s143 1 (Or.inl ⟨rfl, by omega, ?_⟩)⟩
        · split at q4 <;> omega
        · split <;> omega
    exact ⟨fun q => s86 0 (Or.inr ⟨rfl, fun q2 => q (sr.2.1.mpr q2)⟩), fun q => s86 1 (Or.inl ⟨rfl, sr.2.1.mp q⟩)⟩
  · rw [if_neg l12] at h1 h0
    exact ⟨fun _ => bk_X12_part_25 ⟨m, rfl, g_must (by omega) hX h (by decide) (by decide) (fun q => absurd q (by decide)) (fun _ σ1 ge => ⟨fun q => absurd rfl q, fun _ => ⟨rfl, h0 _ rfl σ1 ge⟩⟩)⟩, fun q => absurd (by omega) q⟩
end M23
