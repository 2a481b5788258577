/-! the reference's MAGIC and SUM -/
section M25
variable {g : GP} {l : Launch} {D : Nat} {σ0 σ : St} {m b fd lo la i nn : Nat} {X : Txt} {L : List (Nat × Int64 × Int)} {F : Fld} {bg : Int × Int × Int} {En : List Enm} {Ss : List Stc} {Fs : List Fld}
theorem g_byte {P : St → Prop} (hD : 4 ≤ D) (hX : X.OK) (hE : E0 σ0 m b lo En Ss Fs) (hfd : fd = fdx b Ss Fs) (h14 : Fs.length < 14) (h : GS σ0 σ m X b fd lo la i nn L F bg) (hk : F.ki = 9) (h16 : F.es.length ≤ 16)
    (h1 : ∀ q, rByte X F i = .ok q → ∀ σ', GS σ0 σ' m X b fd lo la q.1 nn L q.2 bg → P σ') (h0 : ∀ e, rByte X F i = .error e → ∀ σ', GE σ0 σ' m b fd lo la e → P σ') : ACv g l D MX12_readByte [vR 12 (some m), vI (fd : Int)] σ P := by
  obtain ⟨d, rfl⟩ : ∃ d, D = d + 1 := ⟨D - 1, by omega⟩
  have fdv : fd = 14 * (20 * b + Ss.length) + Fs.length := hfd
  have e3 := hE.2.2.1
  have e6 := hE.2.2.2.2.2.1
  have tn : ((fd : Int)).toNat = fd := by omega
  have m7 := h.pr.2.2.2.2.2.2.1
  have sr := h.2.1.sort hX
  unfold rByte at h1 h0
  have e255 : (255 : Int64).toInt = 255 := rfl
  have s101 : ∀ v : Int64, F.es.length < 16 → (∀ σ', GS σ0 σ' m X b fd lo la (X.nx i) nn L (F.wEs (F.es ++ [(0, v, 0)])) bg → P σ') → AW g l (d + 1) MX12_readByte 101 [some (vR 12 (some m)), some (vI (fd : Int)), none] [vJ v, vI (16 * (fd : Int) + (F.es.length : Int)), vA 1240 m] σ (fun v σ' => v = none ∧ P σ') := by
    intro v l16 hP
    refine bk_X12_readByte_101 ⟨h.lc, ⟨by omega, by omega⟩, h.lc, ⟨by omega, by omega⟩, ?_⟩
    rw [tn, m7, show (16 * (fd : Int) + (F.es.length : Int)).toNat = 16 * fd + F.es.length by omega]
    have s3 := h.wPJ (f := 1240) (p := F.es.length) (v := v) (Or.inr rfl) (Nat.le_refl _) (by omega)
    exact ⟨⟨by omega, by omega⟩, g_next (by omega) hX (s3.add (e := (0, v, 0)) rfl (fun q => absurd rfl q) (gJ_slf _ _ _ _ _) (fun q => by omega)) (fun σ4 s4 => ⟨rfl, hP σ4 s4⟩)⟩
  have s64 : ∀ x y : Int, (X.k i = 3 ∨ X.k i = 42) → (x = 1 ∧ X.k i = 42 ∨ x = 0 ∧ ¬ X.k i = 42) → (y = 1 ∧ F.es.length < 16 ∧ (X.k i = 42 ∨ (X.v i).toInt ≤ 255) ∨ y = 0 ∧ ¬ (F.es.length < 16 ∧ (X.k i = 42 ∨ (X.v i).toInt ≤ 255))) → AW g l (d + 1) MX12_readByte 64 [some (vR 12 (some m)), some (vI (fd : Int)), some (vI x)] [vI y, vR 12 (some m)] σ (fun v σ' => v = none ∧ P σ') := by
    intro x y hkk hx hy
    rw [if_pos hkk] at h1 h0
    refine bk_X12_readByte_64 ⟨m, rfl, g_must (by omega) hX h (by decide) (by omega) (fun q => ⟨fun _ => ⟨h.lc, ⟨by omega, by omega⟩, ⟨by omega, by omega⟩, ?_⟩, fun z => absurd z (by decide)⟩) (fun q σ1 ge => ⟨fun z => absurd rfl z, fun _ => ⟨rfl, h0 _ ?_ σ1 ge⟩⟩)⟩
    · rw [tn, m7]
      have l16 : F.es.length < 16 := by omega
      rw [if_pos l16] at h1
      refine ⟨⟨by omega, by omega⟩, fun z => ?_, fun z => ?_⟩
      · have k42 : ¬ X.k i = 42 := by omega
        have k3 : X.k i = 3 := by omega
        have vn := hX.num i h.iK k3
        rw [if_neg k42] at h1
        rw [sr.2.2.2.1 k3]
        exact s101 _ l16 (fun σ' s' => h1 (X.nx i, F.wEs (F.es ++ [(0, X.v i, 0)])) (by unfold tN; rw [if_pos k3, if_pos (by omega), bx_ok]) σ' s')
      · have k42 : X.k i = 42 := by omega
        rw [if_pos k42] at h1
        exact s101 _ l16 (fun σ' s' => h1 _ rfl σ' s')
    · by_cases l16 : F.es.length < 16
      · have k42 : ¬ X.k i = 42 := by omega
        have k3 : X.k i = 3 := by omega
        rw [if_pos l16, if_neg k42]; unfold tN; rw [if_pos k3, if_neg (by omega), bx_er]
      · rw [if_neg l16]
  have s25 : ∀ x y : Int, (x = 1 ∧ X.k i = 42 ∨ x = 0 ∧ ¬ X.k i = 42) → (y = 1 ∧ (X.k i = 3 ∨ X.k i = 42) ∨ y = 0 ∧ ¬ (X.k i = 3 ∨ X.k i = 42)) → AW g l (d + 1) MX12_readByte 25 [some (vR 12 (some m)), some (vI (fd : Int)), some (vI x)] [vI y, vR 12 (some m)] σ (fun v σ' => v = none ∧ P σ') := by
    intro x y hx hy
    refine bk_X12_readByte_25 ⟨m, rfl, g_must (by omega) hX h (by decide) (by omega) (fun q => ⟨fun z => absurd z (by decide), fun _ => ⟨h.lc, ⟨by omega, by omega⟩, ?_⟩⟩) (fun q σ1 ge => ⟨fun _ => ⟨rfl, h0 _ (if_neg (by omega)) σ1 ge⟩, fun z => absurd rfl z⟩)⟩
    have hkk : X.k i = 3 ∨ X.k i = 42 := by omega
    rw [tn, m7]
    refine ⟨fun z => s64 x 0 hkk hx (Or.inr ⟨rfl, by omega⟩), fun z => ⟨fun z2 => s64 x 1 hkk hx (Or.inl ⟨rfl, by omega, by omega⟩), fun z2 => ?_⟩⟩
    have k3 : X.k i = 3 := by omega
    rw [sr.2.2.2.1 k3, e255]
    exact ⟨fun z3 => s64 x 0 hkk hx (Or.inr ⟨rfl, by omega⟩), fun z3 => s64 x 1 hkk hx (Or.inl ⟨rfl, by omega, by omega⟩)⟩
  refine AC.of mo_X12_readByte (Nat.le_of_ble_eq_true rfl) (bk_X12_readByte_0 (r_isSign hX h.2.1 (by decide) (by decide) ?_))
  by_cases k42 : X.k i = 42
  · rw [if_pos k42]
    exact ⟨fun _ => s25 1 1 (Or.inl ⟨rfl, k42⟩) (Or.inl ⟨rfl, Or.inr k42⟩), fun q => absurd q (by decide)⟩
  · rw [if_neg k42]
    exact ⟨fun q => absurd rfl q, fun _ => ⟨fun q => s25 0 0 (Or.inr ⟨rfl, k42⟩) (Or.inr ⟨rfl, fun z => z.elim (fun y => q (sr.2.1.mpr y)) k42⟩), fun q => s25 0 1 (Or.inr ⟨rfl, k42⟩) (Or.inl ⟨rfl, Or.inl (sr.2.1.mp q)⟩)⟩⟩
theorem g_magic {P : St → Prop} (hD : 7 ≤ D) (hX : X.OK) (hE : E0 σ0 m b lo En Ss Fs) (hfd : fd = fdx b Ss Fs) (h14 : Fs.length < 14) (h : GS σ0 σ m X b fd lo la i nn L F bg) (hn : F.nm = 0) (hb : bg.1 = 0) (he : F.es = [])
    (hp : ∀ σ', GR σ0 m X b fd lo la L (rMagic X Fs F i) σ' → P σ') : ACv g l D MX12_readMagic [vR 12 (some m), vI (fd : Int)] σ P := by
  obtain ⟨d, rfl⟩ : ∃ d, D = d + 1 := ⟨D - 1, by omega⟩
  have fdv : fd = 14 * (20 * b + Ss.length) + Fs.length := hfd
  have e3 := hE.2.2.1
  have e6 := hE.2.2.2.2.2.1
  have tn : ((fd : Int)).toNat = fd := by omega
  have dead : ∀ (τ : St), 0 < gI τ 1251 m 0 → P τ → AW g l (d + 1) MX12_readMagic 35 [some (vR 12 (some m)), some (vI (fd : Int))] [] τ (fun v σ' => v = none ∧ P σ') := fun τ q hP =>
    bk_X12_readMagic_35 ⟨fun _ => ⟨rfl, hP⟩, fun z => by omega⟩
  have loop : ∀ (f : Nat) (F : Fld) (i : Nat) (τ : St) (n : Int), GS σ0 τ m X b fd lo la i nn L F (0, 10, n) → F.ki = 9 → F.es.length ≤ 16 → F.es.length + f = 17 →
      (∀ σ', GR σ0 m X b fd lo la L (rBytes X f F i) σ' → P σ') → ACv g l d MX12_readByte [vR 12 (some m), vI (fd : Int)] τ (fun σ8 => AW g l (d + 1) MX12_readMagic 35 [some (vR 12 (some m)), some (vI (fd : Int))] [] σ8 (fun v σ' => v = none ∧ P σ')) := by
    intro f
    induction f with
    | zero => intro F i τ n s _ h16 hf _; omega
    | succ f ih =>
      intro F i τ n s hk h16 hf hp
      rw [rBytes] at hp
      refine g_byte (by omega) hX hE hfd h14 s hk h16 (fun q eq σ1 s1 => ?_) (fun e ee σ1 ge => dead σ1 ge.bd (hp σ1 (GR.err (by rw [ee, bx_er]) ge)))
      obtain ⟨v, q1, q2, q3, q4, q5⟩ := rByte_wf hX s.iK eq
      rw [eq, bx_ok] at hp
      have sr := s1.2.1.sort hX
      have el : q.2.es.length = F.es.length + 1 := by rw [q1]; exact app_l
      have hk' : q.2.ki = 9 := by rw [q1]; exact hk
      have go : (X.k q.1 = 3 ∨ X.k q.1 = 42) → ACv g l d MX12_readByte [vR 12 (some m), vI (fd : Int)] σ1 (fun σ8 => AW g l (d + 1) MX12_readMagic 35 [some (vR 12 (some m)), some (vI (fd : Int))] [] σ8 (fun v σ' => v = none ∧ P σ')) := fun c => by
        rw [if_pos c] at hp
        exact ih q.2 q.1 σ1 n s1 hk' (by omega) (by omega) hp
      refine bk_X12_readMagic_35 ⟨fun z => absurd s1.bd z, fun _ => ⟨fun z => go (Or.inl (sr.2.1.mp z)), fun z => r_isSign hX s1.2.1 (by decide) (by decide) ?_⟩⟩
      by_cases k42 : X.k q.1 = 42
      · rw [if_pos k42]
        exact ⟨fun z => absurd z (by decide), fun _ => go (Or.inr k42)⟩
      · rw [if_neg (fun c => c.elim (fun y => z (sr.2.1.mpr y)) k42)] at hp
        rw [if_neg k42]
        exact ⟨fun _ => ⟨rfl, hp σ1 (GR.okk rfl (by omega) s1 (GK.of rfl (by rw [kR_9 hk']) ⟨by omega, by omega, by omega, fun z => by omega⟩))⟩, fun z => absurd rfl z⟩
  unfold rMagic at hp
  refine AC.of mo_X12_readMagic (Nat.le_of_ble_eq_true rfl) (bk_X12_readMagic_0 (g_next (by omega) hX h (fun σ1 s1 => ⟨s1.lc, ⟨by omega, by omega⟩, ?_⟩)))
  rw [tn]
  refine g_named (by omega) hX hE hfd h14 (s1.wK (F' := F.wKi 9) (s1.pr.k he)) hb hn he (fun et σ2 s2 => ?_) (fun e ee σ2 ge => d_take (by omega) ge.bd ⟨fun _ => dead σ2 ge.bd (hp σ2 (GR.err (by rw [ee, bx_er]) ge)), fun q => absurd q (by have := ge.bd; omega)⟩)
  rw [et, bx_ok] at hp
  dsimp only at hp
  refine g_take (by omega) hX s2 (by decide) (fun et σ3 s3 => ⟨fun q => absurd s3.bd q, fun _ => ?_⟩) (fun et σ3 ge => ⟨fun _ => dead σ3 ge.bd (hp σ3 (GR.err (by rw [et, bx_er]) ge)), fun q => absurd q (by have := ge.bd; omega)⟩)
  rw [et, bx_ok] at hp
  have s4 : GS σ0 σ3 m X b fd lo la (X.nx (X.nx (X.nx i))) nn L ((F.wKi 9).wNm (X.v (X.nx i))) (0, 10, bg.2.2) := by
    rw [show ((0 : Int), (10 : Int), bg.2.2) = (bg.1, 10, bg.2.2) by rw [hb]]; exact s3
  exact loop 17 _ _ _ _ s4 rfl (by show F.es.length ≤ 16; rw [he]; decide) (by show F.es.length + 17 = 17; rw [he]; rfl) hp
theorem g_sum {P : St → Prop} (hD : 10 ≤ D) (hX : X.OK) (hE : E0 σ0 m b lo En Ss Fs) (hfd : fd = fdx b Ss Fs) (h14 : Fs.length < 14) (h : GS σ0 σ m X b fd lo la i nn L F bg) (hn : F.nm = 0) (hb : bg.1 = 0) (he : F.es = [])
    (hp : ∀ σ', GR σ0 m X b fd lo la L (rSum X Fs F i) σ' → P σ') : ACv g l D MX12_readSum [vR 12 (some m), vI (fd : Int)] σ P := by
  obtain ⟨d, rfl⟩ : ∃ d, D = d + 1 := ⟨D - 1, by omega⟩
  have fdv : fd = 14 * (20 * b + Ss.length) + Fs.length := hfd
  have e3 := hE.2.2.1
  have e6 := hE.2.2.2.2.2.1
  have tn : ((fd : Int)).toNat = fd := by omega
  unfold rSum at hp
  have dead : ∀ (τ : St) (e : Int × Int), GE σ0 τ m b fd lo la e → P τ → AW g l (d + 1) MX12_readSum 123 [some (vR 12 (some m)), some (vI (fd : Int)), none] [] τ (fun v σ' => v = none ∧ P σ') := fun τ e ge hP =>
    bk_X12_readSum_123 ⟨fun _ => bk_X12_readSum_140 (d_take (by omega) ge.bd ⟨fun _ => ⟨rfl, hP⟩, fun z => absurd z (by have := ge.bd; omega)⟩), fun z => absurd z (by have := ge.bd; omega)⟩
  have s80 : ∀ (σ1 : St), GS σ0 σ1 m X b fd lo la (X.nx i) nn L (F.wKi 10) (bg.1, 11, bg.2.2) → 217 ≤ X.k (X.nx i) ∧ X.k (X.nx i) ≤ 220 → AW g l (d + 1) MX12_readSum 80 [some (vR 12 (some m)), some (vI (fd : Int)), some (vI (X.k (X.nx i) - 217))] [vI 1, vR 12 (some m)] σ1 (fun v σ' => v = none ∧ P σ') := by
    intro σ1 s1 hkk
    rw [if_pos hkk] at hp
    refine bk_X12_readSum_80 ⟨m, rfl, g_must (by omega) hX s1 (by decide) (by decide) (fun _ => ⟨fun _ => ⟨s1.lc, ⟨by omega, by omega⟩, ?_⟩, fun z => absurd z (by decide)⟩) (fun q => absurd q (by decide))⟩
    rw [tn]
    have nu : (i2j (X.k (X.nx i))).toInt = X.k (X.nx i) := i2j_k (by omega) (by omega)
    refine g_next (by omega) hX (s1.wN (s1.pr.n (w := i2j (X.k (X.nx i))))) (fun σ2 s2 => g_whole (by omega) hX hE hfd h14 s2 (fun et σ3 s3 => ?_) (fun et σ3 ge => d_named (by omega) ge.bd ⟨fun _ => dead σ3 _ ge (hp σ3 (GR.err (by rw [et, bx_er]) ge)), fun z => absurd z (by have := ge.bd; omega)⟩))
    rw [et, bx_ok] at hp
    dsimp only at hp
    refine g_named (by omega) hX hE hfd h14 s3 hb hn he (fun eo σ4 s4 => ⟨fun z => absurd s4.bd z, fun _ => ?_⟩) (fun e eo σ4 ge => ⟨fun _ => dead σ4 _ ge (hp σ4 (GR.err (by rw [eo, bx_er]) ge)), fun z => absurd z (by have := ge.bd; omega)⟩)
    rw [eo, bx_ok] at hp
    dsimp only at hp
    refine g_takeWord (j := 21) (by omega) hX s4 (by decide) rfl (fun ew σ5 s5 => bk_X12_readSum_123 ⟨fun z => absurd s5.bd z, fun _ => ⟨s5.lc, ?_⟩⟩) (fun ew σ5 ge => dead σ5 _ ge (hp σ5 (GR.err (by rw [show tk X _ 221 = _ from ew, bx_er]) ge)))
    rw [show tk X _ 221 = _ from ew, bx_ok] at hp
    refine g_ex (by omega) hX hE hfd h14 s5 (fun i' N e v σ6 s6 xr xl => ⟨s6.lc, ⟨by omega, by omega⟩, bk_X12_readSum_140 ?_⟩) (fun e er σ6 ge => ⟨ge.lc hE, ⟨by omega, by omega⟩, bk_X12_readSum_140 (d_take (by omega) (ge.wI (by omega)).bd ⟨fun _ => ⟨rfl, hp _ (GR.err (by rw [er, bx_er]) (ge.wI (by omega)))⟩, fun z => absurd z (by have := (ge.wI (f := 1233) (v := -1) (by omega)).bd; rw [tn] at z; omega)⟩)⟩)
    rw [e, bx_ok] at hp
    dsimp only at hp
    rw [tn]
    refine g_take (by omega) hX (s6.wI (by omega) (s6.pr.wE1 xr) (s6.pl.e1 xl)) (by decide) (fun et σ7 s7 => ⟨fun z => absurd s7.bd z, fun _ => ⟨s7.lc, ?_⟩⟩) (fun et σ7 ge => ⟨fun _ => ⟨rfl, hp σ7 (GR.err (by rw [et, bx_er]) ge)⟩, fun z => absurd z (by have := ge.bd; omega)⟩)
    rw [et, bx_ok] at hp
    refine g_ex (by omega) hX hE hfd h14 s7 (fun i2 N2 ee v2 σ8 s8 xr2 xl2 => ⟨s8.lc, ⟨by omega, by omega⟩, rfl, ?_⟩) (fun e er σ8 ge => ⟨ge.lc hE, ⟨by omega, by omega⟩, rfl, hp _ (GR.err (by rw [er, bx_er]) (ge.wI (by omega)))⟩)
    rw [ee, bx_ok] at hp
    exact hp _ (GR.okk rfl (by show ¬ (10 : Int) = 7; decide) (s8.wI (by omega) (s8.pr.wE2 xr2) (s8.pl.e2 xl2)) ⟨hb, (kR_10 rfl).symm, fun q => by
      rcases q with q | q | q
      · exact absurd (show (10 : Int) = 7 from q) (by decide)
      · exact absurd (show (10 : Int) = 8 from q) (by decide)
      · exact absurd (show (10 : Int) = 5 from q.1) (by decide), fun _ => by show X.k (X.nx i) - 217 = (i2j (X.k (X.nx i))).toInt - 217; rw [nu]⟩)
  refine AC.of mo_X12_readSum (Nat.le_of_ble_eq_true rfl) (bk_X12_readSum_0 (g_next (by omega) hX h (fun σ1 s1 => ⟨s1.lc, ⟨by omega, by omega⟩, ?_⟩)))
  rw [tn]
  have s1' := s1.wK (v := 11) (s1.pr.k (k := 10) he)
  have go : ∀ k : Int, X.k (X.nx i) = 217 + k → 0 ≤ k → k ≤ 3 → AW g l (d + 1) MX12_readSum 80 [some (vR 12 (some m)), some (vI (fd : Int)), some (vI k)] [vI 1, vR 12 (some m)] (sI σ1 1228 m fd 11) (fun v σ' => v = none ∧ P σ') := fun k e k0 k3 => by
    have := s80 _ s1' (by omega)
    rw [show X.k (X.nx i) - 217 = k by omega] at this
    exact this
  refine r_isWord (j := 17) hX s1'.2.1 (by decide) rfl ?_
  by_cases c0 : X.k (X.nx i) = 200 + ((17 : Nat) : Int)
  · rw [if_pos c0]
    exact ⟨fun z => absurd z (by decide), fun _ => ⟨fun z => absurd z (by decide), fun _ => go 0 (by omega) (by decide) (by decide)⟩⟩
  rw [if_neg c0]
  refine ⟨fun _ => r_isWord (j := 18) hX s1'.2.1 (by decide) rfl ?_, fun z => absurd rfl z⟩
  by_cases c1 : X.k (X.nx i) = 200 + ((18 : Nat) : Int)
  · rw [if_pos c1]
    exact ⟨fun z => absurd z (by decide), fun _ => ⟨fun z => absurd z (by decide), fun _ => go 1 (by omega) (by decide) (by decide)⟩⟩
  rw [if_neg c1]
  refine ⟨fun _ => r_isWord (j := 19) hX s1'.2.1 (by decide) rfl ?_, fun z => absurd rfl z⟩
  by_cases c2 : X.k (X.nx i) = 200 + ((19 : Nat) : Int)
  · rw [if_pos c2]
    exact ⟨fun z => absurd z (by decide), fun _ => ⟨fun z => absurd z (by decide), fun _ => go 2 (by omega) (by decide) (by decide)⟩⟩
  rw [if_neg c2]
  refine ⟨fun _ => r_isWord (j := 20) hX s1'.2.1 (by decide) rfl ?_, fun z => absurd rfl z⟩
  by_cases c3 : X.k (X.nx i) = 200 + ((20 : Nat) : Int)
  · rw [if_pos c3]
    exact ⟨fun z => absurd z (by decide), fun _ => ⟨fun z => absurd z (by decide), fun _ => go 3 (by omega) (by decide) (by decide)⟩⟩
  rw [if_neg c3]
  rw [if_neg (by omega)] at hp
  exact ⟨fun _ => ⟨fun _ => bk_X12_readSum_80 ⟨m, rfl, g_must (by omega) hX s1' (by decide) (by decide) (fun q => absurd q (by decide)) (fun _ σ' ge => ⟨fun z => absurd rfl z, fun _ => ⟨rfl, hp σ' (GR.err rfl ge)⟩⟩)⟩, fun z => absurd (by decide) z⟩, fun z => absurd rfl z⟩
end M25
