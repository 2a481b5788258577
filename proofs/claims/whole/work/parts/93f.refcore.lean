/-! the reference's cores -/
def am (fd : Nat) (F : Fld) : List (Nat × Int64 × Int) := if F.ki = 7 then [(fd, F.an, F.ap)] else []
def GK (F : Fld) (bg : Int × Int × Int) : Prop := bg.1 = 0 ∧ bg.2.1 = kR F ∧ ((F.ki = 7 ∨ F.ki = 8 ∨ (F.ki = 5 ∧ F.e1 = none)) → bg.2.2 = F.nu.toInt) ∧ (F.ki = 10 → bg.2.2 = F.nu.toInt - 217)
theorem kR_0 {F : Fld} (h : F.ki = 0) : kR F = 2 := by unfold kR; rw [if_pos h]
theorem kR_1 {F : Fld} (h : F.ki = 1) : kR F = 0 := by unfold kR; rw [if_neg (by omega), if_pos h]
theorem kR_3 {F : Fld} (h : F.ki = 3) : kR F = 4 := by unfold kR; rw [if_neg (by omega), if_neg (by omega), if_neg (by omega), if_pos h]
theorem kR_5 {F : Fld} (h : F.ki = 5) : kR F = if F.e1 = none then 6 else 5 := by unfold kR; rw [if_neg (by omega), if_neg (by omega), if_neg (by omega), if_neg (by omega), if_pos h]
theorem kR_6 {F : Fld} (h : F.ki = 6) : kR F = 7 := by unfold kR; rw [if_neg (by omega), if_neg (by omega), if_neg (by omega), if_neg (by omega), if_neg (by omega), if_pos h]
theorem kR_7 {F : Fld} (h : F.ki = 7) : kR F = 8 := by unfold kR; rw [if_neg (by omega), if_neg (by omega), if_neg (by omega), if_neg (by omega), if_neg (by omega), if_neg (by omega), if_pos h]
theorem kR_8 {F : Fld} (h : F.ki = 8) : kR F = 9 := by unfold kR; rw [if_neg (by omega), if_neg (by omega), if_neg (by omega), if_neg (by omega), if_neg (by omega), if_neg (by omega), if_neg (by omega), if_pos h]
theorem kR_9 {F : Fld} (h : F.ki = 9) : kR F = 10 := by unfold kR; rw [if_neg (by omega), if_neg (by omega), if_neg (by omega), if_neg (by omega), if_neg (by omega), if_neg (by omega), if_neg (by omega), if_neg (by omega), if_pos h]
theorem kR_10 {F : Fld} (h : F.ki = 10) : kR F = 11 := by unfold kR; rw [if_neg (by omega), if_neg (by omega), if_neg (by omega), if_neg (by omega), if_neg (by omega), if_neg (by omega), if_neg (by omega), if_neg (by omega), if_neg (by omega)]
/-- no number is asked -/
theorem GK.of {F : Fld} {bg : Int × Int × Int} (hb : bg.1 = 0) (hk : bg.2.1 = kR F) (h : ¬ F.ki = 7 ∧ ¬ F.ki = 8 ∧ ¬ F.ki = 10 ∧ (F.ki = 5 → ¬ F.e1 = none)) : GK F bg := ⟨hb, hk, fun q => by
  rcases q with q | q | q
  · exact absurd q h.1
  · exact absurd q h.2.1
  · exact absurd q.2 (h.2.2.2 q.1), fun q => absurd q h.2.2.1⟩
/-- what a core leaves -/
def GR (σ0 : St) (m : Nat) (X : Txt) (b fd lo la : Nat) (L : List (Nat × Int64 × Int)) (r : Rd (Nat × Fld)) (σ' : St) : Prop :=
  match r with
  | .ok q => ∃ nn bg, GS σ0 σ' m X b fd lo la q.1 nn (L ++ am fd q.2) q.2 bg ∧ GK q.2 bg
  | .error e => GE σ0 σ' m b fd lo la e
section M22
variable {g : GP} {l : Launch} {D : Nat} {σ0 σ : St} {m b fd lo la i nn : Nat} {X : Txt} {L : List (Nat × Int64 × Int)} {F : Fld} {bg : Int × Int × Int} {En : List Enm} {Ss : List Stc} {Fs : List Fld}
theorem GR.okk {r : Rd (Nat × Fld)} {j : Nat} (hR : r = .ok (j, F)) (h7 : ¬ F.ki = 7) (s : GS σ0 σ m X b fd lo la j nn L F bg) (hk : GK F bg) : GR σ0 m X b fd lo la L r σ := by
  rw [hR]
  refine ⟨nn, bg, ?_, hk⟩
  show GS σ0 σ m X b fd lo la j nn (L ++ am fd F) F bg
  unfold am
  rw [if_neg h7, List.append_nil]
  exact s
theorem GR.err {r : Rd (Nat × Fld)} {e : Int × Int} (hR : r = .error e) (ge : GE σ0 σ m b fd lo la e) : GR σ0 m X b fd lo la L r σ := by
  rw [hR]; exact ge
theorem GE.bd {e : Int × Int} (ge : GE σ0 σ m b fd lo la e) : 0 < gI σ 1251 m 0 := by rw [ge.2.2.1]; exact ge.2.1
theorem GE.lc {e : Int × Int} (ge : GE σ0 σ m b fd lo la e) (hE : E0 σ0 m b lo En Ss Fs) : LC 12 σ m := ge.1.1.lc hE.1
theorem tk_no {w : Int} {e : Int × Int} (k : X.k i = w) (q : tk X i w = .error e) : False := by
  unfold tk at q; rw [if_pos k] at q; cases q
theorem GS.kd (h : GS σ0 σ m X b fd lo la i nn L F bg) : gI σ 1228 m fd = bg.2.1 := h.2.2.2.2.2.2.2.2.2.2.2.2.1
theorem GS.bd (h : GS σ0 σ m X b fd lo la i nn L F bg) : gI σ 1251 m 0 = 0 := h.2.2.1
theorem szS_at {s : Int} (h0 : 0 ≤ s) (h1 : s < Ss.length) : ∃ S, Ss[s.toNat]? = some S ∧ szS Ss s = S.2.2 := by
  have lt : s.toNat < Ss.length := by omega
  refine ⟨Ss[s.toNat], List.getElem?_eq_getElem lt, ?_⟩
  unfold szS
  rw [if_neg (by omega), List.getElem?_eq_getElem lt]
theorem g_sz {s : Int} (hE : E0 σ0 m b lo En Ss Fs) (hfd : fd = fdx b Ss Fs) (hO : Out m (RFd b fd lo la) σ0 σ) (h0 : 0 ≤ s) (h1 : s < Ss.length) : gI σ 1223 m (20 * b + s.toNat) = szS Ss s := by
  obtain ⟨S, a, c⟩ := szS_at (Ss := Ss) h0 h1
  rw [c]
  exact ((hE.dr hfd hO).2.2.2.2.2 _ S a).2.2.1
theorem g_array {P : St → Prop} (hD : 10 ≤ D) (hX : X.OK) (hE : E0 σ0 m b lo En Ss Fs) (hfd : fd = fdx b Ss Fs) (h14 : Fs.length < 14) (h : GS σ0 σ m X b fd lo la i nn L F bg) (hk : F.ki = 2) (hb : bg.1 = 0) (hs : F.st = -1 ∧ bg.2.1 = 1 ∨ (0 ≤ F.st ∧ F.st < Ss.length ∧ bg.2.1 = 3))
    (hp : ∀ σ', GR σ0 m X b fd lo la L (if X.k (X.nx i) = 93 then (if F.st = -1 ∨ 0 < szS Ss F.st then .ok (X.nx (X.nx i), F) else .error (ck X (X.nx i) 6)) else bx (rx X Fs (X.nx i)) (fun r => bx (tk X r.1 93) (fun j => .ok (j, F.wE1 (some r.2))))) σ' → P σ') : ACv g l D MX12_array [vR 12 (some m), vI (fd : Int)] σ P := by
  obtain ⟨d, rfl⟩ : ∃ d, D = d + 1 := ⟨D - 1, by omega⟩
  have fdv : fd = 14 * (20 * b + Ss.length) + Fs.length := hfd
  have e3 := hE.2.2.1
  have e6 := hE.2.2.2.2.2.1
  have tn : ((fd : Int)).toNat = fd := by omega
  have gk : ∀ F' : Fld, F'.ki = 2 → F'.st = F.st → GK F' bg := fun F' z0 z1 => ⟨hb, by unfold kR; rw [if_neg (by omega), if_neg (by omega), if_pos z0, z1]; split <;> omega, fun q => by omega, fun q => by omega⟩
  refine AC.of mo_X12_array (Nat.le_of_ble_eq_true rfl) (bk_X12_array_0 (g_next (by omega) hX h (fun σ1 s1 => r_isSign hX s1.2.1 (by decide) (by decide) ?_)))
  rw [tn]
  by_cases k93 : X.k (X.nx i) = 93
  · rw [if_pos k93] at hp
    rw [if_pos k93, s1.kd]
    have tk1 : ∀ σ', (∀ σ', GS σ0 σ' m X b fd lo la (X.nx (X.nx i)) nn L F bg → P σ') → GS σ0 σ' m X b fd lo la (X.nx i) nn L F bg → ACv g l d MX12_take [vR 12 (some m), vI 93] σ' (fun σ8 => none = (none : Option AV) ∧ P σ8) := fun σ' hP s => g_take (by omega) hX s (by decide) (fun _ σ2 s2 => ⟨rfl, hP σ2 s2⟩) (fun q => (tk_no k93 q).elim)
    rcases hs with ⟨z1, k1⟩ | ⟨z1, z2, k1⟩
    · rw [if_pos (Or.inl z1)] at hp
      exact ⟨fun _ => ⟨s1.lc, ⟨by omega, by omega⟩, fun _ => tk1 σ1 (fun σ2 s2 => hp σ2 (GR.okk rfl (by omega) s2 (gk F hk rfl))) s1, fun q => absurd q (by omega)⟩, fun q => absurd q (by decide)⟩
    · have b53 : gI σ1 1253 m 0 = (b : Int) := by rw [(rd0 s1.1 (by omega)).1]; exact hE.2.1
      have st := s1.pr.2.2.2.2.2.1
      have sz := g_sz hE hfd s1.1 z1 z2
      refine ⟨fun _ => ⟨s1.lc, ⟨by omega, by omega⟩, fun q => absurd k1 q, fun _ => ?_⟩, fun q => absurd q (by decide)⟩
      rw [b53, st, show (20 * (b : Int) + F.st).toNat = 20 * b + F.st.toNat by omega, sz]
      refine ⟨⟨by omega, by omega⟩, ⟨by omega, by omega⟩, ⟨by omega, by omega⟩, fun q => ?_, fun q => ?_⟩
      · rw [if_neg (by omega)] at hp
        exact bk_X12_array_64 ⟨m, rfl, g_must (by omega) hX s1 (by decide) (by decide) (fun q => absurd q (by decide)) (fun _ σ' ge => ⟨fun q => absurd rfl q, fun _ => ⟨rfl, hp σ' (GR.err rfl ge)⟩⟩)⟩
      · rw [if_pos (Or.inr (by omega))] at hp
        exact bk_X12_array_64 ⟨m, rfl, g_must (by omega) hX s1 (by decide) (by decide) (fun _ => ⟨fun _ => tk1 σ1 (fun σ2 s2 => hp σ2 (GR.okk rfl (by omega) s2 (gk F hk rfl))) s1, fun q => absurd q (by decide)⟩) (fun q => absurd q (by decide))⟩
  · rw [if_neg k93] at hp
    rw [if_neg k93]
    refine ⟨fun q => absurd rfl q, fun _ => ⟨s1.lc, g_ex (by omega) hX hE hfd h14 s1 (fun i' N e v σ2 s2 xr xl => ⟨s2.lc, ⟨by omega, by omega⟩, ?_⟩) (fun e er σ2 ge => ⟨ge.lc hE, ⟨by omega, by omega⟩, ?_⟩)⟩⟩
    · exact g_take (by omega) hX (s2.wI (by omega) (s2.pr.wE1 xr) (s2.pl.e1 xl)) (by decide) (fun et σ3 s3 => ⟨rfl, hp σ3 (GR.okk (by rw [e, bx_ok]; show bx (tk X i' 93) _ = _; rw [et, bx_ok]) (by show ¬ F.ki = 7; omega) s3 (gk _ hk rfl))⟩) (fun et σ3 ge => ⟨rfl, hp σ3 (GR.err (by rw [e, bx_ok]; show bx (tk X i' 93) _ = _; rw [et, bx_er]) ge)⟩)
    · exact d_take (by omega) (ge.wI (by omega)).bd ⟨rfl, hp _ (GR.err (by rw [er, bx_er]) (ge.wI (by omega)))⟩
theorem g_wholeOn {P : St → Prop} (hD : 11 ≤ D) (hX : X.OK) (hE : E0 σ0 m b lo En Ss Fs) (hfd : fd = fdx b Ss Fs) (h14 : Fs.length < 14) (h : GS σ0 σ m X b fd lo la i nn L F bg) (hk : F.ki = 1) (hb : bg.1 = 0) (hs : F.st = -1) (he : F.es = []) (hb2 : bg.2.1 = 0)
    (hp : ∀ σ', GR σ0 m X b fd lo la L (rTail X En Ss Fs F i) σ' → P σ') : ACv g l D MX12_wholeOn [vR 12 (some m), vI (fd : Int)] σ P := by
  obtain ⟨d, rfl⟩ : ∃ d, D = d + 1 := ⟨D - 1, by omega⟩
  have fdv : fd = 14 * (20 * b + Ss.length) + Fs.length := hfd
  have e3 := hE.2.2.1
  have e6 := hE.2.2.2.2.2.1
  have tn : ((fd : Int)).toNat = fd := by omega
  have gk : ∀ F' : Fld, F'.ki = 1 → GK F' bg := fun F' z0 => ⟨hb, by unfold kR; rw [if_neg (by omega), if_pos z0]; exact hb2, fun q => by omega, fun q => by omega⟩
  unfold rTail at hp
  refine AC.of mo_X12_wholeOn (Nat.le_of_ble_eq_true rfl) (bk_X12_wholeOn_0 ⟨fun _ => r_isWord (j := 3) hX h.2.1 (by decide) rfl ?_, fun q => absurd (by rw [h.bd]; decide) q⟩)
  by_cases k3 : X.k i = 203
  · rw [if_pos (show X.k i = 200 + ((3 : Nat) : Int) from k3)]
    rw [if_pos ⟨hk, k3⟩] at hp
    obtain ⟨d, rfl⟩ : ∃ d', d = d' + 2 := ⟨d - 2, by omega⟩
    refine ⟨fun q => absurd q (by decide), fun _ => g_next (by omega) hX h (fun σ1 s1 => r_isName hX s1.2.1 ?_)⟩
    by_cases k2 : X.k (X.nx i) = 2
    · rw [if_pos k2]
      obtain ⟨ew, iw⟩ := (s1.2.1.sort hX).2.2.2.2.1 k2
      refine g_must (by omega) hX s1 (by decide) (by decide) (fun _ => ⟨fun q => absurd q (by decide), fun _ => ?_⟩) (fun q => absurd q (by decide))
      rw [ew]
      refine g_enumNamed hE s1.1 iw ?_
      have ig := idx_ge (w := X.v (X.nx i)) (En.map (fun e => e.1)) 0 (by decide)
      refine ⟨fun q => bk_X12_wholeOn_51 ⟨m, rfl, g_must (by omega) hX s1 (by decide) (by decide) (fun q => absurd q (by decide)) (fun _ σ' ge => ⟨fun q => absurd rfl q, fun _ => ⟨rfl, hp σ' (GR.err (by unfold tI; rw [if_pos k2, if_pos (by omega), bx_er]) ge)⟩⟩)⟩, fun q => bk_X12_wholeOn_51 ⟨m, rfl, g_must (by omega) hX s1 (by decide) (by decide) (fun _ => ⟨fun _ => ⟨s1.lc, ?_⟩, fun q => absurd q (by decide)⟩) (fun q => absurd q (by decide))⟩⟩
      rw [ew]
      refine g_enumNamed hE s1.1 iw ⟨s1.lc, ⟨by omega, by omega⟩, ?_⟩
      rw [tn]
      exact g_next (by omega) hX (s1.wI (by omega) s1.pr.wPr s1.pl) (fun σ2 s2 => ⟨rfl, hp σ2 (GR.okk (by unfold tI; rw [if_pos k2, if_neg (by omega), bx_ok]) (by show ¬ F.ki = 7; omega) s2 (gk _ hk))⟩)
    · rw [if_neg k2]
      exact g_must (by omega) hX s1 (by decide) (by decide) (fun q => absurd q (by decide)) (fun _ σ' ge => ⟨fun _ => ⟨rfl, hp σ' (GR.err (by unfold tI; rw [if_neg k2, bx_er]) ge)⟩, fun q => absurd rfl q⟩)
  · rw [if_neg (show ¬ X.k i = 200 + ((3 : Nat) : Int) from k3)]
    rw [if_neg (fun q => k3 q.2)] at hp
    refine ⟨fun _ => r_isSign hX h.2.1 (by decide) (by decide) ?_, fun q => absurd rfl q⟩
    by_cases k91 : X.k i = 91
    · rw [if_pos k91] at hp
      rw [if_pos k91, tn]
      exact ⟨fun q => absurd q (by decide), fun _ => ⟨h.lc, ⟨by omega, by omega⟩, g_array (F := F.wKi 2) (by omega) hX hE hfd h14 (h.wK (h.pr.k he)) rfl hb (Or.inl ⟨hs, rfl⟩) (fun σ' gr => ⟨rfl, hp σ' gr⟩)⟩⟩
    · rw [if_neg k91] at hp
      rw [if_neg k91]
      exact ⟨fun _ => ⟨rfl, hp σ (GR.okk rfl (by omega) h (gk F hk))⟩, fun q => absurd rfl q⟩
/-- with a fault -/
theorem d_wholeOn {P : St → Prop} {x : Int} (hD : 1 ≤ D) (h : 0 < gI σ 1251 m 0) (hp : P σ) : ACv g l D MX12_wholeOn [vR 12 (some m), vI x] σ P := by
  obtain ⟨d, rfl⟩ : ∃ d, D = d + 1 := ⟨D - 1, by omega⟩
  exact AC.of mo_X12_wholeOn (Nat.le_of_ble_eq_true rfl) (bk_X12_wholeOn_0 ⟨fun q => absurd q (by omega), fun _ => ⟨rfl, hp⟩⟩)
/-- TEXT -/
theorem g_text {P : St → Prop} (hD : 11 ≤ D) (hX : X.OK) (hE : E0 σ0 m b lo En Ss Fs) (hfd : fd = fdx b Ss Fs) (h14 : Fs.length < 14) (h : GS σ0 σ m X b fd lo la i nn L F bg) (hn : F.nm = 0) (h1n : F.e1 = none) (hb : bg.1 = 0) (he : F.es = [])
    (hp : ∀ σ', GR σ0 m X b fd lo la L (rText X Fs F i) σ' → P σ') : ACv g l D MX12_readText [vR 12 (some m), vI (fd : Int)] σ P := by
  obtain ⟨d, rfl⟩ : ∃ d, D = d + 1 := ⟨D - 1, by omega⟩
  have fdv : fd = 14 * (20 * b + Ss.length) + Fs.length := hfd
  have e3 := hE.2.2.1
  have e6 := hE.2.2.2.2.2.1
  have tn : ((fd : Int)).toNat = fd := by omega
  unfold rText at hp
  refine AC.of mo_X12_readText (Nat.le_of_ble_eq_true rfl) (bk_X12_readText_0 (g_next (by omega) hX h (fun σ1 s1 => ⟨s1.lc, ⟨by omega, by omega⟩, ?_⟩)))
  rw [tn]
  refine g_named (by omega) hX hE hfd h14 (s1.wK (F' := F.wKi 5) (s1.pr.k he)) hb hn he (fun et σ2 s2 => ?_) (fun e ee σ2 ge => ⟨fun q => absurd q (by have := ge.bd; omega), fun _ => ⟨rfl, hp σ2 (GR.err (by rw [ee, bx_er]) ge)⟩⟩)
  rw [et, bx_ok] at hp
  refine ⟨fun _ => r_isWord (j := 6) hX s2.2.1 (by decide) rfl ?_, fun q => absurd (by rw [s2.bd]; decide) q⟩
  dsimp only at hp
  generalize X.nx (X.nx i) = j at *
  by_cases k6 : X.k j = 206
  · rw [if_pos (show X.k j = 200 + ((6 : Nat) : Int) from k6)]
    rw [if_neg (by omega), show tk X j 206 = .ok (X.nx j) from if_pos k6, bx_ok] at hp
    refine ⟨fun q => absurd q (by decide), fun _ => ⟨s2.lc, g_next (by omega) hX (s2.wK (s2.pr.k he)) (fun σ3 s3 => g_bound (by omega) hX hE hfd h14 (by decide) s3 (fun en σ4 s4 => ⟨rfl, hp σ4 (GR.okk (by rw [show tN X (X.nx j) 0 255 = _ from en, bx_ok]) (by show ¬ (5 : Int) = 7; decide) s4 ⟨hb, by rw [kR_5 rfl, if_pos h1n], fun _ => rfl, fun q => absurd (show (5 : Int) = 10 from q) (by decide)⟩)⟩) (fun e ee σ4 ge => ⟨rfl, hp σ4 (GR.err (by rw [show tN X (X.nx j) 0 255 = _ from ee, bx_er]) ge)⟩))⟩⟩
  · rw [if_neg (show ¬ X.k j = 200 + ((6 : Nat) : Int) from k6)]
    refine ⟨fun _ => g_take (by omega) hX s2 (by decide) (fun et σ3 s3 => ?_) (fun et σ3 ge => ?_), fun q => absurd rfl q⟩
    · rw [if_pos (tk_ok et).1] at hp
      refine ⟨fun q => absurd s3.bd q, fun _ => ⟨s3.lc, g_ex (by omega) hX hE hfd h14 s3 (fun i' N e v σ4 s4 xr xl => ⟨s4.lc, ?_⟩) (fun e er σ4 ge => ⟨ge.lc hE, ?_⟩)⟩⟩
      · rw [e, bx_ok] at hp
        dsimp only at hp
        exact g_take (by omega) hX (s4.wI (by omega) (s4.pr.wE1 xr) (s4.pl.e1 xl)) (by decide) (fun et σ5 s5 => ⟨rfl, hp σ5 (GR.okk (by rw [et, bx_ok]) (by show ¬ (5 : Int) = 7; decide) s5 (GK.of hb (by rw [kR_5 rfl, if_neg (by simp)]) ⟨(by decide : ¬ (5 : Int) = 7), (by decide : ¬ (5 : Int) = 8), (by decide : ¬ (5 : Int) = 10), fun _ => by simp⟩))⟩) (fun et σ5 ge => ⟨rfl, hp σ5 (GR.err (by rw [et, bx_er]) ge)⟩)
      · exact d_take (by omega) (ge.wI (by omega)).bd ⟨rfl, hp _ (GR.err (by rw [er, bx_er]) (ge.wI (by omega)))⟩
    · have n91 : ¬ X.k j = 91 := fun q => tk_no q et
      rw [if_neg n91, show tk X j 206 = .error (ck X j 2) from if_neg k6, bx_er] at hp
      exact ⟨fun _ => d_take (by omega) ge.bd ⟨rfl, hp _ (GR.err rfl ge)⟩, fun q => absurd q (by have := ge.bd; omega)⟩
end M22
