/-! the reference's fields -/
/-- what a description of base b may change -/
def RB (b : Nat) (f i : Nat) : Prop := RTk f i ∨ f = 1253 ∨ f = 1254 ∨ ((f = 1219 ∨ f = 1220) ∧ i = b) ∨ (1221 ≤ f ∧ f ≤ 1223 ∧ 20 * b ≤ i ∧ i < 20 * b + 20) ∨ (1224 ≤ f ∧ f ≤ 1225 ∧ 8 * b ≤ i ∧ i < 8 * b + 8) ∨ (1226 ≤ f ∧ f ≤ 1227 ∧ 80 * b ≤ i ∧ i < 80 * b + 80) ∨ (1228 ≤ f ∧ f ≤ 1238 ∧ 280 * b ≤ i ∧ i < 280 * b + 280) ∨ (1239 ≤ f ∧ f ≤ 1241 ∧ 4480 * b ≤ i ∧ i < 4480 * b + 4480) ∨ (((1242 ≤ f ∧ f ≤ 1245) ∨ f = 1262) ∧ 3000 * b ≤ i ∧ i < 3000 * b + 3000) ∨ (1247 ≤ f ∧ f ≤ 1249)
theorem RB.fd {b fd lo la f i : Nat} (h : RFd b fd lo la f i) (h0 : 280 * b ≤ fd) (h1 : fd < 280 * b + 280) (h2 : 3000 * b ≤ lo) : RB b f i := by
  unfold RB
  rcases h with q | q | q | q | q
  · exact Or.inl q
  · omega
  · omega
  · omega
  · omega
/-- but for the names of structs -/
def RC (b : Nat) (f i : Nat) : Prop := RB b f i ∧ ¬ f = 1221
theorem RC.fd {b fd lo la f i : Nat} (h : RFd b fd lo la f i) (h0 : 280 * b ≤ fd) (h1 : fd < 280 * b + 280) (h2 : 3000 * b ≤ lo) : RC b f i := by
  refine ⟨RB.fd h h0 h1 h2, fun z => ?_⟩
  rcases h with q | q | q | q | q
  · unfold RTk at q; omega
  · omega
  · omega
  · omega
  · omega
def amF (b s : Nat) : Nat → List Fld → List (Nat × Int64 × Int)
  | _, [] => []
  | k, F :: Fs => am (14 * (20 * b + s) + k) F ++ amF b s (k + 1) Fs
def amS (b : Nat) : Nat → List Stc → List (Nat × Int64 × Int)
  | _, [] => []
  | s, S :: Ss => amF b s 0 S.2.1 ++ amS b (s + 1) Ss
theorem am_le (fd : Nat) (F : Fld) : (am fd F).length ≤ 1 := by unfold am; split <;> simp
theorem amF_app {b s : Nat} {F : Fld} : ∀ (Fs : List Fld) (k : Nat), amF b s k (Fs ++ [F]) = amF b s k Fs ++ am (14 * (20 * b + s) + (k + Fs.length)) F
  | [], k => by show am _ F ++ [] = [] ++ am _ F; rw [List.append_nil, List.nil_append]; rfl
  | G :: Fs, k => by
    show am _ G ++ amF b s (k + 1) (Fs ++ [F]) = am _ G ++ amF b s (k + 1) Fs ++ am _ F
    rw [amF_app Fs (k + 1), List.append_assoc, show k + (G :: Fs).length = k + 1 + Fs.length by rw [List.length_cons]; omega]
theorem amS_app {b : Nat} {S : Stc} : ∀ (Ss : List Stc) (s : Nat), amS b s (Ss ++ [S]) = amS b s Ss ++ amF b (s + Ss.length) 0 S.2.1
  | [], s => by show amF b s 0 S.2.1 ++ [] = [] ++ amF b (s + 0) 0 S.2.1; rw [List.append_nil, List.nil_append]; rfl
  | T :: Ss, s => by
    show amF b s 0 T.2.1 ++ amS b (s + 1) (Ss ++ [S]) = amF b s 0 T.2.1 ++ amS b (s + 1) Ss ++ _
    rw [amS_app Ss (s + 1), List.append_assoc, show s + (T :: Ss).length = s + 1 + Ss.length by rw [List.length_cons]; omega]
theorem amF_le {b s : Nat} : ∀ (Fs : List Fld) (k : Nat), (amF b s k Fs).length ≤ Fs.length
  | [], _ => Nat.le_refl _
  | F :: Fs, k => by
    have := amF_le (b := b) (s := s) Fs (k + 1)
    have := am_le (14 * (20 * b + s) + k) F
    show (am _ F ++ amF b s (k + 1) Fs).length ≤ _
    rw [List.length_append, List.length_cons]; omega
theorem amS_le {b : Nat} : ∀ (Ss : List Stc) (s : Nat), (∀ S ∈ Ss, S.2.1.length ≤ 14) → (amS b s Ss).length ≤ 14 * Ss.length
  | [], _, _ => Nat.le_refl _
  | S :: Ss, s, h => by
    have := amS_le (b := b) Ss (s + 1) (fun T hT => h T (List.mem_cons_of_mem _ hT))
    have := amF_le (b := b) (s := s) S.2.1 0
    have := h S List.mem_cons_self
    show (amF b s 0 S.2.1 ++ amS b (s + 1) Ss).length ≤ _
    rw [List.length_append, List.length_cons]; omega
/-- within a struct, between its fields -/
def HS (σS σ : St) (m : Nat) (X : Txt) (b i nn : Nat) (En : List Enm) (Ss : List Stc) (Fs : List Fld) : Prop :=
  Out m (RC b) σS σ ∧ RT σ m X i ∧ gI σ 1251 m 0 = 0 ∧ gI σ 1255 m 0 = 0 ∧ gI σ 1246 m 0 = ((3000 * b + nn : Nat) : Int) ∧ nn ≤ i ∧ E0 σ m b (3000 * b + nn) En Ss Fs ∧ AM σ m (amS b 0 Ss ++ amF b Ss.length 0 Fs)
def HE (σS σ : St) (m b : Nat) (e : Int × Int) : Prop := Out m (RC b) σS σ ∧ 0 < e.1 ∧ gI σ 1251 m 0 = e.1 ∧ gI σ 1252 m 0 = e.2
theorem HE.bd {σS σ : St} {m b : Nat} {e : Int × Int} (h : HE σS σ m b e) : 0 < gI σ 1251 m 0 := by rw [h.2.2.1]; exact h.2.1
section M28
variable {g : GP} {l : Launch} {D : Nat} {σS σ : St} {m b i nn : Nat} {X : Txt} {En : List Enm} {Ss : List Stc} {Fs : List Fld}
theorem DR.hi {lo hi : Nat} (h : DR σ m b lo En Ss) (hl : lo ≤ hi) : DR σ m b hi En Ss := by
  obtain ⟨a1, a2, a3, a4, a5, a6⟩ := h
  refine ⟨a1, a2, a3, a4, a5, fun s S hS => ?_⟩
  obtain ⟨b1, b2, b3, b4, b5⟩ := a6 s S hS
  refine ⟨b1, b2, b3, b4, fun k F hk => ?_⟩
  obtain ⟨c1, c2⟩ := b5 k F hk
  exact ⟨c1, by unfold PL XL at *; omega⟩
theorem E0.frl {σ0 : St} {lo la fd k : Nat} {G : Fld} (hE : E0 σ0 m b lo En Ss Fs) (hfd : fd = fdx b Ss Fs) (hO : Out m (RFd b fd lo la) σ0 σ) (hk : Fs[k]? = some G) : FR σ m b (14 * (20 * b + Ss.length) + k) G ∧ PL σ m (14 * (20 * b + Ss.length) + k) lo := by
  obtain ⟨e1, e2, e3, e4, e5, e6, e7, e8, e9, e10, e11, e12⟩ := hE
  have hfd : fd = 14 * (20 * b + Ss.length) + Fs.length := hfd
  have lt := (List.getElem?_eq_some_iff.mp hk).1
  obtain ⟨c1, c2⟩ := e9 k G hk
  have w16 := (e10 G (List.mem_of_getElem? hk)).2.2.2.1
  refine (c1.out c2 hO (fun f i z0 z1 z2 z3 q => ?_) (fun f z0 z1 q => ?_) (fun f p z0 z1 z2 q => ?_)) <;> rcases q with q | q | q | q | q <;> first | (unfold RTk at q; omega) | omega
theorem HS.er {σ' : St} {e : Int × Int} (h : HS σS σ m X b i nn En Ss Fs) (hF : Frm (ErF m) σ σ') (h0 : 0 < e.1) (e1 : gI σ' 1251 m 0 = e.1) (e2 : gI σ' 1252 m 0 = e.2) : HE σS σ' m b e :=
  ⟨h.1.trans (Out.of hF (fun f r z => ⟨z.1, by omega, by omega, by omega⟩) (fun f i z => ⟨Or.inl (by unfold RTk; omega), by omega⟩)), h0, e1, e2⟩
theorem h_must {y k : Int} {P : Int → St → Prop} (hD : 1 ≤ D) (hX : X.OK) (h : HS σS σ m X b i nn En Ss Fs) (hk : 0 < k) (hy : y = 0 ∨ y = 1) (h1 : y = 1 → P 1 σ) (h0 : y = 0 → ∀ σ', HE σS σ' m b (ck X i k) → P 0 σ') : ACi g l D MX12_must [vR 12 (some m), vI y, vI k] σ P := by
  obtain ⟨d, rfl⟩ : ∃ d, D = d + 1 := ⟨D - 1, by omega⟩
  exact r_must hX h.2.1 h.2.2.1 hk hy h1 (fun q σ' hF e1 e2 => h0 q σ' (h.er hF (ck_pos hk) e1 e2))
/-- the row of a fresh field -/
abbrev sNewF (σ : St) (m fd : Nat) : St := sI (sI (sI (sI (sI (sI (sI (sI (sI σ 1232 m fd (-1)) 1233 m fd (-1)) 1234 m fd (-1)) 1230 m fd (-1)) 1236 m fd (-1)) 1231 m fd (-1)) 1237 m fd 0) 1228 m fd 0) 1256 m 0 0
theorem HS.new {fd : Nat} (h : HS σS σ m X b i nn En Ss Fs) (hfd : fd = fdx b Ss Fs) : GS σ (sNewF σ m fd) m X b fd (3000 * b + nn) (amS b 0 Ss ++ amF b Ss.length 0 Fs).length i nn (amS b 0 Ss ++ amF b Ss.length 0 Fs) fld0 (0, 0, gI (sNewF σ m fd) 1235 m fd) := by
  obtain ⟨a1, a2, a3, a4, a5, a6, a7, a8⟩ := h
  have hF : Frm (fun f r => r = m ∧ ((1228 ≤ f ∧ f ≤ 1238) ∨ f = 1256)) σ (sNewF σ m fd) := (Frm.sI (by simp)).trans ((Frm.sI (by simp)).trans ((Frm.sI (by simp)).trans ((Frm.sI (by simp)).trans ((Frm.sI (by simp)).trans ((Frm.sI (by simp)).trans ((Frm.sI (by simp)).trans ((Frm.sI (by simp)).trans (Frm.sI (by simp)))))))))
  have c : ∀ f, 1228 ≤ f → f ≤ 1238 → RFd b fd (3000 * b + nn) (amS b 0 Ss ++ amF b Ss.length 0 Fs).length f fd := fun f z0 z1 => Or.inr (Or.inl ⟨z0, z1, rfl⟩)
  have hO : Out m (RFd b fd (3000 * b + nn) (amS b 0 Ss ++ amF b Ss.length 0 Fs).length) σ (sNewF σ m fd) := (Out.sI (c _ (by decide) (by decide)) (by decide)).trans ((Out.sI (c _ (by decide) (by decide)) (by decide)).trans ((Out.sI (c _ (by decide) (by decide)) (by decide)).trans ((Out.sI (c _ (by decide) (by decide)) (by decide)).trans ((Out.sI (c _ (by decide) (by decide)) (by decide)).trans ((Out.sI (c _ (by decide) (by decide)) (by decide)).trans ((Out.sI (c _ (by decide) (by decide)) (by decide)).trans ((Out.sI (c _ (by decide) (by decide)) (by decide)).trans (Out.sI (Or.inl (by unfold RTk; omega)) (by decide)))))))))
  refine ⟨hO, a2.frm hF (fun f z0 z1 q => by omega), by rw [hF.I (fun q => by omega)]; exact a3, by rw [hF.I (fun q => by omega)]; exact a4, by rw [hF.I (fun q => by omega)]; exact a5, a6, Nat.le_refl _, ⟨?_, ?_, ?_, ?_, ?_, ?_, ?_, fun q => absurd rfl q, fun q => absurd rfl q, fun p e he => absurd (show ([] : List Ent)[p]? = some e from he) (by simp)⟩, ⟨?_, ?_, ?_⟩, ⟨by rw [hF.I (fun q => by omega)]; exact a8.1, fun j x hx => by rw [hF.I (f := 1247) (fun q => by omega), hF.J (f := 1249) (fun q => by omega), hF.I (f := 1248) (fun q => by omega)]; exact a8.2 j x hx⟩, Nat.le_refl _, ?_, ?_, rfl⟩
  · show gI _ 1232 m fd = -1; simp [gI_sI]
  · show gI _ 1233 m fd = -1; simp [gI_sI]
  · show gI _ 1234 m fd = -1; simp [gI_sI]
  · show gI _ 1230 m fd = -1; simp [gI_sI]
  · show gI _ 1236 m fd = -1; simp [gI_sI]
  · show gI _ 1231 m fd = -1; simp [gI_sI]
  · show gI _ 1237 m fd = 0; simp [gI_sI]
  · unfold XL; rw [show gI (sNewF σ m fd) 1232 m fd = -1 by simp [gI_sI]]; omega
  · unfold XL; rw [show gI (sNewF σ m fd) 1233 m fd = -1 by simp [gI_sI]]; omega
  · unfold XL; rw [show gI (sNewF σ m fd) 1234 m fd = -1 by simp [gI_sI]]; omega
  · simp [gI_sI]
  · simp [gI_sI]
/-- a field is done -/
theorem HS.done {fd i' nn' : Nat} {σ' : St} {F : Fld} {bg : Int × Int × Int} (h : HS σS σ m X b i nn En Ss Fs) (hfd : fd = fdx b Ss Fs) (h14 : Fs.length < 14) (s : GS σ σ' m X b fd (3000 * b + nn) (amS b 0 Ss ++ amF b Ss.length 0 Fs).length i' nn' ((amS b 0 Ss ++ amF b Ss.length 0 Fs) ++ am fd F) F bg) (hk : GK F bg) (hW : WFf En.length Ss F) : HS σS (sI σ' 1222 m (20 * b + Ss.length) ((Fs.length : Int) + 1)) m X b i' nn' En Ss (Fs ++ [F]) := by
  obtain ⟨a1, a2, a3, a4, a5, a6, a7, a8⟩ := h
  have hE := a7
  obtain ⟨e1, e2, e3, e4, e5, e6, e7, e8, e9, e10, e11, e12⟩ := a7
  have hF : Frm (fun f r => r = m ∧ f = 1222) σ' (sI σ' 1222 m (20 * b + Ss.length) ((Fs.length : Int) + 1)) := Frm.sI (by simp)
  have hO : Out m (fun f i => f = 1222 ∧ i = 20 * b + Ss.length) σ' (sI σ' 1222 m (20 * b + Ss.length) ((Fs.length : Int) + 1)) := Out.sI ⟨rfl, rfl⟩ (by decide)
  have fdv : fd = 14 * (20 * b + Ss.length) + Fs.length := hfd
  have lo' := s.2.2.2.2.2.2.1
  have sO := s.1
  refine ⟨a1.trans ((sO.mono (fun f i q => RC.fd q (by omega) (by omega) (by omega))).trans (hO.mono (fun f i q => by unfold RC RB; omega))), s.2.1.frm hF (fun f z0 z1 q => by omega), by rw [hF.I (fun q => by omega)]; exact s.2.2.1, by rw [hF.I (fun q => by omega)]; exact s.2.2.2.1, by rw [hF.I (fun q => by omega)]; exact s.2.2.2.2.1, s.2.2.2.2.2.1, ⟨hF.lc s.lc, by rw [hF.I (fun q => by omega), (rd0 sO (by omega)).1]; exact e2, e3, by rw [hF.I (fun q => by omega), (rd0 sO (by omega)).1]; exact e4, ?_, e6, ?_, ?_, ?_, ?_, e11, e12⟩, ?_⟩
  · refine ((hE.dr hfd sO).hi lo').out hO (fun s S hS F hF => ((e11 s S hS).2.2.2.2 F hF).2.2.2.1) (fun f i z0 z1 z2 z3 q => by omega) (fun f z q => by omega) (fun f s z0 z1 z2 q => by omega) (fun f e z0 z1 z2 q => by omega) (fun f e j z0 z1 z2 z3 q => by omega) (fun f s k z0 z1 z2 z3 q => by omega) (fun f s k p z0 z1 z2 z3 z4 q => by omega)
  · rw [gI_slf, app_l]; omega
  · rw [app_l]; omega
  · intro k G hG
    have tr : ∀ {fx : Nat} {G : Fld}, FR σ' m b fx G → PL σ' m fx (3000 * b + nn') → FR (sI σ' 1222 m (20 * b + Ss.length) ((Fs.length : Int) + 1)) m b fx G ∧ PL (sI σ' 1222 m (20 * b + Ss.length) ((Fs.length : Int) + 1)) m fx (3000 * b + nn') := fun hf hl => hf.out hl hO (fun f i z0 z1 z2 z3 q => by omega) (fun f z0 z1 q => by omega) (fun f p z0 z1 z2 q => by omega)
    rcases Nat.lt_trichotomy k Fs.length with z | z | z
    · rw [List.getElem?_append_left z] at hG
      obtain ⟨c1, c2⟩ := hE.frl hfd sO hG
      exact tr c1 (by unfold PL XL at *; omega)
    · rw [z, app_at] at hG
      cases hG
      rw [z, ← fdv]
      exact tr ⟨s.pr, by rw [s.kd]; exact hk.2.1, fun q => by rw [s.2.2.2.2.2.2.2.2.2.2.2.2.2]; exact hk.2.2.1 q, fun q => by rw [s.2.2.2.2.2.2.2.2.2.2.2.2.2]; exact hk.2.2.2 q⟩ s.pl
    · rw [List.getElem?_eq_none (by rw [app_l]; omega)] at hG
      exact absurd hG (by simp)
  · intro G hG
    rcases List.mem_append.mp hG with hG | hG
    · exact e10 G hG
    · rw [List.mem_singleton] at hG; rw [hG]; exact hW
  · rw [amF_app, Nat.zero_add, ← List.append_assoc, ← fdv]
    exact s.2.2.2.2.2.2.2.2.2.1.out hO (fun i q => by omega) (fun f i z0 z1 q => by omega)
theorem g_field {P : St → Prop} (hD : 15 ≤ D) (hX : X.OK) (h : HS σS σ m X b i nn En Ss Fs)
    (h1 : ∀ q, rField X En Ss Fs i = .ok q → ∀ σ' nn', HS σS σ' m X b q.1 nn' En Ss (Fs ++ [q.2]) → P σ') (h0 : ∀ e, rField X En Ss Fs i = .error e → ∀ σ', HE σS σ' m b e → P σ') : ACv g l D MX12_readField [vR 12 (some m)] σ P := by
  obtain ⟨d, rfl⟩ : ∃ d, D = d + 3 := ⟨D - 3, by omega⟩
  have hE := h.2.2.2.2.2.2.1
  have hT := h.2.1
  obtain ⟨e1, e2, e3, e4, e5, e6, e7, e8, e9, e10, e11, e12⟩ := h.2.2.2.2.2.2.1
  have iK := hT.2.2.2.1
  have b54 := e4
  -- the core and what follows
  have hL : Fs.length < 14 → (amS b 0 Ss ++ amF b Ss.length 0 Fs).length < 280 := fun z => by
    have := amS_le (b := b) Ss 0 (fun S hS => by obtain ⟨s, hs⟩ := List.getElem?_of_mem hS; exact (e11 s S hs).2.1)
    have := amF_le (b := b) (s := Ss.length) Fs 0
    rw [List.length_append]; omega
  generalize hLd : amS b 0 Ss ++ amF b Ss.length 0 Fs = L at *
  generalize hfd : fdx b Ss Fs = fd at *
  have fdv : fd = 14 * (20 * b + Ss.length) + Fs.length := hfd.symm
  have tn : ((fd : Int)).toNat = fd := by omega
  have s286 : ∀ (τ : St) (F : Fld) (j n : Nat) (v : Int), Fs.length < 14 → GS σ τ m X b fd (3000 * b + nn) L.length j n L F (0, 0, v) → F.nm = 0 → F.es = [] → F.e1 = none → F.st = -1 → tC X Ss j = .ok () →
      (∀ q, bx (rCore X En Ss Fs F j) (fun q => bx (tk X q.1 59) (fun j => .ok (j, q.2))) = .ok q → rField X En Ss Fs i = .ok q) → (∀ e, bx (rCore X En Ss Fs F j) (fun q => bx (tk X q.1 59) (fun j => .ok (j, q.2))) = .error e → rField X En Ss Fs i = .error e) →
      AW g l (d + 3) MX12_readField 286 [some (vR 12 (some m)), some (vI (fd : Int))] [] τ (fun v σ' => v = none ∧ P σ') := by
    intro τ F j n v h14 s n0 es0 e10' st0 hC r1 r0
    have rd : ∀ τ' : St, Out m (RFd b fd (3000 * b + nn) L.length) σ τ' → gI τ' 1253 m 0 = (b : Int) ∧ gI τ' 1254 m 0 = (Ss.length : Int) ∧ gI τ' 1222 m (20 * b + Ss.length) = (Fs.length : Int) := fun τ' hO => ⟨by rw [(rd0 hO (by omega)).1]; exact e2, by rw [(rd0 hO (by omega)).1]; exact e4, by rw [(rd0 hO (by omega)).1]; exact e7⟩
    have fin : ∀ τ' : St, Out m (RFd b fd (3000 * b + nn) L.length) σ τ' → P (sI τ' 1222 m (20 * b + Ss.length) ((Fs.length : Int) + 1)) → (LC 12 τ' m ∧ R32 (20 * (gI τ' 1253 m 0)) ∧ R32 ((20 * (gI τ' 1253 m 0)) + (gI τ' 1254 m 0)) ∧ Bd ((20 * (gI τ' 1253 m 0)) + (gI τ' 1254 m 0)) 40 ∧ R32 ((gI τ' 1222 m ((20 * (gI τ' 1253 m 0)) + (gI τ' 1254 m 0)).toNat) + 1) ∧ ((none : Option AV) = none ∧ P (sI τ' 1222 m ((20 * (gI τ' 1253 m 0)) + (gI τ' 1254 m 0)).toNat ((gI τ' 1222 m ((20 * (gI τ' 1253 m 0)) + (gI τ' 1254 m 0)).toNat) + 1)))) := fun τ' hO hP => by
      obtain ⟨z1, z2, z3⟩ := rd τ' hO
      rw [z1, z2, show (20 * (b : Int) + (Ss.length : Int)).toNat = 20 * b + Ss.length by omega, z3]
      exact ⟨hO.1.lc e1, ⟨by omega, by omega⟩, ⟨by omega, by omega⟩, ⟨by omega, by omega⟩, ⟨by omega, by omega⟩, rfl, hP⟩
    have erH : ∀ (τ' : St) (e : Int × Int), GE σ τ' m b fd (3000 * b + nn) L.length e → HE σS (sI τ' 1222 m (20 * b + Ss.length) ((Fs.length : Int) + 1)) m b e := fun τ' e ge => by
      have hF : Frm (fun f r => r = m ∧ f = 1222) τ' (sI τ' 1222 m (20 * b + Ss.length) ((Fs.length : Int) + 1)) := Frm.sI (by simp)
      exact ⟨h.1.trans ((ge.1.mono (fun f i q => RC.fd q (by omega) (by omega) (by omega))).trans (Out.sI (by unfold RC RB; omega) (by decide))), ge.2.1, by rw [hF.I (fun q => by omega)]; exact ge.2.2.1, by rw [hF.I (fun q => by omega)]; exact ge.2.2.2⟩
    refine bk_X12_readField_286 (g_core (by omega) hX hE hfd.symm h14 s (hL h14) n0 rfl rfl es0 e10' st0 hC (fun σ1 gr => ?_))
    cases hr : rCore X En Ss Fs F j with
    | error e =>
      rw [hr] at gr
      have ge : GE σ σ1 m b fd (3000 * b + nn) L.length e := gr
      exact d_take (by omega) ge.bd (fin σ1 ge.1 (h0 e (r0 e (by rw [hr, bx_er])) _ (erH σ1 e ge)))
    | ok q =>
      rw [hr] at gr
      obtain ⟨nn', bg, s1, gk⟩ := gr
      refine g_take (by omega) hX s1 (by decide) (fun et σ2 s2 => ?_) (fun et σ2 ge => fin σ2 ge.1 (h0 _ (r0 _ (by rw [hr, bx_ok]; show bx (tk X q.1 59) _ = _; rw [et, bx_er])) _ (erH σ2 _ ge)))
      have ok := r1 (X.nx q.1, q.2) (by rw [hr, bx_ok]; show bx (tk X q.1 59) _ = _; rw [et, bx_ok])
      refine fin σ2 s2.1 (h1 _ ok _ nn' (HS.done h hfd.symm h14 ?_ gk (rField_wf hX iK ok).1))
      rw [hLd]; exact s2
  -- the head
  have named : ∀ (τ : St) (k2 : X.k i = 2) (P' : Int → St → Prop), P' (idx (Ss.map (fun s => s.1)) (X.v i) 0) σ → ACi g l (d + 2) MX12_structNamed [vR 12 (some m), vJ (gJ σ 1216 m 0), vI (gI σ 1219 m (gI σ 1253 m 0).toNat)] σ P' := fun _ k2 P' hP => by
    obtain ⟨ew, iw⟩ := (hT.sort hX).2.2.2.2.1 k2
    rw [ew]
    exact g_structNamed (fd := fd) (la := 0) hE Out.rfl iw (g_nS (fd := fd) (la := 0) hE Out.rfl).2 hP
  have hb53 := e2
  unfold rField at h1 h0 s286
  have s72 : (X.k i = 202 ∨ tC X Ss i = .ok ()) → AW g l (d + 3) MX12_readField 72 [some (vR 12 (some m)), none] [] σ (fun v σ' => v = none ∧ P σ') := by
    intro hc
    have hR : ∀ {β : Type} (k : Unit → Rd β), bx (if X.k i = 202 then .ok () else tC X Ss i) k = k () := fun k => by
      by_cases c : X.k i = 202
      · rw [if_pos c, bx_ok]
      · rw [if_neg c, hc.resolve_left c, bx_ok]
    rw [hR] at h1 h0 s286
    refine bk_X12_readField_72 ?_
    rw [e2, e4, show (20 * (b : Int) + (Ss.length : Int)).toNat = 20 * b + Ss.length by omega, e7]
    refine ⟨e1, ⟨by omega, by omega⟩, ⟨by omega, by omega⟩, ⟨by omega, by omega⟩, fun q => ?_, fun q => ?_⟩
    · rw [if_neg (by omega)] at h0
      exact bk_X12_readField_100 ⟨m, rfl, h_must (by omega) hX h (by decide) (by decide) (fun q => absurd q (by decide)) (fun _ σ' he => ⟨fun z => absurd rfl z, fun _ => ⟨rfl, h0 _ rfl σ' he⟩⟩)⟩
    · have h14 : Fs.length < 14 := by omega
      rw [if_pos h14] at h1 h0 s286
      refine bk_X12_readField_100 ⟨m, rfl, h_must (by omega) hX h (by decide) (by decide) (fun _ => ⟨fun _ => ⟨e1, ?_⟩, fun z => absurd z (by decide)⟩) (fun q => absurd q (by decide))⟩
      rw [e2, e4, show (20 * (b : Int) + (Ss.length : Int)).toNat = 20 * b + Ss.length by omega, e7]
      refine ⟨⟨by omega, by omega⟩, ⟨by omega, by omega⟩, ⟨by omega, by omega⟩, m_field e2 e3 (by omega) (by omega) ?_⟩
      rw [show 14 * (20 * (b : Int) + (Ss.length : Int)) + (Fs.length : Int) = (fd : Int) by omega, tn]
      have s0 := HS.new h hfd.symm
      rw [hLd] at s0
      refine ⟨e1, ⟨by omega, by omega⟩, r_isWord (j := 2) hX s0.2.1 (by decide) rfl ?_⟩
      by_cases c : X.k i = 202
      · rw [if_pos c] at h1 h0 s286
        rw [if_pos (show X.k i = 200 + ((2 : Nat) : Int) from c)]
        have erG : ∀ (τ' : St) (e : Int × Int), GE σ τ' m b fd (3000 * b + nn) L.length e → HE σS τ' m b e := fun τ' e ge => ⟨h.1.trans (ge.1.mono (fun f i q => RC.fd q (by omega) (by omega) (by omega))), ge.2⟩
        refine ⟨fun z => absurd z (by decide), fun _ => g_next (by omega) hX s0 (fun σ1 s1 => ⟨s1.lc, g_ex (by omega) hX hE hfd.symm h14 s1 (fun i' N e v σ2 s2 xr xl => ⟨s2.lc, ?_⟩) (fun e er σ2 ge => ⟨ge.lc hE, d_take (by omega) (ge.wI (by omega)).bd ⟨fun _ => ⟨rfl, h0 e (by rw [er, bx_er, bx_er]) _ (erG _ e (ge.wI (by omega)))⟩, fun z => absurd (ge.wI (f := 1232) (v := -1) (by omega)).bd z⟩⟩)⟩)⟩
        rw [e, bx_ok] at h1 h0 s286
        dsimp only at h1 h0 s286
        refine g_take (by omega) hX (s2.wI (by omega) (s2.pr.wEc xr) (s2.pl.ec xl)) (by decide) (fun et σ3 s3 => ⟨fun z => absurd z (by rw [s3.bd]; decide), fun _ => ?_⟩) (fun et σ3 ge => ⟨fun _ => ⟨rfl, h0 _ (by rw [et, bx_er, bx_er]) σ3 (erG _ _ ge)⟩, fun z => absurd ge.bd z⟩)
        rw [et, bx_ok] at h1 h0 s286
        generalize X.nx i' = j at *
        refine r_begins (by omega) hX s3.2.1 (fun hk => ?_) (fun hk => g_must (by omega) hX s3 (by decide) (by decide) (fun q => absurd q (by decide)) (fun _ σ4 ge => ⟨fun z => absurd rfl z, fun _ => ⟨rfl, h0 _ ?_ σ4 (erG _ _ ge)⟩⟩))
        · refine g_must (by omega) hX s3 (by decide) (by decide) (fun _ => ⟨fun _ => r_isName hX s3.2.1 ?_, fun z => absurd z (by decide)⟩) (fun q => absurd q (by decide))
          by_cases k2 : X.k j = 2
          · rw [if_pos k2]
            obtain ⟨ew, iw⟩ := (s3.2.1.sort hX).2.2.2.2.1 k2
            obtain ⟨b53, n19⟩ := g_nS hE s3.1
            refine ⟨fun z => absurd z (by decide), fun _ => ⟨s3.lc, ⟨by omega, by omega⟩, ?_⟩⟩
            rw [ew]
            have ig := idx_ge (w := X.v j) (Ss.map (fun e => e.1)) 0 (by decide)
            refine g_structNamed hE s3.1 iw n19 ⟨fun z => g_must (by omega) hX s3 (by decide) (by decide) (fun q => absurd q (by decide)) (fun _ σ4 ge => ⟨fun z => absurd rfl z, fun _ => ⟨rfl, h0 _ ?_ σ4 (erG _ _ ge)⟩⟩), fun z => g_must (by omega) hX s3 (by decide) (by decide) (fun _ => ⟨fun _ => ?_, fun z => absurd z (by decide)⟩) (fun q => absurd q (by decide))⟩
            · rw [show tC X Ss j = .error (ck X j 4) by unfold tC; rw [if_neg (by omega), if_pos k2, if_pos (by omega)], bx_er, bx_er]
            · have hC : tC X Ss j = .ok () := by unfold tC; rw [if_neg (by omega), if_pos k2, if_neg (by omega)]
              rw [hC, bx_ok, bx_ok] at s286
              exact s286 σ3 _ _ _ _ h14 s3 rfl rfl rfl rfl hC (fun _ z => z) (fun _ z => z)
          · rw [if_neg k2]
            have hC : tC X Ss j = .ok () := by unfold tC; unfold kC at hk; rw [if_pos (by omega)]
            rw [hC, bx_ok, bx_ok] at s286
            exact ⟨fun _ => s286 σ3 _ _ _ _ h14 s3 rfl rfl rfl rfl hC (fun _ z => z) (fun _ z => z), fun z => absurd rfl z⟩
        · unfold kC at hk
          rw [show tC X Ss j = .error (ck X j 2) by unfold tC; rw [if_neg (by omega), if_neg (by omega)], bx_er, bx_er]
      · rw [if_neg c, bx_ok] at s286
        rw [if_neg (show ¬ X.k i = 200 + ((2 : Nat) : Int) from c)]
        exact ⟨fun _ => s286 _ fld0 i nn _ h14 s0 rfl rfl rfl rfl (hc.resolve_left c) (fun _ z => z) (fun _ z => z), fun z => absurd rfl z⟩
  have s23 : ∀ y : Int, (y = 1 ∧ (X.k i = 202 ∨ kC X i) ∨ y = 0 ∧ ¬ X.k i = 202 ∧ ¬ kC X i) → AW g l (d + 3) MX12_readField 23 [some (vR 12 (some m)), none] [vI y, vR 12 (some m)] σ (fun v σ' => v = none ∧ P σ') := by
    intro y hy
    refine bk_X12_readField_23 ⟨m, rfl, h_must (by omega) hX h (by decide) (by omega) (fun q => ⟨fun _ => r_isName hX hT ?_, fun z => absurd z (by decide)⟩) (fun q σ' he => ⟨fun z => absurd rfl z, fun _ => ⟨rfl, h0 _ ?_ σ' he⟩⟩)⟩
    · have hc : X.k i = 202 ∨ kC X i := by rcases hy with z | z; exact z.2; omega
      by_cases k2 : X.k i = 2
      · rw [if_pos k2]
        have ig := idx_ge (w := X.v i) (Ss.map (fun e => e.1)) 0 (by decide)
        refine ⟨fun z => absurd z (by decide), fun _ => ⟨e1, ⟨by omega, by omega⟩, named σ k2 _ ⟨fun z => h_must (by omega) hX h (by decide) (by decide) (fun q => absurd q (by decide)) (fun _ σ4 he => ⟨fun z => absurd rfl z, fun _ => ⟨rfl, h0 _ ?_ σ4 he⟩⟩), fun z => h_must (by omega) hX h (by decide) (by decide) (fun _ => ⟨fun _ => s72 (Or.inr ?_), fun z => absurd z (by decide)⟩) (fun q => absurd q (by decide))⟩⟩⟩
        · rw [if_neg (by omega), show tC X Ss i = .error (ck X i 4) by unfold tC; rw [if_neg (by omega), if_pos k2, if_pos (by omega)], bx_er]
        · unfold tC; rw [if_neg (by omega), if_pos k2, if_neg (by omega)]
      · rw [if_neg k2]
        refine ⟨fun _ => s72 (hc.imp id (fun z => ?_)), fun z => absurd rfl z⟩
        unfold kC at z
        unfold tC; rw [if_pos (by omega)]
    · have z : ¬ X.k i = 202 ∧ ¬ kC X i := by rcases hy with z | z; omega; exact z.2
      have z2 := z.2
      unfold kC at z2
      rw [if_neg z.1, show tC X Ss i = .error (ck X i 2) by unfold tC; rw [if_neg (by omega), if_neg (by omega)], bx_er]
  refine AC.of mo_X12_readField (Nat.le_of_ble_eq_true rfl) (bk_X12_readField_0 (r_isWord (j := 2) hX hT (by decide) rfl ?_))
  by_cases c : X.k i = 202
  · rw [if_pos (show X.k i = 200 + ((2 : Nat) : Int) from c)]
    exact ⟨fun _ => s23 1 (Or.inl ⟨rfl, Or.inl c⟩), fun z => absurd z (by decide)⟩
  · rw [if_neg (show ¬ X.k i = 200 + ((2 : Nat) : Int) from c)]
    exact ⟨fun z => absurd rfl z, fun _ => r_begins (by omega) hX hT (fun hk => ⟨fun z => absurd z (by decide), fun _ => s23 1 (Or.inl ⟨rfl, Or.inr hk⟩)⟩) (fun hk => ⟨fun _ => s23 0 (Or.inr ⟨rfl, c, hk⟩), fun z => absurd rfl z⟩)⟩
end M28
