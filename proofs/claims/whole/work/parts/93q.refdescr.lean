/-! the reference's descriptions, whole -/
def fb (Ns : List Int64) : List (Nat × Int64 × Int) → Option (Nat × Int64 × Int)
  | [] => none
  | x :: L => if idx Ns x.2.1 0 = -1 then some x else fb Ns L
theorem fb_app {Ns : List Int64} {B : List (Nat × Int64 × Int)} : ∀ A : List (Nat × Int64 × Int), fb Ns (A ++ B) = match fb Ns A with
    | some x => some x
    | none => fb Ns B
  | [] => rfl
  | x :: A => by
    show (if idx Ns x.2.1 0 = -1 then some x else fb Ns (A ++ B)) = match (if idx Ns x.2.1 0 = -1 then some x else fb Ns A) with
      | some x => some x
      | none => fb Ns B
    by_cases c : idx Ns x.2.1 0 = -1
    · rw [if_pos c, if_pos c]
    · rw [if_neg c, if_neg c]; exact fb_app A
theorem aimF_fb {Ns : List Int64} {b s : Nat} : ∀ (Fs : List Fld) (k : Nat), (∀ x, fb Ns (amF b s k Fs) = some x → aimF Ns Fs = .error (4, x.2.2)) ∧ (fb Ns (amF b s k Fs) = none → aimF Ns Fs = .ok (Fs.map (aimO Ns)))
  | [], _ => ⟨fun x h => absurd h (by show ¬ (none : Option (Nat × Int64 × Int)) = some x; simp), fun _ => rfl⟩
  | F :: Fs, k => by
    obtain ⟨i1, i2⟩ := aimF_fb (Ns := Ns) (b := b) (s := s) Fs (k + 1)
    have e : fb Ns (amF b s k (F :: Fs)) = match fb Ns (am (14 * (20 * b + s) + k) F) with
        | some x => some x
        | none => fb Ns (amF b s (k + 1) Fs) := fb_app _
    rw [e, aimF]
    unfold am aim
    by_cases k7 : F.ki = 7
    · rw [if_pos k7, if_pos k7]
      by_cases c : idx Ns F.an 0 = -1
      · rw [if_pos c, show fb Ns [(14 * (20 * b + s) + k, F.an, F.ap)] = some (14 * (20 * b + s) + k, F.an, F.ap) from if_pos c]
        exact ⟨fun x h => by cases h; rfl, fun h => absurd h (by simp)⟩
      · rw [if_neg c, show fb Ns [(14 * (20 * b + s) + k, F.an, F.ap)] = none from if_neg c]
        refine ⟨fun x h => ?_, fun h => ?_⟩
        · rw [bx_ok, i1 x h, bx_er]
        · rw [bx_ok, i2 h, bx_ok, List.map_cons]; unfold aimO; rw [if_pos k7]
    · rw [if_neg k7, if_neg k7]
      refine ⟨fun x h => ?_, fun h => ?_⟩
      · rw [bx_ok, i1 x h, bx_er]
      · rw [bx_ok, i2 h, bx_ok, List.map_cons]; unfold aimO; rw [if_neg k7]
theorem aimS_fb {Ns : List Int64} {b : Nat} : ∀ (Ss : List Stc) (s : Nat), (∀ x, fb Ns (amS b s Ss) = some x → aimS Ns Ss = .error (4, x.2.2)) ∧ (fb Ns (amS b s Ss) = none → aimS Ns Ss = .ok (Ss.map (fun S => (S.1, S.2.1.map (aimO Ns), S.2.2))))
  | [], _ => ⟨fun x h => absurd h (by show ¬ (none : Option (Nat × Int64 × Int)) = some x; simp), fun _ => rfl⟩
  | S :: Ss, s => by
    obtain ⟨i1, i2⟩ := aimS_fb (Ns := Ns) (b := b) Ss (s + 1)
    obtain ⟨j1, j2⟩ := aimF_fb (Ns := Ns) (b := b) (s := s) S.2.1 0
    have e : fb Ns (amS b s (S :: Ss)) = match fb Ns (amF b s 0 S.2.1) with
        | some x => some x
        | none => fb Ns (amS b (s + 1) Ss) := fb_app _
    rw [e, aimS]
    cases c : fb Ns (amF b s 0 S.2.1) with
    | some y => exact ⟨fun x h => by cases h; rw [j1 y c, bx_er], fun h => absurd h (by simp)⟩
    | none =>
      refine ⟨fun x h => ?_, fun h => ?_⟩
      · rw [j2 c, bx_ok, i1 x h, bx_er]
      · rw [j2 c, bx_ok, i2 h, bx_ok, List.map_cons]
theorem amF_mem {b s : Nat} {x : Nat × Int64 × Int} : ∀ (Fs : List Fld) (k : Nat), (x ∈ amF b s k Fs → ∃ k' F, Fs[k']? = some F ∧ F.ki = 7 ∧ x = (14 * (20 * b + s) + (k + k'), F.an, F.ap)) ∧ (∀ k' F, Fs[k']? = some F → F.ki = 7 → (14 * (20 * b + s) + (k + k'), F.an, F.ap) ∈ amF b s k Fs)
  | [], k => ⟨fun h => absurd h (by show ¬ x ∈ ([] : List (Nat × Int64 × Int)); simp), fun k' F h => absurd h (by simp)⟩
  | G :: Fs, k => by
    obtain ⟨i1, i2⟩ := amF_mem (b := b) (s := s) (x := x) Fs (k + 1)
    refine ⟨fun h => ?_, fun k' F hF h7 => ?_⟩
    · have h : x ∈ am (14 * (20 * b + s) + k) G ++ amF b s (k + 1) Fs := h
      rcases List.mem_append.mp h with h | h
      · unfold am at h
        by_cases c : G.ki = 7
        · rw [if_pos c, List.mem_singleton] at h
          exact ⟨0, G, rfl, c, h⟩
        · rw [if_neg c] at h; exact absurd h (by simp)
      · obtain ⟨k', F, f1, f2, f3⟩ := i1 h
        exact ⟨k' + 1, F, f1, f2, by rw [f3, show k + 1 + k' = k + (k' + 1) by omega]⟩
    · show _ ∈ am (14 * (20 * b + s) + k) G ++ amF b s (k + 1) Fs
      match k', hF with
      | 0, hF =>
        have hF : some G = some F := hF
        cases hF
        refine List.mem_append_left _ ?_
        unfold am; rw [if_pos h7]; exact List.mem_singleton.mpr rfl
      | k' + 1, hF =>
        have := i2 k' F hF h7
        rw [show k + 1 + k' = k + (k' + 1) by omega] at this
        exact List.mem_append_right _ this
theorem amS_mem {b : Nat} {x : Nat × Int64 × Int} : ∀ (Ss : List Stc) (s : Nat), (x ∈ amS b s Ss → ∃ s' S k F, Ss[s']? = some S ∧ S.2.1[k]? = some F ∧ F.ki = 7 ∧ x = (14 * (20 * b + (s + s')) + k, F.an, F.ap)) ∧ (∀ s' S k F, Ss[s']? = some S → S.2.1[k]? = some F → F.ki = 7 → (14 * (20 * b + (s + s')) + k, F.an, F.ap) ∈ amS b s Ss)
  | [], s => ⟨fun h => absurd h (by show ¬ x ∈ ([] : List (Nat × Int64 × Int)); simp), fun s' S k F h => absurd h (by simp)⟩
  | T :: Ss, s => by
    obtain ⟨i1, i2⟩ := amS_mem (b := b) (x := x) Ss (s + 1)
    obtain ⟨j1, j2⟩ := amF_mem (b := b) (s := s) (x := x) T.2.1 0
    refine ⟨fun h => ?_, fun s' S k F hS hF h7 => ?_⟩
    · have h : x ∈ amF b s 0 T.2.1 ++ amS b (s + 1) Ss := h
      rcases List.mem_append.mp h with h | h
      · obtain ⟨k, F, f1, f2, f3⟩ := j1 h
        exact ⟨0, T, k, F, rfl, f1, f2, by rw [f3, Nat.zero_add]; rfl⟩
      · obtain ⟨s', S, k, F, f0, f1, f2, f3⟩ := i1 h
        exact ⟨s' + 1, S, k, F, f0, f1, f2, by rw [f3, show s + 1 + s' = s + (s' + 1) by omega]⟩
    · show _ ∈ amF b s 0 T.2.1 ++ amS b (s + 1) Ss
      match s', hS with
      | 0, hS =>
        have hS : some T = some S := hS
        cases hS
        have := j2 k F hF h7
        rw [Nat.zero_add] at this
        exact List.mem_append_left _ this
      | s' + 1, hS =>
        have := i2 s' S k F hS hF h7
        rw [show s + 1 + s' = s + (s' + 1) by omega] at this
        exact List.mem_append_right _ this
section M33
variable {g : GP} {l : Launch} {D : Nat} {σS σ : St} {m b i nn lo : Nat} {X : Txt} {En : List Enm} {Ss : List Stc}
/-- the places of the aims -/
def RA (b : Nat) (Ss : List Stc) (f i : Nat) : Prop := f = 1231 ∧ ∃ x, x ∈ amS b 0 Ss ∧ i = x.1
theorem FR.aim {fd hi : Nat} {F : Fld} {Ns : List Int64} {R : Nat → Nat → Prop} {σ' : St} (h : FR σ m b fd F) (hl : PL σ m fd hi) (hO : Out m R σ σ') (hR : ∀ f i, R f i → f = 1231) (h7 : F.ki = 7 → gI σ' 1231 m fd = idx Ns F.an 0) (hn : ¬ F.ki = 7 → ¬ R 1231 fd) : FR σ' m b fd (aimO Ns F) ∧ PL σ' m fd hi := by
  have n : ∀ f i, ¬ f = 1231 → ¬ R f i := fun f i z q => z (hR f i q)
  unfold aimO
  by_cases c : F.ki = 7
  · rw [if_pos c]
    obtain ⟨⟨p1, p2, p3, p4, p5, p6, p7, p8, p9, p10⟩, k1, k2, k3⟩ := h
    have r : ∀ f i, ¬ f = 1231 → gI σ' f m i = gI σ f m i ∧ gJ σ' f m i = gJ σ f m i := fun f i z => hO.2 f i (n f i z)
    refine ⟨⟨⟨?_, ?_, ?_, ?_, ?_, h7 c, ?_, fun q => ?_, fun q => ?_, fun p e he => ?_⟩, ?_, fun q => ?_, fun q => ?_⟩, ?_⟩
    · rw [(r 1232 fd (by omega)).1]; exact p1.out hl.1 hO (fun f i z _ _ _ => n f i (by omega))
    · rw [(r 1233 fd (by omega)).1]; exact p2.out hl.2.1 hO (fun f i z _ _ _ => n f i (by omega))
    · rw [(r 1234 fd (by omega)).1]; exact p3.out hl.2.2 hO (fun f i z _ _ _ => n f i (by omega))
    · rw [(r 1230 fd (by omega)).1]; exact p4
    · rw [(r 1236 fd (by omega)).1]; exact p5
    · rw [(r 1237 fd (by omega)).1]; exact p7
    · rw [(r 1238 fd (by omega)).2]; exact p8 q
    · rw [(r 1229 fd (by omega)).1]; exact p9 q
    · rw [(r 1239 _ (by omega)).2, (r 1240 _ (by omega)).2, (r 1241 _ (by omega)).1]; exact p10 p e he
    · rw [(r 1228 fd (by omega)).1, k1, kR_7 c]; exact (kR_7 (F := F.wSt (idx Ns F.an 0)) c).symm
    · rw [(r 1235 fd (by omega)).1]; exact k2 q
    · rw [(r 1235 fd (by omega)).1]; exact k3 q
    · unfold PL; rw [(r 1232 fd (by omega)).1, (r 1233 fd (by omega)).1, (r 1234 fd (by omega)).1]; exact hl
  · rw [if_neg c]
    refine h.out hl hO (fun f i z _ _ _ => n f i (by omega)) (fun f z0 z1 q => ?_) (fun f p z0 z1 z2 => n f _ (by omega))
    have := hR f _ q
    rw [this] at q
    exact hn c q
theorem DR.aim {Ns : List Int64} {σ' : St} (h : DR σ m b lo En Ss) (hO : Out m (RA b Ss) σ σ') (hA : ∀ x ∈ amS b 0 Ss, gI σ' 1231 m x.1 = idx Ns x.2.1 0) : DR σ' m b lo En (Ss.map (fun S => (S.1, S.2.1.map (aimO Ns), S.2.2))) := by
  have n : ∀ f i, ¬ f = 1231 → ¬ RA b Ss f i := fun f i z q => z q.1
  have r : ∀ f i, ¬ f = 1231 → gI σ' f m i = gI σ f m i ∧ gJ σ' f m i = gJ σ f m i := fun f i z => hO.2 f i (n f i z)
  obtain ⟨a1, a2, a3, a4, a5, a6⟩ := h
  refine ⟨by rw [(r 1219 b (by omega)).1, List.length_map]; exact a1, by rw [List.length_map]; exact a2, by rw [(r 1220 b (by omega)).1]; exact a3, a4, fun e E hE => ?_, fun s T hT => ?_⟩
  · obtain ⟨b1, b2, b3, b4⟩ := a5 e E hE
    exact ⟨by rw [(r 1224 _ (by omega)).2]; exact b1, by rw [(r 1225 _ (by omega)).1]; exact b2, b3, fun j x hj => by rw [(r 1226 _ (by omega)).2, (r 1227 _ (by omega)).2]; exact b4 j x hj⟩
  · rw [List.getElem?_map] at hT
    cases hS : Ss[s]? with
    | none => rw [hS] at hT; exact absurd hT (by simp)
    | some S =>
      rw [hS] at hT
      have hT : (S.1, S.2.1.map (aimO Ns), S.2.2) = T := Option.some.inj hT
      rw [← hT]
      obtain ⟨b1, b2, b3, b4, b5⟩ := a6 s S hS
      refine ⟨by rw [(r 1221 _ (by omega)).2]; exact b1, by rw [(r 1222 _ (by omega)).1, List.length_map]; exact b2, by rw [(r 1223 _ (by omega)).1]; exact b3, by rw [List.length_map]; exact b4, fun k G hG => ?_⟩
      have hG : (S.2.1.map (aimO Ns))[k]? = some G := hG
      rw [List.getElem?_map] at hG
      cases hF : S.2.1[k]? with
      | none => rw [hF] at hG; exact absurd hG (by simp)
      | some F =>
        rw [hF] at hG
        have hG : aimO Ns F = G := Option.some.inj hG
        rw [← hG]
        obtain ⟨c1, c2⟩ := b5 k F hF
        have lk := (List.getElem?_eq_some_iff.mp hF).1
        have mem := (amS_mem (b := b) (x := (0, 0, 0)) Ss 0).2 s S k F hS hF
        rw [Nat.zero_add] at mem
        refine c1.aim c2 hO (fun f i q => q.1) (fun h7 => hA _ (mem h7)) (fun h7 q => ?_)
        obtain ⟨_, x, hx, e⟩ := q
        obtain ⟨s', S', k', F', f0, f1, f2, f3⟩ := (amS_mem (b := b) (x := x) Ss 0).1 hx
        rw [f3, Nat.zero_add] at e
        have e : 14 * (20 * b + s) + k = 14 * (20 * b + s') + k' := e
        have lk' := (List.getElem?_eq_some_iff.mp f1).1
        have l14' := (a6 s' S' f0).2.2.2.1
        have es : s = s' := by omega
        have ek : k = k' := by omega
        rw [← es, hS] at f0
        cases f0
        rw [← ek, hF] at f1
        cases f1
        exact h7 f2
theorem m_structNm {w : Int64} {n : Int} {P : Int → St → Prop} (hL : LC 12 σ m) (hb : gI σ 1253 m 0 = (b : Int)) (b2 : b < 2) (s20 : Ss.length ≤ 20) (hN : ∀ (s : Nat) (S : Stc), Ss[s]? = some S → gJ σ 1221 m (20 * b + s) = rho S.1 ∧ IsN S.1) (hw : IsN w) (hn : n = (Ss.length : Int)) (h : P (idx (Ss.map (fun s => s.1)) w 0) σ) : ACi g l D MX12_structNamed [vR 12 (some m), vJ (rho w), vI n] σ P := by
  have loop : ∀ (A : List Stc) (j : Nat), (∀ k S, A[k]? = some S → gJ σ 1221 m (20 * b + (j + k)) = rho S.1 ∧ IsN S.1) → j + A.length = Ss.length → P (idx (A.map (fun s => s.1)) w j) σ → AW g l D MX12_structNamed 3 [some (vR 12 (some m)), some (vJ (rho w)), none, some (vI n), some (vI (j : Int))] [] σ (fun v σ' => ∃ r, v = some (vI r) ∧ P r σ') := by
    intro A
    induction A with
    | nil =>
      intro j _ hj hP
      have hj : j + 0 = Ss.length := hj
      exact bk_X12_structNamed_3 ⟨fun _ => ⟨_, rfl, hP⟩, fun q => absurd (by omega) q⟩
    | cons S A ih =>
      intro j hA hj hP
      have hj : j + (A.length + 1) = Ss.length := hj
      obtain ⟨c1, c2⟩ := hA 0 S rfl
      rw [Nat.add_zero] at c1
      rw [List.map_cons, idx] at hP
      refine bk_X12_structNamed_3 ⟨fun q => absurd q (by omega), fun _ => ⟨hL, ?_⟩⟩
      rw [hb, show (20 * (b : Int) + (j : Int)).toNat = 20 * b + j by omega, c1]
      refine ⟨⟨by omega, by omega⟩, ⟨by omega, by omega⟩, ⟨by omega, by omega⟩, fun q => ⟨⟨by omega, by omega⟩, ?_⟩, fun q => ⟨_, rfl, ?_⟩⟩
      · rw [if_neg (fun z => q (by rw [z]))] at hP
        exact ih (j + 1) (fun k S' hS' => by rw [show j + 1 + k = j + (k + 1) by omega]; exact hA (k + 1) S' hS') (by omega) hP
      · rw [if_pos ((rho_iff c2 hw).mp q)] at hP
        exact hP
  exact AC.of mo_X12_structNamed (Nat.le_of_ble_eq_true rfl) (bk_X12_structNamed_0 (loop Ss 0 (fun k S hk => by rw [Nat.zero_add]; exact hN k S hk) (by omega) h))
theorem RB.a {f i : Nat} (h20 : Ss.length ≤ 20) (h14 : ∀ (s : Nat) (S : Stc), Ss[s]? = some S → S.2.1.length ≤ 14) (h : RA b Ss f i) : RB b f i := by
  obtain ⟨h1, x, hx, e⟩ := h
  obtain ⟨s, S, k, F, f0, f1, f2, f3⟩ := (amS_mem (b := b) (x := x) Ss 0).1 hx
  have ls := (List.getElem?_eq_some_iff.mp f0).1
  have lk := (List.getElem?_eq_some_iff.mp f1).1
  have l14 := h14 s S f0
  have e : i = 14 * (20 * b + (0 + s)) + k := by rw [e, f3]
  exact Or.inr (Or.inr (Or.inr (Or.inr (Or.inr (Or.inr (Or.inr (Or.inl ⟨by omega, by omega, by omega, by omega⟩)))))))
/-- the whole description -/
theorem m_describe {P : Int → St → Prop} (hD : 24 ≤ D) (hX : X.OK) (hL : LC 12 σ m) (hn : gI σ 1211 m 0 = X.n) (hT : ∀ z : Int, gI σ 1210 m z.toNat = X.T z) (hs : gI σ 1218 m 0 = 1 - (b : Int)) (b2 : b < 2)
    (h1 : ∀ En Ss0 Ss, rItems X (X.K + 1) [] [] 0 = .ok (En, Ss0) → aimS (Ss0.map (fun s => s.1)) Ss0 = .ok Ss → WFe En → WFs En.length Ss0 → ∀ τ, Out m (RB b) σ τ → DR τ m b (3000 * b + 3000) En Ss → P (Ss.length : Int) (sI (sI (sI (sI τ 1211 m 0 0) 1212 m 0 0) 1218 m 0 (b : Int)) 1264 m 0 0))
    (h0 : ∀ e, rDesc X = .error e → 0 < e.1 → ∀ τ, Out m (RB b) σ τ → 0 ≤ e.2 → e.2 ≤ 100000 → P (-10 - e.2) (sI (sI τ 1211 m 0 0) 1212 m 0 e.1)) : ACi g l D MX12_describe [vR 12 (some m)] σ P := by
  obtain ⟨d, rfl⟩ : ∃ d, D = d + 3 := ⟨D - 3, by omega⟩
  have h3 := hX.h3
  have hKn := hX.hKn
  -- the end
  have s202e : ∀ (τ : St) (e : Int × Int), IE σ τ m b e → rDesc X = .error e → AW g l (d + 3) MX12_describe 202 [some (vR 12 (some m)), none] [] τ (fun v σ' => ∃ r, v = some (vI r) ∧ P r σ') := by
    intro τ e ie hr
    have eb := rDesc_eb hX e hr
    unfold EB at eb
    refine bk_X12_describe_202 ⟨fun z => absurd z (by have := ie.bd; omega), fun _ => ?_⟩
    rw [ie.2.2.1, ie.2.2.2]
    exact ⟨⟨by omega, by omega⟩, _, rfl, h0 e hr ie.2.1 τ ie.1 eb.1 (by omega)⟩
  have s122e : ∀ (τ : St) (e : Int × Int) (x : Int), IE σ τ m b e → rDesc X = .error e → AW g l (d + 3) MX12_describe 122 [some (vR 12 (some m)), some (vI x)] [] τ (fun v σ' => ∃ r, v = some (vI r) ∧ P r σ') := fun τ e x ie hr =>
    bk_X12_describe_122 ⟨fun _ => s202e τ e ie hr, fun _ => ⟨fun _ => s202e τ e ie hr, fun z => absurd z (by have := ie.bd; omega)⟩⟩
  have rE : ∀ e, rItems X (X.K + 1) [] [] 0 = .error e → rDesc X = .error e := fun e he => by unfold rDesc; rw [he, bx_er]
  -- the aims
  have s122 : ∀ (τ : St) (i nn : Nat) (En : List Enm) (Ss : List Stc), IS σ τ m X b i nn En Ss → rItems X (X.K + 1) [] [] 0 = .ok (En, Ss) → AW g l (d + 3) MX12_describe 122 [some (vR 12 (some m)), some (vI 0)] [] τ (fun v σ' => ∃ r, v = some (vI r) ∧ P r σ') := by
    intro τ i nn En Ss hI hr
    obtain ⟨a1, a2, a3, a4, a5, a6, a7, a8, a9, a10, a11, a12⟩ := hI
    have iK := a2.2.2.2.1
    have h14 : ∀ (s : Nat) (S : Stc), Ss[s]? = some S → S.2.1.length ≤ 14 := fun s S hS => (a10 s S hS).2.1
    have h20 := a9.2.1
    obtain ⟨fb1, fb2⟩ := aimS_fb (Ns := Ss.map (fun s => s.1)) (b := b) Ss 0
    have l280 := amS_le (b := b) Ss 0 (fun S hS => by obtain ⟨s, hs⟩ := List.getElem?_of_mem hS; exact h14 s S hs)
    have mem := fun x => (amS_mem (b := b) (x := x) Ss 0).1
    generalize hLL : amS b 0 Ss = LL at *
    have inf : ∀ x ∈ LL, x.1 < 560 ∧ IsN x.2.1 := fun x hx => by
      obtain ⟨s, S, k, F, f0, f1, f2, f3⟩ := mem x hx
      have ls := (List.getElem?_eq_some_iff.mp f0).1
      have lk := (List.getElem?_eq_some_iff.mp f1).1
      have l14 := h14 s S f0
      have wk := ((a10 s S f0).2.2.2.2 F (List.mem_of_getElem? f1)).2.2.2.2
      refine ⟨by rw [f3]; show 14 * (20 * b + (0 + s)) + k < 560; omega, ?_⟩
      rw [f3]
      rcases wk with q | q | q | q | q | q | q | q | q | q
      · omega
      · omega
      · omega
      · omega
      · omega
      · omega
      · exact q.2.2.2.2.2.2.2
      · omega
      · omega
      · omega
    have same : ∀ x ∈ LL, ∀ y ∈ LL, x.1 = y.1 → x = y := fun x hx y hy e => by
      obtain ⟨s, S, k, F, f0, f1, f2, f3⟩ := mem x hx
      obtain ⟨s', S', k', F', g0, g1, g2, g3⟩ := mem y hy
      have lk := (List.getElem?_eq_some_iff.mp f1).1
      have lk' := (List.getElem?_eq_some_iff.mp g1).1
      have l14 := h14 s S f0
      have l14' := h14 s' S' g0
      rw [f3, g3] at e
      have e : 14 * (20 * b + (0 + s)) + k = 14 * (20 * b + (0 + s')) + k' := e
      have es : s = s' := by omega
      have ek : k = k' := by omega
      rw [← es, f0] at g0
      cases g0
      rw [← ek, f1] at g1
      cases g1
      rw [f3, g3, es, ek]
    have loop : ∀ (A : List (Nat × Int64 × Int)) (j : Nat) (τ' : St), (∀ k x, A[k]? = some x → LL[j + k]? = some x) → j + A.length = LL.length → Out m (RA b Ss) τ τ' → (∀ k x, k < j → LL[k]? = some x → gI τ' 1231 m x.1 = idx (Ss.map (fun s => s.1)) x.2.1 0) → fb (Ss.map (fun s => s.1)) A = fb (Ss.map (fun s => s.1)) LL → AW g l (d + 3) MX12_describe 122 [some (vR 12 (some m)), some (vI (j : Int))] [] τ' (fun v σ' => ∃ r, v = some (vI r) ∧ P r σ') := by
      intro A
      induction A with
      | nil =>
        intro j τ' _ hj hO hd hf
        have hj : j + 0 = LL.length := hj
        have ai := fb2 hf.symm
        have r : ∀ f i, ¬ f = 1231 → gI τ' f m i = gI τ f m i ∧ gJ τ' f m i = gJ τ f m i := fun f i z => hO.2 f i (fun q => z q.1)
        have b53 : gI τ' 1253 m 0 = (b : Int) := by rw [(r 1253 0 (by omega)).1]; exact a7
        refine bk_X12_describe_122 ⟨fun _ => bk_X12_describe_202 ⟨fun _ => ⟨hO.1.lc a2.1, ⟨by omega, by omega⟩, ?_⟩, fun z => absurd (by rw [(r 1251 0 (by omega)).1, a3]; decide) z⟩, fun z => absurd (by rw [(r 1250 0 (by omega)).1, a12.1]; omega) z⟩
        rw [b53, Int.toNat_natCast, (r 1219 b (by omega)).1, a9.1, (r 1251 0 (by omega)).1, a3]
        have hDR := ((a9.hi (show 3000 * b + nn ≤ 3000 * b + 3000 by omega)).aim (Ns := Ss.map (fun s => s.1)) hO (fun x hx => by
          rw [hLL] at hx
          obtain ⟨k, hk⟩ := List.getElem?_of_mem hx
          exact hd k x (by have := (List.getElem?_eq_some_iff.mp hk).1; omega) hk))
        have := h1 En Ss _ hr ai a11 a10 τ' (a1.trans (hO.mono (fun f i q => RB.a h20 h14 q))) hDR
        rw [List.length_map] at this
        exact ⟨_, rfl, this⟩
      | cons x A ih =>
        intro j τ' hA hj hO hd hf
        have hj : j + (A.length + 1) = LL.length := hj
        have c0 := hA 0 x rfl
        rw [Nat.add_zero] at c0
        have hxm : x ∈ LL := List.mem_of_getElem? c0
        obtain ⟨x5, xN⟩ := inf x hxm
        have r : ∀ f i, ¬ f = 1231 → gI τ' f m i = gI τ f m i ∧ gJ τ' f m i = gJ τ f m i := fun f i z => hO.2 f i (fun q => z q.1)
        obtain ⟨m1, m2, m3⟩ := a12.2 j x c0
        have b53 : gI τ' 1253 m 0 = (b : Int) := by rw [(r 1253 0 (by omega)).1]; exact a7
        have jn : ((j : Int)).toNat = j := by omega
        refine bk_X12_describe_122 ⟨fun z => absurd z (by rw [(r 1250 0 (by omega)).1, a12.1]; omega), fun _ => ⟨fun z => absurd (by rw [(r 1251 0 (by omega)).1, a3]) z, fun _ => ⟨hO.1.lc a2.1, ⟨by omega, by omega⟩, ?_⟩⟩⟩
        rw [b53, jn, Int.toNat_natCast, (r 1249 j (by omega)).2, m2, (r 1219 b (by omega)).1, a9.1]
        refine ⟨⟨by omega, by omega⟩, m_structNm (hO.1.lc a2.1) b53 a8 h20 (fun s S hS => ⟨by rw [(r 1221 _ (by omega)).2]; exact (a9.2.2.2.2.2 s S hS).1, (a10 s S hS).1⟩) xN rfl ?_⟩
        rw [(r 1247 j (by omega)).1, m1, Int.toNat_natCast, gI_slf, (r 1248 j (by omega)).1, m3]
        have ig := idx_ge (w := x.2.1) (Ss.map (fun s => s.1)) 0 (by decide)
        have hOw : ∀ v, Out m (RA b Ss) τ (sI τ' 1231 m x.1 v) := fun v => hO.trans (Out.sI ⟨rfl, x, by rw [hLL]; exact hxm, rfl⟩ (by decide))
        refine ⟨hO.1.lc a2.1, ⟨by omega, by omega⟩, ⟨by omega, by omega⟩, fun z => ⟨⟨by omega, by omega⟩, ?_⟩, fun z => ⟨⟨by omega, by omega⟩, ?_⟩⟩
        · refine ih (j + 1) _ (fun k y hy => by rw [show j + 1 + k = j + (k + 1) by omega]; exact hA (k + 1) y hy) (by omega) (hOw _) (fun k y hk hy => ?_) (by rw [← hf, fb, if_neg (by omega)])
          by_cases e : y.1 = x.1
          · rw [same y (List.mem_of_getElem? hy) x hxm e, gI_slf]
          · rw [gI_sI, if_neg (fun q => e q.2.2)]
            rcases Nat.lt_or_ge k j with w | w
            · exact hd k y w hy
            · have : k = j := by omega
              rw [this, c0] at hy
              cases hy
              exact absurd rfl e
        · have er := fb1 x (by rw [← hf, fb, if_pos (by omega)])
          refine s122e _ (4, x.2.2) _ ⟨(a1.trans ((hOw _).mono (fun f i q => RB.a h20 h14 q))).trans ((Out.sI (Or.inl (by unfold RTk; omega)) (by decide)).trans (Out.sI (Or.inl (by unfold RTk; omega)) (by decide))), (by decide : (0 : Int) < 4), ?_, gI_slf _ _ _ _ _⟩ (by unfold rDesc; rw [hr, bx_ok]; show bx (aimS (Ss.map (fun s => s.1)) Ss) _ = _; rw [er, bx_er])
          rw [gI_sI, if_neg (by simp), gI_slf]
    exact loop LL 0 τ (fun k x hx => by rw [Nat.zero_add]; exact hx) (by omega) Out.rfl (fun k x hk => by omega) rfl
  -- the items
  have loop : ∀ (f : Nat) (En : List Enm) (Ss : List Stc) (i nn : Nat) (τ : St), IS σ τ m X b i nn En Ss → X.K < i + f → rItems X (X.K + 1) [] [] 0 = (if X.k i = 0 then .ok (En, Ss) else rItems X f En Ss i) → AW g l (d + 3) MX12_describe 99 [some (vR 12 (some m)), none] [] τ (fun v σ' => ∃ r, v = some (vI r) ∧ P r σ') := by
    intro f
    induction f with
    | zero =>
      intro En Ss i nn τ s hf _
      have := s.2.1.2.2.2.1
      omega
    | succ f ih =>
      intro En Ss i nn τ s hf hr
      have iK := s.2.1.2.2.2.1
      have so := (s.2.1.sort hX).1
      refine bk_X12_describe_99 ⟨fun z => absurd s.2.2.1 z, fun _ => ⟨fun z => ?_, fun z => ?_⟩⟩
      · rw [if_pos (so.mp z)] at hr
        exact s122 τ i nn En Ss s hr
      · have kz : ¬ X.k i = 0 := fun q => z (so.mpr q)
        rw [if_neg kz] at hr
        obtain ⟨R, hR⟩ : ∃ R, rItems X (X.K + 1) [] [] 0 = R := ⟨_, rfl⟩
        rw [hR, rItems] at hr
        refine g_item (by omega) hX s (fun k0 q eq σ2 n2 s2 => ?_) (fun k1 q eq σ2 n2 s2 => ?_) (fun e e0 e1 e2 σ2 ie => ?_)
        · rw [if_pos k0, eq, bx_ok] at hr
          have := rEnm_wf hX iK kz eq
          exact ih _ _ q.1 n2 σ2 s2 (by omega) (hR.trans hr)
        · rw [if_neg (by omega), if_pos k1, eq, bx_ok] at hr
          have := rStr_wf hX iK kz eq
          exact ih _ _ q.1 n2 σ2 s2 (by omega) (hR.trans hr)
        · refine bk_X12_describe_99 ⟨fun _ => s122e σ2 e 0 ie (rE e ?_), fun z => absurd z (by have := ie.bd; omega)⟩
          rw [hR, hr]
          by_cases k0 : X.k i = 200
          · rw [if_pos k0, e0 k0, bx_er]
          · rw [if_neg k0]
            by_cases k1 : X.k i = 201
            · rw [if_pos k1, e1 k1, bx_er]
            · rw [if_neg k1, e2 k0 k1]
  refine AC.of mo_X12_describe (Nat.le_of_ble_eq_true rfl) (bk_X12_describe_0 ?_)
  rw [hs, show 1 - (1 - (b : Int)) = (b : Int) by omega, Int.toNat_natCast]
  refine ⟨⟨by omega, by omega⟩, hL, ⟨by omega, by omega⟩, ⟨by omega, by omega⟩, ?_⟩
  have hF1 : Frm (fun f r => r = m ∧ (f = 1253 ∨ f = 1219 ∨ f = 1220 ∨ f = 1246 ∨ f = 1250 ∨ f = 1251 ∨ f = 1255 ∨ f = 1215)) σ (sI (sI (sI (sI (sI (sI (sI (sI σ 1253 m 0 (b : Int)) 1219 m b 0) 1220 m b 0) 1246 m 0 (3000 * (b : Int))) 1250 m 0 0) 1251 m 0 0) 1255 m 0 0) 1215 m 0 0) := (Frm.sI (by simp)).trans ((Frm.sI (by simp)).trans ((Frm.sI (by simp)).trans ((Frm.sI (by simp)).trans ((Frm.sI (by simp)).trans ((Frm.sI (by simp)).trans ((Frm.sI (by simp)).trans (Frm.sI (by simp))))))))
  have rt : ∀ f i, (f = 1246 ∨ f = 1250 ∨ f = 1251 ∨ f = 1255 ∨ f = 1215) → RB b f i := fun f i z => Or.inl (by unfold RTk; omega)
  have hO1 : Out m (RB b) σ (sI (sI (sI (sI (sI (sI (sI (sI σ 1253 m 0 (b : Int)) 1219 m b 0) 1220 m b 0) 1246 m 0 (3000 * (b : Int))) 1250 m 0 0) 1251 m 0 0) 1255 m 0 0) 1215 m 0 0) := (Out.sI (Or.inr (Or.inl rfl)) (by decide)).trans ((Out.sI (Or.inr (Or.inr (Or.inr (Or.inl ⟨Or.inl rfl, rfl⟩)))) (by decide)).trans ((Out.sI (Or.inr (Or.inr (Or.inr (Or.inl ⟨Or.inr rfl, rfl⟩)))) (by decide)).trans ((Out.sI (rt _ _ (by omega)) (by decide)).trans ((Out.sI (rt _ _ (by omega)) (by decide)).trans ((Out.sI (rt _ _ (by omega)) (by decide)).trans ((Out.sI (rt _ _ (by omega)) (by decide)).trans (Out.sI (rt _ _ (by omega)) (by decide))))))))
  have v53 : gI (sI (sI (sI (sI (sI (sI (sI (sI σ 1253 m 0 (b : Int)) 1219 m b 0) 1220 m b 0) 1246 m 0 (3000 * (b : Int))) 1250 m 0 0) 1251 m 0 0) 1255 m 0 0) 1215 m 0 0) 1253 m 0 = (b : Int) := by simp [gI_sI]
  have v19 : gI (sI (sI (sI (sI (sI (sI (sI (sI σ 1253 m 0 (b : Int)) 1219 m b 0) 1220 m b 0) 1246 m 0 (3000 * (b : Int))) 1250 m 0 0) 1251 m 0 0) 1255 m 0 0) 1215 m 0 0) 1219 m b = 0 := by simp [gI_sI]
  have v20 : gI (sI (sI (sI (sI (sI (sI (sI (sI σ 1253 m 0 (b : Int)) 1219 m b 0) 1220 m b 0) 1246 m 0 (3000 * (b : Int))) 1250 m 0 0) 1251 m 0 0) 1255 m 0 0) 1215 m 0 0) 1220 m b = 0 := by simp [gI_sI]
  have v46 : gI (sI (sI (sI (sI (sI (sI (sI (sI σ 1253 m 0 (b : Int)) 1219 m b 0) 1220 m b 0) 1246 m 0 (3000 * (b : Int))) 1250 m 0 0) 1251 m 0 0) 1255 m 0 0) 1215 m 0 0) 1246 m 0 = 3000 * (b : Int) := by simp [gI_sI]
  have v50 : gI (sI (sI (sI (sI (sI (sI (sI (sI σ 1253 m 0 (b : Int)) 1219 m b 0) 1220 m b 0) 1246 m 0 (3000 * (b : Int))) 1250 m 0 0) 1251 m 0 0) 1255 m 0 0) 1215 m 0 0) 1250 m 0 = 0 := by simp [gI_sI]
  have v51 : gI (sI (sI (sI (sI (sI (sI (sI (sI σ 1253 m 0 (b : Int)) 1219 m b 0) 1220 m b 0) 1246 m 0 (3000 * (b : Int))) 1250 m 0 0) 1251 m 0 0) 1255 m 0 0) 1215 m 0 0) 1251 m 0 = 0 := by simp [gI_sI]
  have v55 : gI (sI (sI (sI (sI (sI (sI (sI (sI σ 1253 m 0 (b : Int)) 1219 m b 0) 1220 m b 0) 1246 m 0 (3000 * (b : Int))) 1250 m 0 0) 1251 m 0 0) 1255 m 0 0) 1215 m 0 0) 1255 m 0 = 0 := by simp [gI_sI]
  have v15 : gI (sI (sI (sI (sI (sI (sI (sI (sI σ 1253 m 0 (b : Int)) 1219 m b 0) 1220 m b 0) 1246 m 0 (3000 * (b : Int))) 1250 m 0 0) 1251 m 0 0) 1255 m 0 0) 1215 m 0 0) 1215 m 0 = 0 := by simp [gI_sI]
  generalize sI (sI (sI (sI (sI (sI (sI (sI σ 1253 m 0 (b : Int)) 1219 m b 0) 1220 m b 0) 1246 m 0 (3000 * (b : Int))) 1250 m 0 0) 1251 m 0 0) 1255 m 0 0) 1215 m 0 0 = σ1 at *
  refine r_first hX (hF1.lc hL) (by rw [hF1.I (fun q => by omega)]; exact hn) (fun z => by rw [hF1.I (fun q => by omega)]; exact hT z) v15 (fun σ2 hF2 hT2 => ?_)
  have i0 : IS σ σ2 m X b 0 0 [] [] := ⟨hO1.trans ((Out.nx hF2).mono (fun f i q => Or.inl (Or.inl q))), hT2, by rw [hF2.I (fun q => by omega)]; exact v51, by rw [hF2.I (fun q => by omega)]; exact v55, by rw [hF2.I (fun q => by omega), v46]; omega, Nat.le_refl _, by rw [hF2.I (fun q => by omega)]; exact v53, b2, ⟨by rw [hF2.I (fun q => by omega)]; exact v19, by show 0 ≤ 20; omega, by rw [hF2.I (fun q => by omega)]; exact v20, by show 0 ≤ 8; omega, fun e E hE => absurd hE (by simp), fun s S hS => absurd hS (by simp)⟩, fun s S hS => absurd hS (by simp), fun e E hE => absurd hE (by simp), by rw [hF2.I (fun q => by omega)]; exact v50, fun j x hx => absurd hx (by show ¬ ([] : List (Nat × Int64 × Int))[j]? = some x; simp)⟩
  have go : (X.k 0 = 200 ∨ X.k 0 = 201) → AW g l (d + 3) MX12_describe 87 [some (vR 12 (some m)), none] [vR 12 (some m)] σ2 (fun v σ' => ∃ r, v = some (vI r) ∧ P r σ') := fun hk =>
    bk_X12_describe_87 ⟨m, rfl, i_must (by omega) hX i0 (by decide) (by decide) (fun _ => ⟨fun z => absurd z (by decide), fun _ => loop (X.K + 1) [] [] 0 0 σ2 i0 (by omega) (by rw [if_neg (by omega)])⟩) (fun q => absurd q (by decide))⟩
  refine r_isWord (j := 0) hX hT2 (by decide) rfl ?_
  by_cases c : X.k 0 = 200
  · rw [if_pos (show X.k 0 = 200 + ((0 : Nat) : Int) from c)]
    exact ⟨fun _ => go (Or.inl c), fun z => absurd z (by decide)⟩
  · rw [if_neg (show ¬ X.k 0 = 200 + ((0 : Nat) : Int) from c)]
    refine ⟨fun z => absurd rfl z, fun _ => r_isWord (j := 1) hX hT2 (by decide) rfl ?_⟩
    by_cases c2 : X.k 0 = 201
    · rw [if_pos (show X.k 0 = 200 + ((1 : Nat) : Int) from c2)]
      exact ⟨fun z => absurd z (by decide), fun _ => go (Or.inr c2)⟩
    · rw [if_neg (show ¬ X.k 0 = 200 + ((1 : Nat) : Int) from c2)]
      exact ⟨fun _ => i_must (by omega) hX i0 (by decide) (by decide) (fun q => absurd q (by decide)) (fun _ σ3 ie => ⟨fun _ => s122e σ3 _ 0 ie (rE _ (by rw [rItems, if_neg c, if_neg c2])), fun z => absurd rfl z⟩), fun z => absurd rfl z⟩
end M33
