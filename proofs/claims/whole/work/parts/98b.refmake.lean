/-! the reference makes a node -/
def oX (t : Nat) (o : Option Nat) : Int := match o with
  | some a => ((400 * t + a : Nat) : Int)
  | none => -1
def flR (b : Nat) (fld : Int) : Int := if fld < 0 then -1 else ((280 * b : Nat) : Int) + fld
section R2
variable {g : GP} {l : Launch} {d : Nat} {σ σ' σ'' : St} {m t b i k : Nat} {En : List Enm} {Ss : List Stc} {s : TS} {h : Int → Int} {len im : Int} {K : List (Nat × Int)}
theorem NdR.x (hN : NdR σ m t b s i) : gI σ 1276 m (400 * t + i) = oX t (s.k i)[0]? ∧ gI σ 1277 m (400 * t + i) = oX t (s.k i).getLast? ∧ ∀ j a, (s.k i)[j]? = some a → gI σ 1278 m (400 * t + a) = oX t (s.k i)[j + 1]? := by
  obtain ⟨n1, n2, n3, n4, n5, n6, n7, n8, n9, n10, n11, n12, n13⟩ := hN
  exact ⟨n11, n12, n13.1⟩
theorem NdR.y (hN : NdR σ m t b s i) : (gI σ 1278 m (400 * t + i) = -1 ∨ 400 * (t : Int) ≤ gI σ 1278 m (400 * t + i) ∧ gI σ 1278 m (400 * t + i) < 400 * (t : Int) + 400) ∧ (gI σ 1279 m (400 * t + i) = 0 ∨ gI σ 1279 m (400 * t + i) = 1) := by
  obtain ⟨n1, n2, n3, n4, n5, n6, n7, n8, n9, n10, n11, n12, n13⟩ := hN
  exact n13.2
theorem NdR.of (n1 : gI σ 1267 m (400 * t + i) = s.d 0 i) (n2 : gI σ 1268 m (400 * t + i) = s.d 1 i) (n3 : gI σ 1269 m (400 * t + i) = s.d 2 i) (n4 : gI σ 1272 m (400 * t + i) = s.d 3 i) (n5 : gI σ 1279 m (400 * t + i) = s.d 4 i) (n6 : gI σ 1270 m (400 * t + i) = oI t (s.d 5 i)) (n7 : gI σ 1274 m (400 * t + i) = flR b (s.d 6 i)) (n8 : gI σ 1273 m (400 * t + i) = s.d 7 i) (n9 : gI σ 1275 m (400 * t + i) = s.d 8 i) (n10 : gI σ 1271 m (400 * t + i) = ((s.k i).length : Int)) (n11 : gI σ 1276 m (400 * t + i) = oX t (s.k i)[0]?) (n12 : gI σ 1277 m (400 * t + i) = oX t (s.k i).getLast?) (n13 : ∀ j a, (s.k i)[j]? = some a → gI σ 1278 m (400 * t + a) = oX t (s.k i)[j + 1]?) (n14 : (gI σ 1278 m (400 * t + i) = -1 ∨ 400 * (t : Int) ≤ gI σ 1278 m (400 * t + i) ∧ gI σ 1278 m (400 * t + i) < 400 * (t : Int) + 400) ∧ (gI σ 1279 m (400 * t + i) = 0 ∨ gI σ 1279 m (400 * t + i) = 1)) : NdR σ m t b s i :=
  ⟨n1, n2, n3, n4, n5, n6, n7, n8, n9, n10, n11, n12, n13, n14⟩
theorem tr_mkR {υ : St} {what par place fld u2 u7 u8 : Int} {nm : Int64} (ht7 : t < 7) (hc4 : s.c < 400) (hK : ∀ i, i < s.c → NdK s i) (hN : ∀ i, i < s.c → NdR σ m t b s i) (hp : -1 ≤ par ∧ par < s.c)
    (hold : ∀ f j, 1267 ≤ f → f ≤ 1279 → j < s.c → (∀ p : Nat, par = (p : Int) → j = p → ¬ (f = 1276 ∨ f = 1277 ∨ f = 1271)) → (∀ p : Nat, par = (p : Int) → (s.k p).getLast? = some j → ¬ f = 1278) → gI υ f m (400 * t + j) = gI σ f m (400 * t + j))
    (hpar : ∀ p : Nat, par = (p : Int) → gI υ 1271 m (400 * t + p) = ((s.k p).length : Int) + 1 ∧ gI υ 1277 m (400 * t + p) = ((400 * t + s.c : Nat) : Int) ∧ (s.k p = [] → gI υ 1276 m (400 * t + p) = ((400 * t + s.c : Nat) : Int)) ∧ (¬ s.k p = [] → gI υ 1276 m (400 * t + p) = gI σ 1276 m (400 * t + p)) ∧ ∀ q, (s.k p).getLast? = some q → gI υ 1278 m (400 * t + q) = ((400 * t + s.c : Nat) : Int))
    (r1 : gI υ 1267 m (400 * t + s.c) = what) (r2 : gI υ 1268 m (400 * t + s.c) = place) (r3 : gI υ 1269 m (400 * t + s.c) = u2) (r4 : gI υ 1272 m (400 * t + s.c) = 0) (r5 : gI υ 1279 m (400 * t + s.c) = 0) (r6 : gI υ 1270 m (400 * t + s.c) = oI t par) (r7 : gI υ 1274 m (400 * t + s.c) = flR b fld) (r8 : gI υ 1273 m (400 * t + s.c) = u7) (r9 : gI υ 1275 m (400 * t + s.c) = u8) (r10 : gI υ 1271 m (400 * t + s.c) = 0) (r11 : gI υ 1276 m (400 * t + s.c) = -1) (r12 : gI υ 1277 m (400 * t + s.c) = -1) (r13 : gI υ 1278 m (400 * t + s.c) = -1) :
    ∀ i, i < s.c + 1 → NdR υ m t b (mkM s what par place fld u2 u7 u8 nm) i := by
  intro i hi
  by_cases e : i = s.c
  · subst e
    refine NdR.of ?_ ?_ ?_ ?_ ?_ ?_ ?_ ?_ ?_ ?_ ?_ ?_ ?_ ?_
    · rw [mk_n]; exact r1
    · rw [mk_n]; exact r2
    · rw [mk_n]; exact r3
    · rw [mk_n]; exact r4
    · rw [mk_n]; exact r5
    · rw [mk_n]; exact r6
    · rw [mk_n]; exact r7
    · rw [mk_n]; exact r8
    · rw [mk_n]; exact r9
    · rw [mk_kn]; exact r10
    · rw [mk_kn]; exact r11
    · rw [mk_kn]; exact r12
    · intro j a ha; rw [mk_kn] at ha; exact absurd ha (by simp)
    · rw [r13, r5]; exact ⟨Or.inl rfl, Or.inl rfl⟩
  · have hi' : i < s.c := by omega
    have hN' := hN i hi'
    obtain ⟨y11, y12, y13⟩ := hN'.x
    obtain ⟨n1, n2, n3, n4, n5, n6, n7, n8, n9, n10, _, _, _⟩ := hN'
    obtain ⟨k1, k2, k3, k4⟩ := hK i hi'
    have I : ∀ f, 1267 ≤ f → f ≤ 1279 → ¬ (f = 1276 ∨ f = 1277 ∨ f = 1278 ∨ f = 1271) → gI υ f m (400 * t + i) = gI σ f m (400 * t + i) := fun f h0 h1 hn => hold f i h0 h1 hi' (fun p _ _ => by omega) (fun p _ _ => by omega)
    refine NdR.of ?_ ?_ ?_ ?_ ?_ ?_ ?_ ?_ ?_ ?_ ?_ ?_ ?_ ?_
    · rw [mk_o e, I 1267 (by decide) (by decide) (by decide)]; exact n1
    · rw [mk_o e, I 1268 (by decide) (by decide) (by decide)]; exact n2
    · rw [mk_o e, I 1269 (by decide) (by decide) (by decide)]; exact n3
    · rw [mk_o e, I 1272 (by decide) (by decide) (by decide)]; exact n4
    · rw [mk_o e, I 1279 (by decide) (by decide) (by decide)]; exact n5
    · rw [mk_o e, I 1270 (by decide) (by decide) (by decide)]; exact n6
    · rw [mk_o e, I 1274 (by decide) (by decide) (by decide)]; exact n7
    · rw [mk_o e, I 1273 (by decide) (by decide) (by decide)]; exact n8
    · rw [mk_o e, I 1275 (by decide) (by decide) (by decide)]; exact n9
    rotate_right
    · have y14 := (hN i hi').y
      rw [I 1279 (by decide) (by decide) (by decide)]
      by_cases ql : ∃ p : Nat, par = (p : Int) ∧ (s.k p).getLast? = some i
      · obtain ⟨p, ep, hl⟩ := ql
        rw [(hpar p ep).2.2.2.2 i hl]
        exact ⟨Or.inr ⟨by omega, by omega⟩, y14.2⟩
      · rw [hold 1278 i (by decide) (by decide) hi' (fun p _ _ => by decide) (fun p z z1 _ => ql ⟨p, z, z1⟩)]
        exact y14
    all_goals by_cases ep : par = (i : Int)
    · rw [mk_kp e ep, app_l, (hpar i ep).1]; omega
    · rw [mk_ko e ep, hold 1271 i (by decide) (by decide) hi' (fun p z z1 => by omega) (fun p _ _ => by decide)]; exact n10
    · rw [mk_kp e ep]
      obtain ⟨_, _, q3, q4, _⟩ := hpar i ep
      by_cases z : s.k i = []
      · rw [q3 z, z]; rfl
      · have : 0 < (s.k i).length := by
          cases hz : s.k i with
          | nil => exact absurd hz z
          | cons x X => show 0 < X.length + 1; omega
        rw [q4 z, y11, List.getElem?_append_left this]
    · rw [mk_ko e ep, hold 1276 i (by decide) (by decide) hi' (fun p z z1 => by omega) (fun p _ _ => by decide)]; exact y11
    · rw [mk_kp e ep, (hpar i ep).2.1, List.getLast?_append]; rfl
    · rw [mk_ko e ep, hold 1277 i (by decide) (by decide) hi' (fun p z z1 => by omega) (fun p _ _ => by decide)]; exact y12
    · rw [mk_kp e ep]
      intro j x hx
      rcases app_q hx with ⟨lt, hx⟩ | ⟨ej, ex⟩
      · have xm := List.mem_of_getElem? hx
        have xc := (k2 x xm).1
        by_cases lj : j + 1 < (s.k i).length
        · rw [hold 1278 x (by decide) (by decide) xc (fun p _ _ => by decide) (fun p z z1 => ?_), y13 j x hx, List.getElem?_append_left lj]
          intro _
          rw [show p = i by omega, List.getLast?_eq_getElem?] at z1
          have := List.pairwise_iff_getElem.mp k1 j ((s.k i).length - 1) lt (by omega) (by omega)
          rw [(List.getElem?_eq_some_iff.mp hx).2, (List.getElem?_eq_some_iff.mp z1).2] at this
          omega
        · have hl : (s.k i).getLast? = some x := by rw [List.getLast?_eq_getElem?, show (s.k i).length - 1 = j by omega]; exact hx
          rw [(hpar i ep).2.2.2.2 x hl, show j + 1 = (s.k i).length by omega, List.getElem?_append_right (Nat.le_refl _), Nat.sub_self]; rfl
      · rw [ex, r13, ej, List.getElem?_eq_none (by rw [app_l]; omega)]; rfl
    · rw [mk_ko e ep]
      intro j x hx
      have xm := List.mem_of_getElem? hx
      have xc := (k2 x xm).1
      rw [hold 1278 x (by decide) (by decide) xc (fun p _ _ => by decide) (fun p z z1 => ?_), y13 j x hx]
      intro _
      have q := (hK p (by omega)).2.1 x (List.mem_of_getLast? z1)
      have := (k2 x xm).2
      rw [q.2] at this
      omega
theorem m_make {par what place fld u2 u7 u8 pr fd : Int} {nm : Int64} {P : Int → St → Prop} (hpr : pr = oI t par) (hfd : fd = flR b fld) (hE : EnR σ m t b En Ss im len h) (hT : TrR σ m t b s) (hK : ∀ i, i < s.c → NdK s i) (hp : -1 ≤ par ∧ par < s.c)
    (h0 : ¬ s.c < 400 → P (-1) (sI σ 1282 m 0 1))
    (h1 : s.c < 400 → ∀ σ', NsO m t σ σ' → gI σ' 1282 m 0 = 0 → gI σ' 1269 m (400 * t + s.c) = place → gI σ' 1273 m (400 * t + s.c) = -1 → gI σ' 1275 m (400 * t + s.c) = 0 → (∀ σ'', (∀ f j, ¬ (j = 400 * t + s.c ∧ (f = 1269 ∨ f = 1273 ∨ f = 1275)) → gI σ'' f m j = gI σ' f m j) → gI σ'' 1269 m (400 * t + s.c) = u2 → gI σ'' 1273 m (400 * t + s.c) = u7 → gI σ'' 1275 m (400 * t + s.c) = u8 → TrR σ'' m t b (mkM s what par place fld u2 u7 u8 nm)) → P ((400 * t + s.c : Nat) : Int) σ') :
    ACi g l d MX12_make [vR 12 (some m), vI what, vI pr, vI place, vI fd] σ P := by
  obtain ⟨⟨t1, t2, t3⟩, t4⟩ := hT
  obtain ⟨e1, _, _, _, e6, e7⟩ := id hE
  have lc := e1.1
  refine AC.of mo_X12_make (Nat.le_of_ble_eq_true rfl) (bk_X12_make_0 ⟨lc, ?_⟩)
  rw [e6, Int.toNat_natCast, t1]
  refine ⟨⟨by omega, by omega⟩, fun q => ⟨⟨by omega, by omega⟩, ⟨by omega, by omega⟩, fun z6 hz => ⟨⟨by omega, by omega⟩, ⟨by omega, by omega⟩, ?_⟩⟩, fun q => ⟨_, rfl, h0 (by omega)⟩⟩
  have hc : s.c < 400 := by omega
  obtain rfl : z6 = ((400 * t + s.c : Nat) : Int) := by omega
  rw [Int.toNat_natCast]
  have hn : 400 * t ≤ 400 * t + s.c ∧ 400 * t + s.c < 400 * t + 400 := by omega
  generalize hω : (sI (sI (sI (sI (sI (sI (sI (sI (sI (sI (sI σ 1266 m t ((s.c : Int) + 1)) 1267 m (400 * t + s.c) what) 1268 m (400 * t + s.c) place) 1269 m (400 * t + s.c) place) 1270 m (400 * t + s.c) pr) 1271 m (400 * t + s.c) 0) 1272 m (400 * t + s.c) 0) 1273 m (400 * t + s.c) (-1)) 1274 m (400 * t + s.c) fd) 1275 m (400 * t + s.c) 0) 1276 m (400 * t + s.c) (-1)) = ω
  -- what is read there
  have oω : NsO m t σ ω := by
    rw [← hω]
    have z : NsO m t σ (sI σ 1266 m t ((s.c : Int) + 1)) := ⟨Frm.sI ⟨rfl, by omega⟩, fun f' j' z => by rw [gI_sI, if_neg (by omega)]⟩
    exact z.trans ((NsO.sI (by omega) hn).trans ((NsO.sI (by omega) hn).trans ((NsO.sI (by omega) hn).trans ((NsO.sI (by omega) hn).trans ((NsO.sI (by omega) hn).trans ((NsO.sI (by omega) hn).trans ((NsO.sI (by omega) hn).trans ((NsO.sI (by omega) hn).trans ((NsO.sI (by omega) hn).trans (NsO.sI (by omega) hn))))))))))
  have rω : ∀ f j, ¬ j = 400 * t + s.c → ¬ f = 1266 → gI ω f m j = gI σ f m j := fun f j hj hf => by
    rw [← hω]
    simp only [gI_sI, hj, hf, and_false, false_and, if_false]
  have cω : gI ω 1266 m t = (s.c : Int) + 1 := by
    rw [← hω]
    simp only [gI_sI, true_and, false_and, if_false, if_true, Nat.reduceEqDiff]
  have v1 : gI ω 1267 m (400 * t + s.c) = what := by rw [← hω]; simp only [gI_sI, true_and, false_and, if_false, if_true, Nat.reduceEqDiff]
  have v2 : gI ω 1268 m (400 * t + s.c) = place := by rw [← hω]; simp only [gI_sI, true_and, false_and, if_false, if_true, Nat.reduceEqDiff]
  have v3 : gI ω 1269 m (400 * t + s.c) = place := by rw [← hω]; simp only [gI_sI, true_and, false_and, if_false, if_true, Nat.reduceEqDiff]
  have v6 : gI ω 1270 m (400 * t + s.c) = oI t par := by rw [← hω, ← hpr]; simp only [gI_sI, true_and, false_and, if_false, if_true, Nat.reduceEqDiff]
  have v10 : gI ω 1271 m (400 * t + s.c) = 0 := by rw [← hω]; simp only [gI_sI, true_and, false_and, if_false, if_true, Nat.reduceEqDiff]
  have v4 : gI ω 1272 m (400 * t + s.c) = 0 := by rw [← hω]; simp only [gI_sI, true_and, false_and, if_false, if_true, Nat.reduceEqDiff]
  have v8 : gI ω 1273 m (400 * t + s.c) = -1 := by rw [← hω]; simp only [gI_sI, true_and, false_and, if_false, if_true, Nat.reduceEqDiff]
  have v7 : gI ω 1274 m (400 * t + s.c) = flR b fld := by rw [← hω, ← hfd]; simp only [gI_sI, true_and, false_and, if_false, if_true, Nat.reduceEqDiff]
  have v9 : gI ω 1275 m (400 * t + s.c) = 0 := by rw [← hω]; simp only [gI_sI, true_and, false_and, if_false, if_true, Nat.reduceEqDiff]
  have v11 : gI ω 1276 m (400 * t + s.c) = -1 := by rw [← hω]; simp only [gI_sI, true_and, false_and, if_false, if_true, Nat.reduceEqDiff]
  have m82 : gI ω 1282 m 0 = gI σ 1282 m 0 := by rw [← hω]; simp only [gI_sI, false_and, if_false, Nat.reduceEqDiff]
  clear hω
  generalize hω2 : (sI (sI (sI ω 1277 m (400 * t + s.c) (-1)) 1278 m (400 * t + s.c) (-1)) 1279 m (400 * t + s.c) 0) = ω2
  have o2 : NsO m t ω ω2 := by rw [← hω2]; exact (NsO.sI (by omega) hn).trans ((NsO.sI (by omega) hn).trans (NsO.sI (by omega) hn))
  have m82' : gI ω2 1282 m 0 = gI ω 1282 m 0 := by rw [← hω2]; simp only [gI_sI, false_and, if_false, Nat.reduceEqDiff]
  have r2 : ∀ f j, (¬ j = 400 * t + s.c ∨ f < 1277) → gI ω2 f m j = gI ω f m j := fun f j hj => by
    rw [← hω2, gI_sI, if_neg (by omega), gI_sI, if_neg (by omega), gI_sI, if_neg (by omega)]
  have v12 : gI ω2 1277 m (400 * t + s.c) = -1 := by rw [← hω2]; simp only [gI_sI, true_and, false_and, if_false, if_true, Nat.reduceEqDiff]
  have v13 : gI ω2 1278 m (400 * t + s.c) = -1 := by rw [← hω2]; simp only [gI_sI, true_and, false_and, if_false, if_true, Nat.reduceEqDiff]
  have v5 : gI ω2 1279 m (400 * t + s.c) = 0 := by rw [← hω2]; simp only [gI_sI, true_and, false_and, if_false, if_true, Nat.reduceEqDiff]
  -- the end
  have fin : ∀ ω3, NsO m t ω2 ω3 → (∀ f j, (∀ p : Nat, par = (p : Int) → j = 400 * t + p → ¬ (f = 1276 ∨ f = 1277 ∨ f = 1271)) → (∀ p q : Nat, par = (p : Int) → (s.k p).getLast? = some q → j = 400 * t + q → ¬ f = 1278) → gI ω3 f m j = gI ω2 f m j) → (∀ p : Nat, par = (p : Int) → gI ω3 1271 m (400 * t + p) = ((s.k p).length : Int) + 1 ∧ gI ω3 1277 m (400 * t + p) = ((400 * t + s.c : Nat) : Int) ∧ (s.k p = [] → gI ω3 1276 m (400 * t + p) = ((400 * t + s.c : Nat) : Int)) ∧ (¬ s.k p = [] → gI ω3 1276 m (400 * t + p) = gI ω2 1276 m (400 * t + p)) ∧ ∀ q, (s.k p).getLast? = some q → gI ω3 1278 m (400 * t + q) = ((400 * t + s.c : Nat) : Int)) → P ((400 * t + s.c : Nat) : Int) ω3 := by
    intro ω3 o3 r3 hpar
    have kc : ∀ p q : Nat, par = (p : Int) → (s.k p).getLast? = some q → q < s.c := fun p q ep hq => ((hK p (by omega)).2.1 q (List.mem_of_getLast? hq)).1
    have at3 : ∀ f, gI ω3 f m (400 * t + s.c) = gI ω2 f m (400 * t + s.c) := fun f => r3 f _ (fun p ep ej => by omega) (fun p q ep hq ej => by have := kc p q ep hq; omega)
    have many : gI ω3 1282 m 0 = 0 := by
      rw [r3 1282 0 (fun p ep ej => by decide) (fun p q ep hq ej => by decide), m82', m82]; exact t2
    refine h1 hc ω3 ((oω.trans o2).trans o3) many (by rw [at3, r2 _ _ (by omega)]; exact v3) (by rw [at3, r2 _ _ (by omega)]; exact v8) (by rw [at3, r2 _ _ (by omega)]; exact v9) (fun υ hυ y1 y2 y3 => ⟨⟨?_, ?_, by rw [mk_c]; omega⟩, ?_⟩)
    · rw [hυ _ _ (fun q => by omega), r3 1266 t (fun p ep ej => by decide) (fun p q ep hq ej => by decide), r2 _ _ (by omega), cω, mk_c]; omega
    · rw [hυ _ _ (fun q => by omega)]; exact many
    · have atυ : ∀ f, ¬ (f = 1269 ∨ f = 1273 ∨ f = 1275) → gI υ f m (400 * t + s.c) = gI ω2 f m (400 * t + s.c) := fun f hf => by rw [hυ _ _ (fun q => hf q.2), at3]
      have old : ∀ f j, j < s.c → gI υ f m (400 * t + j) = gI ω3 f m (400 * t + j) := fun f j hj => hυ _ _ (fun q => by omega)
      rw [mk_c]
      refine tr_mkR e7 hc hK t4 hp (fun f j f0 f1 hj n1 n2 => ?_) (fun p ep => ?_) ?_ ?_ y1 ?_ ?_ ?_ ?_ y2 y3 ?_ ?_ ?_ ?_
      · rw [old f j hj, r3 f _ (fun p ep ej => n1 p ep (by omega)) (fun p q ep hq ej => n2 p ep (by rw [show j = q by omega]; exact hq)), r2 _ _ (by omega), rω _ _ (by omega) (by omega)]
      · have pc : p < s.c := by omega
        obtain ⟨z1, z2, z3, z4, z5⟩ := hpar p ep
        rw [old _ _ pc, old _ _ pc, old _ _ pc]
        exact ⟨z1, z2, z3, fun z => by rw [z4 z, r2 _ _ (by omega), rω _ _ (by omega) (by decide)], fun q hq => by rw [old _ _ (kc p q ep hq)]; exact z5 q hq⟩
      · rw [atυ _ (by decide), r2 _ _ (by omega)]; exact v1
      · rw [atυ _ (by decide), r2 _ _ (by omega)]; exact v2
      · rw [atυ _ (by decide), r2 _ _ (by omega)]; exact v4
      · rw [atυ _ (by decide)]; exact v5
      · rw [atυ _ (by decide), r2 _ _ (by omega)]; exact v6
      · rw [atυ _ (by decide), r2 _ _ (by omega)]; exact v7
      · rw [atυ _ (by decide), r2 _ _ (by omega)]; exact v10
      · rw [atυ _ (by decide), r2 _ _ (by omega)]; exact v11
      · rw [atυ _ (by decide)]; exact v12
      · rw [atυ _ (by decide)]; exact v13
  have lcω := oω.1.lc lc
  have lc2 := o2.1.lc lcω
  refine bk_X12_make_136 ⟨lcω, ⟨by omega, by omega⟩, ?_⟩
  rw [Int.toNat_natCast, hω2]
  refine ⟨fun z => ⟨_, rfl, fin ω2 NsO.rfl (fun _ _ _ _ => rfl) (fun p ep => ?_)⟩, fun z => ?_⟩
  · rw [hpr, ep] at z; unfold oI at z; rw [if_neg (by omega)] at z; omega
  · have pn : ¬ par < 0 := fun q => z (by rw [hpr]; unfold oI; rw [if_pos q]; decide)
    obtain ⟨p, ep⟩ : ∃ p : Nat, par = (p : Int) := ⟨par.toNat, by omega⟩
    have pc : p < s.c := by omega
    have epr : pr = ((400 * t + p : Nat) : Int) := by rw [hpr, ep]; unfold oI; rw [if_neg (by omega)]; omega
    rw [epr, Int.toNat_natCast]
    have hN' := t4 p pc
    obtain ⟨y11, y12, y13⟩ := hN'.x
    have n10 := hN'.2.2.2.2.2.2.2.2.2.1
    have hpn : 400 * t ≤ 400 * t + p ∧ 400 * t + p < 400 * t + 400 := by omega
    have kl := inc_len _ s.c (hK p pc).1 (fun x hx => ((hK p pc).2.1 x hx).1)
    have e71 : gI ω 1271 m (400 * t + p) = ((s.k p).length : Int) := by rw [rω _ _ (by omega) (by decide)]; exact n10
    have e71' : gI ω2 1271 m (400 * t + p) = ((s.k p).length : Int) := by rw [r2 _ _ (by omega)]; exact e71
    rw [e71]
    have e77 : gI (sI ω 1277 m (400 * t + s.c) (-1)) 1277 m (400 * t + p) = oX t (s.k p).getLast? := by rw [gI_sI, if_neg (by omega), rω _ _ (by omega) (by decide)]; exact y12
    rw [e77]
    refine ⟨⟨by omega, by omega⟩, fun w => ?_, fun w => ?_⟩
    · -- not the first
      have kne : ¬ s.k p = [] := fun q => w (by rw [q]; rfl)
      cases hl : (s.k p).getLast? with
      | none => exact absurd (List.getLast?_eq_none_iff.mp hl) kne
      | some q =>
        have qc : q < s.c := ((hK p pc).2.1 q (List.mem_of_getLast? hl)).1
        show Bd ((400 * t + q : Nat) : Int) 2800 ∧ AW g l d MX12_make 197 _ [] (sI ω2 1278 m ((400 * t + q : Nat) : Int).toNat ((400 * t + s.c : Nat) : Int)) _
        rw [Int.toNat_natCast]
        have hqn : 400 * t ≤ 400 * t + q ∧ 400 * t + q < 400 * t + 400 := by omega
        have oq : NsO m t ω2 (sI ω2 1278 m (400 * t + q) ((400 * t + s.c : Nat) : Int)) := NsO.sI (by omega) hqn
        refine ⟨⟨by omega, by omega⟩, bk_X12_make_197 ⟨oq.1.lc lc2, ⟨by omega, by omega⟩, ?_⟩⟩
        rw [Int.toNat_natCast, gI_sI, if_neg (by simp), e71']
        refine ⟨⟨by omega, by omega⟩, _, rfl, fin _ (oq.trans ((NsO.sI (by omega) hpn).trans (NsO.sI (by omega) hpn))) (fun f j a1 a2 => ?_) (fun p' ep' => ?_)⟩
        · have b1 := a1 p ep
          have b2 := a2 p q ep hl
          rw [gI_sI, if_neg (fun y => b1 y.2.2 (by omega)), gI_sI, if_neg (fun y => b1 y.2.2 (by omega)), gI_sI, if_neg (fun y => b2 y.2.2 y.1)]
        · rw [show p' = p by omega]
          refine ⟨gI_slf _ _ _ _ _, ?_, fun y => absurd y kne, fun _ => ?_, fun q' hq' => ?_⟩
          · rw [gI_sI, if_neg (by simp), gI_slf]
          · rw [gI_sI, if_neg (by simp), gI_sI, if_neg (by simp), gI_sI, if_neg (by simp)]
          · rw [hl] at hq'
            cases hq'
            rw [gI_sI, if_neg (by simp), gI_sI, if_neg (by simp), gI_slf]
    · have kne : s.k p = [] := by
        cases hz : s.k p with
        | nil => rfl
        | cons x X => rw [hz] at w; have w : ((X.length + 1 : Nat) : Int) = 0 := w; omega
      have oq : NsO m t ω2 (sI ω2 1276 m (400 * t + p) ((400 * t + s.c : Nat) : Int)) := NsO.sI (by omega) hpn
      refine bk_X12_make_197 ⟨oq.1.lc lc2, ⟨by omega, by omega⟩, ?_⟩
      rw [Int.toNat_natCast, gI_sI, if_neg (by simp), e71']
      refine ⟨⟨by omega, by omega⟩, _, rfl, fin _ (oq.trans ((NsO.sI (by omega) hpn).trans (NsO.sI (by omega) hpn))) (fun f j a1 a2 => ?_) (fun p' ep' => ?_)⟩
      · have b1 := a1 p ep
        rw [gI_sI, if_neg (fun y => b1 y.2.2 (by omega)), gI_sI, if_neg (fun y => b1 y.2.2 (by omega)), gI_sI, if_neg (fun y => b1 y.2.2 (by omega))]
      · rw [show p' = p by omega]
        refine ⟨gI_slf _ _ _ _ _, ?_, fun _ => ?_, fun y => absurd kne y, fun q' hq' => by rw [kne] at hq'; exact absurd hq' (by simp)⟩
        · rw [gI_sI, if_neg (by simp), gI_slf]
        · rw [gI_sI, if_neg (by simp), gI_sI, if_neg (by simp), gI_slf]
end R2
