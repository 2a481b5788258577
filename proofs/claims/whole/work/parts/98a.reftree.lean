/-! the reference lays: where, and a node made -/
/-- places of tree t, and what is worked with -/
def NsF (m f r : Nat) : Prop := r = m ∧ (f = 1266 ∨ (1267 ≤ f ∧ f ≤ 1279) ∨ f = 1282 ∨ (1286 ≤ f ∧ f ≤ 1289))
def OtT (m t : Nat) (σ σ' : St) : Prop := ∀ f j, (f = 1266 ∧ ¬ j = t) ∨ (1267 ≤ f ∧ f ≤ 1279 ∧ (j < 400 * t ∨ 400 * t + 400 ≤ j)) → gI σ' f m j = gI σ f m j
def NsO (m t : Nat) (σ σ' : St) : Prop := Frm (NsF m) σ σ' ∧ OtT m t σ σ'
def RyO (m t : Nat) (σ σ' : St) : Prop := Frm (fun f r => NsF m f r ∨ (r = m ∧ 1283 ≤ f ∧ f ≤ 1285)) σ σ' ∧ OtT m t σ σ'
def EnR (σ : St) (m t b : Nat) (En : List Enm) (Ss : List Stc) (im len : Int) (h : Int → Int) : Prop :=
  ImR σ m im len h ∧ (b < 2 ∧ DR σ m b (3000 * b + 3000) En Ss) ∧ gI σ 1253 m 0 = (b : Int) ∧ gI σ 1218 m 0 = (b : Int) ∧ gI σ 1280 m 0 = (t : Int) ∧ t < 7
def TrR (σ : St) (m t b : Nat) (s : TS) : Prop := (gI σ 1266 m t = (s.c : Int) ∧ gI σ 1282 m 0 = 0 ∧ s.c ≤ 400) ∧ ∀ i, i < s.c → NdR σ m t b s i
/-- those that are begun, the last at the end -/
def SkR (σ : St) (m t : Nat) (K : List (Nat × Int)) : Prop := gI σ 1285 m 0 = (K.length : Int) ∧ ∀ q x, K[q]? = some x → gI σ 1283 m q = ((400 * t + x.1 : Nat) : Int) ∧ gI σ 1284 m q = x.2
section R1
variable {g : GP} {l : Launch} {d : Nat} {σ σ' σ'' : St} {m t b i k : Nat} {En : List Enm} {Ss : List Stc} {s : TS} {h : Int → Int} {len im : Int} {K : List (Nat × Int)}
theorem OtT.trans (a : OtT m t σ σ') (c : OtT m t σ' σ'') : OtT m t σ σ'' := fun f j z => (c f j z).trans (a f j z)
theorem NsO.rfl : NsO m t σ σ := ⟨Frm.rfl, fun _ _ _ => Eq.refl _⟩
theorem NsO.trans (a : NsO m t σ σ') (c : NsO m t σ' σ'') : NsO m t σ σ'' := ⟨a.1.trans c.1, a.2.trans c.2⟩
theorem RyO.rfl : RyO m t σ σ := ⟨Frm.rfl, fun _ _ _ => Eq.refl _⟩
theorem RyO.trans (a : RyO m t σ σ') (c : RyO m t σ' σ'') : RyO m t σ σ'' := ⟨a.1.trans c.1, a.2.trans c.2⟩
theorem NsO.ry (a : NsO m t σ σ') : RyO m t σ σ' := ⟨a.1.mono (fun _ _ q => Or.inl q), a.2⟩
theorem NsO.wk (a : Frm (WkF m) σ σ') : NsO m t σ σ' := ⟨a.mono (fun f r q => ⟨q.1, by omega⟩), fun f j z => a.I (fun q => by omega) j⟩
/-- one row's place -/
theorem NsO.sI {f j : Nat} {v : Int} (hf : 1267 ≤ f ∧ f ≤ 1279) (hj : 400 * t ≤ j ∧ j < 400 * t + 400) : NsO m t σ (sI σ f m j v) :=
  ⟨Frm.sI ⟨Eq.refl _, by omega⟩, fun f' j' z => by rw [gI_sI, if_neg (by omega)]⟩
theorem EnR.ry (hE : EnR σ m t b En Ss im len h) (hO : RyO m t σ σ') : EnR σ' m t b En Ss im len h := by
  obtain ⟨e1, ⟨e2, e3⟩, e4, e5, e6, e7⟩ := hE
  have n : ∀ f r, f < 1266 ∨ (1280 ≤ f ∧ f ≤ 1281) → ¬ (NsF m f r ∨ (r = m ∧ 1283 ≤ f ∧ f ≤ 1285)) := fun f r z q => by
    rcases q with q | q
    · have := q.2; omega
    · omega
  exact ⟨e1.ag (hO.1.lc e1.1) (fun f j z => hO.1.I (n _ _ (by omega)) j), ⟨e2, e3.ag (fun f i z => ⟨hO.1.I (n _ _ (by omega)) i, hO.1.J (n _ _ (by omega)) i⟩)⟩, by rw [hO.1.I (n _ _ (by omega))]; exact e4, by rw [hO.1.I (n _ _ (by omega))]; exact e5, by rw [hO.1.I (n _ _ (by omega))]; exact e6, e7⟩
theorem SkR.ns (hS : SkR σ m t K) (hO : NsO m t σ σ') : SkR σ' m t K := by
  have n : ∀ f, 1283 ≤ f → f ≤ 1285 → ¬ NsF m f m := fun f z0 z1 q => by have := q.2; omega
  exact ⟨by rw [hO.1.I (n _ (by decide) (by decide))]; exact hS.1, fun q x hx => by rw [hO.1.I (n 1283 (by decide) (by decide)), hO.1.I (n 1284 (by decide) (by decide))]; exact hS.2 q x hx⟩
theorem EnR.fdr (hE : EnR σ m t b En Ss im len h) : FdR σ m b Ss := by
  obtain ⟨_, ⟨e2, e3⟩, _⟩ := hE
  refine ⟨e2, fun fl F hF => ?_⟩
  obtain ⟨f0, S, hS, hk⟩ := gF_some hF
  have l1 := (List.getElem?_eq_some_iff.mp hS).1
  have l2 := (List.getElem?_eq_some_iff.mp hk).1
  have l3 := e3.2.1
  obtain ⟨_, _, _, s4, s5⟩ := e3.2.2.2.2.2 _ S hS
  refine ⟨by omega, ?_⟩
  have := (s5 _ F hk).1
  rw [show 14 * (20 * b + (fl / 14).toNat) + (fl % 14).toNat = 280 * b + fl.toNat by omega] at this
  exact this
theorem EnR.evr (hE : EnR σ m t b En Ss im len h) (hT : TrR σ m t b s) (hI : TI Ss len s) (hU : TU Ss len s) (hB : ∀ fl F, gF Ss fl = some F → F.ki = 3 → BiO F.es 0 (8 * tw F.ty) ∧ F.es.length ≤ 12) : EvR σ m t b Ss s im len h :=
  ⟨hE.1, hE.fdr, hB, hT.1.2.2, hE.2.2.2.2.2, hT.2, fun a ha => hI.ndw hU ha, fun a ha z => ((hI.2 a ha).2.2.2 z).1, hE.2.2.1⟩
theorem TrR.wk (hT : TrR σ m t b s) (hF : Frm (fun f r => r = m ∧ (1283 ≤ f ∧ f ≤ 1289)) σ σ') : TrR σ' m t b s :=
  ⟨⟨by rw [hF.I (fun q => by omega)]; exact hT.1.1, by rw [hF.I (fun q => by omega)]; exact hT.1.2.1, hT.1.2.2⟩, fun i hi => (hT.2 i hi).ag (fun f j z0 z1 => hF.I (fun q => by omega) j)⟩
theorem TrR.w {f fr : Nat} {v : Int} (hT : TrR σ m t b s) (hk : k < s.c) (hf : f = 2 ∧ fr = 1269 ∨ f = 3 ∧ fr = 1272 ∨ f = 4 ∧ fr = 1279 ∧ (v = 0 ∨ v = 1)) : TrR (sI σ fr m (400 * t + k) v) m t b (s.w f k v) := by
  obtain ⟨⟨t1, t2, t3⟩, t4⟩ := hT
  have o : ∀ f' j, ¬ (f' = fr ∧ j = 400 * t + k) → gI (sI σ fr m (400 * t + k) v) f' m j = gI σ f' m j := fun f' j z => by rw [gI_sI, if_neg (fun q => z ⟨q.1, q.2.2⟩)]
  refine ⟨⟨by rw [o _ _ (by omega)]; exact t1, by rw [o _ _ (by omega)]; exact t2, t3⟩, fun i hi => ?_⟩
  obtain ⟨n1, n2, n3, n4, n5, n6, n7, n8, n9, n10, n11, n12, n13⟩ := t4 i hi
  by_cases e : i = k
  · subst e
    rcases hf with ⟨rfl, rfl⟩ | ⟨rfl, rfl⟩ | ⟨rfl, rfl, hv⟩
    · have dN : ∀ f', ¬ f' = 2 → (s.w 2 i v).d f' i = s.d f' i := fun f' z => w_ne z
      have gN : ∀ f', ¬ f' = 1269 → gI (sI σ 1269 m (400 * t + i) v) f' m (400 * t + i) = gI σ f' m (400 * t + i) := fun f' z => o f' _ (fun q => z q.1)
      exact ⟨by rw [gN 1267 (by decide), dN 0 (by decide)]; exact n1, by rw [gN 1268 (by decide), dN 1 (by decide)]; exact n2, by rw [gI_slf, w_at], by rw [gN 1272 (by decide), dN 3 (by decide)]; exact n4, by rw [gN 1279 (by decide), dN 4 (by decide)]; exact n5, by rw [gN 1270 (by decide), dN 5 (by decide)]; exact n6, by rw [gN 1274 (by decide), dN 6 (by decide)]; exact n7, by rw [gN 1273 (by decide), dN 7 (by decide)]; exact n8, by rw [gN 1275 (by decide), dN 8 (by decide)]; exact n9, by rw [gN 1271 (by decide)]; exact n10, by rw [gN 1276 (by decide)]; exact n11, by rw [gN 1277 (by decide)]; exact n12, fun j a ha => by rw [gI_sI, if_neg (by simp)]; exact n13.1 j a ha, by rw [gN 1278 (by decide), gN 1279 (by decide)]; exact n13.2⟩
    · have dN : ∀ f', ¬ f' = 3 → (s.w 3 i v).d f' i = s.d f' i := fun f' z => w_ne z
      have gN : ∀ f', ¬ f' = 1272 → gI (sI σ 1272 m (400 * t + i) v) f' m (400 * t + i) = gI σ f' m (400 * t + i) := fun f' z => o f' _ (fun q => z q.1)
      exact ⟨by rw [gN 1267 (by decide), dN 0 (by decide)]; exact n1, by rw [gN 1268 (by decide), dN 1 (by decide)]; exact n2, by rw [gN 1269 (by decide), dN 2 (by decide)]; exact n3, by rw [gI_slf, w_at], by rw [gN 1279 (by decide), dN 4 (by decide)]; exact n5, by rw [gN 1270 (by decide), dN 5 (by decide)]; exact n6, by rw [gN 1274 (by decide), dN 6 (by decide)]; exact n7, by rw [gN 1273 (by decide), dN 7 (by decide)]; exact n8, by rw [gN 1275 (by decide), dN 8 (by decide)]; exact n9, by rw [gN 1271 (by decide)]; exact n10, by rw [gN 1276 (by decide)]; exact n11, by rw [gN 1277 (by decide)]; exact n12, fun j a ha => by rw [gI_sI, if_neg (by simp)]; exact n13.1 j a ha, by rw [gN 1278 (by decide), gN 1279 (by decide)]; exact n13.2⟩
    · have dN : ∀ f', ¬ f' = 4 → (s.w 4 i v).d f' i = s.d f' i := fun f' z => w_ne z
      have gN : ∀ f', ¬ f' = 1279 → gI (sI σ 1279 m (400 * t + i) v) f' m (400 * t + i) = gI σ f' m (400 * t + i) := fun f' z => o f' _ (fun q => z q.1)
      exact ⟨by rw [gN 1267 (by decide), dN 0 (by decide)]; exact n1, by rw [gN 1268 (by decide), dN 1 (by decide)]; exact n2, by rw [gN 1269 (by decide), dN 2 (by decide)]; exact n3, by rw [gN 1272 (by decide), dN 3 (by decide)]; exact n4, by rw [gI_slf, w_at], by rw [gN 1270 (by decide), dN 5 (by decide)]; exact n6, by rw [gN 1274 (by decide), dN 6 (by decide)]; exact n7, by rw [gN 1273 (by decide), dN 7 (by decide)]; exact n8, by rw [gN 1275 (by decide), dN 8 (by decide)]; exact n9, by rw [gN 1271 (by decide)]; exact n10, by rw [gN 1276 (by decide)]; exact n11, by rw [gN 1277 (by decide)]; exact n12, fun j a ha => by rw [gI_sI, if_neg (by simp)]; exact n13.1 j a ha, by rw [gN 1278 (by decide), gI_slf]; exact ⟨n13.2.1, hv⟩⟩
  · have dI : ∀ f', (s.w f k v).d f' i = s.d f' i := fun f' => w_nk e
    have gO : ∀ f', gI (sI σ fr m (400 * t + k) v) f' m (400 * t + i) = gI σ f' m (400 * t + i) := fun f' => o f' _ (fun q => by omega)
    unfold NdR
    rw [dI, dI, dI, dI, dI, dI, dI, dI, dI, gO, gO, gO, gO, gO, gO, gO, gO, gO, gO, gO, gO, gO]
    exact ⟨n1, n2, n3, n4, n5, n6, n7, n8, n9, n10, n11, n12, fun j a ha => by rw [o _ _ (by rcases hf with q | q | q <;> omega)]; exact n13.1 j a ha, n13.2⟩
theorem SkR.push {n : Nat} {x : Int} (hS : SkR σ m t K) : SkR (sI (sI (sI σ 1283 m K.length ((400 * t + n : Nat) : Int)) 1284 m K.length x) 1285 m 0 ((K.length : Int) + 1)) m t (K ++ [(n, x)]) := by
  refine ⟨by rw [gI_slf, app_l]; omega, fun q y hy => ?_⟩
  rcases app_q hy with ⟨lt, hy⟩ | ⟨eq, ey⟩
  · rw [gI_sI, if_neg (by simp), gI_sI, if_neg (by simp), gI_sI, if_neg (by omega), gI_sI, if_neg (by simp), gI_sI, if_neg (by omega), gI_sI, if_neg (by simp)]
    exact hS.2 q y hy
  · rw [eq, ey, gI_sI, if_neg (by simp), gI_sI, if_neg (by simp), gI_slf, gI_sI, if_neg (by simp), gI_slf]
    exact ⟨rfl, rfl⟩
theorem SkR.set {x y : Int} {n : Nat} (hS : SkR σ m t (K ++ [(n, x)])) : SkR (sI σ 1284 m K.length y) m t (K ++ [(n, y)]) := by
  obtain ⟨s1, s2⟩ := hS
  refine ⟨by rw [gI_sI, if_neg (by simp), s1, app_l, app_l], fun q z hz => ?_⟩
  rcases app_q hz with ⟨lt, hz⟩ | ⟨eq, ez⟩
  · rw [gI_sI, if_neg (by simp), gI_sI, if_neg (by omega)]
    exact s2 q z (by rw [List.getElem?_append_left lt]; exact hz)
  · rw [eq, ez, gI_sI, if_neg (by simp), gI_slf]
    exact ⟨(s2 K.length (n, x) (by rw [List.getElem?_append_right (Nat.le_refl _), Nat.sub_self]; rfl)).1, rfl⟩
theorem s2' {x : Int} {n : Nat} (hS : SkR σ m t (K ++ [(n, x)])) : gI σ 1283 m K.length = ((400 * t + n : Nat) : Int) ∧ gI σ 1284 m K.length = x := hS.2 K.length (n, x) (by rw [List.getElem?_append_right (Nat.le_refl _), Nat.sub_self]; rfl)
theorem SkR.top {x : Int} {n : Nat} (hS : SkR σ m t (K ++ [(n, x)])) : gI σ 1285 m 0 = (K.length : Int) + 1 ∧ gI σ 1283 m K.length = ((400 * t + n : Nat) : Int) ∧ gI σ 1284 m K.length = x := by
  obtain ⟨a, c⟩ := s2' hS
  exact ⟨by rw [hS.1, app_l]; omega, a, c⟩
theorem SkR.pop {x : Int} {n : Nat} (hS : SkR σ m t (K ++ [(n, x)])) : SkR (sI σ 1285 m 0 (K.length : Int)) m t K :=
  ⟨gI_slf _ _ _ _ _, fun q y hy => by
    have lt := (List.getElem?_eq_some_iff.mp hy).1
    rw [gI_sI, if_neg (by simp), gI_sI, if_neg (by simp)]
    exact hS.2 q y (by rw [List.getElem?_append_left lt]; exact hy)⟩
end R1
