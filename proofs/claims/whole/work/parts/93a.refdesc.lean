/-! the reference's descriptions: frames by places -/
def RG0 (m : Nat) (f r : Nat) : Prop := r = m ∧ 1213 ≤ f ∧ f ≤ 1262 ∧ ¬ f = 1218
/-- the stores differ at the places R of the reference's rows alone -/
def Out (m : Nat) (R : Nat → Nat → Prop) (σ σ' : St) : Prop := Frm (RG0 m) σ σ' ∧ ∀ f i, ¬ R f i → gI σ' f m i = gI σ f m i ∧ gJ σ' f m i = gJ σ f m i
theorem Out.rfl {m : Nat} {R : Nat → Nat → Prop} {σ : St} : Out m R σ σ := ⟨Frm.rfl, fun _ _ _ => ⟨Eq.refl _, Eq.refl _⟩⟩
theorem Out.trans {m : Nat} {R : Nat → Nat → Prop} {a b c : St} (h : Out m R a b) (k : Out m R b c) : Out m R a c := ⟨h.1.trans k.1, fun f i hn => ⟨(k.2 f i hn).1.trans (h.2 f i hn).1, (k.2 f i hn).2.trans (h.2 f i hn).2⟩⟩
theorem Out.mono {m : Nat} {R R' : Nat → Nat → Prop} {a b : St} (h : Out m R a b) (hR : ∀ f i, R f i → R' f i) : Out m R' a b := ⟨h.1, fun f i hn => h.2 f i (fun q => hn (hR f i q))⟩
theorem Out.sI {m f i : Nat} {R : Nat → Nat → Prop} {σ : St} {v : Int} (h : R f i) (hf : 1213 ≤ f ∧ f ≤ 1262 ∧ ¬ f = 1218) : Out m R σ (sI σ f m i v) :=
  ⟨Frm.sI ⟨Eq.refl _, hf⟩, fun f' i' hn => ⟨by rw [gI_sI, if_neg (fun q => hn (by rw [q.1, q.2.2]; exact h))], Eq.refl _⟩⟩
theorem Out.sJ {m f i : Nat} {R : Nat → Nat → Prop} {σ : St} {v : Int64} (h : R f i) (hf : 1213 ≤ f ∧ f ≤ 1262 ∧ ¬ f = 1218) : Out m R σ (sJ σ f m i v) :=
  ⟨Frm.sJ ⟨Eq.refl _, hf⟩, fun f' i' hn => ⟨Eq.refl _, by rw [gJ_sJ, if_neg (fun q => hn (by rw [q.1, q.2.2]; exact h))]⟩⟩
theorem Out.of {m : Nat} {P : Nat → Nat → Prop} {R : Nat → Nat → Prop} {a b : St} (h : Frm P a b) (hP : ∀ f r, P f r → r = m ∧ 1213 ≤ f ∧ f ≤ 1262 ∧ ¬ f = 1218) (hR : ∀ f i, P f m → R f i) : Out m R a b :=
  ⟨h.mono hP, fun f i hn => ⟨h.I (fun q => hn (hR f i q)) i, h.J (fun q => hn (hR f i q)) i⟩⟩
/-- what the tokens and the signs of the parser change -/
def RTk (f _i : Nat) : Prop := (1213 ≤ f ∧ f ≤ 1217) ∨ f = 1246 ∨ f = 1250 ∨ f = 1251 ∨ f = 1252 ∨ (1255 ≤ f ∧ f ≤ 1261)
/-- a field fd of base b, its nodes from lo on -/
def RFd (b fd lo la : Nat) (f i : Nat) : Prop := RTk f i ∨ (1228 ≤ f ∧ f ≤ 1238 ∧ i = fd) ∨ (1239 ≤ f ∧ f ≤ 1241 ∧ 16 * fd ≤ i ∧ i < 16 * fd + 16) ∨ (((1242 ≤ f ∧ f ≤ 1245) ∨ f = 1262) ∧ lo ≤ i ∧ i < 3000 * b + 3000) ∨ (1247 ≤ f ∧ f ≤ 1249 ∧ la ≤ i)
/-- an expr of base b -/
def XR (σ : St) (m b : Nat) (a : Int) (e : Exr) : Prop :=
  match e with
  | none => a = -1
  | some N => ∃ nb : Nat, a = ((nb + N.length - 1 : Nat) : Int) ∧ 1 ≤ N.length ∧ 3000 * b ≤ nb ∧ nb + N.length ≤ 3000 * b + 3000 ∧ RN σ m nb N ∧ gI σ 1262 m (nb + N.length - 1) = (nb : Int)
/-- ends below hi -/
def XL (a : Int) (hi : Nat) : Prop := a < (hi : Int)
theorem XR.out {σ σ' : St} {m b hi : Nat} {R : Nat → Nat → Prop} {a : Int} {e : Exr} (h : XR σ m b a e) (hl : XL a hi) (hO : Out m R σ σ') (hR : ∀ f i, ((1242 ≤ f ∧ f ≤ 1245) ∨ f = 1262) → 3000 * b ≤ i → i < hi → i < 3000 * b + 3000 → ¬ R f i) : XR σ' m b a e := by
  match e, h with
  | none, h => exact h
  | some N, h =>
    obtain ⟨nb, h1, h2, h3, h4, h5, h6⟩ := h
    unfold XL at hl
    refine ⟨nb, h1, h2, h3, h4, fun j x hx => ?_, ?_⟩
    · have hj := (List.getElem?_eq_some_iff.mp hx).1
      rw [(hO.2 1242 (nb + j) (hR _ _ (by omega) (by omega) (by omega) (by omega))).1, (hO.2 1243 (nb + j) (hR _ _ (by omega) (by omega) (by omega) (by omega))).1, (hO.2 1244 (nb + j) (hR _ _ (by omega) (by omega) (by omega) (by omega))).1, (hO.2 1245 (nb + j) (hR _ _ (by omega) (by omega) (by omega) (by omega))).2]
      exact h5 j x hx
    · rw [(hO.2 1262 (nb + N.length - 1) (hR _ _ (by omega) (by omega) (by omega) (by omega))).1]
      exact h6
/-- a field in the making -/
def PR (σ : St) (m b fd : Nat) (F : Fld) : Prop :=
  XR σ m b (gI σ 1232 m fd) F.ec ∧ XR σ m b (gI σ 1233 m fd) F.e1 ∧ XR σ m b (gI σ 1234 m fd) F.e2 ∧ gI σ 1230 m fd = F.pr ∧ gI σ 1236 m fd = F.ot ∧ gI σ 1231 m fd = F.st ∧ gI σ 1237 m fd = (F.es.length : Int) ∧ (¬ F.nm = 0 → gJ σ 1238 m fd = rho F.nm) ∧ (¬ F.ty = 0 → gI σ 1229 m fd = F.ty.toInt) ∧
  ∀ p e, F.es[p]? = some e → (¬ e.1 = 0 → gJ σ 1239 m (16 * fd + p) = rho e.1) ∧ gJ σ 1240 m (16 * fd + p) = e.2.1 ∧ (F.ki = 6 → gI σ 1241 m (16 * fd + p) = e.2.2)
/-- its exprs end below hi -/
def PL (σ : St) (m fd hi : Nat) : Prop := XL (gI σ 1232 m fd) hi ∧ XL (gI σ 1233 m fd) hi ∧ XL (gI σ 1234 m fd) hi
def kR (F : Fld) : Int := if F.ki = 0 then 2 else if F.ki = 1 then 0 else if F.ki = 2 then (if F.st = -1 then 1 else 3) else if F.ki = 3 then 4 else if F.ki = 5 then (if F.e1 = none then 6 else 5) else if F.ki = 6 then 7 else if F.ki = 7 then 8 else if F.ki = 8 then 9 else if F.ki = 9 then 10 else 11
def FR (σ : St) (m b fd : Nat) (F : Fld) : Prop := PR σ m b fd F ∧ gI σ 1228 m fd = kR F ∧ ((F.ki = 7 ∨ F.ki = 8 ∨ (F.ki = 5 ∧ F.e1 = none)) → gI σ 1235 m fd = F.nu.toInt) ∧ (F.ki = 10 → gI σ 1235 m fd = F.nu.toInt - 217)
theorem PR.out {σ σ' : St} {m b fd hi : Nat} {R : Nat → Nat → Prop} {F : Fld} (h : PR σ m b fd F) (hl : PL σ m fd hi) (hO : Out m R σ σ') (hx : ∀ f i, ((1242 ≤ f ∧ f ≤ 1245) ∨ f = 1262) → 3000 * b ≤ i → i < hi → i < 3000 * b + 3000 → ¬ R f i) (hf : ∀ f, 1228 ≤ f → f ≤ 1238 → ¬ R f fd) (hp : ∀ f p, 1239 ≤ f → f ≤ 1241 → p < F.es.length → ¬ R f (16 * fd + p)) : PR σ' m b fd F ∧ PL σ' m fd hi := by
  obtain ⟨a1, a2, a3, a4, a5, a6, a7, a8, a9, a10⟩ := h
  have e : ∀ f, 1228 ≤ f → f ≤ 1238 → gI σ' f m fd = gI σ f m fd ∧ gJ σ' f m fd = gJ σ f m fd := fun f h0 h1 => hO.2 f fd (hf f h0 h1)
  refine ⟨⟨?_, ?_, ?_, ?_, ?_, ?_, ?_, fun q => ?_, fun q => ?_, fun p x hpx => ?_⟩, ?_⟩
  · rw [(e 1232 (by decide) (by decide)).1]; exact a1.out hl.1 hO hx
  · rw [(e 1233 (by decide) (by decide)).1]; exact a2.out hl.2.1 hO hx
  · rw [(e 1234 (by decide) (by decide)).1]; exact a3.out hl.2.2 hO hx
  · rw [(e 1230 (by decide) (by decide)).1]; exact a4
  · rw [(e 1236 (by decide) (by decide)).1]; exact a5
  · rw [(e 1231 (by decide) (by decide)).1]; exact a6
  · rw [(e 1237 (by decide) (by decide)).1]; exact a7
  · rw [(e 1238 (by decide) (by decide)).2]; exact a8 q
  · rw [(e 1229 (by decide) (by decide)).1]; exact a9 q
  · have lt := (List.getElem?_eq_some_iff.mp hpx).1
    rw [(hO.2 1239 _ (hp 1239 p (by decide) (by decide) lt)).2, (hO.2 1240 _ (hp 1240 p (by decide) (by decide) lt)).2, (hO.2 1241 _ (hp 1241 p (by decide) (by decide) lt)).1]
    exact a10 p x hpx
  · unfold PL
    rw [(e 1232 (by decide) (by decide)).1, (e 1233 (by decide) (by decide)).1, (e 1234 (by decide) (by decide)).1]; exact hl
theorem FR.out {σ σ' : St} {m b fd hi : Nat} {R : Nat → Nat → Prop} {F : Fld} (h : FR σ m b fd F) (hl : PL σ m fd hi) (hO : Out m R σ σ') (hx : ∀ f i, ((1242 ≤ f ∧ f ≤ 1245) ∨ f = 1262) → 3000 * b ≤ i → i < hi → i < 3000 * b + 3000 → ¬ R f i) (hf : ∀ f, 1228 ≤ f → f ≤ 1238 → ¬ R f fd) (hp : ∀ f p, 1239 ≤ f → f ≤ 1241 → p < F.es.length → ¬ R f (16 * fd + p)) : FR σ' m b fd F ∧ PL σ' m fd hi := by
  obtain ⟨a1, a2, a3, a4⟩ := h
  obtain ⟨b1, b2⟩ := a1.out hl hO hx hf hp
  refine ⟨⟨b1, ?_, fun q => ?_, fun q => ?_⟩, b2⟩
  · rw [(hO.2 1228 fd (hf _ (by decide) (by decide))).1]; exact a2
  · rw [(hO.2 1235 fd (hf _ (by decide) (by decide))).1]; exact a3 q
  · rw [(hO.2 1235 fd (hf _ (by decide) (by decide))).1]; exact a4 q
def SR (σ : St) (m b hi s : Nat) (S : Stc) : Prop := gJ σ 1221 m (20 * b + s) = rho S.1 ∧ gI σ 1222 m (20 * b + s) = (S.2.1.length : Int) ∧ gI σ 1223 m (20 * b + s) = S.2.2 ∧ S.2.1.length ≤ 14 ∧ ∀ k F, S.2.1[k]? = some F → FR σ m b (14 * (20 * b + s) + k) F ∧ PL σ m (14 * (20 * b + s) + k) hi
def NR (σ : St) (m b e : Nat) (E : Enm) : Prop := gJ σ 1224 m (8 * b + e) = rho E.1 ∧ gI σ 1225 m (8 * b + e) = (E.2.length : Int) ∧ E.2.length ≤ 10 ∧ ∀ j x, E.2[j]? = some x → gJ σ 1226 m (10 * (8 * b + e) + j) = rho x.1 ∧ gJ σ 1227 m (10 * (8 * b + e) + j) = x.2.1
/-- the description of base b, its nodes below hi -/
def DR (σ : St) (m b hi : Nat) (En : List Enm) (Ss : List Stc) : Prop :=
  gI σ 1219 m b = (Ss.length : Int) ∧ Ss.length ≤ 20 ∧ gI σ 1220 m b = (En.length : Int) ∧ En.length ≤ 8 ∧ (∀ e E, En[e]? = some E → NR σ m b e E) ∧ ∀ s S, Ss[s]? = some S → SR σ m b hi s S
theorem DR.out {σ σ' : St} {m b hi : Nat} {R : Nat → Nat → Prop} {En : List Enm} {Ss : List Stc} (h : DR σ m b hi En Ss) (hO : Out m R σ σ') (hW : ∀ (s : Nat) (S : Stc), Ss[s]? = some S → ∀ F ∈ S.2.1, F.es.length ≤ 16) (hx : ∀ f i, ((1242 ≤ f ∧ f ≤ 1245) ∨ f = 1262) → 3000 * b ≤ i → i < hi → i < 3000 * b + 3000 → ¬ R f i) (h1 : ∀ f, f = 1219 ∨ f = 1220 → ¬ R f b) (h2 : ∀ f s, 1221 ≤ f → f ≤ 1223 → s < Ss.length → ¬ R f (20 * b + s)) (h3 : ∀ f e, 1224 ≤ f → f ≤ 1225 → e < En.length → ¬ R f (8 * b + e)) (h4 : ∀ f e j, 1226 ≤ f → f ≤ 1227 → e < En.length → j < 10 → ¬ R f (10 * (8 * b + e) + j))
    (h5 : ∀ f s k, 1228 ≤ f → f ≤ 1238 → s < Ss.length → k < 14 → ¬ R f (14 * (20 * b + s) + k)) (h6 : ∀ f s k p, 1239 ≤ f → f ≤ 1241 → s < Ss.length → k < 14 → p < 16 → ¬ R f (16 * (14 * (20 * b + s) + k) + p)) : DR σ' m b hi En Ss := by
  obtain ⟨a1, a2, a3, a4, a5, a6⟩ := h
  refine ⟨by rw [(hO.2 1219 b (h1 _ (by omega))).1]; exact a1, a2, by rw [(hO.2 1220 b (h1 _ (by omega))).1]; exact a3, a4, fun e E hE => ?_, fun s S hS => ?_⟩
  · have he := (List.getElem?_eq_some_iff.mp hE).1
    obtain ⟨b1, b2, b3, b4⟩ := a5 e E hE
    refine ⟨by rw [(hO.2 1224 _ (h3 _ e (by omega) (by omega) he)).2]; exact b1, by rw [(hO.2 1225 _ (h3 _ e (by omega) (by omega) he)).1]; exact b2, b3, fun j x hj => ?_⟩
    have lt := (List.getElem?_eq_some_iff.mp hj).1
    rw [(hO.2 1226 _ (h4 _ e j (by omega) (by omega) he (by omega))).2, (hO.2 1227 _ (h4 _ e j (by omega) (by omega) he (by omega))).2]
    exact b4 j x hj
  · have hs := (List.getElem?_eq_some_iff.mp hS).1
    obtain ⟨b1, b2, b3, b4, b5⟩ := a6 s S hS
    refine ⟨by rw [(hO.2 1221 _ (h2 _ s (by omega) (by omega) hs)).2]; exact b1, by rw [(hO.2 1222 _ (h2 _ s (by omega) (by omega) hs)).1]; exact b2, by rw [(hO.2 1223 _ (h2 _ s (by omega) (by omega) hs)).1]; exact b3, b4, fun k F hk => ?_⟩
    have lt := (List.getElem?_eq_some_iff.mp hk).1
    obtain ⟨c1, c2⟩ := b5 k F hk
    exact c1.out c2 hO hx (fun f z0 z1 => h5 f s k z0 z1 hs (by omega)) (fun f p z0 z1 z2 => h6 f s k p z0 z1 hs (by omega) (by have := hW s S hS F (List.mem_of_getElem? hk); omega))
