/-! the reference's expressions -/
def opR (o : Int) : Int :=
  if o = 3 then 0 else if o = 2 then 1 else if o = 212 then 2 else if o = 222 then 3 else if o = 223 then 4 else if o = 5 then 5 else if o = 226 then 6 else if o = 43 then 7 else if o = 45 then 8 else if o = 42 then 9 else if o = 47 then 10 else if o = 37 then 11 else if o = 38 then 12 else if o = 61 then 13 else if o = 60 then 14 else if o = 62 then 15 else if o = 224 then 16 else 17
def stR (o : Int) : Int := if o = 17 then 1 else if o = 16 then 2 else if 13 ≤ o ∧ o ≤ 15 then 3 else if o = 7 ∨ o = 8 then 4 else if 9 ≤ o ∧ o ≤ 12 then 5 else if o = 18 then 0 else 6
theorem lv_cases {o : Int} (h : 0 ≤ lv o) : o = 225 ∨ o = 224 ∨ o = 61 ∨ o = 60 ∨ o = 62 ∨ o = 43 ∨ o = 45 ∨ o = 42 ∨ o = 47 ∨ o = 37 ∨ o = 38 := by
  unfold lv at h
  split at h
  · omega
  split at h
  · omega
  split at h
  · omega
  split at h
  · omega
  split at h
  · omega
  · omega
theorem st_lv {o : Int} (h : 0 ≤ lv o) : stR (opR o) = lv o + 1 ∧ ¬ opR o = 18 ∧ ¬ isLf o ∧ ¬ isUn o ∧ 7 ≤ opR o ∧ lv o ≤ 4 := by
  rcases lv_cases h with rfl | rfl | rfl | rfl | rfl | rfl | rfl | rfl | rfl | rfl | rfl <;> exact ⟨by decide, by decide, by decide, by decide, by decide, by decide⟩
theorem st_un {o : Int} (h : isUn o) : stR (opR o) = 6 ∧ ¬ opR o = 18 ∧ ¬ isLf o ∧ (opR o = 5 ∨ opR o = 6) := by
  rcases h with rfl | rfl <;> exact ⟨by decide, by decide, by decide, by decide⟩
/-- a name: the field's number times 13 and its part to the class, times 16 to the reference -/
def cv (c : Int) : Int := 16 * (c / 13) + c % 13
def lfR (b : Nat) (x : Nd) : Int := if isLf x.o then -1 else ((b + x.a : Nat) : Int)
def rtR (b : Nat) (x : Nd) : Int := if isLf x.o ∨ isUn x.o then -1 else ((b + x.b : Nat) : Int)
def vlR (x : Nd) : Int64 := if x.o = 3 then x.v else if x.o = 2 then i2j (cv x.v.toInt) else 0
def RN (σ : St) (m b : Nat) (N : List Nd) : Prop := ∀ j x, N[j]? = some x → gI σ 1242 m (b + j) = opR x.o ∧ gI σ 1243 m (b + j) = lfR b x ∧ gI σ 1244 m (b + j) = rtR b x ∧ gJ σ 1245 m (b + j) = vlR x
def RFr (m : Nat) (f r : Nat) : Prop := r = m ∧ ((1213 ≤ f ∧ f ≤ 1217) ∨ (1242 ≤ f ∧ f ≤ 1246) ∨ f = 1251 ∨ f = 1252 ∨ f = 1255 ∨ (1258 ≤ f ∧ f ≤ 1261))
def RS (σ0 τ : St) (m : Nat) (X : Txt) (b Z i : Nat) (N : List Nd) (W : List Int) (H : List Nat) (n : Nat) : Prop :=
  (Frm (RFr m) σ0 τ) ∧
  (∀ j f : Nat, j < b ∨ Z ≤ j → 1242 ≤ f → f ≤ 1245 → gI τ f m j = gI σ0 f m j ∧ gJ τ f m j = gJ σ0 f m j) ∧
  (RT τ m X i) ∧
  (gI τ 1246 m 0 = ((b + N.length : Nat) : Int)) ∧
  (RN τ m b N) ∧
  (gI τ 1260 m 0 = (W.length : Int)) ∧
  (∀ j x, W[j]? = some x → gI τ 1258 m j = x) ∧
  (gI τ 1261 m 0 = (H.length : Int)) ∧
  (∀ j x, H[j]? = some x → gI τ 1259 m j = ((b + x : Nat) : Int)) ∧
  (gI τ 1255 m 0 = (n : Int)) ∧
  (gI τ 1251 m 0 = 0)
theorem RS.F {σ0 τ : St} {m : Nat} {X : Txt} {b Z i : Nat} {N : List Nd} {W : List Int} {H : List Nat} {n : Nat} (x : RS σ0 τ m X b Z i N W H n) : Frm (RFr m) σ0 τ := x.1
theorem RS.A {σ0 τ : St} {m : Nat} {X : Txt} {b Z i : Nat} {N : List Nd} {W : List Int} {H : List Nat} {n : Nat} (x : RS σ0 τ m X b Z i N W H n) : ∀ j f : Nat, j < b ∨ Z ≤ j → 1242 ≤ f → f ≤ 1245 → gI τ f m j = gI σ0 f m j ∧ gJ τ f m j = gJ σ0 f m j := x.2.1
theorem RS.T {σ0 τ : St} {m : Nat} {X : Txt} {b Z i : Nat} {N : List Nd} {W : List Int} {H : List Nat} {n : Nat} (x : RS σ0 τ m X b Z i N W H n) : RT τ m X i := x.2.2.1
theorem RS.c {σ0 τ : St} {m : Nat} {X : Txt} {b Z i : Nat} {N : List Nd} {W : List Int} {H : List Nat} {n : Nat} (x : RS σ0 τ m X b Z i N W H n) : gI τ 1246 m 0 = ((b + N.length : Nat) : Int) := x.2.2.2.1
theorem RS.R {σ0 τ : St} {m : Nat} {X : Txt} {b Z i : Nat} {N : List Nd} {W : List Int} {H : List Nat} {n : Nat} (x : RS σ0 τ m X b Z i N W H n) : RN τ m b N := x.2.2.2.2.1
theorem RS.w {σ0 τ : St} {m : Nat} {X : Txt} {b Z i : Nat} {N : List Nd} {W : List Int} {H : List Nat} {n : Nat} (x : RS σ0 τ m X b Z i N W H n) : gI τ 1260 m 0 = (W.length : Int) := x.2.2.2.2.2.1
theorem RS.ws {σ0 τ : St} {m : Nat} {X : Txt} {b Z i : Nat} {N : List Nd} {W : List Int} {H : List Nat} {n : Nat} (x : RS σ0 τ m X b Z i N W H n) : ∀ j x, W[j]? = some x → gI τ 1258 m j = x := x.2.2.2.2.2.2.1
theorem RS.h {σ0 τ : St} {m : Nat} {X : Txt} {b Z i : Nat} {N : List Nd} {W : List Int} {H : List Nat} {n : Nat} (x : RS σ0 τ m X b Z i N W H n) : gI τ 1261 m 0 = (H.length : Int) := x.2.2.2.2.2.2.2.1
theorem RS.hs {σ0 τ : St} {m : Nat} {X : Txt} {b Z i : Nat} {N : List Nd} {W : List Int} {H : List Nat} {n : Nat} (x : RS σ0 τ m X b Z i N W H n) : ∀ j x, H[j]? = some x → gI τ 1259 m j = ((b + x : Nat) : Int) := x.2.2.2.2.2.2.2.2.1
theorem RS.dp {σ0 τ : St} {m : Nat} {X : Txt} {b Z i : Nat} {N : List Nd} {W : List Int} {H : List Nat} {n : Nat} (x : RS σ0 τ m X b Z i N W H n) : gI τ 1255 m 0 = (n : Int) := x.2.2.2.2.2.2.2.2.2.1
theorem RS.bd {σ0 τ : St} {m : Nat} {X : Txt} {b Z i : Nat} {N : List Nd} {W : List Int} {H : List Nat} {n : Nat} (x : RS σ0 τ m X b Z i N W H n) : gI τ 1251 m 0 = 0 := x.2.2.2.2.2.2.2.2.2.2
theorem app_q {α : Type} {W : List α} {o : α} {j : Nat} {x : α} (h : (W ++ [o])[j]? = some x) : (j < W.length ∧ W[j]? = some x) ∨ (j = W.length ∧ x = o) := by
  have hlt := (List.getElem?_eq_some_iff.mp h).1
  rw [List.length_append] at hlt
  have hlt : j < W.length + 1 := hlt
  by_cases e : j = W.length
  · rw [e, List.getElem?_append_right (Nat.le_refl _), Nat.sub_self] at h
    cases h
    exact Or.inr ⟨e, rfl⟩
  · rw [List.getElem?_append_left (by omega)] at h
    exact Or.inl ⟨by omega, h⟩
theorem app_l {α : Type} {W : List α} {o : α} : (W ++ [o]).length = W.length + 1 := by rw [List.length_append]; rfl
theorem app_in {α : Type} {W : List α} {V : List α} {j : Nat} {x : α} (h : W[j]? = some x) : (W ++ V)[j]? = some x := by
  rw [List.getElem?_append_left (List.getElem?_eq_some_iff.mp h).1]; exact h
theorem app_at {α : Type} {W : List α} {o : α} : (W ++ [o])[W.length]? = some o := by
  rw [List.getElem?_append_right (Nat.le_refl _), Nat.sub_self]; rfl
section RSL
variable {σ0 τ : St} {m b Z i : Nat} {X : Txt} {N : List Nd} {W : List Int} {H : List Nat} {n : Nat}
theorem RS.next {τ' : St} {i' : Nat} (s : RS σ0 τ m X b Z i N W H n) (hF : Frm (fun f r => r = m ∧ (1213 ≤ f ∧ f ≤ 1217)) τ τ') (hT : RT τ' m X i') : RS σ0 τ' m X b Z i' N W H n := by
  refine ⟨?_, ?_, ?_, ?_, ?_, ?_, ?_, ?_, ?_, ?_, ?_⟩
  · exact (s.F.trans (hF.mono (fun f r z => ⟨z.1, Or.inl z.2⟩)))
  · exact (fun j f hj f0 f1 => by rw [hF.I (fun q => by omega), hF.J (fun q => by omega)]; exact s.A j f hj f0 f1)
  · exact (hT)
  · exact (by rw [hF.I (by simp)]; exact s.c)
  · exact (fun j x hx => by rw [hF.I (f := 1242) (by simp), hF.I (f := 1243) (by simp), hF.I (f := 1244) (by simp), hF.J (f := 1245) (by simp)]; exact s.R j x hx)
  · exact (by rw [hF.I (by simp)]; exact s.w)
  · exact (fun j x hx => by rw [hF.I (by simp)]; exact s.ws j x hx)
  · exact (by rw [hF.I (by simp)]; exact s.h)
  · exact (fun j x hx => by rw [hF.I (by simp)]; exact s.hs j x hx)
  · exact (by rw [hF.I (by simp)]; exact s.dp)
  · exact (by rw [hF.I (by simp)]; exact s.bd)
theorem RT.set {f r i0 : Nat} {v : Int} (h : RT τ m X i) (hf : 1217 < f) : RT (sI τ f r i0 v) m X i := h.frm (P := fun f' _ => f' = f) (Frm.sI rfl) (fun f' a b c => by omega)
theorem RS.deep (s : RS σ0 τ m X b Z i N W H n) {v : Int} {n' : Nat} (hv : v = n') : RS σ0 (sI τ 1255 m 0 v) m X b Z i N W H n' := by
  refine ⟨?_, ?_, ?_, ?_, ?_, ?_, ?_, ?_, ?_, ?_, ?_⟩
  · exact (s.F.trans (Frm.sI (by simp [RFr])))
  · exact (fun j f hj f0 f1 => by first | (rw [gI_sI, if_neg (by omega), gI_sI, if_neg (by omega), gJ_sI, gJ_sI]; exact s.A j f hj f0 f1) | (rw [gI_sI, if_neg (by omega), gJ_sI]; exact s.A j f hj f0 f1))
  · exact (s.T.set (by decide))
  · exact (by simp only [gI_sI, gJ_sI, false_and, if_false, Nat.reduceEqDiff]; exact s.c)
  · exact (fun j x hx => by simp only [gI_sI, gJ_sI, false_and, if_false, Nat.reduceEqDiff]; exact s.R j x hx)
  · exact (by simp only [gI_sI, gJ_sI, false_and, if_false, Nat.reduceEqDiff]; exact s.w)
  · exact (fun j x hx => by simp only [gI_sI, gJ_sI, false_and, if_false, Nat.reduceEqDiff]; exact s.ws j x hx)
  · exact (by simp only [gI_sI, gJ_sI, false_and, if_false, Nat.reduceEqDiff]; exact s.h)
  · exact (fun j x hx => by simp only [gI_sI, gJ_sI, false_and, if_false, Nat.reduceEqDiff]; exact s.hs j x hx)
  · exact (by rw [gI_slf]; exact hv)
  · exact (by simp only [gI_sI, gJ_sI, false_and, if_false, Nat.reduceEqDiff]; exact s.bd)
theorem RS.push (s : RS σ0 τ m X b Z i N W H n) {o v : Int} {k : Nat} (hk : k = W.length) (hv : v = W.length + 1) : RS σ0 (sI (sI τ 1258 m k o) 1260 m 0 v) m X b Z i N (W ++ [o]) H n := by
  refine ⟨?_, ?_, ?_, ?_, ?_, ?_, ?_, ?_, ?_, ?_, ?_⟩
  · exact (s.F.trans ((Frm.sI (by simp [RFr])).trans (Frm.sI (by simp [RFr]))))
  · exact (fun j f hj f0 f1 => by first | (rw [gI_sI, if_neg (by omega), gI_sI, if_neg (by omega), gJ_sI, gJ_sI]; exact s.A j f hj f0 f1) | (rw [gI_sI, if_neg (by omega), gJ_sI]; exact s.A j f hj f0 f1))
  · exact ((s.T.set (by decide)).set (by decide))
  · exact (by simp only [gI_sI, gJ_sI, false_and, if_false, Nat.reduceEqDiff]; exact s.c)
  · exact (fun j x hx => by simp only [gI_sI, gJ_sI, false_and, if_false, Nat.reduceEqDiff]; exact s.R j x hx)
  · exact (by rw [gI_slf, app_l]; omega)
  · exact (fun j x hx => by
        simp only [gI_sI, true_and, false_and, if_false, Nat.reduceEqDiff]
        rcases app_q hx with ⟨a, q⟩ | ⟨a, rfl⟩
        · rw [if_neg (by omega)]; exact s.ws j x q
        · rw [if_pos (by omega)])
  · exact (by simp only [gI_sI, gJ_sI, false_and, if_false, Nat.reduceEqDiff]; exact s.h)
  · exact (fun j x hx => by simp only [gI_sI, gJ_sI, false_and, if_false, Nat.reduceEqDiff]; exact s.hs j x hx)
  · exact (by simp only [gI_sI, gJ_sI, false_and, if_false, Nat.reduceEqDiff]; exact s.dp)
  · exact (by simp only [gI_sI, gJ_sI, false_and, if_false, Nat.reduceEqDiff]; exact s.bd)
theorem RS.pop {o : Int} (s : RS σ0 τ m X b Z i N (W ++ [o]) H n) {v : Int} (hv : v = W.length) : RS σ0 (sI τ 1260 m 0 v) m X b Z i N W H n := by
  refine ⟨?_, ?_, ?_, ?_, ?_, ?_, ?_, ?_, ?_, ?_, ?_⟩
  · exact (s.F.trans (Frm.sI (by simp [RFr])))
  · exact (fun j f hj f0 f1 => by first | (rw [gI_sI, if_neg (by omega), gI_sI, if_neg (by omega), gJ_sI, gJ_sI]; exact s.A j f hj f0 f1) | (rw [gI_sI, if_neg (by omega), gJ_sI]; exact s.A j f hj f0 f1))
  · exact (s.T.set (by decide))
  · exact (by simp only [gI_sI, gJ_sI, false_and, if_false, Nat.reduceEqDiff]; exact s.c)
  · exact (fun j x hx => by simp only [gI_sI, gJ_sI, false_and, if_false, Nat.reduceEqDiff]; exact s.R j x hx)
  · exact (by rw [gI_slf]; exact hv)
  · exact (fun j x hx => by simp only [gI_sI, gJ_sI, false_and, if_false, Nat.reduceEqDiff]; exact s.ws j x (app_in hx))
  · exact (by simp only [gI_sI, gJ_sI, false_and, if_false, Nat.reduceEqDiff]; exact s.h)
  · exact (fun j x hx => by simp only [gI_sI, gJ_sI, false_and, if_false, Nat.reduceEqDiff]; exact s.hs j x hx)
  · exact (by simp only [gI_sI, gJ_sI, false_and, if_false, Nat.reduceEqDiff]; exact s.dp)
  · exact (by simp only [gI_sI, gJ_sI, false_and, if_false, Nat.reduceEqDiff]; exact s.bd)
theorem RS.hold {V : List Nat} (s : RS σ0 τ m X b Z i N W (H ++ V) n) {a v : Int} {k x : Nat} (hk : k = H.length) (ha : a = ((b + x : Nat) : Int)) (hv : v = H.length + 1) : RS σ0 (sI (sI τ 1259 m k a) 1261 m 0 v) m X b Z i N W (H ++ [x]) n := by
  refine ⟨?_, ?_, ?_, ?_, ?_, ?_, ?_, ?_, ?_, ?_, ?_⟩
  · exact (s.F.trans ((Frm.sI (by simp [RFr])).trans (Frm.sI (by simp [RFr]))))
  · exact (fun j f hj f0 f1 => by first | (rw [gI_sI, if_neg (by omega), gI_sI, if_neg (by omega), gJ_sI, gJ_sI]; exact s.A j f hj f0 f1) | (rw [gI_sI, if_neg (by omega), gJ_sI]; exact s.A j f hj f0 f1))
  · exact ((s.T.set (by decide)).set (by decide))
  · exact (by simp only [gI_sI, gJ_sI, false_and, if_false, Nat.reduceEqDiff]; exact s.c)
  · exact (fun j x hx => by simp only [gI_sI, gJ_sI, false_and, if_false, Nat.reduceEqDiff]; exact s.R j x hx)
  · exact (by simp only [gI_sI, gJ_sI, false_and, if_false, Nat.reduceEqDiff]; exact s.w)
  · exact (fun j x hx => by simp only [gI_sI, gJ_sI, false_and, if_false, Nat.reduceEqDiff]; exact s.ws j x hx)
  · exact (by rw [gI_slf, app_l]; omega)
  · exact (fun j x hx => by
        simp only [gI_sI, true_and, false_and, if_false, Nat.reduceEqDiff]
        rcases app_q hx with ⟨z, q⟩ | ⟨z, rfl⟩
        · rw [if_neg (by omega)]; exact s.hs j x (app_in q)
        · rw [if_pos (by omega)]; exact ha)
  · exact (by simp only [gI_sI, gJ_sI, false_and, if_false, Nat.reduceEqDiff]; exact s.dp)
  · exact (by simp only [gI_sI, gJ_sI, false_and, if_false, Nat.reduceEqDiff]; exact s.bd)
theorem RS.rehold {y : Nat} (s : RS σ0 τ m X b Z i N W (H ++ [y]) n) {a : Int} {k x : Nat} (hk : k = H.length) (ha : a = ((b + x : Nat) : Int)) : RS σ0 (sI τ 1259 m k a) m X b Z i N W (H ++ [x]) n := by
  refine ⟨?_, ?_, ?_, ?_, ?_, ?_, ?_, ?_, ?_, ?_, ?_⟩
  · exact (s.F.trans (Frm.sI (by simp [RFr])))
  · exact (fun j f hj f0 f1 => by first | (rw [gI_sI, if_neg (by omega), gI_sI, if_neg (by omega), gJ_sI, gJ_sI]; exact s.A j f hj f0 f1) | (rw [gI_sI, if_neg (by omega), gJ_sI]; exact s.A j f hj f0 f1))
  · exact (s.T.set (by decide))
  · exact (by simp only [gI_sI, gJ_sI, false_and, if_false, Nat.reduceEqDiff]; exact s.c)
  · exact (fun j x hx => by simp only [gI_sI, gJ_sI, false_and, if_false, Nat.reduceEqDiff]; exact s.R j x hx)
  · exact (by simp only [gI_sI, gJ_sI, false_and, if_false, Nat.reduceEqDiff]; exact s.w)
  · exact (fun j x hx => by simp only [gI_sI, gJ_sI, false_and, if_false, Nat.reduceEqDiff]; exact s.ws j x hx)
  · exact (by simp only [gI_sI, gJ_sI, false_and, if_false, Nat.reduceEqDiff]; rw [s.h, app_l, app_l])
  · exact (fun j x hx => by
        simp only [gI_sI, true_and, false_and, if_false, Nat.reduceEqDiff]
        rcases app_q hx with ⟨z, q⟩ | ⟨z, rfl⟩
        · rw [if_neg (by omega)]; exact s.hs j x (app_in q)
        · rw [if_pos (by omega)]; exact ha)
  · exact (by simp only [gI_sI, gJ_sI, false_and, if_false, Nat.reduceEqDiff]; exact s.dp)
  · exact (by simp only [gI_sI, gJ_sI, false_and, if_false, Nat.reduceEqDiff]; exact s.bd)
variable {g : GP} {l : Launch} {d : Nat}
theorem r_node {o a b' : Int} {v : Int64} {x : Nd} {P : Int → St → Prop} (s : RS σ0 τ m X b Z i N W H n) (h9 : b + N.length < Z) (hZ : Z ≤ 9000) (e1 : o = opR x.o) (e2 : a = lfR b x) (e3 : b' = rtR b x) (e4 : v = vlR x) (hp : ∀ τ', RS σ0 τ' m X b Z i (N ++ [x]) W H n → P ((b + N.length : Nat) : Int) τ') : ACi g l d MX12_node [vR 12 (some m), vI o, vI a, vI b', vJ v] τ P := by
  have sc := s.c
  have ec : (gI τ 1246 m 0).toNat = b + N.length := by omega
  refine AC.of mo_X12_node (Nat.le_of_ble_eq_true rfl) (bk_X12_node_0 ⟨s.T.1, ⟨by omega, by omega⟩, ⟨by omega, by omega⟩, _, rfl, ?_⟩)
  rw [ec, sc]
  refine hp _ ⟨?_, ?_, ?_, ?_, ?_, ?_, ?_, ?_, ?_, ?_, ?_⟩
  · exact s.F.trans ((Frm.sI (by simp [RFr])).trans ((Frm.sI (by simp [RFr])).trans ((Frm.sI (by simp [RFr])).trans ((Frm.sJ (by simp [RFr])).trans (Frm.sI (by simp [RFr]))))))
  · intro j f hj f0 f1
    rw [gI_sI, if_neg (by omega), gI_sJ, gI_sI, if_neg (by omega), gI_sI, if_neg (by omega), gI_sI, if_neg (by omega), gJ_sI, gJ_sJ, if_neg (by omega), gJ_sI, gJ_sI, gJ_sI]
    exact s.A j f hj f0 f1
  · exact s.T.frm (P := fun f r => 1217 < f) ((Frm.sI (by simp)).trans ((Frm.sI (by simp)).trans ((Frm.sI (by simp)).trans ((Frm.sJ (by simp)).trans (Frm.sI (by simp)))))) (fun f a b c => by omega)
  · rw [gI_slf, app_l]; omega
  · intro j y hy
    simp only [gI_sI, gI_sJ, gJ_sI, gJ_sJ, true_and, false_and, if_false, Nat.reduceEqDiff]
    rcases app_q hy with ⟨z, q⟩ | ⟨z, rfl⟩
    · have ne : ¬ b + j = b + N.length := by omega
      simp only [if_neg ne]
      exact s.R j y q
    · have ee : b + j = b + N.length := by omega
      simp only [if_pos ee]
      exact ⟨e1, e2, e3, e4⟩
  · simp only [gI_sI, gI_sJ, gJ_sI, false_and, if_false, Nat.reduceEqDiff]; exact s.w
  · intro j y hy; simp only [gI_sI, gI_sJ, gJ_sI, false_and, if_false, Nat.reduceEqDiff]; exact s.ws j y hy
  · simp only [gI_sI, gI_sJ, gJ_sI, false_and, if_false, Nat.reduceEqDiff]; exact s.h
  · intro j y hy; simp only [gI_sI, gI_sJ, gJ_sI, false_and, if_false, Nat.reduceEqDiff]; exact s.hs j y hy
  · simp only [gI_sI, gI_sJ, gJ_sI, false_and, if_false, Nat.reduceEqDiff]; exact s.dp
  · simp only [gI_sI, gI_sJ, gJ_sI, false_and, if_false, Nat.reduceEqDiff]; exact s.bd
theorem r_strength {o : Int} {P : Int → St → Prop} (h : P (stR o) τ) : ACi g l d MX12_strength [vR 12 (some m), vI o] τ P := by
  have tail : ∀ v, stR o = v → ∃ r, some (vI v) = some (vI r) ∧ P r τ := fun v e => ⟨v, rfl, by rw [← e]; exact h⟩
  have s36 : ¬ o = 17 → ¬ o = 16 → ¬ (13 ≤ o ∧ o ≤ 15) → AW g l d MX12_strength 36 [none, some (vI o)] [] τ (fun v σ' => ∃ r, v = some (vI r) ∧ P r σ') := fun q1 q2 q3 => by
    have e0 : stR o = if o = 7 ∨ o = 8 then 4 else if 9 ≤ o ∧ o ≤ 12 then 5 else if o = 18 then 0 else 6 := by unfold stR; rw [if_neg q1, if_neg q2, if_neg q3]
    refine bk_X12_strength_36 ⟨fun z => tail 4 ?_, fun z => ⟨fun z1 => ⟨fun z2 => ⟨fun z3 => tail 6 ?_, fun z3 => tail 0 ?_⟩, fun z2 => ⟨fun z3 => ⟨fun z4 => tail 6 ?_, fun z4 => tail 0 ?_⟩, fun z3 => tail 5 ?_⟩⟩, fun z1 => tail 4 ?_⟩⟩
    · rw [e0, if_pos (Or.inl z)]
    · rw [e0, if_neg (by omega), if_neg (by omega), if_neg z3]
    · omega
    · rw [e0, if_neg (by omega), if_neg (by omega), if_neg z4]
    · rw [e0, if_neg (by omega), if_neg (by omega), if_pos z4]
    · rw [e0, if_neg (by omega), if_pos (by omega)]
    · rw [e0, if_pos (Or.inr z1)]
  refine AC.of mo_X12_strength (Nat.le_of_ble_eq_true rfl) (bk_X12_strength_0 ⟨fun q1 => ⟨fun q2 => ⟨fun q3 => s36 q1 q2 (by omega), fun q3 => ⟨fun q4 => s36 q1 q2 (by omega), fun q4 => tail 3 ?_⟩⟩, fun q2 => tail 2 ?_⟩, fun q1 => tail 1 ?_⟩)
  · unfold stR; rw [if_neg q1, if_neg q2, if_pos (by omega)]
  · unfold stR; rw [if_neg q1, if_pos q2]
  · unfold stR; rw [if_pos q1]
theorem r_operator {P : Int → St → Prop} (hX : X.OK) (hT : RT τ m X i) (h : P (if 0 ≤ lv (X.k i) then opR (X.k i) else -1) τ) : ACi g l (d + 1) MX12_operator [vR 12 (some m)] τ P := by
  have hs := hT.sort hX
  have tail : ∀ v, (if 0 ≤ lv (X.k i) then opR (X.k i) else -1) = v → ∃ r, some (vI v) = some (vI r) ∧ P r τ := fun v e => ⟨v, rfl, by rw [← e]; exact h⟩
  have none_ : ¬ X.k i = 225 → ¬ X.k i = 224 → ¬ X.k i = 61 → ¬ X.k i = 60 → ¬ X.k i = 62 → ¬ X.k i = 43 → ¬ X.k i = 45 → ¬ X.k i = 42 → ¬ X.k i = 47 → ¬ X.k i = 37 → ¬ X.k i = 38 → (if 0 ≤ lv (X.k i) then opR (X.k i) else -1) = -1 := fun q1 q2 q3 q4 q5 q6 q7 q8 q9 q10 q11 => by
    rw [if_neg]
    intro c
    have := lv_cases c
    omega
  refine AC.of mo_X12_operator (Nat.le_of_ble_eq_true rfl) (bk_X12_operator_0 (r_isWord (j := 25) hX hT (by decide) (by decide) ?_))
  by_cases k225 : X.k i = 200 + ((25 : Nat) : Int)
  · rw [if_pos k225]
    exact ⟨fun z => absurd z (by decide), fun _ => tail 17 (by rw [show X.k i = 225 by omega]; decide)⟩
  rw [if_neg k225]
  refine ⟨fun _ => r_isWord (j := 24) hX hT (by decide) (by decide) ?_, fun z => absurd rfl z⟩
  by_cases k224 : X.k i = 200 + ((24 : Nat) : Int)
  · rw [if_pos k224]
    exact ⟨fun z => absurd z (by decide), fun _ => tail 16 (by rw [show X.k i = 224 by omega]; decide)⟩
  rw [if_neg k224]
  refine ⟨fun _ => ⟨fun z3 => ?_, fun z3 => tail (-1) ?_⟩, fun z => absurd rfl z⟩
  · obtain ⟨c1, c2, c3⟩ := hs.2.2.2.2.2.2.1 z3
    have w1 := w32_id (show -2147483648 ≤ X.k i by omega) (by omega)
    have ej : j2i (gJ τ 1217 m 0) = X.k i := by rw [c3, j2i_eq, i2j_toInt, w1, w1]
    rw [ej]
    refine ⟨fun q3 => ⟨fun q4 => ⟨fun q5 => ⟨fun q6 => ⟨fun q7 => ⟨fun q8 => ⟨fun q9 => ⟨fun q10 => ⟨fun q11 => tail _ (none_ (by omega) (by omega) q3 q4 q5 q6 q7 q8 q9 q10 q11), fun e => tail 12 ?_⟩, fun e => tail 11 ?_⟩, fun e => tail 10 ?_⟩, fun e => tail 9 ?_⟩, fun e => tail 8 ?_⟩, fun e => tail 7 ?_⟩, fun e => tail 15 ?_⟩, fun e => tail 14 ?_⟩, fun e => tail 13 ?_⟩ <;> rw [e] <;> decide
  · have k3 := hs.2.2.2.2.2.2.2
    refine none_ (by omega) (by omega) ?_ ?_ ?_ ?_ ?_ ?_ ?_ ?_ ?_ <;> intro e <;> exact z3 (k3 (by omega) (by omega))
/-- joinAll stops -/
theorem j_stop {t : Int} {Q : Option AV → St → Prop} (s : RS σ0 τ m X b Z i N W H n) (hw : W.length ≤ 127) (ht : ∀ o, W.getLast? = some o → o = 18 ∨ stR o < t) (hQ : Q none τ) : AW g l (d + 1) MX12_joinAll 0 [some (vR 12 (some m)), some (vI t)] [] τ Q := by
  have sw := s.w
  refine bk_X12_joinAll_0 ⟨fun _ => hQ, fun q => ⟨s.T.1, ⟨by omega, by omega⟩, ⟨by omega, by omega⟩, r_strength ?_⟩⟩
  have e : W[W.length - 1]? = some (gI τ 1258 m (gI τ 1260 m 0 - 1).toNat) := by
    have hlt : W.length - 1 < W.length := by omega
    have := s.ws (W.length - 1) W[W.length - 1] (List.getElem?_eq_getElem hlt)
    rw [List.getElem?_eq_getElem hlt, show (gI τ 1260 m 0 - 1).toNat = W.length - 1 by omega, this]
  have e2 := ht _ (by rw [List.getLast?_eq_getElem?]; exact e)
  refine ⟨fun _ => hQ, fun z => ⟨s.T.1, ⟨by omega, by omega⟩, ⟨by omega, by omega⟩, fun _ => hQ, fun z2 => ?_⟩⟩
  rcases e2 with e2 | e2
  · exact absurd e2 z2
  · exact absurd e2 z
/-- a binary one is joined -/
theorem j_bin {t o : Int} {lf : Nat} {Q : Option AV → St → Prop} (s : RS σ0 τ m X b Z i N (W ++ [opR o]) (H ++ [lf, N.length - 1]) n) (hw : W.length ≤ 126) (hh : H.length ≤ 125) (h9 : b + N.length < Z) (hZ : Z ≤ 9000) (h1 : 1 ≤ N.length) (ho : 0 ≤ lv o) (ht : t ≤ lv o + 1)
    (hQ : ∀ τ', RS σ0 τ' m X b Z i (N ++ [⟨o, 0, lf, N.length - 1⟩]) W (H ++ [(N ++ [(⟨o, 0, lf, N.length - 1⟩ : Nd)]).length - 1]) n → AW g l (d + 3) MX12_joinAll 0 [some (vR 12 (some m)), some (vI t)] [] τ' Q) : AW g l (d + 3) MX12_joinAll 0 [some (vR 12 (some m)), some (vI t)] [] τ Q := by
  have sw := s.w
  rw [app_l] at sw
  have sh := s.h
  rw [List.length_append] at sh
  have sh : gI τ 1261 m 0 = ((H.length + 2 : Nat) : Int) := sh
  obtain ⟨a1, a2, a3, a4, a5, _⟩ := st_lv ho
  have et : gI τ 1258 m (gI τ 1260 m 0 - 1).toNat = opR o := by
    rw [show (gI τ 1260 m 0 - 1).toNat = W.length by omega]
    exact s.ws _ _ app_at
  refine bk_X12_joinAll_0 ⟨fun q => absurd q (by omega), fun q => ⟨s.T.1, ⟨by omega, by omega⟩, ⟨by omega, by omega⟩, r_strength ?_⟩⟩
  rw [et, a1]
  refine ⟨fun z => absurd z (by omega), fun _ => ⟨s.T.1, ⟨by omega, by omega⟩, ⟨by omega, by omega⟩, fun z => absurd z a2, fun _ => ?_⟩⟩
  refine AC.of mo_X12_join (Nat.le_of_ble_eq_true rfl) (bk_X12_join_0 ⟨⟨by omega, by omega⟩, s.T.1, ⟨by omega, by omega⟩, fun z4 hz4 => r_strength ?_⟩)
  rw [et] at hz4
  rw [hz4, a1]
  have s1 := s.pop (v := gI τ 1260 m 0 - 1) (by omega)
  have sh1 : gI (sI τ 1260 m 0 (gI τ 1260 m 0 - 1)) 1261 m 0 = ((H.length + 2 : Nat) : Int) := by rw [gI_sI, if_neg (by simp)]; exact sh
  refine ⟨fun _ => ⟨s1.T.1, ⟨by omega, by omega⟩, ⟨by omega, by omega⟩, ⟨by omega, by omega⟩, ⟨by omega, by omega⟩, ?_⟩, fun z => absurd z (by have := (st_lv ho).2.2.2.2.2; omega)⟩
  have hl : gI (sI τ 1260 m 0 (gI τ 1260 m 0 - 1)) 1259 m ((gI (sI τ 1260 m 0 (gI τ 1260 m 0 - 1)) 1261 m 0) - 2).toNat = ((b + lf : Nat) : Int) := by
    rw [show ((gI (sI τ 1260 m 0 (gI τ 1260 m 0 - 1)) 1261 m 0) - 2).toNat = H.length by omega]
    refine s1.hs _ _ ?_
    rw [List.getElem?_append_right (Nat.le_refl _), Nat.sub_self]; rfl
  have hr : gI (sI τ 1260 m 0 (gI τ 1260 m 0 - 1)) 1259 m ((gI (sI τ 1260 m 0 (gI τ 1260 m 0 - 1)) 1261 m 0) - 1).toNat = ((b + (N.length - 1) : Nat) : Int) := by
    rw [show ((gI (sI τ 1260 m 0 (gI τ 1260 m 0 - 1)) 1261 m 0) - 1).toNat = H.length + 1 by omega]
    refine s1.hs _ _ ?_
    rw [List.getElem?_append_right (by omega), show H.length + 1 - H.length = 1 by omega]; rfl
  rw [hl, hr]
  refine r_node (x := ⟨o, 0, lf, N.length - 1⟩) s1 h9 hZ rfl (if_neg a3).symm (if_neg (fun z => z.elim a3 a4)).symm ?_ (fun τ2 s2 => ?_)
  · show (0 : Int64) = if o = 3 then 0 else if o = 2 then i2j (cv (0 : Int64).toInt) else 0
    rw [if_neg (fun e => a3 (Or.inr (Or.inl e))), if_neg (fun e => a3 (Or.inl e))]
  · have sh2 := s2.h
    rw [List.length_append] at sh2
    have sh2 : gI τ2 1261 m 0 = ((H.length + 2 : Nat) : Int) := sh2
    refine ⟨s2.T.1, ⟨by omega, by omega⟩, rfl, hQ _ ?_⟩
    exact s2.hold (x := (N ++ [(⟨o, 0, lf, N.length - 1⟩ : Nd)]).length - 1) (by omega) (by rw [app_l]; omega) (by omega)
/-- one ahead of a factor is joined -/
theorem j_un {t o : Int} {Q : Option AV → St → Prop} (s : RS σ0 τ m X b Z i N (W ++ [opR o]) (H ++ [N.length - 1]) (n + 1)) (hw : W.length ≤ 126) (hh : H.length ≤ 125) (h9 : b + N.length < Z) (hZ : Z ≤ 9000) (h1 : 1 ≤ N.length) (ho : isUn o) (ht : t ≤ 6) (hn : n ≤ 1000)
    (hQ : ∀ τ', RS σ0 τ' m X b Z i (N ++ [⟨o, 0, N.length - 1, 0⟩]) W (H ++ [(N ++ [(⟨o, 0, N.length - 1, 0⟩ : Nd)]).length - 1]) n → AW g l (d + 3) MX12_joinAll 0 [some (vR 12 (some m)), some (vI t)] [] τ' Q) : AW g l (d + 3) MX12_joinAll 0 [some (vR 12 (some m)), some (vI t)] [] τ Q := by
  have sw := s.w
  rw [app_l] at sw
  have sh := s.h
  rw [app_l] at sh
  obtain ⟨a1, a2, a3, a4⟩ := st_un ho
  have et : gI τ 1258 m (gI τ 1260 m 0 - 1).toNat = opR o := by
    rw [show (gI τ 1260 m 0 - 1).toNat = W.length by omega]
    exact s.ws _ _ app_at
  refine bk_X12_joinAll_0 ⟨fun q => absurd q (by omega), fun q => ⟨s.T.1, ⟨by omega, by omega⟩, ⟨by omega, by omega⟩, r_strength ?_⟩⟩
  rw [et, a1]
  refine ⟨fun z => absurd z (by omega), fun _ => ⟨s.T.1, ⟨by omega, by omega⟩, ⟨by omega, by omega⟩, fun z => absurd z a2, fun _ => ?_⟩⟩
  refine AC.of mo_X12_join (Nat.le_of_ble_eq_true rfl) (bk_X12_join_0 ⟨⟨by omega, by omega⟩, s.T.1, ⟨by omega, by omega⟩, fun z4 hz4 => r_strength ?_⟩)
  rw [et] at hz4
  rw [hz4, a1]
  have s1 := s.pop (v := gI τ 1260 m 0 - 1) (by omega)
  have sh1 : gI (sI τ 1260 m 0 (gI τ 1260 m 0 - 1)) 1261 m 0 = ((H.length + 1 : Nat) : Int) := by rw [gI_sI, if_neg (by simp)]; exact sh
  refine ⟨fun z => absurd rfl z, fun _ => ⟨s1.T.1, ⟨by omega, by omega⟩, ⟨by omega, by omega⟩, ?_⟩⟩
  have hr : gI (sI τ 1260 m 0 (gI τ 1260 m 0 - 1)) 1259 m ((gI (sI τ 1260 m 0 (gI τ 1260 m 0 - 1)) 1261 m 0) - 1).toNat = ((b + (N.length - 1) : Nat) : Int) := by
    rw [show ((gI (sI τ 1260 m 0 (gI τ 1260 m 0 - 1)) 1261 m 0) - 1).toNat = H.length by omega]
    exact s1.hs _ _ app_at
  rw [hr]
  refine r_node (x := ⟨o, 0, N.length - 1, 0⟩) s1 h9 hZ rfl (if_neg a3).symm (if_pos (Or.inr ho)).symm ?_ (fun τ2 s2 => ?_)
  · show (0 : Int64) = if o = 3 then 0 else if o = 2 then i2j (cv (0 : Int64).toInt) else 0
    rw [if_neg (fun e => a3 (Or.inr (Or.inl e))), if_neg (fun e => a3 (Or.inl e))]
  · have sd := s2.dp
    refine ⟨s2.T.1, ⟨by omega, by omega⟩, rfl, hQ _ ?_⟩
    exact (s2.rehold (x := (N ++ [(⟨o, 0, N.length - 1, 0⟩ : Nd)]).length - 1) (by omega) (by rw [app_l]; omega)).deep (by omega)
/-! what waits lazily, the top first -/
def jn (N : List Nd) : List (Int × Nat) → List Nd
  | [] => N
  | p :: P => jn (N ++ [⟨p.1, 0, p.2, N.length - 1⟩]) P
def un (N : List Nd) : List Int → List Nd
  | [] => N
  | u :: U => un (N ++ [⟨u, 0, N.length - 1, 0⟩]) U
def wP (W : List Int) : List (Int × Nat) → List Int
  | [] => W
  | p :: P => wP W P ++ [opR p.1]
def hP (H : List Nat) : List (Int × Nat) → List Nat
  | [] => H
  | p :: P => hP H P ++ [p.2]
def wU (W : List Int) : List Int → List Int
  | [] => W
  | u :: U => wU W U ++ [opR u]
theorem jn_app {o : Int} {lf : Nat} : ∀ (P : List (Int × Nat)) (N : List Nd), jn N (P ++ [(o, lf)]) = jn N P ++ [⟨o, 0, lf, (jn N P).length - 1⟩]
  | [], N => rfl
  | p :: P, N => jn_app P _
theorem wP_app {W : List Int} {o : Int} {lf : Nat} : ∀ P : List (Int × Nat), wP W (P ++ [(o, lf)]) = wP (W ++ [opR o]) P
  | [] => rfl
  | p :: P => by show wP W (P ++ [(o, lf)]) ++ _ = wP (W ++ [opR o]) P ++ _; rw [wP_app P]
theorem hP_app {H : List Nat} {o : Int} {lf : Nat} : ∀ P : List (Int × Nat), hP H (P ++ [(o, lf)]) = hP (H ++ [lf]) P
  | [] => rfl
  | p :: P => by show hP H (P ++ [(o, lf)]) ++ _ = hP (H ++ [lf]) P ++ _; rw [hP_app P]
theorem wP_len {W : List Int} : ∀ P : List (Int × Nat), (wP W P).length = W.length + P.length
  | [] => rfl
  | p :: P => by show (wP W P ++ _).length = _; rw [app_l, wP_len P]; rfl
theorem hP_len {H : List Nat} : ∀ P : List (Int × Nat), (hP H P).length = H.length + P.length
  | [] => rfl
  | p :: P => by show (hP H P ++ _).length = _; rw [app_l, hP_len P]; rfl
theorem wU_len {W : List Int} : ∀ U : List Int, (wU W U).length = W.length + U.length
  | [] => rfl
  | p :: P => by show (wU W P ++ _).length = _; rw [app_l, wU_len P]; rfl
theorem jn_len : ∀ (P : List (Int × Nat)) (N : List Nd), (jn N P).length = N.length + P.length
  | [], N => rfl
  | p :: P, N => by show (jn _ P).length = _; rw [jn_len P, app_l]; show _ = N.length + (P.length + 1); omega
theorem un_len : ∀ (P : List Int) (N : List Nd), (un N P).length = N.length + P.length
  | [], N => rfl
  | p :: P, N => by show (un _ P).length = _; rw [un_len P, app_l]; show _ = N.length + (P.length + 1); omega
/-- what waits is joined -/
theorem j_flush {t : Int} {Q : Option AV → St → Prop} : ∀ (P P2 : List (Int × Nat)) (N : List Nd) (τ : St), RS σ0 τ m X b Z i N (wP W (P ++ P2)) (hP H (P ++ P2) ++ [N.length - 1]) n → W.length + (P ++ P2).length ≤ 127 → H.length + (P ++ P2).length ≤ 126 → b + N.length + P.length ≤ Z → Z ≤ 9000 → 1 ≤ N.length → (∀ p ∈ P, 0 ≤ lv p.1 ∧ t ≤ lv p.1 + 1) →
    (∀ τ', RS σ0 τ' m X b Z i (jn N P) (wP W P2) (hP H P2 ++ [(jn N P).length - 1]) n → AW g l (d + 3) MX12_joinAll 0 [some (vR 12 (some m)), some (vI t)] [] τ' Q) → AW g l (d + 3) MX12_joinAll 0 [some (vR 12 (some m)), some (vI t)] [] τ Q
  | [], P2, N, τ, s, _, _, _, _, _, _, hQ => hQ τ s
  | p :: P, P2, N, τ, s, hw, hh, h9, hZ, h1, hp, hQ => by
    have lw := wP_len (W := W) (P ++ P2)
    have lh := hP_len (H := H) (P ++ P2)
    have e1 : (p :: P ++ P2).length = (P ++ P2).length + 1 := rfl
    have e2 : (p :: P).length = P.length + 1 := rfl
    have hp0 := hp p List.mem_cons_self
    have s' : RS σ0 τ m X b Z i N (wP W (P ++ P2) ++ [opR p.1]) (hP H (P ++ P2) ++ [p.2, N.length - 1]) n := by
      have : hP H (p :: P ++ P2) ++ [N.length - 1] = hP H (P ++ P2) ++ [p.2, N.length - 1] := by
        show (hP H (P ++ P2) ++ [p.2]) ++ [N.length - 1] = _
        rw [List.append_assoc]; rfl
      rw [← this]; exact s
    refine j_bin s' (by omega) (by omega) (by omega) hZ h1 hp0.1 hp0.2 (fun τ2 s2 => ?_)
    exact j_flush P P2 _ τ2 s2 (by omega) (by omega) (by rw [app_l]; omega) hZ (by rw [app_l]; omega) (fun q hq => hp q (List.mem_cons_of_mem _ hq)) hQ
theorem j_unf {t : Int} {Q : Option AV → St → Prop} : ∀ (U : List Int) (N : List Nd) (n : Nat) (τ : St), RS σ0 τ m X b Z i N (wU W U) (H ++ [N.length - 1]) (n + U.length) → W.length + U.length ≤ 127 → H.length ≤ 125 → b + N.length + U.length ≤ Z → Z ≤ 9000 → 1 ≤ N.length → (∀ u ∈ U, isUn u) → t ≤ 6 → n + U.length ≤ 1000 →
    (∀ τ', RS σ0 τ' m X b Z i (un N U) W (H ++ [(un N U).length - 1]) n → AW g l (d + 3) MX12_joinAll 0 [some (vR 12 (some m)), some (vI t)] [] τ' Q) → AW g l (d + 3) MX12_joinAll 0 [some (vR 12 (some m)), some (vI t)] [] τ Q
  | [], N, n, τ, s, _, _, _, _, _, _, _, _, hQ => hQ τ s
  | u :: U, N, n, τ, s, hw, hh, h9, hZ, h1, hu, ht, hn, hQ => by
    have lw := wU_len (W := W) U
    have e1 : (u :: U).length = U.length + 1 := rfl
    refine j_un (n := n + U.length) (o := u) s (by omega) hh (by omega) hZ h1 (hu u List.mem_cons_self) ht (by omega) (fun τ2 s2 => ?_)
    exact j_unf U _ n τ2 s2 (by omega) hh (by rw [app_l]; omega) hZ (by rw [app_l]; omega) (fun q hq => hu q (List.mem_cons_of_mem _ hq)) ht (by omega) hQ
end RSL
