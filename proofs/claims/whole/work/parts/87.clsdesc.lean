/-! the class's descriptions: what the store holds of them -/
/-- an expr in the code, END behind it -/
def XC (σ : St) (c : Nat) (a : Int) (e : Exr) : Prop :=
  match e with
  | none => a = -1
  | some N => ∃ b : Nat, a = b ∧ ((b + N.length : Nat) : Int) < gI σ 2 c 0 ∧ CN σ c b N ∧ gI σ 0 c (b + N.length) = 0
/-- entries from a on -/
def EC (σ : St) (dd : Nat) (a n : Int) (es : List Ent) : Prop :=
  ∃ b : Nat, a = b ∧ n = es.length ∧ ((b + es.length : Nat) : Int) ≤ gI σ 109 dd 0 ∧ ∀ j e, es[j]? = some e → gJ σ 106 dd (b + j) = e.1 ∧ gJ σ 107 dd (b + j) = e.2.1 ∧ gI σ 108 dd (b + j) = e.2.2
/-- code and entries grow at their ends alone -/
def Mo (σ σ' : St) (dd c : Nat) : Prop :=
  gI σ 2 c 0 ≤ gI σ' 2 c 0 ∧ (∀ j : Nat, (j : Int) < gI σ 2 c 0 → gI σ' 0 c j = gI σ 0 c j ∧ gJ σ' 1 c j = gJ σ 1 c j) ∧ gI σ 109 dd 0 ≤ gI σ' 109 dd 0 ∧ (∀ j : Nat, (j : Int) < gI σ 109 dd 0 → gJ σ' 106 dd j = gJ σ 106 dd j ∧ gJ σ' 107 dd j = gJ σ 107 dd j ∧ gI σ' 108 dd j = gI σ 108 dd j)
theorem Mo.rfl {σ : St} {dd c : Nat} : Mo σ σ dd c := ⟨Int.le_refl _, fun _ _ => ⟨Eq.refl _, Eq.refl _⟩, Int.le_refl _, fun _ _ => ⟨Eq.refl _, Eq.refl _, Eq.refl _⟩⟩
theorem Mo.trans {σ τ υ : St} {dd c : Nat} (h : Mo σ τ dd c) (k : Mo τ υ dd c) : Mo σ υ dd c := by
  obtain ⟨h1, h2, h3, h4⟩ := h
  obtain ⟨k1, k2, k3, k4⟩ := k
  refine ⟨by omega, fun j hj => ?_, by omega, fun j hj => ?_⟩
  · obtain ⟨a, b⟩ := h2 j hj
    obtain ⟨a', b'⟩ := k2 j (by omega)
    exact ⟨a'.trans a, b'.trans b⟩
  · obtain ⟨a, b, e⟩ := h4 j hj
    obtain ⟨a', b', e'⟩ := k4 j (by omega)
    exact ⟨a'.trans a, b'.trans b, e'.trans e⟩
theorem Mo.frm {P : Nat → Nat → Prop} {σ σ' : St} {dd c : Nat} (hF : Frm P σ σ') (h0 : ∀ f, f ≤ 2 → ¬ P f c) (h1 : ∀ f, 106 ≤ f → f ≤ 109 → ¬ P f dd) : Mo σ σ' dd c := by
  refine ⟨by rw [hF.I (h0 _ (by decide))]; omega, fun j _ => ⟨hF.I (h0 _ (by decide)) j, hF.J (h0 _ (by decide)) j⟩, by rw [hF.I (h1 _ (by decide) (by decide))]; omega, fun j _ => ⟨hF.J (h1 _ (by decide) (by decide)) j, hF.J (h1 _ (by decide) (by decide)) j, hF.I (h1 _ (by decide) (by decide)) j⟩⟩
theorem XC.mo {σ σ' : St} {dd c : Nat} {a : Int} {e : Exr} (h : XC σ c a e) (hM : Mo σ σ' dd c) : XC σ' c a e := by
  match e, h with
  | none, h => exact h
  | some N, h =>
    obtain ⟨b, h1, h2, h3, h4⟩ := h
    refine ⟨b, h1, Int.lt_of_lt_of_le h2 hM.1, fun j x hx => ?_, ?_⟩
    · have hj := (List.getElem?_eq_some_iff.mp hx).1
      obtain ⟨e1, e2⟩ := hM.2.1 (b + j) (by omega)
      rw [e1, e2]; exact h3 j x hx
    · rw [(hM.2.1 (b + N.length) h2).1]; exact h4
theorem EC.mo {σ σ' : St} {dd c : Nat} {a n : Int} {es : List Ent} (h : EC σ dd a n es) (hM : Mo σ σ' dd c) : EC σ' dd a n es := by
  obtain ⟨b, h1, h2, h3, h4⟩ := h
  refine ⟨b, h1, h2, Int.le_trans h3 hM.2.2.1, fun j e he => ?_⟩
  have hj := (List.getElem?_eq_some_iff.mp he).1
  obtain ⟨e1, e2, e3⟩ := hM.2.2.2 (b + j) (by omega)
  rw [e1, e2, e3]; exact h4 j e he
/-- a field as it is told -/
def FC (σ : St) (dd c r : Nat) (F : Fld) : Prop :=
  gI σ 201 r 0 = F.ki ∧ gJ σ 202 r 0 = F.nm ∧ gI σ 203 r 0 = tw F.ty ∧ gI σ 204 r 0 = tsg F.ty ∧ gI σ 205 r 0 = tbg F.ty ∧ gI σ 206 r 0 = F.st ∧ gI σ 207 r 0 = F.pr ∧ XC σ c (gI σ 208 r 0) F.ec ∧ XC σ c (gI σ 209 r 0) F.e1 ∧ XC σ c (gI σ 210 r 0) F.e2 ∧ gJ σ 211 r 0 = F.nu ∧ gI σ 212 r 0 = F.ot ∧ EC σ dd (gI σ 213 r 0) (gI σ 214 r 0) F.es ∧ gJ σ 215 r 0 = F.an ∧ gI σ 216 r 0 = F.ap
theorem FC.ki {σ : St} {dd c r : Nat} {F : Fld} (h : FC σ dd c r F) : gI σ 201 r 0 = F.ki := h.1
theorem FC.nm {σ : St} {dd c r : Nat} {F : Fld} (h : FC σ dd c r F) : gJ σ 202 r 0 = F.nm := h.2.1
theorem FC.xtw {σ : St} {dd c r : Nat} {F : Fld} (h : FC σ dd c r F) : gI σ 203 r 0 = tw F.ty := h.2.2.1
theorem FC.xsg {σ : St} {dd c r : Nat} {F : Fld} (h : FC σ dd c r F) : gI σ 204 r 0 = tsg F.ty := h.2.2.2.1
theorem FC.xbg {σ : St} {dd c r : Nat} {F : Fld} (h : FC σ dd c r F) : gI σ 205 r 0 = tbg F.ty := h.2.2.2.2.1
theorem FC.st {σ : St} {dd c r : Nat} {F : Fld} (h : FC σ dd c r F) : gI σ 206 r 0 = F.st := h.2.2.2.2.2.1
theorem FC.pr {σ : St} {dd c r : Nat} {F : Fld} (h : FC σ dd c r F) : gI σ 207 r 0 = F.pr := h.2.2.2.2.2.2.1
theorem FC.ec {σ : St} {dd c r : Nat} {F : Fld} (h : FC σ dd c r F) : XC σ c (gI σ 208 r 0) F.ec := h.2.2.2.2.2.2.2.1
theorem FC.e1 {σ : St} {dd c r : Nat} {F : Fld} (h : FC σ dd c r F) : XC σ c (gI σ 209 r 0) F.e1 := h.2.2.2.2.2.2.2.2.1
theorem FC.e2 {σ : St} {dd c r : Nat} {F : Fld} (h : FC σ dd c r F) : XC σ c (gI σ 210 r 0) F.e2 := h.2.2.2.2.2.2.2.2.2.1
theorem FC.nu {σ : St} {dd c r : Nat} {F : Fld} (h : FC σ dd c r F) : gJ σ 211 r 0 = F.nu := h.2.2.2.2.2.2.2.2.2.2.1
theorem FC.ot {σ : St} {dd c r : Nat} {F : Fld} (h : FC σ dd c r F) : gI σ 212 r 0 = F.ot := h.2.2.2.2.2.2.2.2.2.2.2.1
theorem FC.es {σ : St} {dd c r : Nat} {F : Fld} (h : FC σ dd c r F) : EC σ dd (gI σ 213 r 0) (gI σ 214 r 0) F.es := h.2.2.2.2.2.2.2.2.2.2.2.2.1
theorem FC.an {σ : St} {dd c r : Nat} {F : Fld} (h : FC σ dd c r F) : gJ σ 215 r 0 = F.an := h.2.2.2.2.2.2.2.2.2.2.2.2.2.1
theorem FC.ap {σ : St} {dd c r : Nat} {F : Fld} (h : FC σ dd c r F) : gI σ 216 r 0 = F.ap := h.2.2.2.2.2.2.2.2.2.2.2.2.2.2
theorem FC.wKi {σ : St} {dd c r : Nat} {F : Fld} (h : FC σ dd c r F) {v : Int} : FC (sI σ 201 r 0 v) dd c r (F.wKi v) := by
  obtain ⟨a1, a2, a3, a4, a5, a6, a7, a8, a9, a10, a11, a12, a13, a14, a15⟩ := h
  exact ⟨gI_slf _ _ _ _ _, a2, a3, a4, a5, a6, a7, a8, a9, a10, a11, a12, a13, a14, a15⟩
theorem FC.wNm {σ : St} {dd c r : Nat} {F : Fld} (h : FC σ dd c r F) {v : Int64} : FC (sJ σ 202 r 0 v) dd c r (F.wNm v) := by
  obtain ⟨a1, a2, a3, a4, a5, a6, a7, a8, a9, a10, a11, a12, a13, a14, a15⟩ := h
  exact ⟨a1, gJ_slf _ _ _ _ _, a3, a4, a5, a6, a7, a8, a9, a10, a11, a12, a13, a14, a15⟩
theorem FC.wSt {σ : St} {dd c r : Nat} {F : Fld} (h : FC σ dd c r F) {v : Int} : FC (sI σ 206 r 0 v) dd c r (F.wSt v) := by
  obtain ⟨a1, a2, a3, a4, a5, a6, a7, a8, a9, a10, a11, a12, a13, a14, a15⟩ := h
  exact ⟨a1, a2, a3, a4, a5, gI_slf _ _ _ _ _, a7, a8, a9, a10, a11, a12, a13, a14, a15⟩
theorem FC.wPr {σ : St} {dd c r : Nat} {F : Fld} (h : FC σ dd c r F) {v : Int} : FC (sI σ 207 r 0 v) dd c r (F.wPr v) := by
  obtain ⟨a1, a2, a3, a4, a5, a6, a7, a8, a9, a10, a11, a12, a13, a14, a15⟩ := h
  exact ⟨a1, a2, a3, a4, a5, a6, gI_slf _ _ _ _ _, a8, a9, a10, a11, a12, a13, a14, a15⟩
theorem FC.wEc {σ : St} {dd c r : Nat} {F : Fld} (h : FC σ dd c r F) {v : Int} {e : Exr} (he : XC σ c v e) : FC (sI σ 208 r 0 v) dd c r (F.wEc e) := by
  obtain ⟨a1, a2, a3, a4, a5, a6, a7, a8, a9, a10, a11, a12, a13, a14, a15⟩ := h
  exact ⟨a1, a2, a3, a4, a5, a6, a7, by rw [gI_slf]; exact he, a9, a10, a11, a12, a13, a14, a15⟩
theorem FC.wE1 {σ : St} {dd c r : Nat} {F : Fld} (h : FC σ dd c r F) {v : Int} {e : Exr} (he : XC σ c v e) : FC (sI σ 209 r 0 v) dd c r (F.wE1 e) := by
  obtain ⟨a1, a2, a3, a4, a5, a6, a7, a8, a9, a10, a11, a12, a13, a14, a15⟩ := h
  exact ⟨a1, a2, a3, a4, a5, a6, a7, a8, by rw [gI_slf]; exact he, a10, a11, a12, a13, a14, a15⟩
theorem FC.wE2 {σ : St} {dd c r : Nat} {F : Fld} (h : FC σ dd c r F) {v : Int} {e : Exr} (he : XC σ c v e) : FC (sI σ 210 r 0 v) dd c r (F.wE2 e) := by
  obtain ⟨a1, a2, a3, a4, a5, a6, a7, a8, a9, a10, a11, a12, a13, a14, a15⟩ := h
  exact ⟨a1, a2, a3, a4, a5, a6, a7, a8, a9, by rw [gI_slf]; exact he, a11, a12, a13, a14, a15⟩
theorem FC.wNu {σ : St} {dd c r : Nat} {F : Fld} (h : FC σ dd c r F) {v : Int64} : FC (sJ σ 211 r 0 v) dd c r (F.wNu v) := by
  obtain ⟨a1, a2, a3, a4, a5, a6, a7, a8, a9, a10, a11, a12, a13, a14, a15⟩ := h
  exact ⟨a1, a2, a3, a4, a5, a6, a7, a8, a9, a10, gJ_slf _ _ _ _ _, a12, a13, a14, a15⟩
theorem FC.wOt {σ : St} {dd c r : Nat} {F : Fld} (h : FC σ dd c r F) {v : Int} : FC (sI σ 212 r 0 v) dd c r (F.wOt v) := by
  obtain ⟨a1, a2, a3, a4, a5, a6, a7, a8, a9, a10, a11, a12, a13, a14, a15⟩ := h
  exact ⟨a1, a2, a3, a4, a5, a6, a7, a8, a9, a10, a11, gI_slf _ _ _ _ _, a13, a14, a15⟩
theorem FC.wAm {σ : St} {dd c r : Nat} {F : Fld} (h : FC σ dd c r F) {v : Int64} {w : Int} : FC (sI (sJ σ 215 r 0 v) 216 r 0 w) dd c r (F.wAm v w) := by
  obtain ⟨a1, a2, a3, a4, a5, a6, a7, a8, a9, a10, a11, a12, a13, a14, a15⟩ := h
  exact ⟨a1, a2, a3, a4, a5, a6, a7, a8, a9, a10, a11, a12, a13, gJ_slf _ _ _ _ _, gI_slf _ _ _ _ _⟩
theorem FC.wTy {σ : St} {dd c r : Nat} {F : Fld} (h : FC σ dd c r F) {v : Int64} {x y z : Int} (h1 : x = tw v) (h2 : y = tsg v) (h3 : z = tbg v) : FC (sI (sI (sI σ 203 r 0 x) 204 r 0 y) 205 r 0 z) dd c r (F.wTy v) := by
  obtain ⟨a1, a2, a3, a4, a5, a6, a7, a8, a9, a10, a11, a12, a13, a14, a15⟩ := h
  exact ⟨a1, a2, by rw [gI_sI, if_neg (by simp), gI_sI, if_neg (by simp), gI_slf]; exact h1, by rw [gI_sI, if_neg (by simp), gI_slf]; exact h2, by rw [gI_slf]; exact h3, a6, a7, a8, a9, a10, a11, a12, a13, a14, a15⟩
theorem FC.e0 {σ : St} {dd c r : Nat} {F : Fld} (h : FC σ dd c r F) {v : Int} (hv : v = gI σ 109 dd 0) (h0 : F.es = []) (hp : 0 ≤ v) : FC (sI σ 213 r 0 v) dd c r (F) := by
  obtain ⟨a1, a2, a3, a4, a5, a6, a7, a8, a9, a10, a11, a12, a13, a14, a15⟩ := h
  refine ⟨a1, a2, a3, a4, a5, a6, a7, a8, a9, a10, a11, a12, ?_, a14, a15⟩
  obtain ⟨b, b1, b2, b3, b4⟩ := a13
  refine ⟨v.toNat, by rw [gI_slf]; omega, b2, ?_, fun j e he => ?_⟩
  · show ((v.toNat + F.es.length : Nat) : Int) ≤ gI σ 109 dd 0
    rw [h0]; show ((v.toNat + 0 : Nat) : Int) ≤ _; omega
  · rw [h0] at he; exact absurd he (by simp)
theorem FC.frm {P : Nat → Nat → Prop} {σ σ' : St} {dd c r : Nat} {F : Fld} (h : FC σ dd c r F) (hF : Frm P σ σ') (h0 : ∀ f, 201 ≤ f → f ≤ 216 → ¬ P f r) (hM : Mo σ σ' dd c) : FC σ' dd c r F := by
  obtain ⟨a1, a2, a3, a4, a5, a6, a7, a8, a9, a10, a11, a12, a13, a14, a15⟩ := h
  refine ⟨?_, ?_, ?_, ?_, ?_, ?_, ?_, ?_, ?_, ?_, ?_, ?_, ?_, ?_, ?_⟩
  · rw [hF.I (h0 _ (by decide) (by decide))]; exact a1
  · rw [hF.J (h0 _ (by decide) (by decide))]; exact a2
  · rw [hF.I (h0 _ (by decide) (by decide))]; exact a3
  · rw [hF.I (h0 _ (by decide) (by decide))]; exact a4
  · rw [hF.I (h0 _ (by decide) (by decide))]; exact a5
  · rw [hF.I (h0 _ (by decide) (by decide))]; exact a6
  · rw [hF.I (h0 _ (by decide) (by decide))]; exact a7
  · rw [hF.I (h0 _ (by decide) (by decide))]; exact a8.mo hM
  · rw [hF.I (h0 _ (by decide) (by decide))]; exact a9.mo hM
  · rw [hF.I (h0 _ (by decide) (by decide))]; exact a10.mo hM
  · rw [hF.J (h0 _ (by decide) (by decide))]; exact a11
  · rw [hF.I (h0 _ (by decide) (by decide))]; exact a12
  · rw [hF.I (h0 213 (by decide) (by decide)), hF.I (h0 214 (by decide) (by decide))]; exact a13.mo hM
  · rw [hF.J (h0 _ (by decide) (by decide))]; exact a14
  · rw [hF.I (h0 _ (by decide) (by decide))]; exact a15
theorem FC_new {σ : St} {dd c r : Nat} (h : 0 ≤ gI σ 109 dd 0) : FC (sI (sJ (sI (sI (sI (sJ (sI (sI (sI (sI (sI (sI (sI (sI (sJ (sI σ 201 r 0 (-1)) 202 r 0 0) 203 r 0 0) 204 r 0 0) 205 r 0 0) 206 r 0 (-1)) 207 r 0 (-1)) 208 r 0 (-1)) 209 r 0 (-1)) 210 r 0 (-1)) 211 r 0 0) 212 r 0 (-1)) 213 r 0 0) 214 r 0 0) 215 r 0 0) 216 r 0 0) dd c r fld0 := by
  refine ⟨?_, ?_, ?_, ?_, ?_, ?_, ?_, ?_, ?_, ?_, ?_, ?_, ?_, ?_, ?_⟩
  · simp only [gI_sI, gI_sJ, gJ_sI, gJ_sJ, true_and, false_and, if_false, if_true, Nat.reduceEqDiff]; rfl
  · simp only [gI_sI, gI_sJ, gJ_sI, gJ_sJ, true_and, false_and, if_false, if_true, Nat.reduceEqDiff]; rfl
  · simp only [gI_sI, gI_sJ, gJ_sI, gJ_sJ, true_and, false_and, if_false, if_true, Nat.reduceEqDiff]; rfl
  · simp only [gI_sI, gI_sJ, gJ_sI, gJ_sJ, true_and, false_and, if_false, if_true, Nat.reduceEqDiff]; rfl
  · simp only [gI_sI, gI_sJ, gJ_sI, gJ_sJ, true_and, false_and, if_false, if_true, Nat.reduceEqDiff]; rfl
  · simp only [gI_sI, gI_sJ, gJ_sI, gJ_sJ, true_and, false_and, if_false, if_true, Nat.reduceEqDiff]; rfl
  · simp only [gI_sI, gI_sJ, gJ_sI, gJ_sJ, true_and, false_and, if_false, if_true, Nat.reduceEqDiff]; rfl
  · show gI _ _ r 0 = -1; simp only [gI_sI, gI_sJ, true_and, false_and, if_false, if_true, Nat.reduceEqDiff]
  · show gI _ _ r 0 = -1; simp only [gI_sI, gI_sJ, true_and, false_and, if_false, if_true, Nat.reduceEqDiff]
  · show gI _ _ r 0 = -1; simp only [gI_sI, gI_sJ, true_and, false_and, if_false, if_true, Nat.reduceEqDiff]
  · simp only [gI_sI, gI_sJ, gJ_sI, gJ_sJ, true_and, false_and, if_false, if_true, Nat.reduceEqDiff]; rfl
  · simp only [gI_sI, gI_sJ, gJ_sI, gJ_sJ, true_and, false_and, if_false, if_true, Nat.reduceEqDiff]; rfl
  · exact ⟨0, by simp only [gI_sI, gI_sJ, true_and, false_and, if_false, if_true, Nat.reduceEqDiff]; rfl, by simp only [gI_sI, gI_sJ, true_and, false_and, if_false, if_true, Nat.reduceEqDiff]; rfl, h, fun j e he => absurd he (by show ¬ ([] : List Ent)[j]? = some e; simp)⟩
  · simp only [gI_sI, gI_sJ, gJ_sI, gJ_sJ, true_and, false_and, if_false, if_true, Nat.reduceEqDiff]; rfl
  · simp only [gI_sI, gI_sJ, gJ_sI, gJ_sJ, true_and, false_and, if_false, if_true, Nat.reduceEqDiff]; rfl
/-- the objects: structs so, fields fo -/
def DSh (σ : St) (dd : Nat) (so : Nat → Nat) (fo : Nat → Nat → Nat) : Prop :=
  (∀ s, s < 20 → gR σ 100 dd s = some (so s) ∧ LC 8 σ (so s) ∧ ∀ k, k < 14 → gR σ 801 (so s) k = some (fo s k) ∧ gI σ 200 (fo s k) 0 = k) ∧ (∀ s s', s < 20 → s' < 20 → so s = so s' → s = s') ∧ (∀ s s' k k', s < 20 → s' < 20 → k < 14 → k' < 14 → fo s k = fo s' k' → s = s' ∧ k = k')
def SC (σ : St) (dd c : Nat) (so : Nat → Nat) (fo : Nat → Nat → Nat) (s : Nat) (S : Stc) : Prop :=
  gJ σ 800 (so s) 0 = S.1 ∧ gI σ 802 (so s) 0 = (S.2.1.length : Int) ∧ gI σ 803 (so s) 0 = S.2.2 ∧ S.2.1.length ≤ 14 ∧ ∀ k F, S.2.1[k]? = some F → FC σ dd c (fo s k) F
def NC (σ : St) (dd e : Nat) (E : Enm) : Prop := gJ σ 102 dd e = E.1 ∧ EC σ dd (gI σ 103 dd e) (gI σ 104 dd e) E.2
def DCo (σ : St) (dd c : Nat) (so : Nat → Nat) (fo : Nat → Nat → Nat) (En : List Enm) (Ss : List Stc) : Prop :=
  gI σ 101 dd 0 = (Ss.length : Int) ∧ Ss.length ≤ 20 ∧ gI σ 105 dd 0 = (En.length : Int) ∧ En.length ≤ 8 ∧ (∀ e E, En[e]? = some E → NC σ dd e E) ∧ ∀ s S, Ss[s]? = some S → SC σ dd c so fo s S
/-- what a step of the parser at a field r may change -/
def CFr (p dd c r0 : Nat) (f r : Nat) : Prop := PFr p f r ∨ (r = c ∧ f ≤ 2) ∨ (r = dd ∧ 106 ≤ f ∧ f ≤ 109) ∨ (r = r0 ∧ 201 ≤ f ∧ f ≤ 216)
def CM (σ σ' : St) (p dd c r0 : Nat) : Prop := Frm (CFr p dd c r0) σ σ' ∧ Mo σ σ' dd c
theorem CM.rfl {σ : St} {p dd c r0 : Nat} : CM σ σ p dd c r0 := ⟨Frm.rfl, Mo.rfl⟩
theorem CM.trans {σ τ υ : St} {p dd c r0 : Nat} (h : CM σ τ p dd c r0) (k : CM τ υ p dd c r0) : CM σ υ p dd c r0 := ⟨h.1.trans k.1, h.2.trans k.2⟩
theorem CM.p {σ σ' : St} {p dd c r0 : Nat} (h : Frm (PFr p) σ σ') : CM σ σ' p dd c r0 := ⟨h.mono (fun f r z => Or.inl z), Mo.frm h (fun f hf q => by have := q.2; omega) (fun f h0 h1 q => by have := q.2; omega)⟩
theorem CM.r {σ σ' : St} {p dd c r0 : Nat} (h : Frm (fun f r => r = r0 ∧ 201 ≤ f ∧ f ≤ 216) σ σ') : CM σ σ' p dd c r0 := ⟨h.mono (fun f r z => Or.inr (Or.inr (Or.inr z))), Mo.frm h (fun f hf q => by have := q.2; omega) (fun f h0 h1 q => by have := q.2; omega)⟩
theorem FC.cm {σ σ' : St} {p dd c r0 r : Nat} {F : Fld} (h : FC σ dd c r F) (hM : CM σ σ' p dd c r0) (hn : ¬ r = r0) : FC σ' dd c r F := h.frm hM.1 (fun f f0 f1 q => by rcases q with q | q | q | q; have := q.2; omega; omega; omega; omega) hM.2
theorem FC.cp {σ σ' : St} {p dd c r : Nat} {F : Fld} (h : FC σ dd c r F) (hF : Frm (PFr p) σ σ') : FC σ' dd c r F := h.frm hF (fun f f0 f1 q => by have := q.2; omega) (CM.p (r0 := 0) hF).2
theorem CFr_no {p dd c r0 f r : Nat} (hf : (100 ≤ f ∧ f ≤ 105) ∨ f = 110 ∨ f = 200 ∨ (f = 602 ∨ f = 606 ∨ f = 607 ∨ f = 608 ∨ f = 609) ∨ 700 ≤ f) : ¬ CFr p dd c r0 f r := by
  intro q
  rcases q with q | q | q | q
  · have := q.2; omega
  · omega
  · omega
  · omega
theorem DSh.cm {σ σ' : St} {p dd c r0 : Nat} {so : Nat → Nat} {fo : Nat → Nat → Nat} (h : DSh σ dd so fo) (hM : CM σ σ' p dd c r0) : DSh σ' dd so fo := by
  refine ⟨fun s hs => ?_, h.2⟩
  obtain ⟨a, b, e⟩ := h.1 s hs
  refine ⟨by rw [hM.1.R (CFr_no (by omega))]; exact a, hM.1.lc b, fun k hk => ?_⟩
  rw [hM.1.R (CFr_no (by omega)), hM.1.I (CFr_no (by omega))]
  exact e k hk
theorem SC.cm {σ σ' : St} {p dd c r0 s : Nat} {so : Nat → Nat} {fo : Nat → Nat → Nat} {S : Stc} (h : SC σ dd c so fo s S) (hM : CM σ σ' p dd c r0) (hn : ∀ k, k < 14 → ¬ fo s k = r0) : SC σ' dd c so fo s S := by
  obtain ⟨a1, a2, a3, a4, a5⟩ := h
  refine ⟨by rw [hM.1.J (CFr_no (by omega))]; exact a1, by rw [hM.1.I (CFr_no (by omega))]; exact a2, by rw [hM.1.I (CFr_no (by omega))]; exact a3, a4, fun k F hF => (a5 k F hF).cm hM (hn k ?_)⟩
  have := (List.getElem?_eq_some_iff.mp hF).1
  omega
theorem DCo.cm {σ σ' : St} {p dd c r0 : Nat} {so : Nat → Nat} {fo : Nat → Nat → Nat} {En : List Enm} {Ss : List Stc} (h : DCo σ dd c so fo En Ss) (hM : CM σ σ' p dd c r0) (hn : ∀ s k, s < Ss.length → k < 14 → ¬ fo s k = r0) : DCo σ' dd c so fo En Ss := by
  obtain ⟨a1, a2, a3, a4, a5, a6⟩ := h
  refine ⟨by rw [hM.1.I (CFr_no (by omega))]; exact a1, a2, by rw [hM.1.I (CFr_no (by omega))]; exact a3, a4, fun e E hE => ?_, fun s S hS => (a6 s S hS).cm hM (fun k hk => hn s k (List.getElem?_eq_some_iff.mp hS).1 hk)⟩
  obtain ⟨b1, b2⟩ := a5 e E hE
  exact ⟨by rw [hM.1.J (CFr_no (by omega))]; exact b1, by rw [hM.1.I (CFr_no (f := 103) (by omega)), hM.1.I (CFr_no (f := 104) (by omega))]; exact b2.mo hM.2⟩
/-- the parser at a token; a: one more step of code than tokens -/
def CS (σ : St) (p t dd c : Nat) (X : Txt) (i a : Nat) : Prop :=
  PT σ p t X i ∧ gR σ 606 p 0 = some dd ∧ gR σ 607 p 0 = some c ∧ LC 1 σ dd ∧ LC 0 σ c ∧ (∃ nc : Nat, gI σ 2 c 0 = nc ∧ nc ≤ i + a) ∧ (∃ ne : Nat, gI σ 109 dd 0 = ne ∧ ne ≤ i)
/-- the struct that is being told -/
def ENV (σ : St) (p dd c : Nat) (so : Nat → Nat) (fo : Nat → Nat → Nat) (En : List Enm) (Ss : List Stc) (Fs : List Fld) : Prop :=
  DSh σ dd so fo ∧ DCo σ dd c so fo En Ss ∧ Ss.length < 20 ∧ gR σ 608 p 0 = some (so Ss.length) ∧ gI σ 802 (so Ss.length) 0 = (Fs.length : Int) ∧ Fs.length ≤ 14 ∧ ∀ k F, Fs[k]? = some F → FC σ dd c (fo Ss.length k) F
theorem ENV.cm {σ σ' : St} {p dd c : Nat} {so : Nat → Nat} {fo : Nat → Nat → Nat} {En : List Enm} {Ss : List Stc} {Fs : List Fld} (h : ENV σ p dd c so fo En Ss Fs) (h14 : Fs.length < 14) (hM : CM σ σ' p dd c (fo Ss.length Fs.length)) : ENV σ' p dd c so fo En Ss Fs := by
  obtain ⟨a1, a2, a3, a4, a5, a6, a7⟩ := h
  refine ⟨a1.cm hM, a2.cm hM (fun s k hs hk e => ?_), a3, by rw [hM.1.R (CFr_no (by omega))]; exact a4, by rw [hM.1.I (CFr_no (by omega))]; exact a5, a6, fun k F hF => (a7 k F hF).cm hM (fun e => ?_)⟩
  · have := a1.2.2 s Ss.length k Fs.length (by omega) a3 hk h14 e
    omega
  · have := (List.getElem?_eq_some_iff.mp hF).1
    have := a1.2.2 Ss.length Ss.length k Fs.length a3 a3 (by omega) h14 e
    omega
theorem CS.p {σ σ' : St} {p t dd c i i' a a' : Nat} {X : Txt} (h : CS σ p t dd c X i a) (hF : Frm (PFr p) σ σ') (hT : PT σ' p t X i') (hi : i + a ≤ i' + a') (hi2 : i ≤ i') : CS σ' p t dd c X i' a' := by
  obtain ⟨a1, a2, a3, a4, a5, ⟨nc, a6, a7⟩, ne, a8, a9⟩ := h
  refine ⟨hT, by rw [hF.R (by simp [PFr])]; exact a2, by rw [hF.R (by simp [PFr])]; exact a3, hF.lc a4, hF.lc a5, ⟨nc, by rw [hF.I (f := 2) (by simp [PFr])]; exact a6, by omega⟩, ne, by rw [hF.I (f := 109) (by simp [PFr])]; exact a8, by omega⟩
theorem CS.r {σ σ' : St} {p t dd c i a r0 : Nat} {X : Txt} (h : CS σ p t dd c X i a) (hF : Frm (fun f r => r = r0 ∧ 201 ≤ f ∧ f ≤ 216) σ σ') : CS σ' p t dd c X i a := by
  obtain ⟨a1, a2, a3, a4, a5, ⟨nc, a6, a7⟩, ne, a8, a9⟩ := h
  have n : ∀ f r, (f ≤ 200 ∨ 217 ≤ f) → ¬ (r = r0 ∧ 201 ≤ f ∧ f ≤ 216) := fun f r z q => by omega
  refine ⟨a1.frm hF (fun f f0 f1 => n _ _ (by omega)) (fun f f0 f1 => n _ _ (by omega)), by rw [hF.R (n _ _ (by omega))]; exact a2, by rw [hF.R (n _ _ (by omega))]; exact a3, hF.lc a4, hF.lc a5, ⟨nc, by rw [hF.I (n 2 _ (by omega))]; exact a6, by omega⟩, ne, by rw [hF.I (n 109 _ (by omega))]; exact a8, by omega⟩
theorem nx_ge {X : Txt} {i : Nat} : i ≤ X.nx i := by unfold Txt.nx; split <;> omega
theorem nx_gt {X : Txt} (h0 : ∀ i, i ≤ X.K → (X.k i = 0 ↔ i = X.K)) {i : Nat} (hi : i ≤ X.K) (hk : ¬ X.k i = 0) : X.nx i = i + 1 ∧ i + 1 ≤ X.K := by
  have := h0 i hi
  have : i < X.K := by omega
  exact ⟨if_pos this, by omega⟩
theorem Txt.OK.k0 {X : Txt} (hX : X.OK) : ∀ i, i ≤ X.K → (X.k i = 0 ↔ i = X.K) := fun i hi => by
  rcases tk_or hX hi with ⟨_, a, _, b⟩ | ⟨_, a, ⟨_, b⟩ | ⟨_, b, _⟩ | ⟨_, _, b, _⟩ | ⟨_, _, b, _⟩ | ⟨_, _, _, _, _, b⟩⟩
  · omega
  · omega
  · omega
  · omega
  · omega
  · rcases b with b | ⟨j, _, b⟩ <;> omega
