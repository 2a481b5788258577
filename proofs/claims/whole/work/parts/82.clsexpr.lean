/-! the class's parser at a token -/
def PT (σ : St) (p t : Nat) (X : Txt) (i : Nat) : Prop :=
  gR σ 602 p 0 = some t ∧ LC 9 σ t ∧ TokC kwd σ t X.T X.n ((X.K : Int) + 1) ∧ i ≤ X.K ∧ gI σ 603 p 0 = i ∧ gI σ 604 p 0 = X.k i ∧ gJ σ 605 p 0 = X.v i ∧ gI σ 600 p 0 = 0
def PFr (p : Nat) (f r : Nat) : Prop := r = p ∧ (f = 600 ∨ f = 601 ∨ f = 603 ∨ f = 604 ∨ f = 605 ∨ f = 610)
def FLT (σ : St) (p : Nat) (e : Int × Int) : Prop := gI σ 600 p 0 = e.1 ∧ gI σ 601 p 0 = e.2
theorem TokC.frm {kw : Int → Int64} {P : Nat → Nat → Prop} {σ σ' : St} {t : Nat} {T : Int → Int} {n k : Int} (h : TokC kw σ t T n k) (hF : Frm P σ σ') (h0 : ∀ f, 902 ≤ f → f ≤ 905 → ¬ P f t) : TokC kw σ' t T n k := by
  refine ⟨by rw [hF.I (h0 _ (by decide) (by decide))]; exact h.1, fun i hi => ?_⟩
  rw [hF.I (h0 _ (by decide) (by decide)), hF.I (h0 _ (by decide) (by decide)), hF.J (h0 _ (by decide) (by decide))]
  exact h.2 i hi
theorem PT.frm {P : Nat → Nat → Prop} {σ σ' : St} {p t : Nat} {X : Txt} {i : Nat} (h : PT σ p t X i) (hF : Frm P σ σ') (h0 : ∀ f, 902 ≤ f → f ≤ 905 → ¬ P f t) (h1 : ∀ f, 600 ≤ f → f ≤ 605 → ¬ P f p) : PT σ' p t X i := by
  obtain ⟨a1, a2, a3, a4, a5, a6, a7, a8⟩ := h
  refine ⟨by rw [hF.R (h1 _ (by decide) (by decide))]; exact a1, hF.lc a2, a3.frm hF h0, a4, ?_, ?_, ?_, ?_⟩
  · rw [hF.I (h1 _ (by decide) (by decide))]; exact a5
  · rw [hF.I (h1 _ (by decide) (by decide))]; exact a6
  · rw [hF.J (h1 _ (by decide) (by decide))]; exact a7
  · rw [hF.I (h1 _ (by decide) (by decide))]; exact a8
section X13
variable {g : GP} {l : Launch} {d : Nat} {σ : St} {p t : Nat} {X : Txt} {i : Nat}
theorem PT.at (h : PT σ p t X i) {j : Nat} (hj : j ≤ X.K) : gI σ 902 t j = X.k j ∧ gI σ 903 t j = X.q j ∧ gJ σ 904 t j = X.v j := h.2.2.1.2 j (by omega)
theorem c_check {b n : Int} {P : Int → St → Prop} (hX : X.OK) (hT : PT σ p t X i) (hb : b = 0 ∨ b = 1) (h1 : b = 1 → P 1 σ) (h0 : b = 0 → ∀ σ', Frm (PFr p) σ σ' → FLT σ' p (ck X i n) → P 0 σ') : ACi g l d MX6_check [vR 6 (some p), vI b, vI n] σ P := by
  have h3 := hX.h3
  have hK := hX.hKn
  have hAt := hT.at hT.2.2.2.1
  obtain ⟨a1, a2, a3, a4, a5, a6, a7⟩ := hT
  have e5 : (gI σ 603 p 0).toNat = i := by omega
  refine AC.of mo_X6_check (Nat.le_of_ble_eq_true rfl) (bk_X6_check_0 ⟨fun q => ⟨hb, _, rfl, ?_⟩, fun q => ⟨fun q1 => ⟨t, a1, a2, ⟨by omega, by omega⟩, hb, _, rfl, ?_⟩, fun q1 => ⟨t, a1, a2, ⟨by omega, by omega⟩, hb, _, rfl, ?_⟩⟩⟩)
  · rw [show b = 1 by omega]; exact h1 (by omega)
  · rw [q]
    refine h0 q _ ((Frm.sI (by simp [PFr])).trans (Frm.sI (by simp [PFr]))) ⟨?_, ?_⟩
    · rw [gI_sI, if_neg (by simp), gI_slf]
      show n = if X.k i = 1 then 1 else n
      rw [if_neg (by omega)]
    · rw [gI_slf, e5]; exact hAt.2.1
  · rw [q]
    refine h0 q _ ((Frm.sI (by simp [PFr])).trans (Frm.sI (by simp [PFr]))) ⟨?_, ?_⟩
    · rw [gI_sI, if_neg (by simp), gI_slf]
      show 1 = if X.k i = 1 then 1 else n
      rw [if_pos (by omega)]
    · rw [gI_slf, e5]; exact hAt.2.1
theorem c_pass {P : St → Prop} (hX : X.OK) (hT : PT σ p t X i) (h : ∀ σ', Frm (PFr p) σ σ' → PT σ' p t X (X.nx i) → P σ') : ACv g l d MX6_pass [vR 6 (some p)] σ P := by
  have h3 := hX.h3
  have hK := hX.hKn
  have hT' := hT
  obtain ⟨a1, a2, a3, a4, a5, a6, a7⟩ := hT
  have e0 := a3.1
  refine AC.of mo_X6_pass (Nat.le_of_ble_eq_true rfl) (bk_X6_pass_0 ⟨t, a1, ⟨by omega, by omega⟩, fun q => ⟨rfl, h σ Frm.rfl ?_⟩, fun q => ⟨⟨by omega, by omega⟩, a2, ⟨by omega, by omega⟩, rfl, ?_⟩⟩)
  · unfold Txt.nx; rw [if_neg (by omega)]; exact hT'
  · have e5 : (gI σ 603 p 0 + 1).toNat = i + 1 := by omega
    have hAt := hT'.at (j := i + 1) (by omega)
    have hF : Frm (PFr p) σ (sJ (sI (sI σ 603 p 0 (gI σ 603 p 0 + 1)) 604 p 0 (gI σ 902 t (gI σ 603 p 0 + 1).toNat)) 605 p 0 (gJ σ 904 t (gI σ 603 p 0 + 1).toNat)) := (Frm.sI (by simp [PFr])).trans ((Frm.sI (by simp [PFr])).trans (Frm.sJ (by simp [PFr])))
    refine h _ hF ?_
    have en : X.nx i = i + 1 := if_pos (by omega)
    rw [en]
    refine ⟨by rw [hF.R (by simp [PFr])]; exact a1, hF.lc a2, a3.frm hF (fun f f0 f1 => by simp [PFr]; omega), by omega, ?_, ?_, ?_, ?_⟩
    · rw [gI_sJ, gI_sI, if_neg (by simp), gI_slf, a5]; omega
    · rw [gI_sJ, gI_slf, e5]; exact hAt.1
    · rw [gJ_slf, e5]; exact hAt.2.2
    · rw [gI_sJ, gI_sI, if_neg (by simp), gI_sI, if_neg (by simp)]; exact a7.2
theorem c_take {w : Int} {P : Int → St → Prop} (hX : X.OK) (hT : PT σ p t X i) (h1 : X.k i = w → ∀ σ', Frm (PFr p) σ σ' → PT σ' p t X (X.nx i) → P 1 σ') (h0 : ¬ X.k i = w → ∀ σ', Frm (PFr p) σ σ' → FLT σ' p (ck X i 2) → P 0 σ') : ACi g l (d + 1) MX6_take [vR 6 (some p), vI w] σ P := by
  have e := hT.2.2.2.2.2.1
  have fin : ∀ b : Int, (b = 0 ∧ ¬ X.k i = w ∨ b = 1 ∧ X.k i = w) → AW g l (d + 1) MX6_take 14 [some (vR 6 (some p)), none] [vI b, vR 6 (some p)] σ (fun v σ' => ∃ r, v = some (vI r) ∧ P r σ') := by
    intro b hb
    refine bk_X6_take_14 ⟨p, rfl, c_check hX hT (by omega) (fun q => ⟨fun _ => c_pass hX hT (fun σ' hF hP => ⟨_, rfl, h1 (by omega) σ' hF hP⟩), fun z => absurd z (by decide)⟩) (fun q σ' hF hf => ⟨fun z => absurd rfl z, fun _ => ⟨_, rfl, h0 (by omega) σ' hF hf⟩⟩)⟩
  exact AC.of mo_X6_take (Nat.le_of_ble_eq_true rfl) (bk_X6_take_0 ⟨fun q => fin 0 (by omega), fun q => fin 1 (by omega)⟩)
theorem c_takeIf {w : Int} {P : Int → St → Prop} (hX : X.OK) (hT : PT σ p t X i) (h1 : X.k i = w → ∀ σ', Frm (PFr p) σ σ' → PT σ' p t X (X.nx i) → P 1 σ') (h0 : ¬ X.k i = w → P 0 σ) : ACi g l (d + 1) MX6_takeIf [vR 6 (some p), vI w] σ P := by
  have e := hT.2.2.2.2.2.1
  refine AC.of mo_X6_takeIf (Nat.le_of_ble_eq_true rfl) (bk_X6_takeIf_0 ⟨fun q => bk_X6_takeIf_13 ⟨fun _ => ⟨Or.inl rfl, _, rfl, h0 (by omega)⟩, fun z => absurd rfl z⟩, fun q => bk_X6_takeIf_13 ⟨fun z => absurd z (by decide), fun _ => c_pass hX hT (fun σ' hF hP => ⟨Or.inr rfl, _, rfl, h1 (by omega) σ' hF hP⟩)⟩⟩)
theorem x_levelOf {k : Int} {P : Int → St → Prop} (h : P (lv k) σ) : ACi g l d MX6_levelOf [vI k] σ P := by
  refine AC.of mo_X6_levelOf (Nat.le_of_ble_eq_true rfl) (bk_X6_levelOf_0 ⟨fun e => ⟨_, rfl, ?_⟩, fun e => ⟨_, rfl, ?_⟩, fun e => ⟨_, rfl, ?_⟩, fun e => ⟨_, rfl, ?_⟩, fun e => ⟨_, rfl, ?_⟩, fun e => ⟨_, rfl, ?_⟩, fun e => ⟨_, rfl, ?_⟩, fun e => ⟨_, rfl, ?_⟩, fun e => ⟨_, rfl, ?_⟩, fun e => ⟨_, rfl, ?_⟩, fun e => ⟨_, rfl, ?_⟩, fun e1 e2 e3 e4 e5 e6 e7 e8 e9 e10 e11 => ⟨_, rfl, ?_⟩⟩)
  · rw [e] at h; exact h
  · rw [e] at h; exact h
  · rw [e] at h; exact h
  · rw [e] at h; exact h
  · rw [e] at h; exact h
  · rw [e] at h; exact h
  · rw [e] at h; exact h
  · rw [e] at h; exact h
  · rw [e] at h; exact h
  · rw [e] at h; exact h
  · rw [e] at h; exact h
  · unfold lv at h
    rw [if_neg e11, if_neg e10, if_neg (by omega), if_neg (by omega), if_neg (by omega)] at h
    exact h
end X13
/-! the class's expressions -/
def EFr (p c : Nat) (f r : Nat) : Prop := PFr p f r ∨ (r = c ∧ f ≤ 2)
def EE (σ0 τ : St) (p c b : Nat) : Prop := Frm (EFr p c) σ0 τ ∧ (∀ j : Nat, j < b → gI τ 0 c j = gI σ0 0 c j ∧ gJ τ 1 c j = gJ σ0 1 c j) ∧ (b : Int) ≤ gI τ 2 c 0
/-- the steps N stand in the code from b on -/
def CN (σ : St) (c b : Nat) (N : List Nd) : Prop := ∀ j x, N[j]? = some x → gI σ 0 c (b + j) = x.o ∧ gJ σ 1 c (b + j) = x.v
def PS (σ0 τ : St) (p t c : Nat) (X : Txt) (b i : Nat) (N : List Nd) : Prop := EE σ0 τ p c b ∧ PT τ p t X i ∧ gI τ 2 c 0 = ((b + N.length : Nat) : Int) ∧ CN τ c b N
theorem EFr_P {p c : Nat} (f r : Nat) (h : PFr p f r) : EFr p c f r := Or.inl h
theorem EFr_600 {p c t : Nat} : (∀ f, 902 ≤ f → f ≤ 905 → ¬ EFr p c f t) ∧ ¬ EFr p c 602 p ∧ ¬ EFr p c 607 p ∧ ¬ EFr p c 606 p ∧ ¬ EFr p c 608 p := by
  refine ⟨fun f f0 f1 => ?_, ?_, ?_, ?_, ?_⟩ <;> simp only [EFr, PFr] <;> omega
theorem EFr_607 {p c : Nat} : ¬ EFr p c 607 p := by simp only [EFr, PFr]; omega
theorem EE.p {σ0 τ τ' : St} {p c b : Nat} (h : EE σ0 τ p c b) (hF : Frm (PFr p) τ τ') : EE σ0 τ' p c b := by
  refine ⟨h.1.trans (hF.mono EFr_P), fun j hj => ?_, ?_⟩
  · rw [hF.I (f := 0) (by simp [PFr]), hF.J (f := 1) (by simp [PFr])]; exact h.2.1 j hj
  · rw [hF.I (f := 2) (by simp [PFr])]; exact h.2.2
theorem CN.p {τ τ' : St} {p c b : Nat} {N : List Nd} (h : CN τ c b N) (hF : Frm (PFr p) τ τ') : CN τ' c b N := fun j x hx => by
  rw [hF.I (f := 0) (by simp [PFr]), hF.J (f := 1) (by simp [PFr])]; exact h j x hx
theorem PS.p {σ0 τ τ' : St} {p t c b i i' : Nat} {X : Txt} {N : List Nd} (h : PS σ0 τ p t c X b i N) (hF : Frm (PFr p) τ τ') (hT : PT τ' p t X i') : PS σ0 τ' p t c X b i' N :=
  ⟨h.1.p hF, hT, by rw [hF.I (f := 2) (by simp [PFr])]; exact h.2.2.1, h.2.2.2.p hF⟩
section X14
variable {g : GP} {l : Launch} {d : Nat} {σ0 τ : St} {p t c b i : Nat} {X : Txt} {N : List Nd}
theorem add_F {s k : Int} {v : Int64} : Frm (EFr p c) τ (sI (sJ (sI τ 0 c k.toNat s) 1 c k.toNat v) 2 c 0 (k + 1)) := (Frm.sI (by simp [EFr])).trans ((Frm.sJ (by simp [EFr])).trans (Frm.sI (by simp [EFr])))
theorem add_EE {s k : Int} {v : Int64} (h : EE σ0 τ p c b) (hk : gI τ 2 c 0 = k) : EE σ0 (sI (sJ (sI τ 0 c k.toNat s) 1 c k.toNat v) 2 c 0 (k + 1)) p c b := by
  have hb := h.2.2
  refine ⟨h.1.trans add_F, fun j hj => ?_, ?_⟩
  · simp only [gI_sI, gI_sJ, gJ_sI, gJ_sJ, true_and, false_and, if_false, Nat.reduceEqDiff]
    rw [if_neg (by omega), if_neg (by omega)]
    exact h.2.1 j hj
  · rw [gI_slf]; omega
theorem c_addE {s : Int} {v : Int64} {P : St → Prop} (hL : LC 0 σ0 c) (h : EE σ0 τ p c b) (hp : ∀ τ', EE σ0 τ' p c b → Frm (fun f r => r = c ∧ f ≤ 2) τ τ' → P τ') : ACv g l d MX0_add [vR 0 (some c), vI s, vJ v] τ P := by
  have hb := h.2.2
  exact AC.of mo_X0_add (Nat.le_of_ble_eq_true rfl) (bk_X0_add_0 ⟨fun _ => ⟨rfl, hp τ h Frm.rfl⟩, fun q => ⟨h.1.lc hL, ⟨by omega, by omega⟩, ⟨by omega, by omega⟩, rfl, hp _ (add_EE h rfl) ((Frm.sI (by simp)).trans ((Frm.sJ (by simp)).trans (Frm.sI (by simp))))⟩⟩)
theorem c_add {s : Int} {v : Int64} {a' b' : Nat} {P : St → Prop} (hL : LC 0 σ0 c) (h : PS σ0 τ p t c X b i N) (h3 : b + N.length ≤ 3000) (hp : ∀ τ', PS σ0 τ' p t c X b i (N ++ [⟨s, v, a', b'⟩]) → P τ') : ACv g l d MX0_add [vR 0 (some c), vI s, vJ v] τ P := by
  obtain ⟨hE, hT, hn, hC⟩ := h
  refine AC.of mo_X0_add (Nat.le_of_ble_eq_true rfl) (bk_X0_add_0 ⟨fun q => absurd q (by omega), fun q => ⟨hE.1.lc hL, ⟨by omega, by omega⟩, ⟨by omega, by omega⟩, rfl, hp _ ⟨add_EE hE rfl, hT.frm (P := fun f r => r = c ∧ f ≤ 2) ((Frm.sI (by simp)).trans ((Frm.sJ (by simp)).trans (Frm.sI (by simp)))) (fun f f0 f1 q => by have := q.2; omega) (fun f f0 f1 q => by have := q.2; omega), ?_, fun j x hx => ?_⟩⟩⟩)
  · rw [gI_slf, hn, List.length_append]; show _ = ((b + (N.length + 1) : Nat) : Int); omega
  · simp only [gI_sI, gI_sJ, gJ_sI, gJ_sJ, true_and, false_and, if_false, Nat.reduceEqDiff]
    rw [hn]
    by_cases e : j = N.length
    · rw [if_pos (by omega), if_pos (by omega)]
      rw [e, List.getElem?_append_right (Nat.le_refl _), Nat.sub_self] at hx
      cases hx
      exact ⟨rfl, rfl⟩
    · have hlt : j < (N ++ [(⟨s, v, a', b'⟩ : Nd)]).length := (List.getElem?_eq_some_iff.mp hx).1
      rw [List.length_append] at hlt
      have hlt : j < N.length + 1 := hlt
      rw [if_neg (by omega), if_neg (by omega)]
      rw [List.getElem?_append_left (by omega)] at hx
      exact hC j x hx
def RP (σ0 : St) (p t c : Nat) (X : Txt) (b : Nat) (r : Except (Int × Int) (Nat × List Nd)) (v : Int) (τ : St) : Prop :=
  match r with
  | .ok s => v = 1 ∧ PS σ0 τ p t c X b s.1 s.2
  | .error e => v = 0 ∧ EE σ0 τ p c b ∧ FLT τ p e
theorem i2j_m1 {z : Int} (h0 : -1 ≤ z) (h1 : z ≤ 1000) : i2j z = (-1 : Int64) ↔ z = -1 := by
  constructor
  · intro h
    have := congrArg Int64.toInt h
    rw [i2j_toInt, w32_id (by omega) (by omega)] at this
    exact this
  · rintro rfl; rfl
theorem x_rl {ln : Int64 → Int} (hX : X.OK) (h0 : ∀ i, i ≤ X.K → (X.k i = 0 ↔ i = X.K)) (hL : LC 0 σ0 c) (hc : gR σ0 607 p 0 = some c) (hln : ∀ w, -1 ≤ ln w ∧ ln w ≤ 1000)
    (HL : ∀ τ, Frm (EFr p c) σ0 τ → ∀ d w (P : Int → St → Prop), P (ln w) τ → ACi g l d MX6_operandNamed [vR 6 (some p), vJ w] τ P) : ∀ f : Nat,
    (∀ (d n i : Nat) (N : List Nd) (τ : St) r (P : Int → St → Prop), rl X ln f none 5 n i N = some r → PS σ0 τ p t c X b i N → b + N.length ≤ i → n ≤ 15 → 7 * (15 - n) + 2 ≤ d → (∀ v τ', RP σ0 p t c X b r v τ' → P v τ') → ACi g l d MX6_readFactor [vR 6 (some p), vI n] τ P) ∧
    (∀ (d L n i : Nat) (N : List Nd) (τ : St) r (P : Int → St → Prop), L ≤ 5 → rl X ln f none L n i N = some r → PS σ0 τ p t c X b i N → b + N.length ≤ i → n ≤ 15 → 7 * (15 - n) + 3 + (5 - L) ≤ d → (∀ v τ', RP σ0 p t c X b r v τ' → P v τ') → ACi g l d MX6_readLevel [vR 6 (some p), vI L, vI n] τ P) ∧
    (∀ (d cc L n i : Nat) (N : List Nd) (τ : St) r (x3 x4 : Int) (P : Int → St → Prop), L < 5 → rl X ln f (some cc) L n i N = some r → PS σ0 τ p t c X b i N → b + N.length ≤ i → n ≤ 15 → 7 * (15 - n) + 3 + (5 - L) ≤ d → x3 - x4 = cc → 0 ≤ x4 → x3 ≤ 3000 → (∀ v τ', RP σ0 p t c X b r v τ' → P v τ') →
      AW g l d MX6_readLevel 40 [some (vR 6 (some p)), some (vI L), some (vI n), some (vI x3), some (vI x4), none] [] τ (fun v σ' => ∃ r, v = some (vI r) ∧ P r σ')) := by
  have hKn := hX.hKn
  have hn3 := hX.h3
  intro f
  induction f with
  | zero =>
    refine ⟨fun d n i N τ r P h => absurd h (by simp [rl]), fun d L n i N τ r P _ h => absurd h (by simp [rl]), fun d cc L n i N τ r x3 x4 P _ h => absurd h (by simp [rl])⟩
  | succ f ih =>
    obtain ⟨ihA, ihB, ihC⟩ := ih
    have hA : ∀ (d n i : Nat) (N : List Nd) (τ : St) r (P : Int → St → Prop), rl X ln (f + 1) none 5 n i N = some r → PS σ0 τ p t c X b i N → b + N.length ≤ i → n ≤ 15 → 7 * (15 - n) + 2 ≤ d → (∀ v τ', RP σ0 p t c X b r v τ' → P v τ') → ACi g l d MX6_readFactor [vR 6 (some p), vI n] τ P := by
      intro d n i N τ r P h hS hb hn hd hP
      obtain ⟨d, rfl⟩ : ∃ d', d = d' + 1 := ⟨d - 1, by omega⟩
      have hT := hS.2.1
      have ek := hT.2.2.2.2.2.1
      have ev := hT.2.2.2.2.2.2.1
      have hiK := hT.2.2.2.1
      have k0 := h0 i hiK
      have hF0 := hS.1.1
      rw [rl, if_neg (by decide)] at h
      have err : ∀ n' σ', Frm (PFr p) τ σ' → FLT σ' p (ck X i n') → r = .error (ck X i n') → P 0 σ' := fun n' σ' hF hf e => hP 0 σ' (by rw [e]; exact ⟨rfl, hS.1.p hF, hf⟩)
      have s260 : ∀ (i1 : Nat) (N1 : List Nd) (τ1 : St) (y0 : Int), PS σ0 τ1 p t c X b i1 N1 → (y0 = 0 ∧ ¬ X.k i1 = 41 ∨ y0 = 1 ∧ X.k i1 = 41) → (if X.k i1 = 41 then some (.ok (X.nx i1, N1)) else some (.error (ck X i1 2)) : RX) = some r → AW g l (d + 1) MX6_readFactor 260 [some (vR 6 (some p)), none, none, none, none, none, none, none, none] [vI y0, vR 6 (some p)] τ1 (fun v σ' => ∃ r, v = some (vI r) ∧ P r σ') := by
        intro i1 N1 τ1 y0 hS1 hy hr
        refine bk_X6_readFactor_260 ⟨p, rfl, c_check hX hS1.2.1 (by omega) (fun q => ⟨fun _ => c_pass hX hS1.2.1 (fun σ' hF hT' => ⟨_, rfl, hP _ _ ?_⟩), fun z => absurd z (by decide)⟩) (fun q σ' hF hf => ⟨fun z => absurd rfl z, fun _ => ⟨_, rfl, hP _ _ ?_⟩⟩)⟩
        · rw [if_pos (by omega)] at hr
          cases hr
          exact ⟨rfl, hS1.p hF hT'⟩
        · rw [if_neg (by omega)] at hr
          cases hr
          exact ⟨rfl, hS1.1.p hF, hf⟩
      have s168 : ∀ (o y0 : Int) (x6 : Int64), (o = 1 ∧ (X.k i = 40 ∨ X.k i = 45 ∨ X.k i = 226) ∨ o = 0 ∧ ¬ (X.k i = 40 ∨ X.k i = 45 ∨ X.k i = 226)) → (X.k i = 2 → x6 = i2j (ln (X.v i)) ∧ ¬ ln (X.v i) = -1) → (¬ X.k i = 2 → x6 = X.v i) → ((X.k i = 40 ∨ X.k i = 45 ∨ X.k i = 226) ∨ X.k i = 2 ∨ (X.k i = 3 ∨ X.k i = 212 ∨ X.k i = 222 ∨ X.k i = 223)) → (y0 = 0 ∧ o = 1 ∧ 15 ≤ n ∨ y0 = 1 ∧ (o = 1 → ¬ 15 ≤ n)) →
          AW g l (d + 1) MX6_readFactor 168 [some (vR 6 (some p)), some (vI n), some (vI (X.k i)), some (vI o), none, none, some (vJ x6), none, none] [vI y0, vR 6 (some p)] τ (fun v σ' => ∃ r, v = some (vI r) ∧ P r σ') := by
        intro o y0 x6 ho hx2 hxv hk hy
        refine bk_X6_readFactor_168 ⟨p, rfl, c_check hX hT (by omega) (fun q => ⟨fun _ => c_pass hX hT (fun σ1 hF1 hT1 => ?_), fun z => absurd z (by decide)⟩) (fun q σ' hF hf => ⟨fun z => absurd rfl z, fun _ => ⟨_, rfl, err 5 σ' hF hf ?_⟩⟩)⟩
        · have hS1 := hS.p hF1 hT1
          have hc1 : gR σ1 607 p 0 = some c := by rw [hS1.1.1.R EFr_607]; exact hc
          have nxi : X.nx i = i + 1 := if_pos (by omega)
          refine ⟨fun zo => ?_, fun zo => ?_⟩
          · have hO : X.k i = 40 ∨ X.k i = 45 ∨ X.k i = 226 := by omega
            have n15 : ¬ 15 ≤ n := by omega
            rw [if_pos hO, if_neg n15] at h
            refine ⟨fun k40 => ⟨⟨by omega, by omega⟩, ?_⟩, fun k40 => ⟨⟨by omega, by omega⟩, ?_⟩⟩
            · rw [if_pos k40] at h
              cases h1 : rl X ln f none 0 (n + 1) (X.nx i) N with
              | none => rw [h1] at h; exact absurd h (by simp)
              | some r1 =>
                rw [h1] at h
                refine ihB d 0 (n + 1) (X.nx i) N σ1 r1 _ (by omega) h1 hS1 (by omega) (by omega) (by omega) (fun v τ' hR => ?_)
                match r1, h, h1, hR with
                | .error e, h, h1, hR =>
                  obtain ⟨rfl, e1, e2⟩ := hR
                  refine ⟨fun _ => ⟨_, rfl, hP 0 τ' ?_⟩, fun z => absurd rfl z⟩
                  cases h
                  exact ⟨rfl, e1, e2⟩
                | .ok (i1, N1), h, h1, hR =>
                  obtain ⟨rfl, hS2⟩ := hR
                  have hS2 : PS σ0 τ' p t c X b i1 N1 := hS2
                  refine ⟨fun z => absurd z (by decide), fun _ => ?_⟩
                  have ek2 := hS2.2.1.2.2.2.2.2.1
                  exact ⟨fun z => s260 i1 N1 τ' 0 hS2 (Or.inl ⟨rfl, by rw [← ek2]; exact z⟩) h, fun z => s260 i1 N1 τ' 1 hS2 (Or.inr ⟨rfl, by rw [← ek2]; exact z⟩) h⟩
            · rw [if_neg k40] at h
              cases h1 : rl X ln f none 5 (n + 1) (X.nx i) N with
              | none => rw [h1] at h; exact absurd h (by simp)
              | some r1 =>
                rw [h1] at h
                have ok := fun i1 N1 (e : r1 = .ok (i1, N1)) => rl_ok h0 _ _ _ _ _ _ i1 N1 (by rw [← e]; exact h1) (by omega) (by omega) (by omega)
                refine ihA d (n + 1) (X.nx i) N σ1 r1 _ h1 hS1 (by omega) (by omega) (by omega) (fun v τ' hR => ?_)
                match r1, h, h1, hR, ok with
                | .error e, h, h1, hR, ok =>
                  obtain ⟨rfl, e1, e2⟩ := hR
                  cases h
                  have hc2 : gR τ' 607 p 0 = some c := by rw [e1.1.R EFr_607]; exact hc
                  have fl : ∀ τ2, Frm (fun f r => r = c ∧ f ≤ 2) τ' τ2 → FLT τ2 p e := fun τ2 hF2 => ⟨by rw [hF2.I (fun q => absurd q.2 (by omega))]; exact e2.1, by rw [hF2.I (fun q => absurd q.2 (by omega))]; exact e2.2⟩
                  refine ⟨fun _ => ⟨c, hc2, c_addE hL e1 (fun τ2 hE2 hF2 => ⟨Or.inl rfl, _, rfl, hP 0 τ2 ⟨rfl, hE2, fl τ2 hF2⟩⟩)⟩, fun _ => ⟨c, hc2, c_addE hL e1 (fun τ2 hE2 hF2 => ⟨Or.inl rfl, _, rfl, hP 0 τ2 ⟨rfl, hE2, fl τ2 hF2⟩⟩)⟩⟩
                | .ok (i1, N1), h, h1, hR, ok =>
                  obtain ⟨rfl, hS2⟩ := hR
                  have hS2 : PS σ0 τ' p t c X b i1 N1 := hS2
                  have hc2 : gR τ' 607 p 0 = some c := by rw [hS2.1.1.R EFr_607]; exact hc
                  obtain ⟨b1, b2, b3, _⟩ := ok i1 N1 rfl
                  cases h
                  refine ⟨fun z => ⟨c, hc2, c_add (a' := N1.length - 1) (b' := 0) hL hS2 (by omega) (fun τ2 hS3 => ⟨Or.inr rfl, _, rfl, hP 1 τ2 ⟨rfl, ?_⟩⟩)⟩, fun z => ⟨c, hc2, c_add (a' := N1.length - 1) (b' := 0) hL hS2 (by omega) (fun τ2 hS3 => ⟨Or.inr rfl, _, rfl, hP 1 τ2 ⟨rfl, ?_⟩⟩)⟩⟩
                  · rw [if_neg z]
                    rw [show X.k i = 226 by omega] at hS3
                    exact hS3
                  · rw [if_pos z]; exact hS3
          · have hO : ¬ (X.k i = 40 ∨ X.k i = 45 ∨ X.k i = 226) := by omega
            rw [if_neg hO] at h
            refine ⟨c, hc1, c_add (a' := 0) (b' := 0) hL hS1 (by omega) (fun τ2 hS2 => ⟨_, rfl, hP 1 τ2 ?_⟩)⟩
            by_cases k2 : X.k i = 2
            · obtain ⟨e1, e2⟩ := hx2 k2
              rw [if_pos k2, if_neg e2] at h
              cases h
              rw [e1, k2] at hS2
              exact ⟨rfl, hS2⟩
            · rw [if_neg k2, if_pos (by omega)] at h
              cases h
              rw [hxv k2] at hS2
              exact ⟨rfl, hS2⟩
        · rw [if_pos (by omega), if_pos (by omega)] at h
          cases h; rfl
      have s145 : ∀ (o y0 : Int) (x6 : Int64), (o = 1 ∧ (X.k i = 40 ∨ X.k i = 45 ∨ X.k i = 226) ∨ o = 0 ∧ ¬ (X.k i = 40 ∨ X.k i = 45 ∨ X.k i = 226)) → (X.k i = 2 → x6 = i2j (ln (X.v i))) → (¬ X.k i = 2 → x6 = X.v i) → ((X.k i = 40 ∨ X.k i = 45 ∨ X.k i = 226) ∨ X.k i = 2 ∨ (X.k i = 3 ∨ X.k i = 212 ∨ X.k i = 222 ∨ X.k i = 223)) → (y0 = 0 ∧ X.k i = 2 ∧ ln (X.v i) = -1 ∨ y0 = 1 ∧ (X.k i = 2 → ¬ ln (X.v i) = -1)) →
          AW g l (d + 1) MX6_readFactor 145 [some (vR 6 (some p)), some (vI n), some (vI (X.k i)), some (vI o), none, none, some (vJ x6), none, none] [vI y0, vR 6 (some p)] τ (fun v σ' => ∃ r, v = some (vI r) ∧ P r σ') := by
        intro o y0 x6 ho hx2 hxv hk hy
        refine bk_X6_readFactor_145 ⟨p, rfl, c_check hX hT (by omega) (fun q => ⟨fun z => absurd z (by decide), fun _ => ?_⟩) (fun q σ' hF hf => ⟨fun _ => ⟨_, rfl, err 4 σ' hF hf ?_⟩, fun z => absurd rfl z⟩)⟩
        · have l2 : X.k i = 2 → x6 = i2j (ln (X.v i)) ∧ ¬ ln (X.v i) = -1 := fun e => ⟨hx2 e, by omega⟩
          exact ⟨fun zo => s168 o 1 x6 ho l2 hxv hk (Or.inr ⟨rfl, fun e => by omega⟩), fun zo => ⟨fun zn => s168 o 0 x6 ho l2 hxv hk (Or.inl ⟨rfl, by omega, by omega⟩), fun zn => s168 o 1 x6 ho l2 hxv hk (Or.inr ⟨rfl, fun _ => by omega⟩)⟩⟩
        · have : X.k i = 2 ∧ ln (X.v i) = -1 := by omega
          rw [if_neg (by omega), if_pos this.1, if_pos this.2] at h
          cases h; rfl
      have s118 : ∀ (o nm y0 : Int) (x6 : Int64), (o = 1 ∧ (X.k i = 40 ∨ X.k i = 45 ∨ X.k i = 226) ∨ o = 0 ∧ ¬ (X.k i = 40 ∨ X.k i = 45 ∨ X.k i = 226)) → (nm = 1 ∧ X.k i = 2 ∨ nm = 0 ∧ ¬ X.k i = 2) → (X.k i = 2 → x6 = i2j (ln (X.v i))) → (¬ X.k i = 2 → x6 = X.v i) → (y0 = 1 ∧ ((X.k i = 40 ∨ X.k i = 45 ∨ X.k i = 226) ∨ X.k i = 2 ∨ (X.k i = 3 ∨ X.k i = 212 ∨ X.k i = 222 ∨ X.k i = 223)) ∨ y0 = 0 ∧ ¬ ((X.k i = 40 ∨ X.k i = 45 ∨ X.k i = 226) ∨ X.k i = 2 ∨ (X.k i = 3 ∨ X.k i = 212 ∨ X.k i = 222 ∨ X.k i = 223))) →
          AW g l (d + 1) MX6_readFactor 118 [some (vR 6 (some p)), some (vI n), some (vI (X.k i)), some (vI o), some (vI nm), none, some (vJ x6), none, none] [vI y0, vR 6 (some p)] τ (fun v σ' => ∃ r, v = some (vI r) ∧ P r σ') := by
        intro o nm y0 x6 ho hnm hx2 hxv hy
        have lm := hln (X.v i)
        have l1 := i2j_m1 lm.1 lm.2
        refine bk_X6_readFactor_118 ⟨p, rfl, c_check hX hT (by omega) (fun q => ⟨fun z => absurd z (by decide), fun _ => ?_⟩) (fun q σ' hF hf => ⟨fun _ => ⟨_, rfl, err 2 σ' hF hf ?_⟩, fun z => absurd rfl z⟩)⟩
        · exact ⟨fun zn => s145 o 1 x6 ho hx2 hxv (by omega) (Or.inr ⟨rfl, fun e => by omega⟩), fun zn => ⟨fun z => s145 o 0 x6 ho hx2 hxv (by omega) (Or.inl ⟨rfl, by omega, l1.mp (by rw [← hx2 (by omega)]; exact z)⟩), fun z => s145 o 1 x6 ho hx2 hxv (by omega) (Or.inr ⟨rfl, fun e y => z (by rw [hx2 e]; exact l1.mpr y)⟩)⟩⟩
        · rw [if_neg (by omega), if_neg (by omega), if_neg (by omega)] at h
          cases h; rfl
      have s96 : ∀ (o nm pl : Int) (y0 : Int64), (o = 1 ∧ (X.k i = 40 ∨ X.k i = 45 ∨ X.k i = 226) ∨ o = 0 ∧ ¬ (X.k i = 40 ∨ X.k i = 45 ∨ X.k i = 226)) → (nm = 1 ∧ X.k i = 2 ∨ nm = 0 ∧ ¬ X.k i = 2) → (pl = 1 ∧ (X.k i = 3 ∨ X.k i = 212 ∨ X.k i = 222 ∨ X.k i = 223) ∨ pl = 0 ∧ ¬ (X.k i = 3 ∨ X.k i = 212 ∨ X.k i = 222 ∨ X.k i = 223)) → (X.k i = 2 → y0 = i2j (ln (X.v i))) → (¬ X.k i = 2 → y0 = X.v i) →
          AW g l (d + 1) MX6_readFactor 96 [some (vR 6 (some p)), some (vI n), some (vI (X.k i)), some (vI o), some (vI nm), some (vI pl), none, none, none] [vJ y0] τ (fun v σ' => ∃ r, v = some (vI r) ∧ P r σ') := by
        intro o nm pl y0 ho hnm hpl hx2 hxv
        exact bk_X6_readFactor_96 ⟨fun z => s118 o nm 1 y0 ho hnm hx2 hxv (by omega), fun z => ⟨fun z2 => s118 o nm 1 y0 ho hnm hx2 hxv (by omega), fun z2 => ⟨fun z3 => s118 o nm 0 y0 ho hnm hx2 hxv (by omega), fun z3 => s118 o nm 1 y0 ho hnm hx2 hxv (by omega)⟩⟩⟩
      have s73 : ∀ (o nm pl : Int), (o = 1 ∧ (X.k i = 40 ∨ X.k i = 45 ∨ X.k i = 226) ∨ o = 0 ∧ ¬ (X.k i = 40 ∨ X.k i = 45 ∨ X.k i = 226)) → (nm = 1 ∧ X.k i = 2 ∨ nm = 0 ∧ ¬ X.k i = 2) → (pl = 1 ∧ (X.k i = 3 ∨ X.k i = 212 ∨ X.k i = 222 ∨ X.k i = 223) ∨ pl = 0 ∧ ¬ (X.k i = 3 ∨ X.k i = 212 ∨ X.k i = 222 ∨ X.k i = 223)) →
          AW g l (d + 1) MX6_readFactor 73 [some (vR 6 (some p)), some (vI n), some (vI (X.k i)), some (vI o), some (vI nm), none, none, none, none] [vI pl] τ (fun v σ' => ∃ r, v = some (vI r) ∧ P r σ') := by
        intro o nm pl ho hnm hpl
        refine bk_X6_readFactor_73 ⟨fun z => ?_, fun z => HL τ hF0 _ _ _ ?_⟩
        · exact s96 o nm pl _ ho hnm hpl (fun e => by omega) (fun _ => ev)
        · rw [ev]
          exact s96 o nm pl _ ho hnm hpl (fun _ => rfl) (fun e => by omega)
      have s40 : ∀ (o nm : Int), (o = 1 ∧ (X.k i = 40 ∨ X.k i = 45 ∨ X.k i = 226) ∨ o = 0 ∧ ¬ (X.k i = 40 ∨ X.k i = 45 ∨ X.k i = 226)) → (nm = 1 ∧ X.k i = 2 ∨ nm = 0 ∧ ¬ X.k i = 2) →
          AW g l (d + 1) MX6_readFactor 40 [some (vR 6 (some p)), some (vI n), some (vI (X.k i)), some (vI o), none, none, none, none, none] [vI nm] τ (fun v σ' => ∃ r, v = some (vI r) ∧ P r σ') := by
        intro o nm ho hnm
        exact bk_X6_readFactor_40 ⟨fun z => s73 o nm 1 ho hnm (by omega), fun z => ⟨fun z1 => s73 o nm 1 ho hnm (by omega), fun z1 => ⟨fun z2 => s73 o nm 1 ho hnm (by omega), fun z2 => ⟨fun z3 => s73 o nm 0 ho hnm (by omega), fun z3 => s73 o nm 1 ho hnm (by omega)⟩⟩⟩⟩
      refine AC.of mo_X6_readFactor (Nat.le_of_ble_eq_true rfl) (bk_X6_readFactor_0 ?_)
      rw [ek]
      exact ⟨fun z => ⟨fun y => s40 1 0 (by omega) (by omega), fun y => s40 1 1 (by omega) (by omega)⟩, fun z => ⟨fun z1 => ⟨fun y => s40 1 0 (by omega) (by omega), fun y => s40 1 1 (by omega) (by omega)⟩, fun z1 => ⟨fun z2 => ⟨fun y => s40 0 0 (by omega) (by omega), fun y => s40 0 1 (by omega) (by omega)⟩, fun z2 => ⟨fun y => s40 1 0 (by omega) (by omega), fun y => s40 1 1 (by omega) (by omega)⟩⟩⟩⟩
    refine ⟨hA, ?_, ?_⟩
    · intro d L n i N τ r P hL5 h hS hb hn hd hP
      obtain ⟨d, rfl⟩ : ∃ d', d = d' + 1 := ⟨d - 1, by omega⟩
      refine AC.of mo_X6_readLevel (Nat.le_of_ble_eq_true rfl) (bk_X6_readLevel_0 ⟨fun z => ⟨⟨by omega, by omega⟩, ?_⟩, fun z => ?_⟩)
      · have zL : L < 5 := by omega
        rw [rl, if_pos zL] at h
        cases h1 : rl X ln f none (L + 1) n i N with
        | none => rw [h1] at h; exact absurd h (by simp)
        | some r1 =>
          rw [h1] at h
          have ok := fun i1 N1 (e : r1 = .ok (i1, N1)) => rl_ok h0 _ _ _ _ _ _ i1 N1 (by rw [← e]; exact h1) hS.2.1.2.2.2.1 (by omega) (by omega)
          refine ihB d (L + 1) n i N τ r1 _ (by omega) h1 hS hb hn (by omega) (fun v τ' hR => ?_)
          match r1, h, h1, hR, ok with
          | .error e, h, h1, hR, ok =>
            obtain ⟨rfl, e1, e2⟩ := hR
            cases h
            exact ⟨fun z => absurd rfl z, fun _ => ⟨_, rfl, hP 0 τ' ⟨rfl, e1, e2⟩⟩⟩
          | .ok (i1, N1), h, h1, hR, ok =>
            obtain ⟨rfl, hS2⟩ := hR
            have hS2 : PS σ0 τ' p t c X b i1 N1 := hS2
            obtain ⟨b1, b2, b3, _⟩ := ok i1 N1 rfl
            refine ⟨fun _ => ⟨fun z2 => ?_, fun z2 => ?_⟩, fun z => absurd z (by decide)⟩
            · have z2' : ¬ L = 2 := by omega
              have h : rl X ln f (some (if L = 2 then 1 else 3000)) L n i1 N1 = some r := h
              rw [if_neg z2'] at h
              exact ihC (d + 1) 3000 L n i1 N1 τ' r 3000 0 P zL h hS2 (by omega) hn (by omega) (by decide) (by decide) (by decide) hP
            · have z2' : L = 2 := by omega
              have h : rl X ln f (some (if L = 2 then 1 else 3000)) L n i1 N1 = some r := h
              rw [if_pos z2'] at h
              exact ihC (d + 1) 1 L n i1 N1 τ' r 1 0 P zL h hS2 (by omega) hn (by omega) (by decide) (by decide) (by decide) hP
      · obtain rfl : L = 5 := by omega
        exact hA d n i N τ r _ h hS hb hn (by omega) (fun v τ' hR => ⟨by
          cases r with
          | ok s => exact Or.inr hR.1
          | error e => exact Or.inl hR.1, _, rfl, hP v τ' hR⟩)
    · intro d cc L n i N τ r x3 x4 P zL h hS hb hn hd hx hx4 hx3 hP
      obtain ⟨d, rfl⟩ : ∃ d', d = d' + 1 := ⟨d - 1, by omega⟩
      have hT := hS.2.1
      have ek := hT.2.2.2.2.2.1
      rw [rl] at h
      have stop : ¬ (0 < cc ∧ lv (X.k i) = (L : Int)) → ∃ r', some (vI 1) = some (vI r') ∧ P r' τ := fun q => by
        rw [if_neg q] at h
        cases h
        exact ⟨_, rfl, hP 1 τ ⟨rfl, hS⟩⟩
      refine bk_X6_readLevel_40 ⟨fun z => stop (by omega), fun z => x_levelOf ?_⟩
      rw [ek]
      refine ⟨fun y => stop (fun w => y w.2), fun y => c_pass hX hT (fun σ1 hF1 hT1 => ⟨⟨by omega, by omega⟩, ?_⟩)⟩
      have hc0 : 0 < cc ∧ lv (X.k i) = (L : Int) := ⟨by omega, y⟩
      rw [if_pos hc0] at h
      have k0 := h0 i hT.2.2.2.1
      have hiK := hT.2.2.2.1
      have kz := (lv_ge y).1
      have nxi : X.nx i = i + 1 := if_pos (by omega)
      have hS1 := hS.p hF1 hT1
      cases h1 : rl X ln f none (L + 1) n (X.nx i) N with
      | none => rw [h1] at h; exact absurd h (by simp)
      | some r1 =>
        rw [h1] at h
        have ok := fun i1 N1 (e : r1 = .ok (i1, N1)) => rl_ok h0 _ _ _ _ _ _ i1 N1 (by rw [← e]; exact h1) hT1.2.2.2.1 (by omega) (by omega)
        refine ihB d (L + 1) n (X.nx i) N σ1 r1 _ (by omega) h1 hS1 (by omega) hn (by omega) (fun v τ' hR => ?_)
        match r1, h, h1, hR, ok with
        | .error e, h, h1, hR, ok =>
          obtain ⟨rfl, e1, e2⟩ := hR
          cases h
          exact ⟨fun z => absurd rfl z, fun _ => ⟨_, rfl, hP 0 τ' ⟨rfl, e1, e2⟩⟩⟩
        | .ok (i1, N1), h, h1, hR, ok =>
          obtain ⟨rfl, hS2⟩ := hR
          have hS2 : PS σ0 τ' p t c X b i1 N1 := hS2
          obtain ⟨b1, b2, b3, _⟩ := ok i1 N1 rfl
          have hc2 : gR τ' 607 p 0 = some c := by rw [hS2.1.1.R EFr_607]; exact hc
          refine ⟨fun _ => ⟨c, hc2, c_add (a' := N.length - 1) (b' := N1.length - 1) hL hS2 (by omega) (fun τ2 hS3 => ⟨⟨by omega, by omega⟩, ?_⟩)⟩, fun z => absurd z (by decide)⟩
          exact ihC (d + 1) (cc - 1) L n i1 _ τ2 r x3 (x4 + 1) P zL h hS3 (by rw [List.length_append]; show b + (N1.length + 1) ≤ i1; omega) hn (by omega) (by omega) (by omega) hx3 hP
end X14
