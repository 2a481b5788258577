/-! what laying keeps: fields, structs -/
/-- a field as laying wants it -/
def FW (En : List Enm) (Ss : List Stc) (F : Fld) : Prop := WFx F.ec ∧ WFx F.e1 ∧ WFx F.e2 ∧ F.es.length ≤ 16 ∧
  ((F.ki = 0 ∧ 0 ≤ F.st ∧ F.st < Ss.length) ∨ (F.ki = 1 ∧ TyR F.ty ∧ F.st = -1 ∧ -1 ≤ F.pr ∧ F.pr < En.length) ∨
  (F.ki = 2 ∧ (F.st = -1 ∧ TyR F.ty ∨ 0 ≤ F.st ∧ F.st < Ss.length ∧ (F.e1 = none → 0 < szS Ss F.st))) ∨
  (F.ki = 3 ∧ TyR F.ty ∧ BiO F.es 0 (8 * tw F.ty) ∧ F.es.length ≤ 12) ∨
  (F.ki = 5 ∧ (F.e1 = none → 0 ≤ F.nu.toInt ∧ F.nu.toInt ≤ 255)) ∨
  (F.ki = 6 ∧ (∃ N, F.e1 = some N) ∧ -1 ≤ F.ot ∧ F.ot < Ss.length ∧ ∀ e ∈ F.es, 0 ≤ e.2.2 ∧ e.2.2 < Ss.length) ∨
  (F.ki = 7 ∧ TyR F.ty ∧ 0 ≤ F.st ∧ F.st < Ss.length ∧ 1 ≤ F.nu.toInt ∧ F.nu.toInt ≤ 4096) ∨
  (F.ki = 8 ∧ 1 ≤ F.nu.toInt ∧ F.nu.toInt ≤ 64) ∨
  (F.ki = 9 ∧ ∀ e ∈ F.es, -1 ≤ e.2.1.toInt ∧ e.2.1.toInt ≤ 255) ∨
  (F.ki = 10 ∧ TyR F.ty ∧ 217 ≤ F.nu.toInt ∧ F.nu.toInt ≤ 220 ∧ (∃ N, F.e1 = some N) ∧ ∃ N, F.e2 = some N))
def LW (En : List Enm) (Ss : List Stc) : Prop := Ss.length ≤ 20 ∧ ∀ (n : Nat) (S : Stc), Ss[n]? = some S → S.2.1.length ≤ 14 ∧ ∀ (k : Nat) (F : Fld), S.2.1[k]? = some F → FW En Ss F ∧ XNf (S.2.1.take k) F
theorem utl_ge {h : Int → Int} {len n : Int} : ∀ (j : Nat) (p : Int), p ≤ utl h len n j p
  | 0, p => Int.le_refl _
  | j + 1, p => by
    rw [utl]
    by_cases c : p < len ∧ ¬ h p = n
    · rw [if_pos c]; have := utl_ge (h := h) (len := len) (n := n) j (p + 1); omega
    · rw [if_neg c]; exact Int.le_refl _
section LU
variable {En : List Enm} {Ss : List Stc} {h : Int → Int} {len : Int} {s s' : TS} {i k : Nat} {L : LY} {F : Fld} {fl : Int} {r : TS × Bool}
/-- kept from s on, node k filled -/
def Kp (Ss : List Stc) (len : Int) (k : Nat) (s s' : TS) : Prop := TI Ss len s' ∧ TU Ss len s' ∧ Ex k s s'
theorem covB_ok {n : Int} {f : TS → OTB} (hT : TI Ss len s) (hX : TX Ss len s k) (hk : k < s.c) (h4 : ¬ s.d 0 k = 4) (hn : 0 ≤ n) (hu : ∀ F, gF Ss (s.d 6 k) = some F → (isNu (s.d 0 k) → tw F.ty ≤ n) ∧ (s.d 0 k = 5 → F.e1 = none → 1 ≤ n)) (hkk : s.k k = []) (e : covB len s k n f = some r) (hf : ∀ s1, s1 = s.w 2 k (s.d 1 k + n) → TI Ss len s1 → TU Ss len s1 → f s1 = some r → Kp Ss len k s1 r.1) : Kp Ss len k s r.1 := by
  unfold covB at e
  obtain ⟨⟨v1, _⟩, _⟩ := hT.2 k hk
  by_cases q : n ≤ len - s.d 1 k
  · rw [if_pos q] at e
    obtain ⟨a, b, c⟩ := hf _ rfl (hT.w2 (by omega) (by omega)) (TX.all (fun i hi hn => (hX i hi hn).cg (fun f => w_nk hn)) (fun F hF => by
      rw [w_ne (by decide)] at hF
      obtain ⟨u1, u2⟩ := hu F hF
      rw [w_ne (f' := 0) (by decide), w_ne (f' := 1) (by decide), w_at]
      exact ⟨fun nn _ => by have := u1 nn; omega, fun z z1 _ => by have := u2 z z1; omega⟩)) e
    exact ⟨a, b, (Ex.w (Or.inl rfl)).trans c⟩
  · rw [if_neg q] at e
    cases e
    exact ⟨hT.w3 h4 (fun _ _ => hkk), TX.all (fun i hi hn => (hX i hi hn).cg (fun f => w_nk hn)) (fun F hF => ⟨fun _ z => absurd w_at z, fun _ _ z => absurd w_at z⟩), Ex.w (Or.inr (Or.inl rfl))⟩
theorem Kp.f (hT : TI Ss len s) (hU : TU Ss len s) (h4 : ¬ s.d 0 k = 4) (h3 : ¬ s.d 0 k = 3) {v : Int} (hv : ¬ s.d 3 k = 1) : Kp Ss len k s (s.w 3 k v) :=
  ⟨hT.w3 h4 (fun z => absurd z h3), hU.w3 (Or.inr hv), Ex.w (Or.inr (Or.inl rfl))⟩
theorem Kp.rfl (hT : TI Ss len s) (hU : TU Ss len s) : Kp Ss len k s s := ⟨hT, hU, Ex.rfl⟩
theorem amtB_ok {N : List Nd} {most : Int} {f : Int → OTB} (hT : TI Ss len s) (hU : TU Ss len s) (h4 : ¬ s.d 0 k = 4) (h3 : ¬ s.d 0 k = 3) (hv : ¬ s.d 3 k = 1) (e : amtB Ss h len s i k N most f = some r) (hf : ∀ n : Int, 0 ≤ n → n ≤ most → f n = some r → Kp Ss len k s r.1) : Kp Ss len k s r.1 := by
  unfold amtB at e
  cases ev : evE (s.d 1 k) len (s.d 1 i) (nmV Ss h s i) N with
  | none => rw [ev] at e; cases e; exact Kp.f hT hU h4 h3 hv
  | some v =>
    rw [ev] at e
    have e : (if v.toInt < 0 ∨ most < v.toInt then some (s.w 3 k 5, true) else f v.toInt) = some r := e
    by_cases q : v.toInt < 0 ∨ most < v.toInt
    · rw [if_pos q] at e; cases e; exact Kp.f hT hU h4 h3 hv
    · rw [if_neg q] at e; exact hf _ (by omega) (by omega) e
theorem map_inv {α β : Type} {o : Option α} {g : α → β} {y : β} (e : o.map g = some y) : ∃ x, o = some x ∧ g x = y := by
  cases o with
  | none => cases e
  | some x => cases e; exact ⟨x, Eq.refl _, Eq.refl _⟩
theorem arB_ok {n : Nat} (hW : F.st = -1 ∧ TyR F.ty ∨ 0 ≤ F.st ∧ F.st < Ss.length ∧ (F.e1 = none → 0 < szS Ss F.st)) (hF : gF Ss fl = some F) (f2 : F.ki = 2) (hL : LG Ss len L) (hT : TI Ss len s) (hU : TU Ss len s) (hk : k < s.c) (h0 : s.d 0 k = 2) (e : arB Ss len L k fl F n s = some r) : Kp Ss len k s r.1 := by
  unfold arB at e
  by_cases q : F.st = -1
  · rw [if_pos q] at e
    rcases hW with w | w
    · exact arW_ok hF f2 q w.2 n s r hT hU hk h0 e
    · omega
  · rw [if_neg q] at e
    rcases hW with w | w
    · omega
    · obtain ⟨x, x1, x2⟩ := map_inv e
      rw [← x2]
      exact arS_ok hL ⟨w.1, w.2.1⟩ n s x hT hU hk h0 x1
theorem lyPa_ok {v : Int64} (hL : LG Ss len L) (hst : 0 ≤ F.st ∧ F.st < Ss.length) (hT : TI Ss len s) (hU : TU Ss len s) (hk : k < s.c) (h0 : s.d 0 k = 7) (h3 : s.d 3 k = 0) (e : lyPa Ss len L s k F v = some r) : Kp Ss len k s r.1 := by
  unfold lyPa at e
  by_cases q : v.toInt < 0 ∨ len ≤ v.toInt
  · rw [if_pos q] at e; cases e; exact Kp.f hT hU (by omega) (by omega) (by omega)
  · rw [if_neg q] at e
    by_cases q2 : abv s F.st v.toInt s.c (s.d 5 k) = true
    · rw [if_pos q2] at e; cases e; exact ⟨hT.w4, hU.w4, Ex.w (Or.inr (Or.inr rfl))⟩
    · rw [if_neg q2] at e
      cases ea : addS L Ss s k F.st v.toInt with
      | none => rw [ea] at e; cases e
      | some s1 =>
        rw [ea] at e
        cases e
        obtain ⟨t1, t2, t3, _⟩ := addS_ok hL hT hU ⟨by omega, by omega⟩ (fun i ei => by rw [show i = k by omega]; omega) ⟨by omega, by omega⟩ hst ea
        exact ⟨t1, t2, t3 k rfl⟩
theorem bdF_ok (hW : FW En Ss F) (hF : gF Ss fl = some F) (hL : LG Ss len L) (hT : TI Ss len s) (hX : TX Ss len s k) (hk : k + 1 = s.c) (h0 : s.d 0 k = F.ki) (h6 : s.d 6 k = fl) (h3 : s.d 3 k = 0) (hkk : s.k k = []) (h7 : F.ki = 0 → s.d 7 k = F.st) (e : bdF En Ss h len L s i k fl F = some r) : Kp Ss len k s r.1 := by
  have hk' : k < s.c := by omega
  have hF' : ∀ F', gF Ss (s.d 6 k) = some F' → F' = F := fun F' q => by rw [h6, hF] at q; cases q; rfl
  have U : ¬ isNu F.ki → (F.ki = 5 → ¬ F.e1 = none) → TU Ss len s := fun n5 n6 => TX.all hX (fun F' q => by
    rw [hF' F' q, h0]
    exact ⟨fun z => absurd z n5, fun z z1 => absurd z1 (n6 z)⟩)
  have n3 : ¬ s.d 3 k = 1 := by omega
  obtain ⟨⟨v1, _⟩, _⟩ := hT.2 k hk'
  have cu : F.ki = 1 ∨ F.ki = 3 ∨ F.ki = 7 ∨ F.ki = 10 → ∀ F', gF Ss (s.d 6 k) = some F' → (isNu (s.d 0 k) → tw F'.ty ≤ tw F.ty) ∧ (s.d 0 k = 5 → F'.e1 = none → 1 ≤ tw F.ty) := fun q F' z => by
    rw [hF' F' z, h0]
    exact ⟨fun _ => Int.le_refl _, fun z => by omega⟩
  obtain ⟨w1, w2, w3, w4, w⟩ := hW
  unfold bdF at e
  rcases w with w | w | w | w | w | w | w | w | w | w
  · rw [if_pos w.1] at e
    obtain ⟨x, x1, x2⟩ := map_inv e
    rw [← x2]
    exact hL s k F.st x hT (U (by unfold isNu; omega) (fun z => by omega)) hk (by omega) (h7 w.1) hkk x1
  · have k1 := w.1
    have ty := w.2.1.1
    rw [if_neg (by omega), if_pos k1] at e
    refine covB_ok hT hX hk' (by omega) (by omega) (cu (by omega)) hkk e (fun s1 es1 T1 U1 e1 => ?_)
    have d0 : s1.d 0 k = 1 := by rw [es1, w_ne (by decide)]; omega
    have d3 : ¬ s1.d 3 k = 1 := by rw [es1, w_ne (by decide)]; exact n3
    have e1 : some ((if 0 ≤ F.pr ∧ prW En F.pr (vlN Ss h s1 k) = false then s1.w 3 k 4 else s1), true) = some r := e1
    cases e1
    by_cases q : 0 ≤ F.pr ∧ prW En F.pr (vlN Ss h s1 k) = false
    · show Kp Ss len k s1 (if 0 ≤ F.pr ∧ prW En F.pr (vlN Ss h s1 k) = false then s1.w 3 k 4 else s1)
      rw [if_pos q]; exact Kp.f T1 U1 (by omega) (by omega) d3
    · show Kp Ss len k s1 (if 0 ≤ F.pr ∧ prW En F.pr (vlN Ss h s1 k) = false then s1.w 3 k 4 else s1)
      rw [if_neg q]; exact Kp.rfl T1 U1
  · have k2 := w.1
    rw [if_neg (by omega), if_neg (by omega), if_pos k2] at e
    have U0 := U (by unfold isNu; omega) (fun z => by omega)
    unfold lyAr at e
    cases e1 : F.e1 with
    | none =>
      rw [e1] at e
      exact arB_ok w.2 hF k2 hL hT U0 hk' (by omega) e
    | some N =>
      rw [e1] at e
      exact amtB_ok hT U0 (by omega) (by omega) n3 e (fun n _ _ e => arB_ok w.2 hF k2 hL hT U0 hk' (by omega) e)
  · have k3 := w.1
    have ty := w.2.1.1
    rw [if_neg (by omega), if_neg (by omega), if_neg (by omega), if_pos k3] at e
    refine covB_ok hT hX hk' (by omega) (by omega) (cu (by omega)) hkk e (fun s1 es1 T1 U1 e1 => ?_)
    obtain ⟨x, x1, x2⟩ := map_inv e1
    rw [← x2]
    have d0 : s1.d 0 k = 3 := by rw [es1, w_ne (by decide)]; omega
    have d6 : s1.d 6 k = fl := by rw [es1, w_ne (by decide)]; exact h6
    have d3 : s1.d 3 k = 0 := by rw [es1, w_ne (by decide)]; exact h3
    have kk : s1.k k = [] := by rw [es1]; exact hkk
    exact btO_ok hF k3 w.2.1 F.es 0 s1 x (fun j e he => by rw [Nat.zero_add]; exact he) T1 U1 (by rw [es1]; exact hk') d0 d6 d3 (by rw [kk]; rfl) x1
  · have k5 := w.1
    rw [if_neg (by omega), if_neg (by omega), if_neg (by omega), if_neg (by omega), if_pos k5] at e
    unfold lyTx at e
    cases e1 : F.e1 with
    | none =>
      rw [e1] at e
      have ge := utl_ge (h := h) (len := len) (n := F.nu.toInt) (len - s.d 1 k).toNat (s.d 1 k)
      refine covB_ok hT hX hk' (by omega) (by omega) (fun F' z => ?_) hkk e (fun s1 es1 T1 U1 e1 => ?_)
      · rw [hF' F' z, h0]
        exact ⟨fun z => by unfold isNu at z; omega, fun _ _ => by omega⟩
      · cases e1; exact Kp.rfl T1 U1
    | some N =>
      rw [e1] at e
      have U0 := U (by unfold isNu; omega) (fun _ z => by rw [e1] at z; cases z)
      refine amtB_ok hT U0 (by omega) (by omega) n3 e (fun n n0 _ e => ?_)
      refine covB_ok hT hX hk' (by omega) n0 (fun F' z => ?_) hkk e (fun s1 es1 T1 U1 e1 => ?_)
      · rw [hF' F' z, h0]
        exact ⟨fun z => by unfold isNu at z; omega, fun _ z => by rw [e1] at z; cases z⟩
      · cases e1; exact Kp.rfl T1 U1
  · have k6 := w.1
    rw [if_neg (by omega), if_neg (by omega), if_neg (by omega), if_neg (by omega), if_neg (by omega), if_pos k6] at e
    have U0 := U (by unfold isNu; omega) (fun z => by omega)
    obtain ⟨N, eN⟩ := w.2.1
    unfold lyUn at e
    rw [eN] at e
    dsimp only at e
    cases ev : evE (s.d 1 k) len (s.d 1 i) (nmV Ss h s i) N with
    | none => rw [ev] at e; cases e; exact Kp.f hT U0 (by omega) (by omega) n3
    | some v =>
      rw [ev] at e
      dsimp only at e
      by_cases q : tgt F v = -1
      · rw [if_pos q] at e; cases e; exact Kp.f hT U0 (by omega) (by omega) n3
      · rw [if_neg q] at e
        have tg : 0 ≤ tgt F v ∧ tgt F v < Ss.length := by
          unfold tgt at q ⊢
          cases ef : F.es.find? (fun e => e.2.1 == v) with
          | none => rw [ef] at q; have := w.2.2; exact ⟨by have q : ¬ F.ot = -1 := q; show 0 ≤ F.ot; omega, w.2.2.2.1⟩
          | some x => exact w.2.2.2.2 x (List.mem_of_find?_eq_some ef)
        cases ea : addS L Ss s k (tgt F v) (s.d 1 k) with
        | none => rw [ea] at e; cases e
        | some s1 =>
          rw [ea] at e
          cases e
          obtain ⟨t1, t2, t3, t4, t5⟩ := addS_ok hL hT U0 ⟨by omega, by omega⟩ (fun i ei => by rw [show i = k by omega]; omega) ⟨by omega, by omega⟩ tg ea
          have ex := t3 k rfl
          obtain ⟨⟨u1, _⟩, _⟩ := t1.2 s.c t4
          have d0 : s1.d 0 k = 6 := by rw [ex.2.2 0 (by decide) (by decide) (by decide)]; omega
          have d1 : s1.d 1 k = s.d 1 k := ex.2.2 1 (by decide) (by decide) (by decide)
          exact ⟨t1.w2 (by omega) (by omega), t2.w2 (by omega), ex.trans (Ex.w (Or.inl rfl))⟩
  · have k7 := w.1
    have ty := w.2.1.1
    rw [if_neg (by omega), if_neg (by omega), if_neg (by omega), if_neg (by omega), if_neg (by omega), if_neg (by omega), if_pos k7] at e
    refine covB_ok hT hX hk' (by omega) (by omega) (cu (by omega)) hkk e (fun s1 es1 T1 U1 e1 => ?_)
    have d0 : s1.d 0 k = 7 := by rw [es1, w_ne (by decide)]; omega
    have d3 : s1.d 3 k = 0 := by rw [es1, w_ne (by decide)]; exact h3
    have kc : k < s1.c := by rw [es1]; exact hk'
    unfold lyPt at e1
    cases eN : F.e1 with
    | none => rw [eN] at e1; exact lyPa_ok hL ⟨w.2.2.1, w.2.2.2.1⟩ T1 U1 kc d0 d3 e1
    | some N =>
      rw [eN] at e1
      dsimp only at e1
      cases ev : evE (s1.d 1 k) len (s1.d 1 i) (nmV Ss h s1 i) N with
      | none => rw [ev] at e1; cases e1; exact Kp.f T1 U1 (by omega) (by omega) (by omega)
      | some v => rw [ev] at e1; exact lyPa_ok hL ⟨w.2.2.1, w.2.2.2.1⟩ T1 U1 kc d0 d3 e1
  · have k8 := w.1
    rw [if_neg (by omega), if_neg (by omega), if_neg (by omega), if_neg (by omega), if_neg (by omega), if_neg (by omega), if_neg (by omega), if_pos k8] at e
    refine covB_ok hT hX hk' (by omega) (Int.emod_nonneg _ (by omega)) (fun F' z => ?_) hkk e (fun s1 es1 T1 U1 e1 => ?_)
    · rw [h0]
      exact ⟨fun z => by unfold isNu at z; omega, fun z => by omega⟩
    · cases e1; exact Kp.rfl T1 U1
  · have k9 := w.1
    rw [if_neg (by omega), if_neg (by omega), if_neg (by omega), if_neg (by omega), if_neg (by omega), if_neg (by omega), if_neg (by omega), if_neg (by omega), if_pos k9] at e
    refine covB_ok hT hX hk' (by omega) (by omega) (fun F' z => ?_) hkk e (fun s1 es1 T1 U1 e1 => ?_)
    · rw [h0]
      exact ⟨fun z => by unfold isNu at z; omega, fun z => by omega⟩
    · have d0 : s1.d 0 k = 9 := by rw [es1, w_ne (by decide)]; omega
      have d3 : ¬ s1.d 3 k = 1 := by rw [es1, w_ne (by decide)]; exact n3
      have e1 : some ((if 0 ≤ al (me F.es h (s1.d 1 k)) F.es.length then s1 else s1.w 3 k 2), true) = some r := e1
      cases e1
      show Kp Ss len k s1 (if 0 ≤ al (me F.es h (s1.d 1 k)) F.es.length then s1 else s1.w 3 k 2)
      by_cases q : 0 ≤ al (me F.es h (s1.d 1 k)) F.es.length
      · rw [if_pos q]; exact Kp.rfl T1 U1
      · rw [if_neg q]; exact Kp.f T1 U1 (by omega) (by omega) d3
  · have k10 := w.1
    have ty := w.2.1.1
    rw [if_neg (by omega), if_neg (by omega), if_neg (by omega), if_neg (by omega), if_neg (by omega), if_neg (by omega), if_neg (by omega), if_neg (by omega), if_neg (by omega)] at e
    refine covB_ok hT hX hk' (by omega) (by omega) (cu (by omega)) hkk e (fun s1 es1 T1 U1 e1 => ?_)
    have d0 : s1.d 0 k = 10 := by rw [es1, w_ne (by decide)]; omega
    have d3 : ¬ s1.d 3 k = 1 := by rw [es1, w_ne (by decide)]; exact n3
    have e1 : some (lySm Ss h len s1 i k F, true) = some r := e1
    cases e1
    show Kp Ss len k s1 (lySm Ss h len s1 i k F)
    unfold lySm
    cases sumB Ss h len s1 i k F with
    | error x => exact Kp.f T1 U1 (by omega) (by omega) d3
    | ok x =>
      dsimp only
      by_cases q : rdP h F.ty (s1.d 1 k) = dueV h F.nu.toInt (s1.d 1 k) (s1.d 2 k) (s1.d 1 i + x.1) (s1.d 1 i + x.2) &&& mkv (8 * tw F.ty)
      · rw [if_pos q]; exact Kp.rfl T1 U1
      · rw [if_neg q]; exact Kp.f T1 U1 (by omega) (by omega) d3
theorem lyF_ok {st : Int} {kk : Nat} (hW : FW En Ss F) (hF : gF Ss fl = some F) (hL : LG Ss len L) (hT : TI Ss len s) (hU : TU Ss len s) (hi : i < s.c) (h0 : s.d 0 i = 0) (h7 : s.d 7 i = st) (hfl : fl = 14 * st + kk) (h14 : kk < 14) (hks : ∀ a ∈ s.k i, s.d 6 a < fl) (e : lyF En Ss h len L s i fl F = some r) : Kp Ss len i s r.1 ∧ r.1.k i = s.k i ++ [s.c] ∧ r.1.d 6 s.c = fl := by
  have f0 := (gF_some hF).1
  unfold lyF at e
  obtain ⟨⟨v1, _⟩, _⟩ := hT.2 i hi
  have fk : ¬ F.ki = 4 ∧ 0 ≤ F.ki ∧ F.ki ≤ 10 ∧ (F.ki = 0 → 0 ≤ F.st ∧ F.st < Ss.length) ∧ (isNu F.ki → TyR F.ty) := by
    obtain ⟨_, _, _, _, w⟩ := hW
    unfold isNu
    rcases w with w | w | w | w | w | w | w | w | w | w
    · exact ⟨by omega, by omega, by omega, fun _ => w.2, fun z => by omega⟩
    · exact ⟨by omega, by omega, by omega, fun z => by omega, fun _ => w.2.1⟩
    · exact ⟨by omega, by omega, by omega, fun z => by omega, fun z => by omega⟩
    · exact ⟨by omega, by omega, by omega, fun z => by omega, fun _ => w.2.1⟩
    · exact ⟨by omega, by omega, by omega, fun z => by omega, fun z => by omega⟩
    · exact ⟨by omega, by omega, by omega, fun z => by omega, fun z => by omega⟩
    · exact ⟨by omega, by omega, by omega, fun z => by omega, fun _ => w.2.1⟩
    · exact ⟨by omega, by omega, by omega, fun z => by omega, fun z => by omega⟩
    · exact ⟨by omega, by omega, by omega, fun z => by omega, fun z => by omega⟩
    · exact ⟨by omega, by omega, by omega, fun z => by omega, fun _ => w.2.1⟩
  cases em : mkO s F.ki i (s.d 2 i) fl (s.d 2 i) (if F.ki = 0 then F.st else -1) 0 F.nm with
  | none => rw [em] at e; cases e
  | some s1 =>
    rw [em] at e
    dsimp only at e
    obtain ⟨c4, es1⟩ := mkO_some em
    have T1 : TI Ss len s1 := by
      rw [es1]
      exact hT.mk c4 ⟨by omega, by omega⟩ ⟨by omega, Int.le_refl _, v1.2.2⟩ ⟨fk.2.1, fk.2.2.1⟩ (Or.inr ⟨f0, F, hF, Or.inl ⟨rfl, fk.1⟩, fk.2.2.2.2⟩) (fun z => by rw [if_pos z]; exact fk.2.2.2.1 z) (nm_fl hF fk.1 (fun z => by omega)) (fun j ej _ => by rw [show j = i by omega, h7]; exact ⟨⟨kk, F, h14, hfl, hF, rfl⟩, hks⟩) (fun j ej z => by rw [show j = i by omega] at z; omega)
    have X1 : TX Ss len s1 s.c := by rw [es1]; exact TX.mk hU
    have ni : ¬ i = s.c := by omega
    have n0 : s1.d 0 s.c = F.ki := by rw [es1]; exact mk_n
    have n1 : s1.d 1 s.c = s.d 2 i := by rw [es1]; exact mk_n
    have n3 : s1.d 3 s.c = 0 := by rw [es1]; exact mk_n
    have n6 : s1.d 6 s.c = fl := by rw [es1]; exact mk_n
    have n7 : s1.d 7 s.c = if F.ki = 0 then F.st else -1 := by rw [es1]; exact mk_n
    have nc : s1.c = s.c + 1 := by rw [es1]; rfl
    have i1 : s1.d 1 i = s.d 1 i := by rw [es1]; exact mk_o ni
    have i0 : s1.d 0 i = 0 := by rw [es1, mk_o ni]; exact h0
    have ki : s1.k i = s.k i ++ [s.c] := by rw [es1]; exact mk_kp ni rfl
    cases eb : bdF En Ss h len L s1 i s.c fl F with
    | none => rw [eb] at e; cases e
    | some r0 =>
      rw [eb] at e
      cases e
      obtain ⟨t1, t2, t3⟩ := bdF_ok hW hF hL T1 X1 nc.symm n0 n6 n3 (by rw [es1]; exact mk_kn) (fun z => by rw [n7, if_pos z]) eb
      have cl : s.c < r0.1.c := by have := t3.1; omega
      obtain ⟨⟨u1, _⟩, _⟩ := t1.2 s.c cl
      have c1 : r0.1.d 1 s.c = s.d 2 i := by rw [t3.2.2 1 (by decide) (by decide) (by decide)]; exact n1
      obtain ⟨x1, x2⟩ := t3.2.1 i (by omega) ni
      have y1 : r0.1.d 1 i = s.d 1 i := by rw [x1 1]; exact i1
      have y0 : r0.1.d 0 i = 0 := by rw [x1 0]; exact i0
      have ex : Ex i s r0.1 := by rw [es1] at t3; exact Ex.sub hi rfl t3
      refine ⟨⟨t1.w2 (by omega) (by omega), t2.w2 (by omega), ex.trans (Ex.w (Or.inl rfl))⟩, ?_, ?_⟩
      · show r0.1.k i = _
        rw [x2]; exact ki
      · rw [w_ne (by decide), t3.2.2 6 (by decide) (by decide) (by decide)]; exact n6
theorem thr_ok (hT : TI Ss len s) (hU : TU Ss len s) (h0 : s.d 0 i = 0) : Kp Ss len i s (thr Ss h len s i F).1 ∧ (thr Ss h len s i F).1.k = s.k ∧ (∀ j, (thr Ss h len s i F).1.d 6 j = s.d 6 j) ∧ (thr Ss h len s i F).1.c = s.c := by
  unfold thr
  cases F.ec with
  | none => exact ⟨Kp.rfl hT hU, rfl, fun _ => rfl, rfl⟩
  | some N =>
    dsimp only
    cases evE (s.d 2 i) len (s.d 1 i) (nmV Ss h s i) N with
    | none =>
      dsimp only
      by_cases q : s.d 3 i = 0
      · rw [if_pos q]; exact ⟨Kp.f hT hU (by omega) (by omega) (by omega), rfl, fun j => w_ne (by decide), rfl⟩
      · rw [if_neg q]; exact ⟨Kp.rfl hT hU, rfl, fun _ => rfl, rfl⟩
    | some v => exact ⟨Kp.rfl hT hU, rfl, fun _ => rfl, rfl⟩
theorem lyFs_ok {st : Int} {S : Stc} (hS : Ss[st.toNat]? = some S) (hst : 0 ≤ st) (hW : S.2.1.length ≤ 14 ∧ ∀ (k : Nat) (F : Fld), S.2.1[k]? = some F → FW En Ss F ∧ XNf (S.2.1.take k) F) (hL : LG Ss len L) : ∀ (Fs : List Fld) (k : Nat) (s s' : TS), (∀ j F, Fs[j]? = some F → S.2.1[k + j]? = some F) → TI Ss len s → TU Ss len s → i < s.c → s.d 0 i = 0 → s.d 7 i = st → (∀ a ∈ s.k i, s.d 6 a < 14 * st + k) → lyFs En Ss h len L i st Fs k s = some s' → Kp Ss len i s s' := by
  intro Fs
  induction Fs with
  | nil => intro k s s' _ hT hU _ _ _ _ e; cases e; exact Kp.rfl hT hU
  | cons F Fs ih =>
    intro k s s' hFs hT hU hi h0 h7 hks e
    rw [lyFs] at e
    have f0 : S.2.1[k]? = some F := hFs 0 F rfl
    have k14 : k < 14 := by have := (List.getElem?_eq_some_iff.mp f0).1; omega
    have rest : ∀ j F', Fs[j]? = some F' → S.2.1[k + 1 + j]? = some F' := fun j F' q => by rw [show k + 1 + j = k + (j + 1) by omega]; exact hFs (j + 1) F' q
    obtain ⟨t1, t2, t3, t4⟩ := thr_ok (h := h) (F := F) hT hU h0
    have a0 : (thr Ss h len s i F).1.d 0 i = 0 := by rw [t1.2.2.2.2 0 (by decide) (by decide) (by decide)]; exact h0
    have a7 : (thr Ss h len s i F).1.d 7 i = st := by rw [t1.2.2.2.2 7 (by decide) (by decide) (by decide)]; exact h7
    have ak : ∀ a ∈ (thr Ss h len s i F).1.k i, (thr Ss h len s i F).1.d 6 a < 14 * st + k := fun a ha => by rw [t2] at ha; rw [t3]; exact hks a ha
    have hgF : gF Ss (14 * st + k) = some F := by
      have := gF_at hS f0 k14
      rw [show ((st.toNat : Nat) : Int) = st by omega] at this
      exact this
    by_cases q : (thr Ss h len s i F).2 = true
    · rw [if_pos q] at e
      cases el : lyF En Ss h len L (thr Ss h len s i F).1 i (14 * st + k) F with
      | none => rw [el] at e; cases e
      | some r =>
        rw [el] at e
        dsimp only at e
        obtain ⟨b1, b2, b3⟩ := lyF_ok (hW.2 k F f0).1 hgF hL t1.1 t1.2.1 (by rw [t4]; exact hi) a0 a7 rfl k14 ak el
        by_cases q2 : r.2 = true
        · rw [if_pos q2] at e
          have ex := b1.2.2
          obtain ⟨c1, c2, c3⟩ := ih (k + 1) r.1 s' rest b1.1 b1.2.1 (by have := ex.1; rw [t4] at this; omega) (by rw [ex.2.2 0 (by decide) (by decide) (by decide)]; exact a0) (by rw [ex.2.2 7 (by decide) (by decide) (by decide)]; exact a7) (fun a ha => by
            rw [b2] at ha
            rcases List.mem_append.mp ha with ha | ha
            · have z := ak a ha
              have m := (t1.1.2 i (by rw [t4]; exact hi)).2.1.2.1 a ha
              have ne : ¬ a = i := fun q => by
                have := (t1.1.2 i (by rw [t4]; exact hi)).2.1.2.2
                rw [q] at m
                omega
              rw [(ex.2.1 a m.1 ne).1 6]; omega
            · rw [List.mem_singleton.mp ha, b3]; omega) e
          exact ⟨c1, c2, (t1.2.2.trans ex).trans c3⟩
        · rw [if_neg q2] at e
          cases e
          exact ⟨b1.1, b1.2.1, t1.2.2.trans b1.2.2⟩
    · rw [if_neg q] at e
      obtain ⟨c1, c2, c3⟩ := ih (k + 1) _ s' rest t1.1 t1.2.1 (by rw [t4]; exact hi) a0 a7 (fun a ha => by have := ak a ha; omega) e
      exact ⟨c1, c2, t1.2.2.trans c3⟩
theorem lyS_ok (hW : LW En Ss) : ∀ r, LG Ss len (lyS En Ss h len r) := by
  intro r
  induction r with
  | zero =>
    intro s i st s' hT hU hi h0 h7 hk e
    have e : some (s.w 3 i 9) = some s' := e
    cases e
    -- a fault 9 on a struct: whatever stood there
    refine ⟨hT.w3 (by omega) (fun z => by omega), ?_, Ex.w (Or.inr (Or.inl rfl))⟩
    intro j hj F hF
    obtain ⟨u1, u2⟩ := hU j hj F hF
    by_cases ej : j = i
    · rw [ej]
      have d0 : (s.w 3 i 9).d 0 i = 0 := by rw [w_ne (by decide)]; exact h0
      rw [d0]
      exact ⟨fun z => by unfold isNu at z; omega, fun z => absurd z (by decide)⟩
    · have c : ∀ f, (s.w 3 i 9).d f j = s.d f j := fun f => w_nk ej
      exact (hU j hj).cg c F hF
  | succ r ih =>
    intro s i st s' hT hU hi h0 h7 hk e
    have hi' : i < s.c := by omega
    obtain ⟨⟨_, _, _, v4, _⟩, _⟩ := hT.2 i hi'
    have v4 := v4 h0
    rw [h7] at v4
    have e : (match Ss[st.toNat]? with
      | none => some s
      | some S => lyFs En Ss h len (lyS En Ss h len r) i st S.2.1 0 s) = some s' := e
    cases hS : Ss[st.toNat]? with
    | none => rw [hS] at e; cases e; exact Kp.rfl hT hU
    | some S =>
      rw [hS] at e
      exact lyFs_ok hS v4.1 (hW.2 _ S hS) ih S.2.1 0 s s' (fun j F hF => by rw [Nat.zero_add]; exact hF) hT hU hi' h0 h7 (fun a ha => by rw [hk] at ha; exact absurd ha (by simp)) e
theorem lyT_ok {st place : Int} (hW : LW En Ss) (h1 : 0 ≤ place ∧ place ≤ len) (hst : 0 ≤ st ∧ st < Ss.length) (e : lyT En Ss h len st place = some s') : TI Ss len s' ∧ TU Ss len s' ∧ 0 < s'.c ∧ s'.d 1 0 = place := by
  unfold lyT at e
  obtain ⟨a, b, _, c, d⟩ := addS_ok (lyS_ok (h := h) (len := len) hW 20) (s := (0, fun _ _ => 0, fun _ => [])) ⟨by show 0 ≤ 400; omega, fun i hi => absurd hi (Nat.not_lt_zero _)⟩ (fun i hi => absurd hi (Nat.not_lt_zero _)) ⟨by omega, by show (-1 : Int) < 0; omega⟩ (fun i ei => by omega) h1 hst e
  exact ⟨a, b, c, d⟩
end LU
