/-! what laying keeps: how far a node is, and which are in an array -/
def JN (Ss : List Stc) (s : TS) (i : Nat) : Prop :=
  (-1 ≤ s.d 5 i ∧ s.d 5 i < (i : Int)) ∧ s.d 9 i = (if s.d 5 i < 0 then 0 else s.d 9 (s.d 5 i).toNat + 1) ∧
  ((0 ≤ s.d 5 i ∧ s.d 0 (s.d 5 i).toNat = 2 ∧ 0 ≤ s.d 6 i) ↔ (s.d 0 i = 1 ∧ ∃ F, gF Ss (s.d 6 i) = some F ∧ F.ki = 2)) ∧
  (0 ≤ s.d 5 i → i ∈ s.k (s.d 5 i).toNat) ∧ (s.d 0 i = 10 → 0 ≤ s.d 5 i ∧ s.d 0 (s.d 5 i).toNat = 0)
def JT (Ss : List Stc) (s : TS) : Prop := ∀ i, i < s.c → JN Ss s i
def JX (Ss : List Stc) (s s' : TS) : Prop := JT Ss s' ∧ s.c ≤ s'.c ∧ ∀ i, i < s.c → s'.d 0 i = s.d 0 i
section LJ
variable {En : List Enm} {Ss : List Stc} {h : Int → Int} {len : Int} {s s' s'' : TS} {i k f : Nat} {L : LY} {F : Fld} {fl v what par place fld u2 u7 u8 : Int} {nm : Int64} {r : TS × Bool}
theorem JT.w (hJ : JT Ss s) (hf : f = 2 ∨ f = 3 ∨ f = 4) : JT Ss (s.w f k v) := fun i hi => by
  have e5 : ∀ j, (s.w f k v).d 5 j = s.d 5 j := fun j => w_ne (by omega)
  have e9 : ∀ j, (s.w f k v).d 9 j = s.d 9 j := fun j => w_ne (by omega)
  have e0 : ∀ j, (s.w f k v).d 0 j = s.d 0 j := fun j => w_ne (by omega)
  have e6 : ∀ j, (s.w f k v).d 6 j = s.d 6 j := fun j => w_ne (by omega)
  unfold JN
  simp only [e5, e9, e0, e6]
  show (-1 ≤ s.d 5 i ∧ s.d 5 i < (i : Int)) ∧ _ ∧ _ ∧ (0 ≤ s.d 5 i → i ∈ s.k (s.d 5 i).toNat) ∧ _
  exact hJ i hi
theorem JX.rfl (hJ : JT Ss s) : JX Ss s s := ⟨hJ, Nat.le_refl _, fun _ _ => Eq.refl _⟩
theorem JX.trans (a : JX Ss s s') (b : JX Ss s' s'') : JX Ss s s'' := ⟨b.1, Nat.le_trans a.2.1 b.2.1, fun i hi => (b.2.2 i (Nat.lt_of_lt_of_le hi a.2.1)).trans (a.2.2 i hi)⟩
theorem JX.w (hf : f = 2 ∨ f = 3 ∨ f = 4) (a : JX Ss s s') : JX Ss s (s'.w f k v) := ⟨a.1.w hf, a.2.1, fun i hi => by rw [w_ne (by omega)]; exact a.2.2 i hi⟩
theorem JT.mk (hJ : JT Ss s) (hp : -1 ≤ par ∧ par < s.c) (hn : (0 ≤ par ∧ s.d 0 par.toNat = 2 ∧ 0 ≤ fld) ↔ (what = 1 ∧ ∃ F, gF Ss fld = some F ∧ F.ki = 2)) (h10 : what = 10 → 0 ≤ par ∧ s.d 0 par.toNat = 0) : JX Ss s (mkM s what par place fld u2 u7 u8 nm) := by
  refine ⟨fun i hi => ?_, Nat.le_succ _, fun i hi => mk_o (by omega)⟩
  rw [mk_c] at hi
  have o : ∀ f j, j < s.c → (mkM s what par place fld u2 u7 u8 nm).d f j = s.d f j := fun f j hj => mk_o (by omega)
  unfold JN
  by_cases e : i = s.c
  · subst e
    have n5 : (mkM s what par place fld u2 u7 u8 nm).d 5 s.c = par := mk_n
    have n0 : (mkM s what par place fld u2 u7 u8 nm).d 0 s.c = what := mk_n
    have n6 : (mkM s what par place fld u2 u7 u8 nm).d 6 s.c = fld := mk_n
    have n9 : (mkM s what par place fld u2 u7 u8 nm).d 9 s.c = (if par < 0 then 0 else s.d 9 par.toNat + 1) := mk_n
    rw [n5, n0, n6, n9]
    refine ⟨hp, ?_, ?_, fun q => ?_, fun q => ?_⟩
    · by_cases q : par < 0
      · rw [if_pos q, if_pos q]
      · rw [if_neg q, if_neg q, o 9 _ (by omega)]
    · rw [← hn]
      by_cases q : 0 ≤ par
      · rw [o 0 _ (by omega)]
      · exact ⟨fun z => absurd z.1 q, fun z => absurd z.1 q⟩
    · rw [mk_kp (j := par.toNat) (by omega) (by omega)]
      exact List.mem_append.mpr (Or.inr (List.mem_singleton.mpr rfl))
    · have := h10 q
      rw [o 0 _ (by omega)]; exact this
  · have hi : i < s.c := by omega
    obtain ⟨j1, j2, j3, j4, j5⟩ := hJ i hi
    rw [o 5 i hi, o 9 i hi, o 6 i hi, o 0 i hi]
    refine ⟨j1, ?_, ?_, fun q => ?_, fun q => ?_⟩
    · rw [j2]
      by_cases q : s.d 5 i < 0
      · rw [if_pos q, if_pos q]
      · rw [if_neg q, if_neg q, o 9 _ (by omega)]
    · rw [← j3]
      by_cases q : 0 ≤ s.d 5 i
      · rw [o 0 _ (by omega)]
      · exact ⟨fun z => absurd z.1 q, fun z => absurd z.1 q⟩
    · by_cases ep : par = ((s.d 5 i).toNat : Int)
      · rw [mk_kp (by omega) ep]
        exact List.mem_append.mpr (Or.inl (j4 q))
      · rw [mk_ko (by omega) ep]; exact j4 q
    · have := j5 q
      rw [o 0 _ (by omega)]; exact this
/-- what a filling of structs keeps -/
def LJ (Ss : List Stc) (L : LY) : Prop := ∀ s i st s', JT Ss s → i < s.c → s.d 0 i = 0 → 0 ≤ st → L s i st = some s' → JX Ss s s'
theorem addS_j {st : Int} (hL : LJ Ss L) (hJ : JT Ss s) (hp : -1 ≤ par ∧ par < s.c) (hst : 0 ≤ st) (e : addS L Ss s par st place = some s') : JX Ss s s' := by
  unfold addS at e
  cases em : mkO s 0 par place (-1) place st 0 (nmS Ss st) with
  | none => rw [em] at e; cases e
  | some s1 =>
    rw [em] at e
    have e : L s1 s.c st = some s' := e
    obtain ⟨c4, rfl⟩ := mkO_some em
    have a := hJ.mk (what := 0) (place := place) (fld := -1) (u2 := place) (u7 := st) (u8 := 0) (nm := nmS Ss st) hp ⟨fun z => by omega, fun z => by omega⟩ (fun z => by omega)
    exact a.trans (hL _ s.c st s' a.1 (by rw [mk_c]; omega) mk_n hst e)
theorem arS_j {st : Int} (hL : LJ Ss L) (hst : 0 ≤ st) : ∀ (n : Nat) (s s' : TS), JT Ss s → k < s.c → arS L Ss k st n s = some s' → JX Ss s s' := by
  intro n
  induction n with
  | zero => intro s s' hJ _ e; cases e; exact JX.rfl hJ
  | succ n ih =>
    intro s s' hJ hk e
    rw [arS] at e
    cases ea : addS L Ss s k st (s.d 2 k) with
    | none => rw [ea] at e; cases e
    | some s1 =>
      rw [ea] at e
      have e : arS L Ss k st n (s1.w 2 k (s1.d 2 s.c)) = some s' := e
      have a := addS_j hL hJ ⟨by omega, by omega⟩ hst ea
      exact (a.w (Or.inl rfl)).trans (ih _ s' (a.1.w (Or.inl rfl)) (Nat.lt_of_lt_of_le hk a.2.1) e)
theorem arW_j {w : Int} (hF : gF Ss fl = some F) (f2 : F.ki = 2) : ∀ (n : Nat) (s : TS) (r : TS × Bool), JT Ss s → k < s.c → s.d 0 k = 2 → arW len k w fl n s = some r → JX Ss s r.1 := by
  have f0 := (gF_some hF).1
  intro n
  induction n with
  | zero => intro s r hJ _ _ e; cases e; exact JX.rfl hJ
  | succ n ih =>
    intro s r hJ hk h0 e
    rw [arW] at e
    cases em : mkO s 1 k (s.d 2 k) fl (s.d 2 k) (-1) 0 0 with
    | none => rw [em] at e; cases e
    | some s1 =>
      rw [em] at e
      have e : (if w ≤ len - s.d 2 k then arW len k w fl n ((s1.w 2 s.c (s.d 2 k + w)).w 2 k (s.d 2 k + w)) else some (s1.w 3 s.c 1, false)) = some r := e
      obtain ⟨c4, rfl⟩ := mkO_some em
      have a := hJ.mk (what := 1) (par := k) (place := s.d 2 k) (fld := fl) (u2 := s.d 2 k) (u7 := -1) (u8 := 0) (nm := 0) ⟨by omega, by omega⟩ ⟨fun z => ⟨rfl, F, hF, f2⟩, fun z => ⟨by omega, by rw [Int.toNat_natCast]; exact h0, f0⟩⟩ (fun z => by omega)
      by_cases q : w ≤ len - s.d 2 k
      · rw [if_pos q] at e
        have b := (a.w (k := s.c) (v := s.d 2 k + w) (Or.inl rfl)).w (k := k) (v := s.d 2 k + w) (Or.inl rfl)
        exact b.trans (ih _ r b.1 (Nat.lt_of_lt_of_le hk b.2.1) (by rw [b.2.2 k hk]; exact h0) e)
      · rw [if_neg q] at e
        cases e
        exact a.w (by omega)
theorem btO_j (hF : gF Ss fl = some F) (f2 : ¬ F.ki = 2) : ∀ (es : List Ent) (p : Nat) (s s' : TS), JT Ss s → k < s.c → ¬ s.d 0 k = 2 → btO k fl es p s = some s' → JX Ss s s' := by
  intro es
  induction es with
  | nil => intro p s s' hJ _ _ e; cases e; exact JX.rfl hJ
  | cons x es ih =>
    intro p s s' hJ hk h0 e
    rw [btO] at e
    cases em : mkO s 4 k (s.d 1 k) fl (s.d 2 k) (-1) ((p : Int) + 1) x.1 with
    | none => rw [em] at e; cases e
    | some s1 =>
      rw [em] at e
      have e : btO k fl es (p + 1) s1 = some s' := e
      obtain ⟨c4, rfl⟩ := mkO_some em
      have a := hJ.mk (what := 4) (par := k) (place := s.d 1 k) (fld := fl) (u2 := s.d 2 k) (u7 := -1) (u8 := (p : Int) + 1) (nm := x.1) ⟨by omega, by omega⟩ ⟨fun z => by rw [Int.toNat_natCast] at z; exact absurd z.2.1 h0, fun z => by omega⟩ (fun z => by omega)
      exact a.trans (ih (p + 1) _ s' a.1 (Nat.lt_of_lt_of_le hk a.2.1) (by rw [a.2.2 k hk]; exact h0) e)
theorem covB_j {n : Int} {f : TS → OTB} (hJ : JT Ss s) (e : covB len s k n f = some r) (hf : ∀ s1, JX Ss s s1 → f s1 = some r → JX Ss s r.1) : JX Ss s r.1 := by
  unfold covB at e
  by_cases q : n ≤ len - s.d 1 k
  · rw [if_pos q] at e
    exact hf _ ((JX.rfl hJ).w (Or.inl rfl)) e
  · rw [if_neg q] at e
    cases e
    exact (JX.rfl hJ).w (by omega)
theorem amtB_j {N : List Nd} {most : Int} {f : Int → OTB} (hJ : JT Ss s) (e : amtB Ss h len s i k N most f = some r) (hf : ∀ n : Int, f n = some r → JX Ss s r.1) : JX Ss s r.1 := by
  unfold amtB at e
  cases ev : evE (s.d 1 k) len (s.d 1 i) (nmV Ss h s i) N with
  | none => rw [ev] at e; cases e; exact (JX.rfl hJ).w (by omega)
  | some v =>
    rw [ev] at e
    have e : (if v.toInt < 0 ∨ most < v.toInt then some (s.w 3 k 5, true) else f v.toInt) = some r := e
    by_cases q : v.toInt < 0 ∨ most < v.toInt
    · rw [if_pos q] at e; cases e; exact (JX.rfl hJ).w (by omega)
    · rw [if_neg q] at e; exact hf _ e
theorem arB_j {n : Nat} (hst : F.st = -1 ∨ 0 ≤ F.st) (hF : gF Ss fl = some F) (f2 : F.ki = 2) (hL : LJ Ss L) (hJ : JT Ss s) (hk : k < s.c) (h0 : s.d 0 k = 2) (e : arB Ss len L k fl F n s = some r) : JX Ss s r.1 := by
  unfold arB at e
  by_cases q : F.st = -1
  · rw [if_pos q] at e
    exact arW_j hF f2 n s r hJ hk h0 e
  · rw [if_neg q] at e
    obtain ⟨x, x1, x2⟩ := map_inv e
    rw [← x2]
    exact arS_j hL (by omega) n s x hJ hk x1
theorem lyPa_j {v : Int64} (hL : LJ Ss L) (hst : 0 ≤ F.st) (hJ : JT Ss s) (hk : k < s.c) (e : lyPa Ss len L s k F v = some r) : JX Ss s r.1 := by
  unfold lyPa at e
  by_cases q : v.toInt < 0 ∨ len ≤ v.toInt
  · rw [if_pos q] at e; cases e; exact (JX.rfl hJ).w (by omega)
  · rw [if_neg q] at e
    by_cases q2 : abv s F.st v.toInt s.c (s.d 5 k) = true
    · rw [if_pos q2] at e; cases e; exact (JX.rfl hJ).w (by omega)
    · rw [if_neg q2] at e
      cases ea : addS L Ss s k F.st v.toInt with
      | none => rw [ea] at e; cases e
      | some s1 =>
        rw [ea] at e
        cases e
        exact addS_j hL hJ ⟨by omega, by omega⟩ hst ea
theorem bdF_j (hW : FW En Ss F) (hF : gF Ss fl = some F) (hL : LJ Ss L) (hJ : JT Ss s) (hk : k < s.c) (h0 : s.d 0 k = F.ki) (e : bdF En Ss h len L s i k fl F = some r) : JX Ss s r.1 := by
  obtain ⟨w1, w2, w3, w4, w⟩ := hW
  unfold bdF at e
  rcases w with w | w | w | w | w | w | w | w | w | w
  · rw [if_pos w.1] at e
    obtain ⟨x, x1, x2⟩ := map_inv e
    rw [← x2]
    exact hL s k F.st x hJ hk (by omega) w.2.1 x1
  · rw [if_neg (by omega), if_pos w.1] at e
    refine covB_j hJ e (fun s1 a e1 => ?_)
    have e1 : some ((if 0 ≤ F.pr ∧ prW En F.pr (vlN Ss h s1 k) = false then s1.w 3 k 4 else s1), true) = some r := e1
    cases e1
    show JX Ss s (if 0 ≤ F.pr ∧ prW En F.pr (vlN Ss h s1 k) = false then s1.w 3 k 4 else s1)
    split
    · exact a.w (by omega)
    · exact a
  · have k2 := w.1
    rw [if_neg (by omega), if_neg (by omega), if_pos k2] at e
    have st : F.st = -1 ∨ 0 ≤ F.st := by rcases w.2 with z | z <;> omega
    unfold lyAr at e
    cases e1 : F.e1 with
    | none =>
      rw [e1] at e
      exact arB_j st hF k2 hL hJ hk (by omega) e
    | some N =>
      rw [e1] at e
      exact amtB_j hJ e (fun n e => arB_j st hF k2 hL hJ hk (by omega) e)
  · rw [if_neg (by omega), if_neg (by omega), if_neg (by omega), if_pos w.1] at e
    refine covB_j hJ e (fun s1 a e1 => ?_)
    obtain ⟨x, x1, x2⟩ := map_inv e1
    rw [← x2]
    exact a.trans (btO_j hF (by omega) F.es 0 s1 x a.1 (Nat.lt_of_lt_of_le hk a.2.1) (by rw [a.2.2 k hk]; omega) x1)
  · rw [if_neg (by omega), if_neg (by omega), if_neg (by omega), if_neg (by omega), if_pos w.1] at e
    unfold lyTx at e
    cases e1 : F.e1 with
    | none =>
      rw [e1] at e
      refine covB_j hJ e (fun s1 a e1 => ?_)
      cases e1; exact a
    | some N =>
      rw [e1] at e
      refine amtB_j hJ e (fun n e => covB_j hJ e (fun s1 a e1 => ?_))
      cases e1; exact a
  · rw [if_neg (by omega), if_neg (by omega), if_neg (by omega), if_neg (by omega), if_neg (by omega), if_pos w.1] at e
    obtain ⟨N, eN⟩ := w.2.1
    unfold lyUn at e
    rw [eN] at e
    dsimp only at e
    cases ev : evE (s.d 1 k) len (s.d 1 i) (nmV Ss h s i) N with
    | none => rw [ev] at e; cases e; exact (JX.rfl hJ).w (by omega)
    | some v =>
      rw [ev] at e
      dsimp only at e
      by_cases q : tgt F v = -1
      · rw [if_pos q] at e; cases e; exact (JX.rfl hJ).w (by omega)
      · rw [if_neg q] at e
        have tg : 0 ≤ tgt F v := by
          unfold tgt at q ⊢
          cases ef : F.es.find? (fun e => e.2.1 == v) with
          | none => rw [ef] at q; have := w.2.2; have q : ¬ F.ot = -1 := q; show 0 ≤ F.ot; omega
          | some x => exact (w.2.2.2.2 x (List.mem_of_find?_eq_some ef)).1
        cases ea : addS L Ss s k (tgt F v) (s.d 1 k) with
        | none => rw [ea] at e; cases e
        | some s1 =>
          rw [ea] at e
          cases e
          exact (addS_j hL hJ ⟨by omega, by omega⟩ tg ea).w (Or.inl rfl)
  · rw [if_neg (by omega), if_neg (by omega), if_neg (by omega), if_neg (by omega), if_neg (by omega), if_neg (by omega), if_pos w.1] at e
    refine covB_j hJ e (fun s1 a e1 => ?_)
    have kc : k < s1.c := Nat.lt_of_lt_of_le hk a.2.1
    unfold lyPt at e1
    cases eN : F.e1 with
    | none => rw [eN] at e1; exact a.trans (lyPa_j hL w.2.2.1 a.1 kc e1)
    | some N =>
      rw [eN] at e1
      dsimp only at e1
      cases ev : evE (s1.d 1 k) len (s1.d 1 i) (nmV Ss h s1 i) N with
      | none => rw [ev] at e1; cases e1; exact a.w (by omega)
      | some v => rw [ev] at e1; exact a.trans (lyPa_j hL w.2.2.1 a.1 kc e1)
  · rw [if_neg (by omega), if_neg (by omega), if_neg (by omega), if_neg (by omega), if_neg (by omega), if_neg (by omega), if_neg (by omega), if_pos w.1] at e
    refine covB_j hJ e (fun s1 a e1 => ?_)
    cases e1; exact a
  · rw [if_neg (by omega), if_neg (by omega), if_neg (by omega), if_neg (by omega), if_neg (by omega), if_neg (by omega), if_neg (by omega), if_neg (by omega), if_pos w.1] at e
    refine covB_j hJ e (fun s1 a e1 => ?_)
    have e1 : some ((if 0 ≤ al (me F.es h (s1.d 1 k)) F.es.length then s1 else s1.w 3 k 2), true) = some r := e1
    cases e1
    show JX Ss s (if 0 ≤ al (me F.es h (s1.d 1 k)) F.es.length then s1 else s1.w 3 k 2)
    split
    · exact a
    · exact a.w (by omega)
  · have k10 := w.1
    rw [if_neg (by omega), if_neg (by omega), if_neg (by omega), if_neg (by omega), if_neg (by omega), if_neg (by omega), if_neg (by omega), if_neg (by omega), if_neg (by omega)] at e
    refine covB_j hJ e (fun s1 a e1 => ?_)
    have e1 : some (lySm Ss h len s1 i k F, true) = some r := e1
    cases e1
    show JX Ss s (lySm Ss h len s1 i k F)
    unfold lySm
    cases sumB Ss h len s1 i k F with
    | error x => exact a.w (by omega)
    | ok x =>
      dsimp only
      split
      · exact a
      · exact a.w (by omega)
theorem lyF_j (hW : FW En Ss F) (hF : gF Ss fl = some F) (hL : LJ Ss L) (hJ : JT Ss s) (hi : i < s.c) (h0 : s.d 0 i = 0) (e : lyF En Ss h len L s i fl F = some r) : JX Ss s r.1 := by
  unfold lyF at e
  cases em : mkO s F.ki i (s.d 2 i) fl (s.d 2 i) (if F.ki = 0 then F.st else -1) 0 F.nm with
  | none => rw [em] at e; cases e
  | some s1 =>
    rw [em] at e
    dsimp only at e
    obtain ⟨c4, es1⟩ := mkO_some em
    have a : JX Ss s s1 := by
      rw [es1]
      refine hJ.mk ⟨by omega, by omega⟩ ⟨fun z => ?_, fun z => ?_⟩ (fun _ => ⟨by omega, by rw [Int.toNat_natCast]; exact h0⟩)
      · rw [Int.toNat_natCast] at z; omega
      · obtain ⟨z1, F', z2, z3⟩ := z
        rw [hF] at z2
        cases z2
        omega
    have n0 : s1.d 0 s.c = F.ki := by rw [es1]; exact mk_n
    have nc : s1.c = s.c + 1 := by rw [es1]; rfl
    cases eb : bdF En Ss h len L s1 i s.c fl F with
    | none => rw [eb] at e; cases e
    | some r0 =>
      rw [eb] at e
      cases e
      exact (a.trans (bdF_j hW hF hL a.1 (by omega) n0 eb)).w (Or.inl rfl)
theorem thr_j (hJ : JT Ss s) : JX Ss s (thr Ss h len s i F).1 := by
  unfold thr
  cases F.ec with
  | none => exact JX.rfl hJ
  | some N =>
    dsimp only
    cases evE (s.d 2 i) len (s.d 1 i) (nmV Ss h s i) N with
    | none =>
      dsimp only
      split
      · exact (JX.rfl hJ).w (by omega)
      · exact JX.rfl hJ
    | some v => exact JX.rfl hJ
theorem lyFs_j {st : Int} {S : Stc} (hS : Ss[st.toNat]? = some S) (hst : 0 ≤ st) (hW : S.2.1.length ≤ 14 ∧ ∀ (k : Nat) (F : Fld), S.2.1[k]? = some F → FW En Ss F ∧ XNf (S.2.1.take k) F) (hL : LJ Ss L) : ∀ (Fs : List Fld) (k : Nat) (s s' : TS), (∀ j F, Fs[j]? = some F → S.2.1[k + j]? = some F) → JT Ss s → i < s.c → s.d 0 i = 0 → lyFs En Ss h len L i st Fs k s = some s' → JX Ss s s' := by
  intro Fs
  induction Fs with
  | nil => intro k s s' _ hJ _ _ e; cases e; exact JX.rfl hJ
  | cons F Fs ih =>
    intro k s s' hFs hJ hi h0 e
    rw [lyFs] at e
    have f0 : S.2.1[k]? = some F := hFs 0 F rfl
    have k14 : k < 14 := by have := (List.getElem?_eq_some_iff.mp f0).1; omega
    have rest : ∀ j F', Fs[j]? = some F' → S.2.1[k + 1 + j]? = some F' := fun j F' q => by rw [show k + 1 + j = k + (j + 1) by omega]; exact hFs (j + 1) F' q
    have a := thr_j (h := h) (len := len) (i := i) (F := F) hJ
    have i1 := Nat.lt_of_lt_of_le hi a.2.1
    have d1 : (thr Ss h len s i F).1.d 0 i = 0 := by rw [a.2.2 i hi]; exact h0
    have hgF : gF Ss (14 * st + k) = some F := by
      have := gF_at hS f0 k14
      rw [show ((st.toNat : Nat) : Int) = st by omega] at this
      exact this
    by_cases q : (thr Ss h len s i F).2 = true
    · rw [if_pos q] at e
      cases el : lyF En Ss h len L (thr Ss h len s i F).1 i (14 * st + k) F with
      | none => rw [el] at e; cases e
      | some r =>
        rw [el] at e
        dsimp only at e
        have b := lyF_j (hW.2 k F f0).1 hgF hL a.1 i1 d1 el
        by_cases q2 : r.2 = true
        · rw [if_pos q2] at e
          exact a.trans (b.trans (ih (k + 1) r.1 s' rest b.1 (Nat.lt_of_lt_of_le i1 b.2.1) (by rw [b.2.2 i i1]; exact d1) e))
        · rw [if_neg q2] at e
          cases e
          exact a.trans b
    · rw [if_neg q] at e
      exact a.trans (ih (k + 1) _ s' rest a.1 i1 d1 e)
theorem lyS_j (hW : LW En Ss) : ∀ r, LJ Ss (lyS En Ss h len r) := by
  intro r
  induction r with
  | zero =>
    intro s i st s' hJ hi h0 hst e
    have e : some (s.w 3 i 9) = some s' := e
    cases e
    exact (JX.rfl hJ).w (by omega)
  | succ r ih =>
    intro s i st s' hJ hi h0 hst e
    have e : (match Ss[st.toNat]? with
      | none => some s
      | some S => lyFs En Ss h len (lyS En Ss h len r) i st S.2.1 0 s) = some s' := e
    cases hS : Ss[st.toNat]? with
    | none => rw [hS] at e; cases e; exact JX.rfl hJ
    | some S =>
      rw [hS] at e
      exact lyFs_j hS hst (hW.2 _ S hS) ih S.2.1 0 s s' (fun j F hF => by rw [Nat.zero_add]; exact hF) hJ hi h0 e
theorem lyT_j {st : Int} (hW : LW En Ss) (hst : 0 ≤ st) (e : lyT En Ss h len st place = some s') : JT Ss s' := by
  unfold lyT at e
  exact (addS_j (lyS_j (h := h) (len := len) hW 20) (s := (0, fun _ _ => 0, fun _ => [])) (fun i hi => absurd hi (Nat.not_lt_zero _)) ⟨by omega, by show (-1 : Int) < 0; omega⟩ hst e).1
end LJ
