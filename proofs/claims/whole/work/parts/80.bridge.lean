/-! tokens: the class's kinds against the reference's sorts -/
def KC : List Int64 := [1836412517, 127970521019507, 26217, 29545, 1937008994, 1954047348, 465625706101, 474315583093, 31074, 1702063205, 28532, 1836020326, 1701995880, 495622908276, 6578544, 426970145133, 7173491, 6579297, 7499640, 1936027247, 1819045746, 26223, 1952867692, 474214786402, 6581857, 29295, 7630702]
def KL : List Nat := [4, 6, 2, 2, 4, 4, 5, 5, 2, 4, 2, 4, 4, 5, 3, 5, 3, 3, 3, 4, 4, 2, 4, 5, 3, 2, 3]
def kb (i : Nat) (j : Int) : Int := byt (KC.getD i 0) j
theorem kwd_KC : ∀ i : Nat, i < 27 → kwd i = KC.getD i 0
  | 0, _ => kwd_0
  | 1, _ => kwd_1
  | 2, _ => kwd_2
  | 3, _ => kwd_3
  | 4, _ => kwd_4
  | 5, _ => kwd_5
  | 6, _ => kwd_6
  | 7, _ => kwd_7
  | 8, _ => kwd_8
  | 9, _ => kwd_9
  | 10, _ => kwd_10
  | 11, _ => kwd_11
  | 12, _ => kwd_12
  | 13, _ => kwd_13
  | 14, _ => kwd_14
  | 15, _ => kwd_15
  | 16, _ => kwd_16
  | 17, _ => kwd_17
  | 18, _ => kwd_18
  | 19, _ => kwd_19
  | 20, _ => kwd_20
  | 21, _ => kwd_21
  | 22, _ => kwd_22
  | 23, _ => kwd_23
  | 24, _ => kwd_24
  | 25, _ => kwd_25
  | 26, _ => kwd_26
  | n + 27, h => absurd h (by omega)
set_option maxRecDepth 100000 in
theorem kc_ok : ∀ i : Nat, i < 27 → (1 ≤ KL.getD i 0 ∧ KL.getD i 0 ≤ 8) ∧ wdF (kb i) 0 (KL.getD i 0) = KC.getD i 0 ∧ wdR (kb i) 0 (KL.getD i 0) = KR.getD i 0 ∧ ∀ j : Nat, j < KL.getD i 0 → 1 ≤ kb i j ∧ kb i j ≤ 255 := by decide
set_option maxRecDepth 100000 in
theorem kc_ne : ∀ i : Nat, i < 27 → ∀ j : Nat, j < 27 → KC.getD i 0 = KC.getD j 0 → i = j := by decide
theorem KR_mem {w : Int64} : w ∈ KR ↔ ∃ j : Nat, j < 27 ∧ KR.getD j 0 = w := by
  constructor
  · intro h
    obtain ⟨j, hj, e⟩ := List.getElem_of_mem h
    exact ⟨j, hj, by show (KR[j]?).getD 0 = w; rw [List.getElem?_eq_getElem hj]; exact e⟩
  · rintro ⟨j, hj, e⟩
    have hj' : j < KR.length := hj
    have e : (KR[j]?).getD 0 = w := e
    rw [List.getElem?_eq_getElem hj'] at e
    rw [← e]
    exact List.getElem_mem hj'
/-- a word is the j-th keyword of the class just if it is the reference's -/
theorem kw_iff {T : Int → Int} {q : Int} {k j : Nat} (hj : j < 27) (h8 : k ≤ 8) (h : ∀ i : Int, 0 ≤ i → i < k → 1 ≤ T (q + i) ∧ T (q + i) ≤ 255) : kwd j = wdF T q k ↔ wdR T q k = KR.getD j 0 := by
  obtain ⟨⟨a0, a1⟩, a2, a3, a4⟩ := kc_ok j hj
  rw [kwd_KC j hj, ← a2, ← a3]
  have := wd_iff (T := T) (T' := kb j) (q := q) (q' := 0) h8 a1 h (fun i z0 z1 => by
    have := a4 i.toNat (by omega)
    rw [Int.toNat_of_nonneg z0] at this
    rw [Int.zero_add]; exact this)
  exact ⟨fun e => this.mp e.symm, fun e => (this.mpr e).symm⟩
theorem kwF_or {kw : Int → Int64} {w : Int64} : ∀ (k : Nat) (i : Int), (kwF kw w k i = 2 ∧ ∀ j : Int, i ≤ j → j < i + k → ¬ kw j = w) ∨ ∃ j : Int, i ≤ j ∧ j < i + k ∧ kw j = w ∧ kwF kw w k i = 200 + j
  | 0, i => Or.inl ⟨rfl, fun j a b => absurd a (by omega)⟩
  | k + 1, i => by
    unfold kwF
    by_cases e : kw i = w
    · rw [if_pos e]
      exact Or.inr ⟨i, by omega, by omega, e, rfl⟩
    · rw [if_neg e]
      rcases kwF_or (kw := kw) (w := w) k (i + 1) with ⟨a, b⟩ | ⟨j, a, b, c, f⟩
      · refine Or.inl ⟨a, fun j h1 h2 => ?_⟩
        by_cases z : j = i
        · rw [z]; exact e
        · exact b j (by omega) (by omega)
      · exact Or.inr ⟨j, by omega, by omega, c, f⟩
theorem kwF_iff {w : Int64} {j : Nat} (hj : j < 27) : kwF kwd w 27 0 = 200 + j ↔ kwd j = w := by
  rcases kwF_or (kw := kwd) (w := w) 27 0 with ⟨a, b⟩ | ⟨i, a, b, c, f⟩
  · rw [a]
    exact ⟨fun e => absurd e (by omega), fun e => absurd e (b j (by omega) (by omega))⟩
  · rw [f]
    constructor
    · intro e
      rw [show (j : Int) = i by omega]; exact c
    · intro e
      obtain ⟨i', rfl⟩ : ∃ i' : Nat, i = i' := ⟨i.toNat, by omega⟩
      rw [← c, kwd_KC j hj, kwd_KC i' (by omega)] at e
      have := kc_ne j hj i' (by omega) e
      omega
theorem kwF_two {w : Int64} : kwF kwd w 27 0 = 2 ↔ ∀ j : Nat, j < 27 → ¬ kwd j = w := by
  rcases kwF_or (kw := kwd) (w := w) 27 0 with ⟨a, b⟩ | ⟨i, a, b, c, f⟩
  · exact ⟨fun _ j hj => b j (by omega) (by omega), fun _ => a⟩
  · rw [f]
    refine ⟨fun e => absurd e (by omega), fun e => ?_⟩
    have := e i.toNat (by omega)
    rw [Int.toNat_of_nonneg a] at this
    exact absurd c this
/-! a text by its tokens -/
def Txt : Type := (Int → Int) × Int × Nat
def Txt.T (X : Txt) : Int → Int := X.1
def Txt.n (X : Txt) : Int := X.2.1
def Txt.K (X : Txt) : Nat := X.2.2
def Txt.q (X : Txt) (i : Nat) : Int := qs X.T X.n i
def Txt.k (X : Txt) (i : Nat) : Int := kd kwd X.T X.n (X.q i)
def Txt.v (X : Txt) (i : Nat) : Int64 := vl X.T X.n (X.q i)
def Txt.nx (X : Txt) (i : Nat) : Nat := if i < X.K then i + 1 else i
def Txt.OK (X : Txt) : Prop := 0 ≤ X.n ∧ X.n ≤ 3000 ∧ (∀ i : Int, 0 ≤ i → i < X.n → 0 ≤ X.T i ∧ X.T i ≤ 255) ∧ X.q X.K = X.n ∧ (∀ i : Nat, i < X.K → X.q i < X.n) ∧ (X.K : Int) ≤ X.n
theorem Txt.OK.h0 {X : Txt} (h : X.OK) : 0 ≤ X.n := h.1
theorem Txt.OK.h3 {X : Txt} (h : X.OK) : X.n ≤ 3000 := h.2.1
theorem Txt.OK.hb {X : Txt} (h : X.OK) : ∀ i : Int, 0 ≤ i → i < X.n → 0 ≤ X.T i ∧ X.T i ≤ 255 := h.2.2.1
theorem Txt.OK.hK {X : Txt} (h : X.OK) : X.q X.K = X.n := h.2.2.2.1
theorem Txt.OK.hl {X : Txt} (h : X.OK) : ∀ i : Nat, i < X.K → X.q i < X.n := h.2.2.2.2.1
theorem Txt.OK.hKn {X : Txt} (h : X.OK) : (X.K : Int) ≤ X.n := h.2.2.2.2.2
theorem qs_ge {T : Int → Int} {n : Int} (h0 : 0 ≤ n) : ∀ i : Nat, 0 ≤ qs T n i ∧ qs T n i ≤ n
  | 0 => by
    have := sk_le (T := T) (n := n) n.toNat 0 (by omega)
    exact ⟨this.1, this.2.1⟩
  | i + 1 => by
    obtain ⟨a, b⟩ := qs_ge (T := T) h0 i
    unfold qs
    by_cases c : qs T n i < n
    · rw [if_pos c]
      have r := re_le (T := T) (n := n) (n - qs T n i).toNat (qs T n i) (by omega)
      have e : 0 ≤ nxt T n (qs T n i) ∧ nxt T n (qs T n i) ≤ n := by
        unfold nxt; split <;> omega
      have := sk_le (T := T) (n := n) (n - nxt T n (qs T n i)).toNat (nxt T n (qs T n i)) (by omega)
      omega
    · rw [if_neg c]; exact ⟨a, b⟩
set_option maxRecDepth 100000 in
theorem kb_one : ∀ j : Nat, j < 27 → 97 ≤ kb j 1 ∧ 2 ≤ KL.getD j 0 := by decide
/-- what a token is, to both -/
theorem tk_or {X : Txt} (hX : X.OK) {i : Nat} (hi : i ≤ X.K) :
    (X.q i = X.n ∧ i = X.K ∧ srt X.T X.n (X.q i) = 0 ∧ X.k i = 0) ∨ (X.q i < X.n ∧ i < X.K ∧ ((srt X.T X.n (X.q i) = 4 ∧ X.k i = 1) ∨ (srt X.T X.n (X.q i) = 2 ∧ X.k i = 3 ∧ X.v i = numV X.T (X.q i) (re X.T X.n (X.q i))) ∨
    (srt X.T X.n (X.q i) = 3 ∧ X.k i = X.T (X.q i) ∧ 33 ≤ X.k i ∧ X.k i ≤ 125) ∨
    (srt X.T X.n (X.q i) = 1 ∧ ¬ tyV X.T (X.q i) (re X.T X.n (X.q i)) = -1 ∧ X.k i = 4 ∧ X.v i = i2j (tyV X.T (X.q i) (re X.T X.n (X.q i))) ∧ ¬ wdR X.T (X.q i) (re X.T X.n (X.q i) - X.q i).toNat ∈ KR) ∨
    (srt X.T X.n (X.q i) = 1 ∧ tyV X.T (X.q i) (re X.T X.n (X.q i)) = -1 ∧ X.v i = wdF X.T (X.q i) (re X.T X.n (X.q i) - X.q i).toNat ∧
      (∀ j : Nat, j < 27 → (X.k i = 200 + j ↔ wdR X.T (X.q i) (re X.T X.n (X.q i) - X.q i).toNat = KR.getD j 0)) ∧ (X.k i = 2 ↔ ¬ wdR X.T (X.q i) (re X.T X.n (X.q i) - X.q i).toNat ∈ KR) ∧ (X.k i = 2 ∨ ∃ j : Nat, j < 27 ∧ X.k i = 200 + j)))) := by
  have hq := qs_ge (T := X.T) hX.h0 i
  change 0 ≤ X.q i ∧ X.q i ≤ X.n at hq
  by_cases hK : i = X.K
  · left
    have e : X.q i = X.n := by rw [hK]; exact hX.hK
    refine ⟨e, hK, ?_, ?_⟩
    · unfold srt; rw [if_pos (by omega)]
    · unfold Txt.k kd; rw [if_pos (by omega)]
  right
  have hlt := hX.hl i (by omega)
  refine ⟨hlt, by omega, ?_⟩
  have nq : ¬ X.n ≤ X.q i := by omega
  have hb := hX.hb (X.q i) hq.1 hlt
  have hr := re_le (T := X.T) (n := X.n) (X.n - X.q i).toNat (X.q i) (by omega)
  unfold Txt.k Txt.v kd vl srt
  simp only [if_neg nq]
  generalize X.q i = q at *
  by_cases sm : 97 ≤ X.T q ∧ X.T q ≤ 122
  · simp only [if_pos sm]
    by_cases l8 : re X.T X.n q - q ≤ 8
    · have l8' : ¬ 8 < re X.T X.n q - q := by omega
      simp only [if_pos l8, if_neg l8']
      have rin : re X.T X.n q = re X.T X.n (q + 1) := re_in hlt (Or.inl sm)
      have r1 := re_le (T := X.T) (n := X.n) (X.n - (q + 1)).toNat (q + 1) (by omega)
      have hB : ∀ z : Int, 0 ≤ z → z < ((re X.T X.n q - q).toNat : Int) → 1 ≤ X.T (q + z) ∧ X.T (q + z) ≤ 255 := fun z z0 z1 => by
        have := hr.2.2 (q + z) (by omega) (by omega)
        omega
      have kwi : ∀ j : Nat, j < 27 → (kwd j = wdF X.T q (re X.T X.n q - q).toNat ↔ wdR X.T q (re X.T X.n q - q).toNat = KR.getD j 0) := fun j hj => kw_iff hj (by omega) hB
      by_cases ty : tyV X.T q (re X.T X.n q) = -1
      · simp only [if_pos ty]
        right; right; right; right
        refine ⟨trivial, ty, trivial, fun j hj => ?_, ?_, ?_⟩
        · rw [kwF_iff hj]; exact kwi j hj
        · rw [kwF_two, KR_mem]
          constructor
          · rintro h ⟨j, hj, e⟩
            exact h j hj ((kwi j hj).mpr e.symm)
          · intro h j hj e
            exact h ⟨j, hj, ((kwi j hj).mp e).symm⟩
        · rcases kwF_or (kw := kwd) (w := wdF X.T q (re X.T X.n q - q).toNat) 27 0 with ⟨a, b⟩ | ⟨z, a, b, c, f⟩
          · exact Or.inl a
          · exact Or.inr ⟨z.toNat, by omega, by omega⟩
      · simp only [if_neg ty]
        right; right; right; left
        refine ⟨trivial, ty, trivial, trivial, fun hm => ?_⟩
        obtain ⟨j, hj, e⟩ := KR_mem.mp hm
        have e2 := (kwi j hj).mpr e.symm
        obtain ⟨⟨a0, a1⟩, a2, a3, a4⟩ := kc_ok j hj
        obtain ⟨b1, b2⟩ := kb_one j hj
        rw [kwd_KC j hj, ← a2] at e2
        obtain ⟨c1, c2⟩ := (wdF_iff a1 (by omega) (fun i z0 z1 => by
          have := a4 i.toNat (by omega)
          rw [Int.toNat_of_nonneg z0] at this
          rw [Int.zero_add]; exact this) hB).mp e2
        have c3 := c2 1 (by omega) (by omega)
        rw [Int.zero_add] at c3
        unfold tyV at ty
        by_cases cc : (X.T q = 117 ∨ X.T q = 115) ∧ (re X.T X.n q - q = 2 ∨ (re X.T X.n q - q = 3 ∧ X.T (re X.T X.n q - 1) = 98)) ∧ 1 ≤ X.T (q + 1) - 48 ∧ X.T (q + 1) - 48 ≤ 8
        · have := cc.2.2; omega
        · exact ty (if_neg cc)
    · have l8' : 8 < re X.T X.n q - q := by omega
      simp only [if_neg l8, if_pos l8']
      exact Or.inl ⟨trivial, trivial⟩
  · simp only [if_neg sm]
    by_cases dgt : 48 ≤ X.T q ∧ X.T q ≤ 57
    · simp only [if_pos dgt]
      by_cases nv : numV X.T q (re X.T X.n q) = -1
      · simp only [if_pos nv]
        exact Or.inl ⟨trivial, trivial⟩
      · simp only [if_neg nv]
        exact Or.inr (Or.inl ⟨trivial, trivial, trivial⟩)
    · simp only [if_neg dgt]
      by_cases sg : 0 ≤ ixN SGB (if X.T q < 128 then X.T q else X.T q - 256) 18 0
      · simp only [if_pos sg]
        have := (sg_ixI hb.1 hb.2).mp sg
        exact Or.inr (Or.inr (Or.inl ⟨trivial, trivial, by omega, by omega⟩))
      · simp only [if_neg sg]
        exact Or.inl ⟨trivial, trivial⟩
/-! names: v to the class, w to the reference -/
def Nm (v w : Int64) : Prop := ∃ (T : Int → Int) (q : Int) (k : Nat), 1 ≤ k ∧ k ≤ 8 ∧ (∀ i : Int, 0 ≤ i → i < k → 1 ≤ T (q + i) ∧ T (q + i) ≤ 255) ∧ v = wdF T q k ∧ w = wdR T q k
theorem Nm.iff {v w v' w' : Int64} (h : Nm v w) (h' : Nm v' w') : v = v' ↔ w = w' := by
  obtain ⟨T, q, k, a1, a2, a3, rfl, rfl⟩ := h
  obtain ⟨T', q', k', b1, b2, b3, rfl, rfl⟩ := h'
  exact wd_iff a2 b2 a3 b3
theorem Nm.nz {v w : Int64} (h : Nm v w) : ¬ v = 0 ∧ ¬ w = 0 := by
  obtain ⟨T, q, k, a1, a2, a3, rfl, rfl⟩ := h
  have z := wd_iff (T := T) (T' := T) (q := q) (q' := q) (k := k) (k' := 0) a2 (by omega) a3 (fun i z0 z1 => absurd z1 (by omega))
  have zF := wdF_iff (T := T) (T' := T) (q := q) (q' := q) (k := k) (k' := 0) a2 (by omega) a3 (fun i z0 z1 => absurd z1 (by omega))
  have e1 : ¬ wdF T q k = wdF T q 0 := fun e => by have := (zF.mp e).1; omega
  exact ⟨e1, fun e => e1 (z.mpr e)⟩
def IsN (v : Int64) : Prop := ∃ w, Nm v w
noncomputable def rho (v : Int64) : Int64 := @dite _ (IsN v) (Classical.propDecidable _) (fun h => h.choose) (fun _ => 0)
theorem Nm.eqr {v w : Int64} (h : Nm v w) : w = rho v := by
  have hn : IsN v := ⟨w, h⟩
  unfold rho
  rw [dif_pos hn]
  exact (h.iff hn.choose_spec).mp rfl
theorem IsN.nm {v : Int64} (h : IsN v) : Nm v (rho v) := by
  obtain ⟨w, hw⟩ := h
  rw [← hw.eqr]; exact hw
theorem rho_iff {v v' : Int64} (h : IsN v) (h' : IsN v') : rho v = rho v' ↔ v = v' := (h.nm.iff h'.nm).symm
theorem IsN.nz {v : Int64} (h : IsN v) : ¬ v = 0 := h.nm.nz.1
theorem rho_zero : rho 0 = 0 := by
  unfold rho
  rw [dif_neg (fun h => h.nz rfl)]
theorem Txt.nm {X : Txt} (hX : X.OK) {i : Nat} (hi : i ≤ X.K) (h : X.k i = 2) : IsN (X.v i) ∧ wdR X.T (X.q i) (re X.T X.n (X.q i) - X.q i).toNat = rho (X.v i) ∧ srt X.T X.n (X.q i) = 1 := by
  rcases tk_or hX hi with ⟨_, _, _, a⟩ | ⟨hlt, hiK, ⟨_, a⟩ | ⟨_, a, _⟩ | ⟨_, _, a, _⟩ | ⟨_, _, a, _⟩ | ⟨s1, ty, ev, _, _, _⟩⟩
  · omega
  · omega
  · omega
  · omega
  · omega
  · have hq := qs_ge (T := X.T) hX.h0 i
    change 0 ≤ X.q i ∧ X.q i ≤ X.n at hq
    have hr := re_le (T := X.T) (n := X.n) (X.n - X.q i).toNat (X.q i) (by omega)
    have sm : (97 ≤ X.T (X.q i) ∧ X.T (X.q i) ≤ 122) ∧ re X.T X.n (X.q i) - X.q i ≤ 8 := by
      unfold srt at s1
      rw [if_neg (by omega)] at s1
      by_cases c : 97 ≤ X.T (X.q i) ∧ X.T (X.q i) ≤ 122
      · rw [if_pos c] at s1
        by_cases c2 : re X.T X.n (X.q i) - X.q i ≤ 8
        · exact ⟨c, c2⟩
        · rw [if_neg c2] at s1; omega
      · rw [if_neg c] at s1
        split at s1
        · split at s1 <;> omega
        · split at s1 <;> omega
    have rin : re X.T X.n (X.q i) = re X.T X.n (X.q i + 1) := re_in hlt (Or.inl sm.1)
    have r1 := re_le (T := X.T) (n := X.n) (X.n - (X.q i + 1)).toNat (X.q i + 1) (by omega)
    have nm : Nm (X.v i) (wdR X.T (X.q i) (re X.T X.n (X.q i) - X.q i).toNat) := ⟨X.T, X.q i, (re X.T X.n (X.q i) - X.q i).toNat, by omega, by omega, fun z z0 z1 => by
      have := hr.2.2 (X.q i + z) (by omega) (by omega)
      omega, ev, rfl⟩
    exact ⟨⟨_, nm⟩, nm.eqr, s1⟩
/-! the reference at the i-th token -/
def RT (σ : St) (m : Nat) (X : Txt) (i : Nat) : Prop :=
  LC 12 σ m ∧ gI σ 1211 m 0 = X.n ∧ (∀ z : Int, gI σ 1210 m z.toNat = X.T z) ∧ i ≤ X.K ∧ gI σ 1214 m 0 = X.q i ∧ gI σ 1215 m 0 = (if X.q i < X.n then nxt X.T X.n (X.q i) else X.q i) ∧ gI σ 1213 m 0 = srt X.T X.n (X.q i) ∧
  (srt X.T X.n (X.q i) = 1 → gJ σ 1216 m 0 = wdR X.T (X.q i) (re X.T X.n (X.q i) - X.q i).toNat) ∧ (srt X.T X.n (X.q i) = 2 → gJ σ 1217 m 0 = numV X.T (X.q i) (re X.T X.n (X.q i))) ∧ (srt X.T X.n (X.q i) = 3 → gJ σ 1217 m 0 = i2j (X.T (X.q i)))
theorem RT.frm {P : Nat → Nat → Prop} {σ σ' : St} {m : Nat} {X : Txt} {i : Nat} (h : RT σ m X i) (hF : Frm P σ σ') (h0 : ∀ f, 1210 ≤ f → f ≤ 1217 → ¬ P f m) : RT σ' m X i := by
  obtain ⟨a1, a2, a3, a4, a5, a6, a7, a8, a9, a10⟩ := h
  refine ⟨hF.lc a1, ?_, fun z => ?_, a4, ?_, ?_, ?_, fun c => ?_, fun c => ?_, fun c => ?_⟩
  · rw [hF.I (h0 _ (by decide) (by decide))]; exact a2
  · rw [hF.I (h0 _ (by decide) (by decide))]; exact a3 z
  · rw [hF.I (h0 _ (by decide) (by decide))]; exact a5
  · rw [hF.I (h0 _ (by decide) (by decide))]; exact a6
  · rw [hF.I (h0 _ (by decide) (by decide))]; exact a7
  · rw [hF.J (h0 _ (by decide) (by decide))]; exact a8 c
  · rw [hF.J (h0 _ (by decide) (by decide))]; exact a9 c
  · rw [hF.J (h0 _ (by decide) (by decide))]; exact a10 c
section M15
variable {g : GP} {l : Launch} {d : Nat} {σ : St} {m : Nat} {X : Txt} {i : Nat}
theorem r_isWord {j : Nat} {w : Int64} {P : Int → St → Prop} (hX : X.OK) (h : RT σ m X i) (hj : j < 27) (hw : KR.getD j 0 = w) (hp : P (if X.k i = 200 + (j : Int) then 1 else 0) σ) : ACi g l d MX12_isWord [vR 12 (some m), vJ w] σ P := by
  obtain ⟨a1, a2, a3, a4, a5, a6, a7, a8, a9, a10⟩ := h
  have hm : w ∈ KR := KR_mem.mpr ⟨j, hj, hw⟩
  rcases tk_or hX a4 with ⟨_, _, b1, b2⟩ | ⟨hlt, hiK, ⟨b1, b2⟩ | ⟨b1, b2, _⟩ | ⟨b1, _, b2, b3⟩ | ⟨b1, b2, b3, _, b4⟩ | ⟨b1, ty, ev, b2, _, _⟩⟩
  · rw [if_neg (by omega)] at hp; exact m_isWord (fun c => absurd c (by omega)) (fun _ => hp)
  · rw [if_neg (by omega)] at hp; exact m_isWord (fun c => absurd c (by omega)) (fun _ => hp)
  · rw [if_neg (by omega)] at hp; exact m_isWord (fun c => absurd c (by omega)) (fun _ => hp)
  · rw [if_neg (by omega)] at hp; exact m_isWord (fun c => absurd c (by omega)) (fun _ => hp)
  · rw [if_neg (by omega)] at hp; exact m_isWord (fun _ c => absurd hm (by rw [← c, a8 b1]; exact b4)) (fun _ => hp)
  · have := b2 j hj
    rw [hw, ← a8 b1] at this
    refine m_isWord (fun _ c => ?_) (fun c => ?_)
    · rw [if_pos (this.mpr c)] at hp; exact hp
    · rw [if_neg (fun y => c ⟨by rw [a7]; exact b1, this.mp y⟩)] at hp; exact hp
theorem i2j_inj {a b : Int} (ha : 0 ≤ a) (ha' : a ≤ 255) (hb : 0 ≤ b) (hb' : b ≤ 255) (h : i2j a = i2j b) : a = b := by
  have := congrArg Int64.toInt h
  rw [i2j_toInt, i2j_toInt, w32_id (by omega) (by omega), w32_id (by omega) (by omega)] at this
  exact this
theorem r_isSign {c : Int} {P : Int → St → Prop} (hX : X.OK) (h : RT σ m X i) (h0 : 33 ≤ c) (h1 : c ≤ 125) (hp : P (if X.k i = c then 1 else 0) σ) : ACi g l d MX12_isSign [vR 12 (some m), vI c] σ P := by
  obtain ⟨a1, a2, a3, a4, a5, a6, a7, a8, a9, a10⟩ := h
  rcases tk_or hX a4 with ⟨_, _, b1, b2⟩ | ⟨hlt, hiK, ⟨b1, b2⟩ | ⟨b1, b2, _⟩ | ⟨b1, be, b2, b3⟩ | ⟨b1, b2, b3, _, b4⟩ | ⟨b1, ty, ev, _, _, b2⟩⟩
  · rw [if_neg (by omega)] at hp; exact m_isSign (fun c => absurd c (by omega)) (fun _ => hp)
  · rw [if_neg (by omega)] at hp; exact m_isSign (fun c => absurd c (by omega)) (fun _ => hp)
  · rw [if_neg (by omega)] at hp; exact m_isSign (fun c => absurd c (by omega)) (fun _ => hp)
  · refine m_isSign (fun _ y => ?_) (fun y => ?_)
    · have : X.T (X.q i) = c := i2j_inj (by omega) (by omega) (by omega) (by omega) (by rw [← a10 b1]; exact y)
      rw [if_pos (by omega)] at hp; exact hp
    · rw [if_neg (fun z => y ⟨by omega, by rw [a10 b1, ← be, z]⟩)] at hp; exact hp
  · rw [if_neg (by omega)] at hp; exact m_isSign (fun c => absurd c (by omega)) (fun _ => hp)
  · rw [if_neg (by rcases b2 with b2 | ⟨j, _, b2⟩ <;> omega)] at hp; exact m_isSign (fun c => absurd c (by omega)) (fun _ => hp)
/-- where the token's row ends -/
theorem RT.row (hX : X.OK) (h : RT σ m X i) (h1 : srt X.T X.n (X.q i) = 1) : gI σ 1215 m 0 = re X.T X.n (X.q i) ∧ 0 ≤ X.q i ∧ X.q i ≤ re X.T X.n (X.q i) ∧ re X.T X.n (X.q i) ≤ 3000 ∧ (∀ z : Int, X.q i ≤ z → z < re X.T X.n (X.q i) → 0 ≤ X.T z ∧ X.T z ≤ 255) := by
  obtain ⟨a1, a2, a3, a4, a5, a6, a7, a8, a9, a10⟩ := h
  have hq := qs_ge (T := X.T) hX.h0 i
  change 0 ≤ X.q i ∧ X.q i ≤ X.n at hq
  have hr := re_le (T := X.T) (n := X.n) (X.n - X.q i).toNat (X.q i) (by omega)
  have h3 := hX.h3
  have sm : X.q i < X.n ∧ (97 ≤ X.T (X.q i) ∧ X.T (X.q i) ≤ 122) := by
    unfold srt at h1
    by_cases c0 : X.n ≤ X.q i
    · rw [if_pos c0] at h1; omega
    rw [if_neg c0] at h1
    by_cases c : 97 ≤ X.T (X.q i) ∧ X.T (X.q i) ≤ 122
    · exact ⟨by omega, c⟩
    · rw [if_neg c] at h1
      split at h1
      · split at h1 <;> omega
      · split at h1 <;> omega
  refine ⟨?_, hq.1, hr.1, by omega, fun z z0 z1 => hX.hb z (by omega) (by omega)⟩
  rw [a6, if_pos sm.1]
  exact if_pos (Or.inl sm.2)
theorem r_whole {P : Int → St → Prop} (hX : X.OK) (h : RT σ m X i) (hp : P (if X.k i = 4 then (X.v i).toInt else 0) σ) : ACi g l d MX12_whole [vR 12 (some m)] σ P := by
  have h' := h
  obtain ⟨a1, a2, a3, a4, a5, a6, a7, a8, a9, a10⟩ := h
  by_cases s1 : srt X.T X.n (X.q i) = 1
  · obtain ⟨r1, r2, r3, r4, r5⟩ := h'.row hX s1
    refine m_whole a1 a5 r1 a3 r2 r3 r4 r5 ?_
    rw [a7, if_pos s1]
    rcases tk_or hX a4 with ⟨_, _, b1, b2⟩ | ⟨hlt, hiK, ⟨b1, b2⟩ | ⟨b1, b2, _⟩ | ⟨b1, _, b2, b3⟩ | ⟨b1, b2, b3, b5, b4⟩ | ⟨b1, ty, ev, _, _, b2⟩⟩
    · omega
    · omega
    · omega
    · omega
    · rw [if_neg b2]
      rw [if_pos b3, b5, i2j_toInt] at hp
      have t1 := ty_pos b2
      have t2 : tyV X.T (X.q i) (re X.T X.n (X.q i)) ≤ 56 := by
        unfold tyV; split
        · rename_i c; have := c.2.2; split <;> split <;> omega
        · omega
      rw [w32_id (by omega) (by omega)] at hp
      exact hp
    · rw [if_pos ty]
      rw [if_neg (by rcases b2 with b2 | ⟨j, _, b2⟩ <;> omega)] at hp
      exact hp
  · have s1' : ¬ gI σ 1213 m 0 = 1 := by rw [a7]; exact s1
    have k4 : ¬ X.k i = 4 := by
      rcases tk_or hX a4 with ⟨_, _, b1, b2⟩ | ⟨hlt, hiK, ⟨b1, b2⟩ | ⟨b1, b2, _⟩ | ⟨b1, _, b2, b3⟩ | ⟨b1, b2, b3, b5, b4⟩ | ⟨b1, ty, ev, _, _, b2⟩⟩ <;> omega
    rw [if_neg k4] at hp
    exact AC.of mo_X12_whole (Nat.le_of_ble_eq_true rfl) (bk_X12_whole_0 ⟨fun z => ⟨_, rfl, hp⟩, fun z => absurd z s1'⟩)
theorem r_isName {P : Int → St → Prop} (hX : X.OK) (h : RT σ m X i) (hp : P (if X.k i = 2 then 1 else 0) σ) : ACi g l (d + 2) MX12_isName [vR 12 (some m)] σ P := by
  have h' := h
  obtain ⟨a1, a2, a3, a4, a5, a6, a7, a8, a9, a10⟩ := h
  by_cases s1 : srt X.T X.n (X.q i) = 1
  · obtain ⟨r1, r2, r3, r4, r5⟩ := h'.row hX s1
    refine m_isName a1 a5 r1 a3 r2 r3 r4 r5 ?_
    rw [a7, a8 s1]
    rcases tk_or hX a4 with ⟨_, _, b1, b2⟩ | ⟨hlt, hiK, ⟨b1, b2⟩ | ⟨b1, b2, _⟩ | ⟨b1, _, b2, b3⟩ | ⟨b1, b2, b3, b5, b4⟩ | ⟨b1, ty, ev, _, b3, b2⟩⟩
    · omega
    · omega
    · omega
    · omega
    · rw [if_neg (fun y => b2 y.2.2)]
      rw [if_neg (by omega)] at hp
      exact hp
    · by_cases k2 : X.k i = 2
      · rw [if_pos ⟨s1, b3.mp k2, ty⟩]
        rw [if_pos k2] at hp; exact hp
      · rw [if_neg (fun y => k2 (b3.mpr y.2.1))]
        rw [if_neg k2] at hp; exact hp
  · have s1' : ¬ gI σ 1213 m 0 = 1 := by rw [a7]; exact s1
    have k2 : ¬ X.k i = 2 := fun e => s1 (Txt.nm hX a4 e).2.2
    rw [if_neg k2] at hp
    exact AC.of mo_X12_isName (Nat.le_of_ble_eq_true rfl) (bk_X12_isName_0 ⟨fun z => ⟨_, rfl, hp⟩, fun z => absurd z s1'⟩)
/-- the sorts by the kinds -/
theorem RT.sort (hX : X.OK) (h : RT σ m X i) : (gI σ 1213 m 0 = 0 ↔ X.k i = 0) ∧ (gI σ 1213 m 0 = 2 ↔ X.k i = 3) ∧ (gI σ 1213 m 0 = 4 ↔ X.k i = 1) ∧ (X.k i = 3 → gJ σ 1217 m 0 = X.v i) ∧ (X.k i = 2 → gJ σ 1216 m 0 = rho (X.v i) ∧ IsN (X.v i)) ∧ (X.k i = 0 ↔ i = X.K) ∧ (gI σ 1213 m 0 = 3 → 33 ≤ X.k i ∧ X.k i ≤ 125 ∧ gJ σ 1217 m 0 = i2j (X.k i)) ∧ (33 ≤ X.k i → X.k i ≤ 125 → gI σ 1213 m 0 = 3) := by
  obtain ⟨a1, a2, a3, a4, a5, a6, a7, a8, a9, a10⟩ := h
  have n2 : X.k i = 2 → gJ σ 1216 m 0 = rho (X.v i) ∧ IsN (X.v i) := fun e => by
    obtain ⟨b1, b2, b3⟩ := Txt.nm hX a4 e
    exact ⟨by rw [a8 b3, b2], b1⟩
  rw [a7]
  rcases tk_or hX a4 with ⟨_, e, b1, b2⟩ | ⟨hlt, hiK, ⟨b1, b2⟩ | ⟨b1, b2, b3⟩ | ⟨b1, be, b2, b3⟩ | ⟨b1, b2, b3, _, b4⟩ | ⟨b1, ty, ev, _, _, b2⟩⟩
  · exact ⟨by omega, by omega, by omega, fun z => by omega, n2, by omega, fun z => by omega, fun z => by omega⟩
  · exact ⟨by omega, by omega, by omega, fun z => by omega, n2, by omega, fun z => by omega, fun z => by omega⟩
  · exact ⟨by omega, by omega, by omega, fun z => by rw [a9 b1, b3], n2, by omega, fun z => by omega, fun z => by omega⟩
  · exact ⟨by omega, by omega, by omega, fun z => by omega, n2, by omega, fun z => ⟨b2, b3, by rw [a10 b1, be]⟩, fun _ _ => b1⟩
  · exact ⟨by omega, by omega, by omega, fun z => by omega, n2, by omega, fun z => by omega, fun z => by omega⟩
  · have : X.k i = 2 ∨ 200 ≤ X.k i := by rcases b2 with b2 | ⟨j, _, b2⟩ <;> omega
    exact ⟨by omega, by omega, by omega, fun z => by omega, n2, by omega, fun z => by omega, fun z => by omega⟩
theorem r_next {P : St → Prop} (hX : X.OK) (h : RT σ m X i) (hp : ∀ σ', Frm (fun f r => r = m ∧ (1213 ≤ f ∧ f ≤ 1217)) σ σ' → RT σ' m X (X.nx i) → P σ') : ACv g l (d + 2) MX12_next [vR 12 (some m)] σ P := by
  obtain ⟨a1, a2, a3, a4, a5, a6, a7, a8, a9, a10⟩ := h
  have hq := qs_ge (T := X.T) hX.h0 i
  change 0 ≤ X.q i ∧ X.q i ≤ X.n at hq
  have hr := re_le (T := X.T) (n := X.n) (X.n - X.q i).toNat (X.q i) (by omega)
  have ht : 0 ≤ gI σ 1215 m 0 ∧ gI σ 1215 m 0 ≤ X.n := by
    rw [a6]; split
    · unfold nxt; split <;> omega
    · omega
  have e : sk X.T X.n (gI σ 1215 m 0) = X.q (X.nx i) := by
    unfold Txt.nx
    by_cases c : i < X.K
    · have := hX.hl i c
      rw [if_pos c, a6, if_pos this]
      unfold Txt.q at this ⊢
      rw [qs, if_pos this]
    · have ei : i = X.K := by omega
      have := hX.hK
      rw [if_neg c, a6, ei, this, if_neg (by omega), sk_end (by omega)]
  refine m_next a1 rfl a2 a3 hX.h3 ht.1 ht.2 hX.hb (fun σ' hN => ?_)
  rw [e] at hN
  obtain ⟨b1, b2, b3, b4, b5, b6, b7⟩ := hN
  refine hp σ' b1 ⟨b1.lc a1, by rw [b1.I (by simp)]; exact a2, fun z => by rw [b1.I (by simp)]; exact a3 z, ?_, b2, b3, b4, b5, b6, b7⟩
  unfold Txt.nx; split <;> omega
theorem r_first {P : St → Prop} (hX : X.OK) (hL : LC 12 σ m) (hn : gI σ 1211 m 0 = X.n) (hT : ∀ z : Int, gI σ 1210 m z.toNat = X.T z) (h0 : gI σ 1215 m 0 = 0) (hp : ∀ σ', Frm (fun f r => r = m ∧ (1213 ≤ f ∧ f ≤ 1217)) σ σ' → RT σ' m X 0 → P σ') : ACv g l (d + 2) MX12_next [vR 12 (some m)] σ P := by
  refine m_next hL h0 hn hT hX.h3 (Int.le_refl _) hX.h0 hX.hb (fun σ' hN => ?_)
  obtain ⟨b1, b2, b3, b4, b5, b6, b7⟩ := hN
  exact hp σ' b1 ⟨b1.lc hL, by rw [b1.I (by simp)]; exact hn, fun z => by rw [b1.I (by simp)]; exact hT z, Nat.zero_le _, b2, b3, b4, b5, b6, b7⟩
end M15
