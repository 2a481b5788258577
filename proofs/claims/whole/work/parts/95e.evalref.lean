/-! exprs worked out by the reference -/
theorem opR_inv {o : Int} (h : isLf o ∨ isUn o ∨ 0 ≤ lv o) : (opR o = 0 → o = 3) ∧ (opR o = 1 → o = 2) ∧ (opR o = 2 → o = 212) ∧ (opR o = 3 → o = 222) ∧ (opR o = 4 → o = 223) ∧ (opR o = 5 → o = 5) ∧ (opR o = 6 → o = 226) ∧ (opR o < 0 ∨ 6 < opR o → 0 ≤ lv o) := by
  rcases h with (rfl | rfl | rfl | rfl | rfl) | (rfl | rfl) | h
  · decide
  · decide
  · decide
  · decide
  · decide
  · decide
  · decide
  · rcases lv_cases h with rfl | rfl | rfl | rfl | rfl | rfl | rfl | rfl | rfl | rfl | rfl <;> decide
theorem op_iff {o : Int} (h : 0 ≤ lv o) : (opR o = 7 → o = 43) ∧ (opR o = 8 → o = 45) ∧ (opR o = 9 → o = 42) ∧ (opR o = 10 → o = 47) ∧ (opR o = 11 → o = 37) ∧ (opR o = 12 → o = 38) ∧ (opR o = 13 → o = 61) ∧ (opR o = 14 → o = 60) ∧ (opR o = 15 → o = 62) ∧ (opR o = 16 → o = 224) ∧ (opR o < 7 ∨ 16 < opR o → o = 225) := by
  rcases lv_cases h with rfl | rfl | rfl | rfl | rfl | rfl | rfl | rfl | rfl | rfl | rfl <;> decide
theorem opV_v (a b : Int64) : opV 37 a b = j_rem a b ∧ opV 42 a b = a * b ∧ opV 43 a b = a + b ∧ opV 45 a b = a - b ∧ opV 47 a b = a / b ∧ opV 60 a b = (if b.toInt ≤ a.toInt then 0 else 1) ∧ opV 61 a b = (if a = b then 1 else 0) ∧ opV 62 a b = (if a.toInt ≤ b.toInt then 0 else 1) ∧ opV 224 a b = (if a = 0 then 0 else if b = 0 then 0 else 1) ∧ opV 225 a b = (if a = 0 then (if b = 0 then 0 else 1) else 1) ∧ opV 38 a b = a &&& b := ⟨rfl, rfl, rfl, rfl, rfl, rfl, rfl, rfl, rfl, rfl, rfl⟩
theorem sk1_lt {B j : Nat} {x : Nd} {S S1 : List Nat} (h : sk1 B j x S = some S1) (hS : ∀ n ∈ S, n < j) : (∀ n ∈ S1, n < j + 1) ∧ (isLf x.o ∨ isUn x.o ∨ 0 ≤ lv x.o) ∧ (¬ isLf x.o → x.a < j) ∧ (0 ≤ lv x.o → x.b < j) := by
  unfold sk1 at h
  by_cases lf : isLf x.o
  · rw [if_pos lf] at h
    by_cases q : S.length < B
    · rw [if_pos q] at h
      cases h
      refine ⟨fun n hn => ?_, Or.inl lf, fun z => absurd lf z, fun z => absurd lf (st_lv z).2.2.1⟩
      rcases List.mem_cons.mp hn with rfl | hn
      · omega
      · have := hS n hn; omega
    · rw [if_neg q] at h; cases h
  · rw [if_neg lf] at h
    by_cases u : isUn x.o
    · rw [if_pos u] at h
      match S, hS, h with
      | [], _, h => cases h
      | t :: r, hS, h =>
        have h : (if x.a = t then some (j :: r) else none) = some S1 := h
        by_cases q : x.a = t
        · rw [if_pos q] at h
          cases h
          have ht := hS t (List.mem_cons_self ..)
          refine ⟨fun n hn => ?_, Or.inr (Or.inl u), fun _ => by omega, fun z => absurd u (st_lv z).2.2.2.1⟩
          rcases List.mem_cons.mp hn with rfl | hn
          · omega
          · have := hS n (List.mem_cons_of_mem _ hn); omega
        · rw [if_neg q] at h; cases h
    · rw [if_neg u] at h
      by_cases v : 0 ≤ lv x.o
      · rw [if_pos v] at h
        match S, hS, h with
        | [], _, h => cases h
        | [_], _, h => cases h
        | t :: w :: r, hS, h =>
          have h : (if x.a = w ∧ x.b = t then some (j :: r) else none) = some S1 := h
          by_cases q : x.a = w ∧ x.b = t
          · rw [if_pos q] at h
            cases h
            have ht := hS t (List.mem_cons_self ..)
            have hw := hS w (List.mem_cons_of_mem _ (List.mem_cons_self ..))
            refine ⟨fun n hn => ?_, Or.inr (Or.inr v), fun _ => by omega, fun _ => by omega⟩
            rcases List.mem_cons.mp hn with rfl | hn
            · omega
            · have := hS n (List.mem_cons_of_mem _ (List.mem_cons_of_mem _ hn)); omega
          · rw [if_neg q] at h; cases h
      · rw [if_neg v] at h; cases h
section T5
variable {g : GP} {l : Launch} {d : Nat} {σ σ' : St} {m b t a i : Nat} {Ss : List Stc} {s : TS} {h : Int → Int} {len im here : Int}
abbrev WkF (m f r : Nat) : Prop := r = m ∧ (f = 1286 ∨ f = 1287)
theorem NdR.ag (hN : NdR σ m t b s i) (hA : ∀ f j, 1267 ≤ f → f ≤ 1279 → gI σ' f m j = gI σ f m j) : NdR σ' m t b s i := by
  obtain ⟨n1, n2, n3, n4, n5, n6, n7, n8, n9, n10, n11, n12, n13⟩ := hN
  refine ⟨by rw [hA 1267 _ (by decide) (by decide)]; exact n1, by rw [hA 1268 _ (by decide) (by decide)]; exact n2, by rw [hA 1269 _ (by decide) (by decide)]; exact n3, by rw [hA 1272 _ (by decide) (by decide)]; exact n4, by rw [hA 1279 _ (by decide) (by decide)]; exact n5, by rw [hA 1270 _ (by decide) (by decide)]; exact n6, by rw [hA 1274 _ (by decide) (by decide)]; exact n7, by rw [hA 1273 _ (by decide) (by decide)]; exact n8, by rw [hA 1275 _ (by decide) (by decide)]; exact n9, by rw [hA 1271 _ (by decide) (by decide)]; exact n10, by rw [hA 1276 _ (by decide) (by decide)]; exact n11, by rw [hA 1277 _ (by decide) (by decide)]; exact n12, fun j a ha => by rw [hA 1278 _ (by decide) (by decide)]; exact n13.1 j a ha, by rw [hA 1278 _ (by decide) (by decide), hA 1279 _ (by decide) (by decide)]; exact n13.2⟩
theorem ImR.ag (hI : ImR σ m im len h) (hL : LC 12 σ' m) (hA : ∀ f j, (1201 ≤ f ∧ f ≤ 1204) ∨ f = 1281 → gI σ' f m j = gI σ f m j) : ImR σ' m im len h := by
  obtain ⟨i1, i2, i3, i4, i5, i6, i7, i8, i9⟩ := hI
  have e : ∀ p, hasM σ' m im p = hasM σ m im p := fun p => by unfold hasM; rw [hA 1203 _ (by decide), hA 1202 _ (by decide)]; exact hv_congr (fun i _ => hA 1204 _ (by decide)) rfl
  exact ⟨hL, by rw [hA 1281 _ (by decide)]; exact i2, i3, i4, by rw [hA 1201 _ (by decide)]; exact i5, i6, i7, by rw [hA 1202 _ (by decide)]; exact i8, fun p p0 p1 => by rw [e]; exact i9 p p0 p1⟩
theorem FdR.ag (hF : FdR σ m b Ss) (hA : ∀ f i, (1219 ≤ f ∧ f ≤ 1245) ∨ f = 1262 → gI σ' f m i = gI σ f m i ∧ gJ σ' f m i = gJ σ f m i) : FdR σ' m b Ss := ⟨hF.1, fun fl F hf => ⟨(hF.2 fl F hf).1, (hF.2 fl F hf).2.ag hA⟩⟩
/-- where exprs are worked out in the reference -/
def EvR (σ : St) (m t b : Nat) (Ss : List Stc) (s : TS) (im len : Int) (h : Int → Int) : Prop := ImR σ m im len h ∧ FdR σ m b Ss ∧ (∀ fl F, gF Ss fl = some F → F.ki = 3 → BiO F.es 0 (8 * tw F.ty) ∧ F.es.length ≤ 12) ∧ s.c ≤ 400 ∧ t < 7 ∧ (∀ a, a < s.c → NdR σ m t b s a) ∧ (∀ a, a < s.c → NdW Ss len s a) ∧ (∀ a, a < s.c → s.d 0 a = 3 → BiK s a) ∧ gI σ 1253 m 0 = (b : Int)
theorem EvR.ag (hE : EvR σ m t b Ss s im len h) (hL : LC 12 σ' m) (hA : ∀ f j, (1201 ≤ f ∧ f ≤ 1204) ∨ (1219 ≤ f ∧ f ≤ 1245) ∨ f = 1253 ∨ f = 1262 ∨ (1267 ≤ f ∧ f ≤ 1279) ∨ f = 1281 → gI σ' f m j = gI σ f m j ∧ gJ σ' f m j = gJ σ f m j) : EvR σ' m t b Ss s im len h := by
  obtain ⟨e1, e2, e3, e4, e5, e6, e7, e8, e9⟩ := hE
  exact ⟨e1.ag hL (fun f j z => (hA f j (by omega)).1), e2.ag (fun f j z => hA f j (by omega)), e3, e4, e5, fun a ha => (e6 a ha).ag (fun f j z0 z1 => (hA f j (by omega)).1), e7, e8, by rw [(hA 1253 _ (by decide)).1]; exact e9⟩
theorem EvR.wk (hE : EvR σ m t b Ss s im len h) (hF : Frm (WkF m) σ σ') : EvR σ' m t b Ss s im len h :=
  hE.ag (hF.lc hE.1.1) (fun f j z => ⟨hF.I (fun q => by omega) j, hF.J (fun q => by omega) j⟩)
theorem m_joined {o : Int} {a b : Int64} {P : Int64 → St → Prop} (ho : 0 ≤ lv o) (h1 : ¬ ((o = 47 ∨ o = 37) ∧ b = 0) → P (opV o a b) σ) (h0 : (o = 47 ∨ o = 37) → b = 0 → P 0 (sI σ 1286 m 0 1)) : ACj g l d MX12_joined [vR 12 (some m), vI (opR o), vJ a, vJ b] σ P := by
  obtain ⟨o7, o8, o9, o10, o11, o12, o13, o14, o15, o16, o17⟩ := op_iff ho
  obtain ⟨v37, v42, v43, v45, v47, v60, v61, v62, v224, v225, v38⟩ := opV_v a b
  have s71 : (o = 47 ∨ o = 37) → AW g l d MX12_joined 71 [some (vR 12 (some m)), some (vI (opR o)), some (vJ a), none, some (vJ b), none] [] σ (fun v σ' => ∃ r, v = some (vJ r) ∧ P r σ') := fun hq => by
    refine bk_X12_joined_71 ⟨fun z => ⟨fun w => ⟨z, _, rfl, ?_⟩, fun w => ⟨z, _, rfl, ?_⟩⟩, fun z => ⟨_, rfl, h0 hq z⟩⟩
    · have h1 := h1 (fun q => z q.2)
      rcases hq with rfl | rfl
      · exact absurd (by decide) w
      · rw [v37] at h1; exact h1
    · have h1 := h1 (fun q => z q.2)
      obtain rfl := o10 w
      rw [v47] at h1; exact h1
  have h2 : ¬ (o = 47 ∨ o = 37) → P (opV o a b) σ := fun q => h1 (fun w => q w.1)
  refine AC.of mo_X12_joined (Nat.le_of_ble_eq_true rfl) (bk_X12_joined_0 ⟨fun z => ⟨_, rfl, ?_⟩, fun z => ⟨_, rfl, ?_⟩, fun z => ⟨_, rfl, ?_⟩, fun z => s71 (Or.inl (o10 z)), fun z => s71 (Or.inr (o11 z)), fun z => ⟨_, rfl, ?_⟩, fun z => ⟨fun w => ⟨_, rfl, ?_⟩, fun w => ⟨_, rfl, ?_⟩⟩, fun z => ⟨fun w => ⟨_, rfl, ?_⟩, fun w => ⟨_, rfl, ?_⟩⟩, fun z => ⟨fun w => ⟨_, rfl, ?_⟩, fun w => ⟨_, rfl, ?_⟩⟩, fun z => ⟨fun w => ⟨_, rfl, ?_⟩, fun w => ⟨fun u => ⟨_, rfl, ?_⟩, fun u => ⟨_, rfl, ?_⟩⟩⟩, fun z => ⟨fun w => ⟨_, rfl, ?_⟩, fun w => ⟨fun u => ⟨_, rfl, ?_⟩, fun u => ⟨_, rfl, ?_⟩⟩⟩⟩)
  · obtain rfl := o7 z; have := h2 (by decide); rw [v43] at this; exact this
  · obtain rfl := o8 z; have := h2 (by decide); rw [v45] at this; exact this
  · obtain rfl := o9 z; have := h2 (by decide); rw [v42] at this; exact this
  · obtain rfl := o12 z; have := h2 (by decide); rw [v38] at this; exact this
  · obtain rfl := o13 z; have := h2 (by decide); rw [v61, if_neg w] at this; exact this
  · obtain rfl := o13 z; have := h2 (by decide); rw [v61, if_pos w] at this; exact this
  · obtain rfl := o14 z; have := h2 (by decide); rw [v60, if_pos w] at this; exact this
  · obtain rfl := o14 z; have := h2 (by decide); rw [v60, if_neg w] at this; exact this
  · obtain rfl := o15 z; have := h2 (by decide); rw [v62, if_pos w] at this; exact this
  · obtain rfl := o15 z; have := h2 (by decide); rw [v62, if_neg w] at this; exact this
  · obtain rfl := o16 z; have := h2 (by decide); rw [v224, if_pos w] at this; exact this
  · obtain rfl := o16 z; have := h2 (by decide); rw [v224, if_neg w, if_pos u] at this; exact this
  · obtain rfl := o16 z; have := h2 (by decide); rw [v224, if_neg w, if_neg u] at this; exact this
  · obtain rfl := o17 z; have := h2 (by decide); rw [v225, if_neg w] at this; exact this
  · obtain rfl := o17 z; have := h2 (by decide); rw [v225, if_pos w, if_pos u] at this; exact this
  · obtain rfl := o17 z; have := h2 (by decide); rw [v225, if_pos w, if_neg u] at this; exact this
/-- names that an expr has -/
def NmO (Ss : List Stc) (s : TS) (i : Nat) (c : Int) : Prop := (0 ≤ c ∧ c ≤ 1000) ∧ c / 13 < 14 ∧ ∀ F, gF Ss (14 * s.d 7 i + c / 13) = some F → c % 13 = 0 ∨ F.ki = 3
/-- one step -/
theorem m_work {nb j : Nat} {x : Nd} {R : List Int64} {P : Int64 → St → Prop} (hE : EvR σ m t b Ss s im len h) (hi : i < s.c) (hS : StK Ss s i) (h7 : 0 ≤ s.d 7 i ∧ s.d 7 i < 20) (hhere : 0 ≤ here ∧ here ≤ len) (hrn : gI σ 1242 m (nb + j) = opR x.o ∧ gI σ 1243 m (nb + j) = lfR nb x ∧ gI σ 1244 m (nb + j) = rtR nb x ∧ gJ σ 1245 m (nb + j) = vlR x) (hb9 : nb + j < 9000) (hR : ∀ n, n < j → gJ σ 1287 m (nb + n) = R.getD n 0) (ho : isLf x.o ∨ isUn x.o ∨ 0 ≤ lv x.o) (ha : ¬ isLf x.o → x.a < j) (hb : 0 ≤ lv x.o → x.b < j) (hx : x.o = 2 → NmO Ss s i x.v.toInt)
    (h1 : ∀ v, vN here len (s.d 1 i) (nmV Ss h s i) x R = some v → P v σ) (h0 : vN here len (s.d 1 i) (nmV Ss h s i) x R = none → P 0 (sI σ 1286 m 0 1)) : ACj g l (d + 5) MX12_work [vR 12 (some m), vI ((nb + j : Nat) : Int), vI ((400 * t + i : Nat) : Int), vI here] σ P := by
  obtain ⟨r1, r2, r3, r4⟩ := hrn
  obtain ⟨o0, o1, o2, o3, o4, o5, o6, o7⟩ := opR_inv ho
  obtain ⟨e1, e2, e3, e4, e5, e6, e7, e8, e9⟩ := hE
  have e1' := e1
  obtain ⟨i1, i2, i3, i4, i5, i6, i7, i8, i9⟩ := e1
  obtain ⟨n1, n2, n3, _⟩ := e6 i hi
  refine AC.of mo_X12_work (Nat.le_of_ble_eq_true rfl) (bk_X12_work_0 ⟨i1, ⟨by omega, by omega⟩, ?_⟩)
  simp only [Int.toNat_natCast]
  rw [r1, r2, r3, r4, i2, i5, n2]
  refine ⟨fun z => ⟨_, rfl, h1 _ ?_⟩, fun z => ?_, fun z => ⟨_, rfl, h1 _ ?_⟩, fun z => ⟨⟨by omega, by omega⟩, ⟨by omega, by omega⟩, _, rfl, h1 _ ?_⟩, fun z => ⟨⟨by omega, by omega⟩, _, rfl, h1 _ ?_⟩, fun z => ?_, fun z => ?_, fun z => ?_⟩
  · have e := o0 z
    unfold vN vlR
    rw [if_pos e, if_pos e]
  · have e := o1 z
    obtain ⟨c1, c2, c3⟩ := hx e
    have ev : vN here len (s.d 1 i) (nmV Ss h s i) x R = nmV Ss h s i x.v.toInt := by unfold vN; rw [if_neg (by omega), if_pos e]
    have evl : j2i (vlR x) = cv x.v.toInt := by
      have : 0 ≤ cv x.v.toInt ∧ cv x.v.toInt ≤ 2000 := by unfold cv; omega
      have w : w32 (cv x.v.toInt) = cv x.v.toInt := w32_id (by omega) (by omega)
      unfold vlR
      rw [if_neg (by omega), if_pos e, j2i_eq, i2j_toInt, w, w]
    rw [evl]
    exact m_named_ e1' e2 e3 e4 e5 e6 e7 e8 hi hS h7 e9 c1 c3 c2 (fun v hv => ⟨_, rfl, h1 v (by rw [ev]; exact hv)⟩) (fun hv => ⟨_, rfl, h0 (by rw [ev]; exact hv)⟩)
  · have e := o2 z
    unfold vN
    rw [if_neg (by omega), if_neg (by omega), if_pos e]
  · have e := o3 z
    unfold vN
    rw [if_neg (by omega), if_neg (by omega), if_neg (by omega), if_pos e]
  · have e := o4 z
    unfold vN
    rw [if_neg (by omega), if_neg (by omega), if_neg (by omega), if_neg (by omega), if_pos e]
  · have e := o5 z
    have nl : ¬ isLf x.o := by unfold isLf; omega
    have xa := ha nl
    unfold lfR
    rw [if_neg nl]
    refine ⟨⟨by omega, by omega⟩, _, rfl, h1 _ ?_⟩
    rw [Int.toNat_natCast, hR _ xa]
    unfold vN
    rw [if_neg (by omega), if_neg (by omega), if_neg (by omega), if_neg (by omega), if_neg (by omega), if_pos e]
  · have e := o6 z
    have nl : ¬ isLf x.o := by unfold isLf; omega
    have xa := ha nl
    unfold lfR
    rw [if_neg nl, Int.toNat_natCast, hR _ xa]
    have hv : vN here len (s.d 1 i) (nmV Ss h s i) x R = some (if R.getD x.a 0 = 0 then 1 else 0) := by
      unfold vN
      rw [if_neg (by omega), if_neg (by omega), if_neg (by omega), if_neg (by omega), if_neg (by omega), if_neg (by omega), if_pos e]
    refine ⟨⟨by omega, by omega⟩, fun w => ⟨_, rfl, h1 _ ?_⟩, fun w => ⟨_, rfl, h1 _ ?_⟩⟩
    · rw [hv, if_neg w]
    · rw [hv, if_pos w]
  · have e := o7 z
    obtain ⟨_, _, nl, nu, _, _⟩ := st_lv e
    have xa := ha nl
    have xb := hb e
    unfold lfR rtR
    rw [if_neg nl, if_neg (fun q => q.elim nl nu), Int.toNat_natCast, Int.toNat_natCast, hR _ xa, hR _ xb]
    have hv : vN here len (s.d 1 i) (nmV Ss h s i) x R = if (x.o = 47 ∨ x.o = 37) ∧ R.getD x.b 0 = 0 then none else some (opV x.o (R.getD x.a 0) (R.getD x.b 0)) := by
      unfold isLf at nl
      unfold isUn at nu
      unfold vN
      rw [if_neg (by omega), if_neg (by omega), if_neg (by omega), if_neg (by omega), if_neg (by omega), if_neg (by omega), if_neg (by omega)]
    refine ⟨⟨by omega, by omega⟩, ⟨by omega, by omega⟩, m_joined e (fun w => ⟨_, rfl, h1 _ (by rw [hv, if_neg w])⟩) (fun w1 w2 => ⟨_, rfl, h0 (by rw [hv, if_pos ⟨w1, w2⟩])⟩)⟩
theorem m_worked {N : List Nd} {nb : Nat} {P : Int64 → St → Prop} (hrn : RN σ m nb N) (h62 : gI σ 1262 m (nb + N.length - 1) = (nb : Int)) (hnb : nb + N.length ≤ 9000) (hw : WFx (some N)) (hE : EvR σ m t b Ss s im len h) (hi : i < s.c) (hS : StK Ss s i) (h7 : 0 ≤ s.d 7 i ∧ s.d 7 i < 20) (hhere : 0 ≤ here ∧ here ≤ len) (hx : ∀ x ∈ N, x.o = 2 → NmO Ss s i x.v.toInt)
    (h1 : ∀ v, evE here len (s.d 1 i) (nmV Ss h s i) N = some v → ∀ σ', Frm (WkF m) σ σ' → gI σ' 1286 m 0 = 0 → P v σ') (h0 : evE here len (s.d 1 i) (nmV Ss h s i) N = none → ∀ v σ', Frm (WkF m) σ σ' → gI σ' 1286 m 0 = 1 → P v σ') : ACj g l (d + 6) MX12_worked [vR 12 (some m), vI ((nb + N.length - 1 : Nat) : Int), vI ((400 * t + i : Nat) : Int), vI here] σ P := by
  obtain ⟨wl, wk, _⟩ := hw N rfl
  have lc := hE.1.1
  have evn : evN here len (s.d 1 i) (nmV Ss h s i) N [] = none → evE here len (s.d 1 i) (nmV Ss h s i) N = none := fun e => by unfold evE; rw [e]
  have loop : ∀ (M : List Nd) (j : Nat) (R : List Int64) (S : List Nat) (τ : St), (∀ k x, M[k]? = some x → N[j + k]? = some x) → j + M.length = N.length → R.length = j → Frm (WkF m) σ τ → (∀ n, n < j → gJ τ 1287 m (nb + n) = R.getD n 0) → (∀ n ∈ S, n < j) → skr 102 M j S = some [N.length - 1] → (gI τ 1286 m 0 = 0 ∧ evN here len (s.d 1 i) (nmV Ss h s i) N [] = evN here len (s.d 1 i) (nmV Ss h s i) M R ∨ gI τ 1286 m 0 = 1 ∧ evE here len (s.d 1 i) (nmV Ss h s i) N = none) → AW g l (d + 6) MX12_worked 13 [some (vR 12 (some m)), some (vI ((nb + N.length - 1 : Nat) : Int)), some (vI ((400 * t + i : Nat) : Int)), some (vI here), some (vI ((nb + j : Nat) : Int))] [] τ (fun v σ' => ∃ r, v = some (vJ r) ∧ P r σ') := by
    intro M
    induction M with
    | nil =>
      intro j R S τ _ hj hR hF hst _ _ hev
      have hj : j + 0 = N.length := hj
      refine bk_X12_worked_13 ⟨fun _ => ⟨hF.lc lc, ⟨by omega, by omega⟩, _, rfl, ?_⟩, fun w => absurd (by omega) w⟩
      rw [Int.toNat_natCast, show nb + N.length - 1 = nb + (N.length - 1) by omega, hst _ (by omega)]
      rcases hev with ⟨f0, ev⟩ | ⟨f1, ev⟩
      · refine h1 _ ?_ τ hF f0
        have ev : evN here len (s.d 1 i) (nmV Ss h s i) N [] = some R := ev
        unfold evE
        rw [ev]
      · exact h0 ev _ τ hF f1
    | cons x M ih =>
      intro j R S τ hM hj hR hF hst hlt hk hev
      have hj : j + (M.length + 1) = N.length := hj
      have c0 := hM 0 x rfl
      rw [Nat.add_zero] at c0
      have xm := List.mem_of_getElem? c0
      obtain ⟨r1, r2, r3, r4⟩ := hrn j x c0
      have hk : (sk1 102 j x S).bind (skr 102 M (j + 1)) = some [N.length - 1] := hk
      cases hs1 : sk1 102 j x S with
      | none => rw [hs1] at hk; cases hk
      | some S1 =>
      rw [hs1] at hk
      have hk : skr 102 M (j + 1) S1 = some [N.length - 1] := hk
      obtain ⟨s1, s2, s3, s4⟩ := sk1_lt hs1 hlt
      have n : ∀ f, f < 1286 → ¬ WkF m f m := fun f z q => by omega
      have go : ∀ (v : Int64) (τ' : St), Frm (WkF m) σ τ' → (∀ n, n < j → gJ τ' 1287 m (nb + n) = R.getD n 0) → (gI τ' 1286 m 0 = 0 ∧ evN here len (s.d 1 i) (nmV Ss h s i) N [] = evN here len (s.d 1 i) (nmV Ss h s i) M (R ++ [v]) ∨ gI τ' 1286 m 0 = 1 ∧ evE here len (s.d 1 i) (nmV Ss h s i) N = none) → LC 12 τ' m ∧ Bd ((nb + j : Nat) : Int) 9000 ∧ R32 (((nb + j : Nat) : Int) + 1) ∧ AW g l (d + 6) MX12_worked 13 [some (vR 12 (some m)), some (vI ((nb + N.length - 1 : Nat) : Int)), some (vI ((400 * t + i : Nat) : Int)), some (vI here), some (vI (((nb + j : Nat) : Int) + 1))] [] (sJ τ' 1287 m ((nb + j : Nat) : Int).toNat v) (fun v σ' => ∃ r, v = some (vJ r) ∧ P r σ') := fun v τ' hF' hst' hev' => by
        refine ⟨hF'.lc lc, ⟨by omega, by omega⟩, ⟨by omega, by omega⟩, ?_⟩
        rw [show ((nb + j : Nat) : Int) + 1 = ((nb + (j + 1) : Nat) : Int) by omega, Int.toNat_natCast]
        refine ih (j + 1) (R ++ [v]) S1 _ (fun k y hy => by rw [show j + 1 + k = j + (k + 1) by omega]; exact hM (k + 1) y hy) (by omega) (by rw [app_l]; omega) (hF'.trans (Frm.sJ ⟨rfl, by omega⟩)) (fun n hn => ?_) s1 hk hev'
        by_cases e : n = j
        · rw [e, gJ_slf, ← hR, app_gL]
        · rw [gJ_sJ, if_neg (by omega), app_gD (by omega)]; exact hst' n (by omega)
      refine bk_X12_worked_13 ⟨fun w => absurd w (by omega), fun _ => ⟨hF.lc lc, m_work (hE.wk hF) hi hS h7 hhere ⟨by rw [hF.I (n _ (by decide))]; exact r1, by rw [hF.I (n _ (by decide))]; exact r2, by rw [hF.I (n _ (by decide))]; exact r3, by rw [hF.J (n _ (by decide))]; exact r4⟩ (by omega) hst s2 s3 s4 (hx x xm) (fun v hv => ?_) (fun hv => ?_)⟩⟩
      · refine go v τ hF hst ?_
        rcases hev with ⟨f0, ev⟩ | q
        · exact Or.inl ⟨f0, by rw [ev, evN, hv]⟩
        · exact Or.inr q
      · refine go 0 _ (hF.trans (Frm.sI ⟨rfl, by omega⟩)) hst (Or.inr ⟨gI_slf _ _ _ _ _, ?_⟩)
        rcases hev with ⟨f0, ev⟩ | q
        · exact evn (by rw [ev, evN, hv])
        · exact q.2
  refine AC.of mo_X12_worked (Nat.le_of_ble_eq_true rfl) (bk_X12_worked_0 ⟨lc, ⟨by omega, by omega⟩, ?_⟩)
  rw [Int.toNat_natCast, h62]
  have F5 : Frm (WkF m) σ (sI σ 1286 m 0 0) := Frm.sI ⟨rfl, by omega⟩
  exact loop N 0 [] [] _ (fun k x hx => by rw [Nat.zero_add]; exact hx) (by omega) rfl F5 (fun n hn => absurd hn (by omega)) (fun n hn => absurd hn (by simp)) wk (Or.inl ⟨gI_slf _ _ _ _ _, rfl⟩)
end T5
