/-! rules of the heap -/
theorem tb_in {ws : List Cond} (ps : List Nat) (h : ws = ps.filterMap (fun i => tables_1[i]?)) (h2 : ws.all okWord = true) : ∀ w ∈ ws, w ∈ lw_use := by
  intro w hw
  have h3 := List.all_eq_true.mp h2 w hw
  rw [h] at hw
  obtain ⟨i, -, hi⟩ := List.mem_filterMap.mp hw
  exact List.mem_filter.mpr ⟨List.mem_append_right _ (List.mem_of_getElem? hi), h3⟩
theorem tb_1 {w : Cond} (i : Nat) (h : tables_1[i]? = some w) (h2 : okWord w = true) : w ∈ lw_use := List.mem_filter.mpr ⟨List.mem_append_right _ (List.mem_of_getElem? h), h2⟩
theorem tb_s {w : Cond} (i : Nat) (h : (k2_sels lw_privs)[i]? = some w) (h2 : okWord w = true) : w ∈ lw_use := List.mem_filter.mpr ⟨List.mem_append_left _ (List.mem_of_getElem? h), h2⟩
def CFok (ci : Nat) (r : vw_C) : Prop := (∀ w ∈ u_ws r.1 r.2.1 r.2.2, w ∈ lw_use) ∧ (∀ k, k < r.2.2 → parseFieldDescriptor (r.2.1 k).2.2.1 = some (TYT ci k)) ∧ (∀ a, a < r.2.2 → ∀ b, b < r.2.2 → a ≠ b → (r.2.1 a).2.1 ≠ (r.2.1 b).2.1)
set_option maxRecDepth 100000 in
theorem cf_0 : CFok 0 (RX0, TX0, 3) := ⟨tb_in [203, 205, 207] (by decide +kernel) (by decide +kernel), tyX0_ok, nmX0⟩
set_option maxRecDepth 100000 in
theorem cf_1 : CFok 1 (RX1, TX1, 11) := ⟨tb_in [381, 383, 385, 387, 389, 391, 393, 395, 397, 399, 401] (by decide +kernel) (by decide +kernel), tyX1_ok, nmX1⟩
set_option maxRecDepth 100000 in
theorem cf_2 : CFok 2 (RX2, TX2, 17) := ⟨tb_in [288, 290, 292, 294, 296, 298, 300, 302, 304, 306, 308, 310, 312, 314, 316, 318, 320] (by decide +kernel) (by decide +kernel), tyX2_ok, nmX2⟩
set_option maxRecDepth 100000 in
theorem cf_3 : CFok 3 (RX3, TX3, 5) := ⟨tb_in [523, 525, 527, 529, 531] (by decide +kernel) (by decide +kernel), tyX3_ok, nmX3⟩
set_option maxRecDepth 100000 in
theorem cf_4 : CFok 4 (RX4, TX4, 6) := ⟨tb_in [587, 589, 591, 593, 595, 597] (by decide +kernel) (by decide +kernel), tyX4_ok, nmX4⟩
set_option maxRecDepth 100000 in
theorem cf_5 : CFok 5 (RX5, TX5, 17) := ⟨tb_in [1103, 1105, 1107, 1109, 1111, 1113, 1115, 1117, 1119, 1121, 1123, 1125, 1127, 1129, 1131, 1133, 1135] (by decide +kernel) (by decide +kernel), tyX5_ok, nmX5⟩
set_option maxRecDepth 100000 in
theorem cf_6 : CFok 6 (RX6, TX6, 11) := ⟨tb_in [140, 142, 144, 146, 148, 150, 152, 154, 156, 158, 160] (by decide +kernel) (by decide +kernel), tyX6_ok, nmX6⟩
set_option maxRecDepth 100000 in
theorem cf_7 : CFok 7 (RX7, TX7, 3) := ⟨tb_in [174, 176, 178] (by decide +kernel) (by decide +kernel), tyX7_ok, nmX7⟩
set_option maxRecDepth 100000 in
theorem cf_8 : CFok 8 (RX8, TX8, 5) := ⟨tb_in [340, 342, 344, 346, 348] (by decide +kernel) (by decide +kernel), tyX8_ok, nmX8⟩
set_option maxRecDepth 100000 in
theorem cf_9 : CFok 9 (RX9, TX9, 7) := ⟨tb_in [103, 105, 107, 109, 111, 113, 115] (by decide +kernel) (by decide +kernel), tyX9_ok, nmX9⟩
set_option maxRecDepth 100000 in
theorem cf_10 : CFok 10 (RX10, TX10, 10) := ⟨tb_in [431, 433, 435, 437, 439, 441, 443, 445, 447, 449] (by decide +kernel) (by decide +kernel), tyX10_ok, nmX10⟩
set_option maxRecDepth 100000 in
theorem cf_11 : CFok 11 (RX11, TX11, 16) := ⟨tb_in [468, 470, 472, 474, 476, 478, 480, 482, 484, 486, 488, 490, 492, 494, 496, 498] (by decide +kernel) (by decide +kernel), tyX11_ok, nmX11⟩
set_option maxRecDepth 100000 in
theorem cf_12 : CFok 12 (RX12, TX12, 91) := ⟨tb_in [1573, 1575, 1577, 1579, 1581, 1583, 1585, 1587, 1589, 1591, 1593, 1595, 1597, 1599, 1601, 1603, 1605, 1607, 1609, 1611, 1613, 1615, 1617, 1619, 1621, 1623, 1625, 1627, 1629, 1631, 1633, 1635, 1637, 1639, 1641, 1643, 1645, 1647, 1649, 1651, 1653, 1655, 1657, 1659, 1661, 1663, 1665, 1667, 1669, 1671, 1673, 1675, 1677, 1679, 1681, 1683, 1685, 1687, 1689, 1691, 1693, 1695, 1697, 1699, 1701, 1703, 1705, 1707, 1709, 1711, 1713, 1715, 1717, 1719, 1721, 1723, 1725, 1727, 1729, 1731, 1733, 1735, 1737, 1739, 1741, 1743, 1745, 1747, 1749, 1751, 1753] (by decide +kernel) (by decide +kernel), tyX12_ok, nmX12⟩
theorem cf_all : ∀ (ci : Nat) (r : vw_C), vwCl[ci]? = some r → CFok ci r
  | 0, _, h => by cases h; exact cf_0
  | 1, _, h => by cases h; exact cf_1
  | 2, _, h => by cases h; exact cf_2
  | 3, _, h => by cases h; exact cf_3
  | 4, _, h => by cases h; exact cf_4
  | 5, _, h => by cases h; exact cf_5
  | 6, _, h => by cases h; exact cf_6
  | 7, _, h => by cases h; exact cf_7
  | 8, _, h => by cases h; exact cf_8
  | 9, _, h => by cases h; exact cf_9
  | 10, _, h => by cases h; exact cf_10
  | 11, _, h => by cases h; exact cf_11
  | 12, _, h => by cases h; exact cf_12
  | _ + 13, _, h => by simp [vwCl] at h
def FOK (f : Nat) (ty : FieldType) (C nm ds : String) (fin : Bool) : Prop := ∃ (T : u_T) (N : Nat), vwCl[f / 100]? = some (C, T, N) ∧ f % 100 < N ∧ T (f % 100) = (C, nm, ds, fin) ∧ TYF f = ty ∧ parseFieldDescriptor ds = some ty
theorem f_eq (f : Nat) : 100 * (f / 100) + f % 100 = f := Nat.div_add_mod f 100
theorem XV.mono {K K' : KM} (h : KLe K K') {t : FieldType} {σ : St} {f a i : Nat} {v : Value} (hv : XV K t σ f a i v) : XV K' t σ f a i v := by
  unfold XV at hv ⊢
  split
  · exact hv
  · exact hv
  · exact hv
  · rename_i C
    dsimp only at hv
    split
    · rename_i q; rw [q] at hv; exact hv
    · rename_i q; rw [q] at hv; exact ⟨hv.1, h _ _ hv.2⟩
  · rcases hv with hv | ⟨q, e, hq, hn⟩
    · exact Or.inl hv
    · exact Or.inr ⟨q, e, h _ _ hq, hn⟩
  · rename_i h1 h2 h3 h4 h5
    split at hv
    · exact absurd rfl h1
    · exact absurd rfl h2
    · exact absurd rfl h3
    · exact absurd rfl (h4 _)
    · exact absurd rfl (h5 _)
    · exact hv
/-- two stores say the same of a place -/
def Agr (σ σ' : St) (f a i : Nat) : Prop := gI σ' f a i = gI σ f a i ∧ gJ σ' f a i = gJ σ f a i ∧ gR σ' f a i = gR σ f a i
theorem XV.agr {K : KM} {t : FieldType} {σ σ' : St} {f a i : Nat} {v : Value} (h : Agr σ σ' f a i) (hl : gL σ' f a = gL σ f a) (hv : XV K t σ f a i v) : XV K t σ' f a i v := by
  obtain ⟨h1, h2, h3⟩ := h
  unfold XV at hv ⊢
  rw [h1, h2, h3, hl]
  exact hv
theorem XV.arr {K : KM} {t : FieldType} {σ σ' : St} {f a i j : Nat} {v : Value} (hl : gL σ' f a = gL σ f a) (hv : XV K (.array t) σ f a i v) : XV K (.array t) σ' f a j v := by
  unfold XV at hv ⊢
  dsimp only at hv ⊢
  rw [hl]
  exact hv
theorem Agr.rfl {σ : St} {f a i : Nat} : Agr σ σ f a i := ⟨Eq.refl _, Eq.refl _, Eq.refl _⟩
theorem Wd.objAt {g : GP} {σ : St} {K : KM} {H : Heap} (hW : Wd g σ K H) {f a : Nat} {ty : FieldType} {C nm ds : String} {fin : Bool} (hF : FOK f ty C nm ds fin) (hK : K a = some (.inl (f / 100))) :
    ∃ (T : u_T) (N : Nat) (V : Nat → Value), vwCl[f / 100]? = some (C, T, N) ∧ f % 100 < N ∧ T (f % 100) = (C, nm, ds, fin) ∧ t_OB a ((gD g).1 (f / 100)) N ((gD g).2 (f / 100)) H V ∧ (∀ k, k < N → XV K (TYF (100 * (f / 100) + k)) σ (100 * (f / 100) + k) a 0 (V k)) ∧ XV K ty σ f a 0 (V (f % 100)) := by
  obtain ⟨T, N, h1, h2, h3, h4, -⟩ := hF
  obtain ⟨r, V, e1, e2, e3⟩ := hW.2.2.2.1 a _ hK
  have hr : r = (C, T, N) := Option.some.inj (e1.symm.trans h1)
  subst hr
  refine ⟨T, N, V, h1, h2, h3, e2, e3, ?_⟩
  have := e3 (f % 100) h2
  rw [f_eq, h4] at this
  exact this
/-- a field of an object, or a place of an array, is written -/
theorem Wd.putO {g : GP} {σ σ' : St} {K : KM} {H H' : Heap} (hW : Wd g σ K H) {f a : Nat} {ty : FieldType} {C nm ds : String} {fin : Bool} (hF : FOK f ty C nm ds fin) (hK : K a = some (.inl (f / 100)))
    {cell : Cell} (hc : H[a]? = some cell) {v : Value} (hc' : H'[a]? = some (cell.setSlot ((gD g).2 (f / 100) (f % 100)) v)) (hz : H'.size = H.size) (ho : ∀ q : Nat, q ≠ a → H'[q]? = H[q]?)
    (hap : ∀ x y N, (∃ T, vwCl[f / 100]? = some (C, T, N)) → x < N → y < N → x ≠ y → (gD g).2 (f / 100) x ≠ (gD g).2 (f / 100) y)
    (hs' : hs σ' = hs σ) (hl' : sl σ' = sl σ) (hL : ∀ f' a', gL σ' f' a' = gL σ f' a') (hag : ∀ f' a' i', ¬ (f' = f ∧ a' = a ∧ i' = 0) → Agr σ σ' f' a' i') (hty : ∀ t, ty ≠ .array t) (hv : XV K ty σ' f a 0 v) : Wd g σ' K H' := by
  have hO := hW.objAt hF hK
  obtain ⟨⟨w1, w2, w3, w4, w5, w6⟩, w7, w8, w9, w10⟩ := hW
  have hsz : (cell.setSlot ((gD g).2 (f / 100) (f % 100)) v).slots.size = cell.slots.size := by simp [Cell.setSlot]
  have hcells : ∀ (q : Nat) (c : Cell), H[q]? = some c → ∃ c' : Cell, H'[q]? = some c' ∧ c'.slots.size = c.slots.size := by
    intro q c hq
    by_cases e : q = a
    · subst e
      rw [hc] at hq
      cases hq
      exact ⟨_, hc', hsz⟩
    · exact ⟨c, by rw [ho q e]; exact hq, Eq.refl _⟩
  have hTF : TYF f = ty := by obtain ⟨_, _, _, _, _, h, _⟩ := hF; exact h
  refine ⟨⟨by rw [hz, hs']; exact w1, by rw [nsl_same hz hcells, hl']; exact w2, by rw [hs']; exact w3, by rw [hs']; exact w4, by rw [hl']; exact w5, fun q hq => ?_⟩, fun b x hb => by rw [hz]; exact w7 b x hb, w8, fun b ci hb => ?_, fun q f' a' hq => ?_⟩
  · have := (w7 a _ hK).1
    rw [ho q (by omega)]
    exact w6 q hq
  · by_cases e : b = a
    · subst e
      obtain rfl : f / 100 = ci := by have := hK.symm.trans hb; simpa using this
      obtain ⟨T, N, V, h1, h2, h3, ⟨cell', q1, q2, q3, q4⟩, h5, h6⟩ := hO
      cases hc.symm.trans q1
      refine ⟨_, updV V (f % 100) v, h1, ⟨_, hc', q2, q3, t_set q4 (fun x y hx hy hne => hap x y N ⟨T, h1⟩ hx hy hne) h2 v⟩, fun k hk => ?_⟩
      by_cases hkf : k = f % 100
      · subst hkf
        rw [f_eq, hTF]
        simp only [updV, if_true]
        exact hv
      · simp only [updV, if_neg hkf]
        exact XV.agr (hag _ _ _ (fun q => hkf (by have := q.1; omega))) (hL _ _) (h5 k hk)
    · obtain ⟨r, V, h1, h2, h3⟩ := w9 b ci hb
      exact ⟨r, V, h1, h2.kept (ho b e), fun k hk => XV.agr (hag _ _ _ (fun q => e q.2.1)) (hL _ _) (h3 k hk)⟩
  · have e : q ≠ a := fun e => by subst e; rw [hK] at hq; cases hq
    obtain ⟨t, V, h1, h2, h3, h4, h5, h6⟩ := w10 q f' a' hq
    refine ⟨t, V, h1, h2, by rw [hL]; exact h3, h4, by rw [hL, ho q e]; exact h5, fun i hi => ?_⟩
    rw [hL] at hi
    exact XV.agr (hag _ _ _ (fun z => hty t (by rw [← hTF, ← z.1]; exact h1))) (hL _ _) (h6 i hi)
theorem Wd.putA {g : GP} {σ σ' : St} {K : KM} {H H' : Heap} (hW : Wd g σ K H) {f a q i : Nat} {t : FieldType} (ht : TYF f = .array t) (hK : K q = some (.inr (f, a)))
    {V : Nat → Value} (hc : H[q]? = some (arrV (gC g t) (gL σ f a) V)) (hV : ∀ i, i < gL σ f a → XV K t σ f a i (V i)) {v : Value} (hc' : H'[q]? = some ((arrV (gC g t) (gL σ f a) V).setSlot i v)) (hz : H'.size = H.size) (ho : ∀ q' : Nat, q' ≠ q → H'[q']? = H[q']?)
    (hs' : hs σ' = hs σ) (hl' : sl σ' = sl σ) (hL : ∀ f' a', gL σ' f' a' = gL σ f' a') (hag : ∀ f' a' i', ¬ (f' = f ∧ a' = a ∧ i' = i) → Agr σ σ' f' a' i') (hv : XV K t σ' f a i v) : Wd g σ' K H' := by
  obtain ⟨⟨w1, w2, w3, w4, w5, w6⟩, w7, w8, w9, w10⟩ := hW
  have hcells : ∀ (q' : Nat) (c : Cell), H[q']? = some c → ∃ c' : Cell, H'[q']? = some c' ∧ c'.slots.size = c.slots.size := by
    intro q' c hq
    by_cases e : q' = q
    · subst e
      rw [hc] at hq
      cases hq
      exact ⟨_, hc', by simp [Cell.setSlot]⟩
    · exact ⟨c, by rw [ho q' e]; exact hq, Eq.refl _⟩
  refine ⟨⟨by rw [hz, hs']; exact w1, by rw [nsl_same hz hcells, hl']; exact w2, by rw [hs']; exact w3, by rw [hs']; exact w4, by rw [hl']; exact w5, fun q' hq => ?_⟩, fun b x hb => by rw [hz]; exact w7 b x hb, w8, fun b ci hb => ?_, fun q' f' a' hq => ?_⟩
  · have := (w7 q _ hK).1
    rw [ho q' (by omega)]
    exact w6 q' hq
  · have e : b ≠ q := fun e => by subst e; rw [hK] at hb; cases hb
    obtain ⟨r, V, h1, h2, h3⟩ := w9 b ci hb
    refine ⟨r, V, h1, h2.kept (ho b e), fun k hk => ?_⟩
    have h4 := h3 k hk
    by_cases hf : 100 * ci + k = f
    · rw [hf, ht] at h4 ⊢
      exact XV.arr (hL _ _) h4
    · exact XV.agr (hag _ _ _ (fun z => hf z.1)) (hL _ _) h4
  · by_cases e : q' = q
    · subst e
      obtain ⟨rfl, rfl⟩ : f = f' ∧ a = a' := by have := hK.symm.trans hq; simpa using this
      obtain ⟨t', V', h1, h2, h3, h4, h5, h6⟩ := w10 q' f a hq
      obtain rfl : t = t' := by have := ht.symm.trans h1; simpa using this
      refine ⟨t, updV V i v, h1, h2, by rw [hL]; exact h3, h4, by rw [hL, hc', arrV_store], fun j hj => ?_⟩
      rw [hL] at hj
      by_cases hji : j = i
      · subst hji
        simp only [updV, if_true]
        exact hv
      · simp only [updV, if_neg hji]
        exact XV.agr (hag _ _ _ (fun z => hji z.2.2)) (hL _ _) (hV j hj)
    · obtain ⟨t', V', h1, h2, h3, h4, h5, h6⟩ := w10 q' f' a' hq
      refine ⟨t', V', h1, h2, by rw [hL]; exact h3, h4, by rw [hL, ho q' e]; exact h5, fun j hj => ?_⟩
      rw [hL] at hj
      refine XV.agr (hag _ _ _ (fun z => ?_)) (hL _ _) (h6 j hj)
      obtain ⟨rfl, rfl, -⟩ := z
      exact e (w8 q' q _ hq hK)

section R2
variable {g : GP} {l : Launch} {d : Nat} {M : MD} {pc : Nat} {L : List (Option AV)} {S : List AV} {σ : St} {Q : Option AV → St → Prop}
variable {p : Program} {e : Env} {R : Room} {s : State} {m : MethodId} {args : Array Value} {below : List Frame} {meth : Method} {c : Code} {H : Heap} {locs : List Loc} {Z : State → Prop} {K K0 : KM} {ls : Array Slot} {rest : List Value}
theorem get_core {f r idx : Nat} {ty : FieldType} {C nm ds : String} {fin : Bool} (E : EnvOK g d M p R s m args meth c) (hW : Wd g σ K H) (hF : FOK f ty C nm ds fin) (hK : K r = some (.inl (f / 100))) (hlink : Cond.fieldLink M.1.cls idx C nm ds ∈ lw_use) (hd : decode M.2.1 pc = .ok (.getfield idx, 3)) {cells slots : Nat}
    (kk : ∀ v, XV K ty σ f r 0 v → W p l e R s m args below meth c H locs cells slots Z (F0 m (pc + 3) ls (v :: rest))) : W p l e R s m args below meth c H locs cells slots Z (F0 m pc ls (.ref r :: rest)) := by
  obtain ⟨hx, hb, hml, hr, hlk, hnm, hown, hts, hKK, hA, -⟩ := E
  obtain ⟨T, N, V, h1, h2, h3, ⟨cell, q1, q2, q3, q4⟩, h5, h6⟩ := hW.objAt hF hK
  obtain ⟨hSl, hfc, kC, hkC, hkind⟩ := hKK.1 (f / 100) _ h1
  obtain ⟨cf, kf, fi, fd, hi, hsl⟩ := hSl (f % 100) h2
  have hi : s.fieldFound? (T (f % 100)).1 (T (f % 100)).2.1 (T (f % 100)).2.2.1 = some (cf, kf, fi, fd) := hi
  have hst := (u_facts hfc hkC (u_lays hts (cf_all _ _ h1).1 h2) hi).1
  rw [h3] at hi
  refine W.getf hx hb hown (hts _ hlink) hi hst q1 (by rw [q3]; exact fun h => by cases h) (v := V (f % 100)) ?_ rfl rfl hd (kk _ h6)
  rw [hsl]
  exact q4 _ h2
theorem aw_getI {f r idx : Nat} {C nm ds : String} {fin : Bool} (hF : FOK f .int C nm ds fin) (hlink : Cond.fieldLink M.1.cls idx C nm ds ∈ lw_use) (hd : decode M.2.1 pc = .ok (.getfield idx, 3)) (k : AW g l d M (pc + 3) L (vI (gI σ f r 0) :: S) σ Q) : AW g l d M pc L (vR (f / 100) (some r) :: S) σ Q := by
  intro p e R s m args below meth c Z K0 K H locs ls st E hR hW hK hS hL hSt
  obtain ⟨v, st', hq, ⟨hv1, hv2⟩, hSt'⟩ := SV.cons hSt
  subst hq hv1
  refine get_core E hW hF hv2 hlink hd (fun v hv => ?_)
  obtain ⟨x, rfl, hx⟩ := hv
  exact k p e R s m args below meth c Z K0 K H locs ls _ E hR hW hK hS hL ⟨⟨x, rfl, hx⟩, hSt'⟩
theorem aw_getZ {f r idx : Nat} {C nm ds : String} {fin : Bool} (hF : FOK f .boolean C nm ds fin) (hlink : Cond.fieldLink M.1.cls idx C nm ds ∈ lw_use) (hd : decode M.2.1 pc = .ok (.getfield idx, 3)) (k : AW g l d M (pc + 3) L (vI (gI σ f r 0) :: S) σ Q) : AW g l d M pc L (vR (f / 100) (some r) :: S) σ Q := by
  intro p e R s m args below meth c Z K0 K H locs ls st E hR hW hK hS hL hSt
  obtain ⟨v, st', hq, ⟨hv1, hv2⟩, hSt'⟩ := SV.cons hSt
  subst hq hv1
  refine get_core E hW hF hv2 hlink hd (fun v hv => ?_)
  obtain ⟨x, rfl, hx⟩ := hv
  exact k p e R s m args below meth c Z K0 K H locs ls _ E hR hW hK hS hL ⟨⟨x, rfl, hx⟩, hSt'⟩
theorem aw_getJ {f r idx : Nat} {C nm ds : String} {fin : Bool} (hF : FOK f .long C nm ds fin) (hlink : Cond.fieldLink M.1.cls idx C nm ds ∈ lw_use) (hd : decode M.2.1 pc = .ok (.getfield idx, 3)) (k : AW g l d M (pc + 3) L (vJ (gJ σ f r 0) :: S) σ Q) : AW g l d M pc L (vR (f / 100) (some r) :: S) σ Q := by
  intro p e R s m args below meth c Z K0 K H locs ls st E hR hW hK hS hL hSt
  obtain ⟨v, st', hq, ⟨hv1, hv2⟩, hSt'⟩ := SV.cons hSt
  subst hq hv1
  refine get_core E hW hF hv2 hlink hd (fun v hv => ?_)
  exact k p e R s m args below meth c Z K0 K H locs ls _ E hR hW hK hS hL ⟨hv, hSt'⟩
theorem XV.toVR {t : String} {f a i : Nat} {v : Value} (h : XV K (.object t) σ f a i v) : VR g K (vR (CIX t) (gR σ f a i)) v := by
  unfold XV at h
  dsimp only at h
  unfold VR
  cases hq : gR σ f a i with
  | none => rw [hq] at h; exact h
  | some q => rw [hq] at h; exact h
theorem aw_getR {f r idx ci : Nat} {C nm ds D : String} {fin : Bool} (hF : FOK f (.object D) C nm ds fin) (hci : CIX D = ci) (hlink : Cond.fieldLink M.1.cls idx C nm ds ∈ lw_use) (hd : decode M.2.1 pc = .ok (.getfield idx, 3)) (k : AW g l d M (pc + 3) L (vR ci (gR σ f r 0) :: S) σ Q) : AW g l d M pc L (vR (f / 100) (some r) :: S) σ Q := by
  intro p e R s m args below meth c Z K0 K H locs ls st E hR hW hK hS hL hSt
  subst hci
  obtain ⟨v, st', hq, ⟨hv1, hv2⟩, hSt'⟩ := SV.cons hSt
  subst hq hv1
  refine get_core E hW hF hv2 hlink hd (fun v hv => ?_)
  exact k p e R s m args below meth c Z K0 K H locs ls _ E hR hW hK hS hL ⟨hv.toVR, hSt'⟩
theorem aw_getA {f r idx : Nat} {t : FieldType} {C nm ds : String} {fin : Bool} (hF : FOK f (.array t) C nm ds fin) (hf : f < 9000) (hlink : Cond.fieldLink M.1.cls idx C nm ds ∈ lw_use) (hd : decode M.2.1 pc = .ok (.getfield idx, 3)) (hn : gL σ f r ≠ 0) (k : AW g l d M (pc + 3) L (vA f r :: S) σ Q) : AW g l d M pc L (vR (f / 100) (some r) :: S) σ Q := by
  intro p e R s m args below meth c Z K0 K H locs ls st E hR hW hK hS hL hSt
  obtain ⟨v, st', hq, ⟨hv1, hv2⟩, hSt'⟩ := SV.cons hSt
  subst hq hv1
  refine get_core E hW hF hv2 hlink hd (fun v hv => ?_)
  rcases hv with ⟨h0, -⟩ | ⟨q, rfl, hq, -⟩
  · exact absurd h0 hn
  · refine k p e R s m args below meth c Z K0 K H locs ls _ E hR hW hK hS hL ⟨?_, hSt'⟩
    unfold VR
    dsimp only
    rw [if_neg (by omega), if_neg (by omega)]
    exact ⟨q, rfl, hq⟩
/-- a field is written: not final, or in its class's constructor -/
theorem put_core {f r idx : Nat} {ty : FieldType} {C nm ds : String} {fin : Bool} {v : Value} (E : EnvOK g d M p R s m args meth c) (hW : Wd g σ K H) (hS : va_S (fun q => gB g ≤ q) s.heap H locs) (hF : FOK f ty C nm ds fin) (hfin : fin = false ∨ (M.1.name = "<init>" ∧ M.1.cls = C)) (hK : K r = some (.inl (f / 100))) (hlink : Cond.fieldLink M.1.cls idx C nm ds ∈ lw_use) (hd : decode M.2.1 pc = .ok (.putfield idx, 3))
    (hn : narrow ty v = v) (hfit : fits ty v = true) {cells slots : Nat}
    (kk : ∀ (H' : Heap) (locs' : List Loc) (cell : Cell), H[r]? = some cell → H'[r]? = some (cell.setSlot ((gD g).2 (f / 100) (f % 100)) v) → H'.size = H.size → (∀ q : Nat, q ≠ r → H'[q]? = H[q]?) → (∀ x y N, (∃ T, vwCl[f / 100]? = some (C, T, N)) → x < N → y < N → x ≠ y → (gD g).2 (f / 100) x ≠ (gD g).2 (f / 100) y) → va_S (fun q => gB g ≤ q) s.heap H' locs' →
      W p l e R s m args below meth c H' locs' cells slots Z (F0 m (pc + 3) ls rest)) : W p l e R s m args below meth c H locs cells slots Z (F0 m pc ls (v :: .ref r :: rest)) := by
  obtain ⟨hx, hb, hml, hr, hlk, hnm, hown, hts, hKK, hA, -⟩ := E
  have hF0 := hF
  obtain ⟨T0, N0, k1, k2, k3, k4, k5⟩ := hF0
  obtain ⟨T, N, V, h1, h2, h3, ⟨cell, q1, q2, q3, q4⟩, h5, h6⟩ := hW.objAt hF hK
  obtain ⟨hSl, hfc, kC, hkC, hkind⟩ := hKK.1 (f / 100) _ h1
  obtain ⟨cf, kf, fi, fd, hi, hsl⟩ := hSl (f % 100) h2
  have hi : s.fieldFound? (T (f % 100)).1 (T (f % 100)).2.1 (T (f % 100)).2.2.1 = some (cf, kf, fi, fd) := hi
  have hlays := u_lays hts (cf_all _ _ h1).1 h2
  have hst := (u_facts hfc hkC hlays hi).1
  have hlay : (u_lay C T (f % 100)).before args s = true := hts _ ((cf_all _ _ h1).1 _ (u_in_lay h2))
  have hap : ∀ x y N, (∃ T, vwCl[f / 100]? = some (C, T, N)) → x < N → y < N → x ≠ y → (gD g).2 (f / 100) x ≠ (gD g).2 (f / 100) y := by
    intro x y N' ⟨T', hT'⟩ hx' hy' hne
    exact va_apart (own := M.1.cls) hts (cf_all _ _ hT').1 (TYT (f / 100)) (cf_all _ _ hT').2.1 (cf_all _ _ hT').2.2 hKK hT' x y hx' hy' hne
  have hra : gB g ≤ r := (hW.2.1 r _ hK).1
  rcases hfin with rfl | ⟨hini, hcl⟩
  · unfold u_lay at hlay
    rw [if_neg (by rw [h3]; exact Bool.false_ne_true)] at hlay
    have hp : parseFieldDescriptor (T (f % 100)).2.2.1 = some ty := by rw [h3]; exact k5
    have h6' := u_store hfc hkC hkind hlay hi hp hn hfit
    rw [h3] at hi
    refine W.putK hx hb (f := fd) ⟨hown, hts _ hlink, ⟨_, _, _, hi⟩, hst⟩ (by rw [q2]; exact h6') q1 q3 (by rw [hsl]; exact k2_hasslot (q4 _ h2)) rfl rfl hd fun H' e1 e2 e3 => ?_
    rw [hsl] at e1
    exact kk H' _ cell q1 e1 e2 e3 hap (hS.put e2 e3 hra)
  · cases fin with
    | false =>
      unfold u_lay at hlay
      rw [if_neg (by rw [h3]; exact Bool.false_ne_true)] at hlay
      have hp : parseFieldDescriptor (T (f % 100)).2.2.1 = some ty := by rw [h3]; exact k5
      have h6' := u_store hfc hkC hkind hlay hi hp hn hfit
      rw [h3] at hi
      refine W.putK hx hb (f := fd) ⟨hown, hts _ hlink, ⟨_, _, _, hi⟩, hst⟩ (by rw [q2]; exact h6') q1 q3 (by rw [hsl]; exact k2_hasslot (q4 _ h2)) rfl rfl hd fun H' e1 e2 e3 => ?_
      rw [hsl] at e1
      exact kk H' _ cell q1 e1 e2 e3 hap (hS.put e2 e3 hra)
    | true =>
      unfold u_lay at hlay
      rw [if_pos (by rw [h3])] at hlay
      have hcf : m.cls = cf := by
        obtain ⟨_, _, c', _, _, _, -, -, hf', -, -, -, hown2, -⟩ := Cond.laysFinal_spec hlay
        have e1 : c' = cf := by have := hi.symm.trans hf'; simp at this; exact this.1.symm
        rw [h3] at hown2
        rw [← e1]
        rw [hcl] at hown
        exact Option.some.inj (hown.symm.trans hown2)
      have hp : parseFieldDescriptor (T (f % 100)).2.2.1 = some ty := by rw [h3]; exact k5
      have h6' := u_fits hfc hkC hkind (Or.inr hlay) hi hp hn hfit
      rw [h3] at hi
      refine W.putFinK hx hb hown (hts _ hlink) hi hst hcf (hnm.trans hini) (by rw [q2]; exact h6') q1 q3 (by rw [hsl]; exact k2_hasslot (q4 _ h2)) rfl rfl hd fun H' e1 e2 e3 => ?_
      rw [hsl] at e1
      exact kk H' _ cell q1 e1 e2 e3 hap (hS.put e2 e3 hra)
end R2
