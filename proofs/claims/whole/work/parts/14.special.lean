/-! System.arraycopy within one array of ints; Arrays.fill -/
def sCp (σ : St) (f r sp dp n : Nat) : St := (fun f' r' i => if f' = f ∧ r' = r then (if dp ≤ i ∧ i < dp + n then σ.1 f r (sp + (i - dp)) else σ.1 f r i) else σ.1 f' r' i, σ.2)
theorem Wd.repA {g : GP} {σ σ' : St} {K : KM} {H H' : Heap} (hW : Wd g σ K H) {f a q : Nat} {t : FieldType} (ht : TYF f = .array t) (hK : K q = some (.inr (f, a)))
    {V V' : Nat → Value} (hc : H[q]? = some (arrV (gC g t) (gL σ f a) V)) (hc' : H'[q]? = some (arrV (gC g t) (gL σ f a) V')) (hz : H'.size = H.size) (ho : ∀ q' : Nat, q' ≠ q → H'[q']? = H[q']?)
    (hs' : hs σ' = hs σ) (hl' : sl σ' = sl σ) (hL : ∀ f' a', gL σ' f' a' = gL σ f' a') (hag : ∀ f' a' i', ¬ (f' = f ∧ a' = a) → Agr σ σ' f' a' i') (hv : ∀ i, i < gL σ f a → XV K t σ' f a i (V' i)) : Wd g σ' K H' := by
  obtain ⟨⟨w1, w2, w3, w4, w5, w6⟩, w7, w8, w9, w10⟩ := hW
  have hcells : ∀ (q' : Nat) (c : Cell), H[q']? = some c → ∃ c' : Cell, H'[q']? = some c' ∧ c'.slots.size = c.slots.size := by
    intro q' c hq
    by_cases e : q' = q
    · subst e
      rw [hc] at hq
      cases hq
      exact ⟨_, hc', by rw [arrV_size, arrV_size]⟩
    · exact ⟨c, by rw [ho q' e]; exact hq, Eq.refl _⟩
  refine ⟨⟨by rw [hz, hs']; exact w1, by rw [nsl_same hz hcells, hl']; exact w2, by rw [hs']; exact w3, by rw [hs']; exact w4, by rw [hl']; exact w5, fun q' hq => ?_⟩, fun b x hb => by rw [hz]; exact w7 b x hb, w8, fun b ci hb => ?_, fun q' f' a' hq => ?_⟩
  · have := (w7 q _ hK).1
    rw [ho q' (by omega)]
    exact w6 q' hq
  · have e : b ≠ q := fun e => by subst e; rw [hK] at hb; cases hb
    obtain ⟨r, V, h1, h2, h3⟩ := w9 b ci hb
    refine ⟨r, V, h1, h2.kept (ho b e), fun k hk => ?_⟩
    have h4 := h3 k hk
    by_cases hf : 100 * ci + k = f
    · rw [hf, ht] at h4 ⊢
      exact XV.arr (hL _ _) h4
    · exact XV.agr (hag _ _ _ (fun z => hf z.1)) (hL _ _) h4
  · by_cases e : q' = q
    · subst e
      obtain ⟨rfl, rfl⟩ : f = f' ∧ a = a' := by have := hK.symm.trans hq; simpa using this
      obtain ⟨t', V0, h1, h2, h3, h4, h5, h6⟩ := w10 q' f a hq
      obtain rfl : t = t' := by have := ht.symm.trans h1; simpa using this
      exact ⟨t, V', h1, h2, by rw [hL]; exact h3, h4, by rw [hL]; exact hc', fun j hj => hv j (by rw [hL] at hj; exact hj)⟩
    · obtain ⟨t', V0, h1, h2, h3, h4, h5, h6⟩ := w10 q' f' a' hq
      refine ⟨t', V0, h1, h2, by rw [hL]; exact h3, h4, by rw [hL, ho q' e]; exact h5, fun j hj => ?_⟩
      rw [hL] at hj
      refine XV.agr (hag _ _ _ (fun z => ?_)) (hL _ _) (h6 j hj)
      obtain ⟨rfl, rfl⟩ := z
      exact e (w8 q' q _ hq hK)
theorem lm_X4_40 : Cond.methodLink RX4 40 arraycopyName ∈ lw_use := tbk_3 171 rfl (by decide +kernel)
theorem lcp_n : Cond.native arraycopyName ∈ lw_use := tbk_3 173 rfl (by decide +kernel)
theorem lcp_s : Cond.static arraycopyName ∈ lw_use := tbk_3 172 rfl (by decide +kernel)
theorem lcp_i : Cond.initialized "java/lang/System" ∈ lw_use := tbk_1 18 rfl (by decide +kernel)
section R8
variable {g : GP} {l : Launch} {d : Nat} {M : MD} {pc : Nat} {L : List (Option AV)} {S : List AV} {σ : St} {Q : Option AV → St → Prop}
theorem nn_of {z : Int32} {i : Int} (h : z.toInt = i) (h0 : 0 ≤ i) : ¬ z < 0 ∧ z.toNatClampNeg = i.toNat := by
  refine ⟨fun q => ?_, by rw [← h]; rfl⟩
  have := Int32.lt_iff_toInt_lt.mp q
  rw [h, show (0 : Int32).toInt = 0 from rfl] at this
  omega
theorem aw_copy {f r idx : Nat} {sp dp n : Int} (hf : f < 9000) (ht : TYF f = .array .int) (hl : Cond.methodLink M.1.cls idx arraycopyName ∈ lw_use) (hd : decode M.2.1 pc = .ok (.invokestatic idx, 3)) (h1 : 0 ≤ sp) (h2 : 0 ≤ dp) (h3 : 0 ≤ n) (h4 : sp + n ≤ gL σ f r) (h5 : dp + n ≤ gL σ f r) (hcat : (S.map catA).sum ≤ 8)
    (k : AW g l (d + 1) M (pc + 3) L S (sCp σ f r sp.toNat dp.toNat n.toNat) Q) : AW g l (d + 1) M pc L (vI n :: vI dp :: vA f r :: vI sp :: vA f r :: S) σ Q := by
  intro p e R s m args below meth c Z K0 K H locs ls st E hR hW hK hS hL hSt
  obtain ⟨v1, v2, v3, st1, hq1, ⟨zn, e1, en⟩, ⟨zd, e2, ed⟩, ha, hSt1⟩ := SV.cons3 hSt
  obtain ⟨v4, v5, st2, hq2, ⟨zs, e4, es⟩, hb, hSt2⟩ := SV.cons2 hSt1
  obtain ⟨q, e3, hKq⟩ := VR.arr hf ha
  obtain ⟨q', e5, hKq'⟩ := VR.arr hf hb
  obtain rfl : q = q' := hW.2.2.1 _ _ _ hKq hKq'
  subst hq1 hq2 e1 e2 e3 e4 e5
  obtain ⟨t, V, t1, t2, t3, t4, t5, t6⟩ := hW.2.2.2.2 q f r hKq
  cases ht.symm.trans t1
  obtain ⟨n1, n2⟩ := nn_of en h3
  obtain ⟨d1, d2⟩ := nn_of ed h2
  obtain ⟨s1, s2⟩ := nn_of es h1
  have hA := E.2.2.2.2.2.2.2.2.2.1
  obtain ⟨-, k0, hk0, cm0, hkk0⟩ := (hA _ t2).1 (gL σ f r) V
  have hts := E.2.2.2.2.2.2.2.1
  have hlo := E.2.2.2.2.2.2.2.2.2.2.2.1
  have hfr := E.2.2.2.2.2.2.2.2.2.2.1
  have hL0 := hL
  obtain ⟨lv, hlv, -⟩ := hL
  intro T hT X
  obtain ⟨vm', X', step⟩ := X.arraycopy E.1 E.2.2.2.2.2.2.1 (hts _ hl) (hts _ lcp_n) (hts _ lcp_s) (hts _ lcp_i) (src := q) (dst := q) (cs := arrV (gC g .int) (gL σ f r) V) (cd := arrV (gC g .int) (gL σ f r) V) (srcPos := zs) (destPos := zd) (n := zn) (by rw [hT]; exact t5) (by rw [hT]; exact t5)
    (fun _ h => by cases h) (fun _ h => by cases h) (fun h => by cases h) (fun h => by cases h) hk0 hk0 hkk0 hkk0 (by decide) s1 d1 n1 (by rw [es, en, arrV_size]; omega) (by rw [ed, en, arrV_size]; omega)
    (fun vm₁ _ i hi => by
      have e : (arrV (gC g .int) (gL σ f r) V).slots.getD (zs.toNatClampNeg + i) .null = V (zs.toNatClampNeg + i) := by
        rw [Array.getD_eq_getD_getElem?, arrV_read _ _ (by omega)]
        rfl
      obtain ⟨x, hx, -⟩ := t6 (zs.toNatClampNeg + i) (by omega)
      rw [e, hx]
      exact ⟨rfl, trivial⟩)
    (g := F0 m pc ls (.int zn :: .int zd :: .ref q :: .int zs :: .ref q :: st2)) rfl (hlv.1.trans E.2.2.1.symm) (rest := st2) rfl (by rw [E.2.1]; exact hd) (by omega) (by
      have hc := SV.cats hSt2
      show 2 * 0 + (st2.map fun v => v.category).sum + (nativeFrameWords "java/lang/System" "arraycopy" 5 + 11) ≤ _
      have hw : nativeFrameWords "java/lang/System" "arraycopy" 5 ≤ 40 := by decide +kernel
      rw [hc]
      omega)
  have e1 : copied (arrV (gC g .int) (gL σ f r) V) (arrV (gC g .int) (gL σ f r) V) zs zd zn = arrV (gC g .int) (gL σ f r) (va_cpy V V sp.toNat dp.toNat n.toNat) := by
    have := va_copied (n1 := gL σ f r) (dp := dp.toNat) (fun z : Value => z) (gC g .int) (gC g .int) V V (n0 := gL σ f r) (sp := sp.toNat) (n := n.toNat) (by omega)
    rw [← s2, ← d2, ← n2] at this ⊢
    exact this
  rw [e1] at X' step
  have hl' : q < H.size := (Array.getElem?_eq_some_iff.mp t5).1
  have hheap : ((T.setVm vm').setCell q (arrV (gC g .int) (gL σ f r) (va_cpy V V sp.toNat dp.toNat n.toNat))).heap = H.setIfInBounds q (arrV (gC g .int) (gL σ f r) (va_cpy V V sp.toNat dp.toNat n.toNat)) := by rw [← hT]; rfl
  have oq : ∀ q' : Nat, q' ≠ q → (H.setIfInBounds q (arrV (gC g .int) (gL σ f r) (va_cpy V V sp.toNat dp.toNat n.toNat)))[q']? = H[q']? := fun q' hq => by simp [Array.getElem?_setIfInBounds, Ne.symm hq]
  have hz : (H.setIfInBounds q (arrV (gC g .int) (gL σ f r) (va_cpy V V sp.toNat dp.toNat n.toNat))).size = H.size := by simp
  have hc' : (H.setIfInBounds q (arrV (gC g .int) (gL σ f r) (va_cpy V V sp.toNat dp.toNat n.toNat)))[q]? = some (arrV (gC g .int) (gL σ f r) (va_cpy V V sp.toNat dp.toNat n.toNat)) := by simp [Array.getElem?_setIfInBounds, hl']
  have hW' : Wd g (sCp σ f r sp.toNat dp.toNat n.toNat) K (H.setIfInBounds q (arrV (gC g .int) (gL σ f r) (va_cpy V V sp.toNat dp.toNat n.toNat))) := by
    refine hW.repA ht hKq t5 hc' hz oq rfl rfl (fun _ _ => rfl) (fun f' a' i' h => ⟨if_neg h, rfl, rfl⟩) (fun i hi => ?_)
    have hg : gI (sCp σ f r sp.toNat dp.toNat n.toNat) f r i = if dp.toNat ≤ i ∧ i < dp.toNat + n.toNat then gI σ f r (sp.toNat + (i - dp.toNat)) else gI σ f r i := if_pos ⟨rfl, rfl⟩
    by_cases hin : dp.toNat ≤ i ∧ i < dp.toNat + n.toNat
    · obtain ⟨x, hx1, hx2⟩ := t6 (sp.toNat + (i - dp.toNat)) (by omega)
      exact ⟨x, by rw [pk_cpy_in hin.1 hin.2]; exact hx1, by rw [hg, if_pos hin]; exact hx2⟩
    · obtain ⟨x, hx1, hx2⟩ := t6 i hi
      exact ⟨x, by rw [pk_cpy_out (by omega)]; exact hx1, by rw [hg, if_neg hin]; exact hx2⟩
  have hqb := (hW.2.1 q _ hKq).1
  obtain ⟨t', a1, b1⟩ := (W.tight (k p e R s m args below meth c Z K0 K _ _ ls _ E hR hW' hK ⟨by rw [hz]; exact hS.1, fun q' g1 g2 => by
      rw [oq q' (fun e => g2 (by rw [e]; exact hqb))]
      exact hS.2.1 q' g1 g2, fun q' hq => by
      rcases List.mem_append.mp hq with h | h
      · exact hS.2.2 q' h
      · obtain ⟨z, -, hz⟩ := List.mem_map.mp h
        rw [← hz]
        exact hqb⟩ hL0 hSt2)) _ hheap X'
  exact ⟨t', step t' a1, b1⟩
end R8
