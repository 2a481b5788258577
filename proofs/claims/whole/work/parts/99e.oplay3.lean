/-! lay: one tree more -/
section S4
variable {g : GP} {l : Launch} {d e : Nat} {σ σ' σ2 : St} {x m p b sp sq rk n : Nat} {A B : DPa} {En : List Enm} {Ss : List Stc} {T : Nat → TS} {I : Nat → Int} {st im place len : Int} {h : Int → Int} {fo : Nat → Nat → Nat} {s : TS}
abbrev SwF (x m f r : Nat) : Prop := (r = x ∧ (f = 1108 ∨ f = 1109 ∨ f = 1110)) ∨ (r = m ∧ (f = 1253 ∨ (1264 ≤ f ∧ f ≤ 1289)))
theorem tre_swap (hT : TreI σ x m fo Ss b T I) (h9 : gR σ 1109 x 0 = some sp) (hn : gI σ 1110 x 0 = (n : Int)) (hn6 : n < 6) (hsq : TOb σ sq) (hd1 : Dj σ sq sp) (hdq : ∀ t, t < 6 → ¬ t = n → ∀ tr, gR σ 1108 x t = some tr → Dj σ sq tr) (hF : Frm (SwF x m) σ σ2) (r9 : gR σ2 1109 x 0 = some sq) (r8n : gR σ2 1108 x n = some sp) (r8 : ∀ t, ¬ t = n → gR σ2 1108 x t = gR σ 1108 x t) (r10 : gI σ2 1110 x 0 = (n : Int) + 1) (r64 : gI σ2 1264 m 0 = (n : Int) + 1) (hO : OtT m n σ σ2) (h65 : ∀ j, ¬ j = n → gI σ2 1265 m j = gI σ 1265 m j) (hV : TrV σ2 x m sp n fo Ss b s im) :
    TreI σ2 x m fo Ss b (fun t => if t = n then s else T t) (fun t => if t = n then im else I t) := by
  obtain ⟨⟨a1, a2, a3⟩, ⟨sp', b1, b2, b3⟩, c, d, ⟨rk', e1, e2, e3⟩, f⟩ := hT
  rw [h9] at b1
  obtain rfl : sp = sp' := Option.some.inj b1
  have ns : ∀ f r, f < 1104 ∨ (1104 ≤ f ∧ f ≤ 1107) ∨ (1111 ≤ f ∧ f ≤ 1252) → ¬ SwF x m f r := fun f r z q => by omega
  have to2 : ∀ tr, TOb σ tr → TOb σ2 tr := fun tr ⟨q1, q2, q3⟩ => ⟨hF.lc q1, by rw [hF.2.1]; exact q2, fun j r hj hr => by rw [hF.R (ns _ _ (by omega))] at hr; rw [hF.I (ns _ _ (by omega)), hF.2.1]; exact q3 j r hj hr⟩
  have dj2 : ∀ tr tr', Dj σ tr tr' → Dj σ2 tr tr' := fun tr tr' hd => ⟨hd.1, fun j j' r hj hj' a b => by rw [hF.R (ns _ _ (by omega))] at a b; exact hd.2 j j' r hj hj' a b⟩
  refine ⟨⟨by omega, by omega, by omega⟩, ⟨sq, r9, to2 sq hsq, fun t ht tr htr => ?_⟩, fun t ht tr htr => ?_, fun t1 t2 ht1 ht2 hne tr1 tr2 htr1 htr2 => ?_, ⟨rk', by rw [hF.R (ns _ _ (by omega))]; exact e1, hF.lc e2, by rw [hF.2.1]; exact e3⟩, fun t ht => ?_⟩
  · by_cases z : t = n
    · rw [z, r8n] at htr; cases htr; exact dj2 _ _ hd1
    · rw [r8 t z] at htr; exact dj2 _ _ (hdq t ht z tr htr)
  · by_cases z : t = n
    · rw [z, r8n] at htr; cases htr; exact to2 _ b2
    · rw [r8 t z] at htr; exact to2 _ (c t ht tr htr)
  · by_cases z1 : t1 = n
    · rw [z1, r8n] at htr1
      cases htr1
      rw [r8 t2 (by omega)] at htr2
      exact dj2 _ _ (b3 t2 ht2 tr2 htr2)
    · rw [r8 t1 z1] at htr1
      by_cases z2 : t2 = n
      · rw [z2, r8n] at htr2
        cases htr2
        exact dj2 _ _ (b3 t1 ht1 tr1 htr1).sy
      · rw [r8 t2 z2] at htr2
        exact dj2 _ _ (d t1 t2 ht1 ht2 hne tr1 tr2 htr1 htr2)
  · by_cases z : t = n
    · dsimp only
      rw [if_pos z, if_pos z, z]
      exact ⟨sp, r8n, hV⟩
    · dsimp only
      rw [if_neg z, if_neg z]
      obtain ⟨tr, f1, f2⟩ := f t (by omega)
      refine ⟨tr, by rw [r8 t z]; exact f1, f2.ag (by rw [hF.I (ns _ _ (by omega))]; exact Int.le_refl _) (by unfold img; rw [hF.R (ns _ _ (by omega))]) (by rw [hF.I (ns _ _ (by omega))]; exact Int.le_refl _) ⟨hF.R (ns _ _ (by omega)) 0, hF.R (ns _ _ (by omega)) 0⟩ (fun f j z0 z1 => hF.2.2.2 f tr (ns _ _ (by omega)) j) (fun f i z0 z1 hi => hF.2.2.2 f _ (ns _ _ (by omega)) 0) (fun f j w => ?_)⟩
      rcases w with w | w
      · by_cases q : f = 1265
        · rw [q]; exact h65 j (by omega)
        · exact hO f j (by omega)
      · exact hO f j (by omega)
/-- the tree that was laid -/
theorem tv_of {no : Nat → Nat} {Own : Nat → Prop} {H Z : Nat} (hT : TrC σ' sp no fo Ss Own H Z s) (hA : ∀ f j, 1000 ≤ f → f ≤ 1007 → Agr σ' σ2 f sp j) (hN : ∀ f i, 500 ≤ f → f ≤ 516 → i < s.c → Agr σ' σ2 f (no i) 0) (him : 0 ≤ im ∧ im < gI σ2 1101 x 0) (v0 : gR σ' 1000 sp 0 = some (img σ2 x im)) (v1 : gI σ' 1001 sp 0 = st) (v2 : gI σ' 1002 sp 0 = place) (v6 : gR σ' 1006 sp 0 = gR σ2 1105 x 0 ∧ gR σ' 1007 sp 0 = gR σ2 1104 x 0) (h7 : s.d 7 0 = st) (h1 : s.d 1 0 = place) (h0 : s.d 0 0 = 0) (hc : 0 < s.c) (hI : TI Ss len s) (hU : TU Ss len s) (hJ : JT Ss s) (hl : gI σ2 1201 m im.toNat = len) (r65 : gI σ2 1265 m n = im) (r66 : gI σ2 1266 m n = (s.c : Int)) (hR : ∀ i, i < s.c → NdR σ2 m n b s i) : TrV σ2 x m sp n fo Ss b s im := by
  obtain ⟨⟨t1, t2, t3⟩, t4, t5, t6, t7, t8, t9⟩ := hT
  have en : ∀ j, j < s.c → noO σ2 sp j = no j := fun j hj => by unfold noO; rw [(hA 1003 j (by decide) (by decide)).2.2, t4 j hj]; rfl
  refine ⟨⟨him, by rw [(hA 1000 0 (by decide) (by decide)).2.2]; exact v0, r65⟩, ⟨by rw [(hA 1001 0 (by decide) (by decide)).1, v1, h7], by rw [(hA 1002 0 (by decide) (by decide)).1, v2, h1], hc, t3, by rw [(hA 1004 0 (by decide) (by decide)).1]; exact t1, r66⟩, fun j hj => by rw [en j hj, (hA 1003 j (by decide) (by decide)).2.2]; exact t4 j hj, fun i hi => ?_, hR, t7, by rw [hl]; exact ⟨hI, hU⟩, h0, hJ, by rw [(hA 1005 0 (by decide) (by decide)).1]; exact t2, by rw [(hA 1006 0 (by decide) (by decide)).2.2]; exact v6.1, by rw [(hA 1007 0 (by decide) (by decide)).2.2]; exact v6.2⟩
  have kk := (hI.2 i hi).2.1
  rw [en i hi, (hN 506 i (by decide) (by decide) hi).2.1]
  exact ⟨((t6 i hi).1.agn hi (fun x hx => (kk.2.1 x hx).1) (fun f j f0 f1 hj => hN f j (by omega) f1 hj)).cgn hi (fun x hx => (kk.2.1 x hx).1) (by have := kk.2.2; omega) en, (t6 i hi).2⟩
end S4
