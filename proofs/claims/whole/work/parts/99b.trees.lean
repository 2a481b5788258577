/-! the trees: class and reference side by side -/
/-- the objects of a tree's nodes -/
def noO (σ : St) (tr : Nat) (j : Nat) : Nat := (gR σ 1003 tr j).getD 0
def NAo (σ : St) (tr : Nat) : Prop := ∀ (j r : Nat), j < 400 → gR σ 1003 tr j = some r → r < hs σ ∧ gI σ 500 r 0 = (j : Int)
/-- a tree's object -/
def TOb (σ : St) (tr : Nat) : Prop := LC 10 σ tr ∧ tr < hs σ ∧ NAo σ tr
/-- two have no node in common -/
def Dj (σ : St) (tr tr' : Nat) : Prop := ¬ tr = tr' ∧ ∀ (j j' r : Nat), j < 400 → j' < 400 → gR σ 1003 tr j = some r → gR σ 1003 tr' j' = some r → False
def TrV (σ : St) (x m tr t : Nat) (fo : Nat → Nat → Nat) (Ss : List Stc) (b : Nat) (s : TS) (im : Int) : Prop :=
  ((0 ≤ im ∧ im < gI σ 1101 x 0) ∧ gR σ 1000 tr 0 = some (img σ x im) ∧ gI σ 1265 m t = im) ∧
  (gI σ 1001 tr 0 = s.d 7 0 ∧ gI σ 1002 tr 0 = s.d 1 0 ∧ 0 < s.c ∧ s.c ≤ 400 ∧ gI σ 1004 tr 0 = (s.c : Int) ∧ gI σ 1266 m t = (s.c : Int)) ∧
  (∀ j, j < s.c → gR σ 1003 tr j = some (noO σ tr j)) ∧ (∀ i, i < s.c → NdC σ (noO σ tr) fo Ss s i ∧ gJ σ 506 (noO σ tr i) 0 = Int64.ofInt (s.d 10 i)) ∧ (∀ i, i < s.c → NdR σ m t b s i) ∧
  (∀ i : Nat, i < s.c → 0 ≤ s.d 9 i ∧ s.d 9 i ≤ i) ∧ (TI Ss (gI σ 1201 m im.toNat) s ∧ TU Ss (gI σ 1201 m im.toNat) s) ∧ s.d 0 0 = 0 ∧ JT Ss s ∧ gI σ 1005 tr 0 = 0 ∧ gR σ 1006 tr 0 = gR σ 1105 x 0 ∧ gR σ 1007 tr 0 = gR σ 1104 x 0
/-- all trees -/
def TreI (σ : St) (x m : Nat) (fo : Nat → Nat → Nat) (Ss : List Stc) (b : Nat) (T : Nat → TS) (I : Nat → Int) : Prop :=
  (0 ≤ gI σ 1110 x 0 ∧ gI σ 1110 x 0 ≤ 6 ∧ gI σ 1264 m 0 = gI σ 1110 x 0) ∧
  (∃ sp, gR σ 1109 x 0 = some sp ∧ TOb σ sp ∧ ∀ t, t < 6 → ∀ tr, gR σ 1108 x t = some tr → Dj σ sp tr) ∧
  (∀ t, t < 6 → ∀ tr, gR σ 1108 x t = some tr → TOb σ tr) ∧
  (∀ t t', t < 6 → t' < 6 → ¬ t = t' → ∀ tr tr', gR σ 1108 x t = some tr → gR σ 1108 x t' = some tr' → Dj σ tr tr') ∧
  (∃ rk, gR σ 1104 x 0 = some rk ∧ LC 7 σ rk ∧ rk < hs σ) ∧
  (∀ t : Nat, (t : Int) < gI σ 1110 x 0 → ∃ tr, gR σ 1108 x t = some tr ∧ TrV σ x m tr t fo Ss b (T t) (I t))
theorem Dj.sy {σ : St} {tr tr' : Nat} (hd : Dj σ tr tr') : Dj σ tr' tr := ⟨fun e => hd.1 e.symm, fun j j' r hj hj' a b => hd.2 j' j r hj' hj b a⟩
section S1
variable {σ σ' : St} {x m tr tr' t b i : Nat} {no no' : Nat → Nat} {fo : Nat → Nat → Nat} {Ss : List Stc} {s : TS} {im len len' : Int} {T : Nat → TS} {I : Nat → Int}
theorem TI.mono (hT : TI Ss len s) (hl : len ≤ len') : TI Ss len' s := ⟨hT.1, fun i hi => by
  obtain ⟨⟨v1, v2, v3, v4, v5⟩, k, b⟩ := hT.2 i hi
  exact ⟨⟨⟨v1.1, v1.2.1, by omega⟩, v2, v3, v4, v5⟩, k, b⟩⟩
theorem TU.mono (hU : TU Ss len s) (hl : len ≤ len') : TU Ss len' s := fun i hi F hF => by
  obtain ⟨u1, u2⟩ := hU i hi F hF
  exact ⟨fun nn f => by have := u1 nn f; omega, u2⟩
theorem NdC.cgn {i : Nat} (hN : NdC σ no fo Ss s i) (hi : i < s.c) (hk : ∀ x ∈ s.k i, x < s.c) (hp : s.d 5 i < s.c) (he : ∀ j, j < s.c → no' j = no j) : NdC σ no' fo Ss s i := by
  obtain ⟨n1, n2, n3, n4, n5, n6, n7, n8, n9, n10, n11, n12, n13, n14⟩ := hN
  have mp : ∀ o : Option Nat, (∀ a, o = some a → a < s.c) → o.map no' = o.map no := fun o ho => by
    cases o with
    | none => rfl
    | some a => show some (no' a) = some (no a); rw [he a (ho a rfl)]
  have op : oN no' (s.d 5 i) = oN no (s.d 5 i) := by
    unfold oN
    by_cases q : s.d 5 i < 0
    · rw [if_pos q, if_pos q]
    · rw [if_neg q, if_neg q, he _ (by omega)]
  have g0 : ∀ a, (s.k i)[0]? = some a → a < s.c := fun a ha => hk a (List.mem_of_getElem? ha)
  have gl : ∀ a, (s.k i).getLast? = some a → a < s.c := fun a ha => hk a (List.mem_of_getLast? ha)
  unfold NdC
  rw [he i hi, op, mp _ g0, mp _ gl]
  refine ⟨n1, n2, n3, n4, n5, n6, n7, n8, n9, n10, n11, fun j a ha => ?_, n13, n14⟩
  rw [he a (hk a (List.mem_of_getElem? ha)), mp _ (fun a' ha' => hk a' (List.mem_of_getElem? ha'))]
  exact n12 j a ha
theorem TrV.ag (hV : TrV σ x m tr t fo Ss b s im) (hi : gI σ 1101 x 0 ≤ gI σ' 1101 x 0) (hg : img σ' x im = img σ x im) (hl : gI σ 1201 m im.toNat ≤ gI σ' 1201 m im.toNat) (h45 : gR σ' 1104 x 0 = gR σ 1104 x 0 ∧ gR σ' 1105 x 0 = gR σ 1105 x 0) (hc : ∀ f j, 1000 ≤ f → f ≤ 1007 → Agr σ σ' f tr j) (hn : ∀ f i, 500 ≤ f → f ≤ 516 → i < s.c → Agr σ σ' f (noO σ tr i) 0)
    (hr : ∀ f j, ((f = 1265 ∨ f = 1266) ∧ j = t) ∨ (1267 ≤ f ∧ f ≤ 1279 ∧ 400 * t ≤ j ∧ j < 400 * t + 400) → gI σ' f m j = gI σ f m j) : TrV σ' x m tr t fo Ss b s im := by
  obtain ⟨⟨a1, a2, a3⟩, ⟨b1, b2, b3, b4, b5, b6⟩, c, d, e, f, ⟨g1, g2⟩, h0, hJ, t5, t6, t7⟩ := hV
  have en : noO σ' tr = noO σ tr := by
    funext j
    unfold noO
    rw [(hc 1003 j (by decide) (by decide)).2.2]
  refine ⟨⟨⟨a1.1, by omega⟩, by rw [(hc 1000 0 (by decide) (by decide)).2.2, hg]; exact a2, by rw [hr 1265 t (by omega)]; exact a3⟩, ⟨by rw [(hc 1001 0 (by decide) (by decide)).1]; exact b1, by rw [(hc 1002 0 (by decide) (by decide)).1]; exact b2, b3, b4, by rw [(hc 1004 0 (by decide) (by decide)).1]; exact b5, by rw [hr 1266 t (by omega)]; exact b6⟩, fun j hj => by rw [en, (hc 1003 j (by decide) (by decide)).2.2]; exact c j hj, fun i hi => ?_, fun i hi => ?_, f, ⟨g1.mono hl, g2.mono hl⟩, h0, hJ, by rw [(hc 1005 0 (by decide) (by decide)).1]; exact t5, by rw [(hc 1006 0 (by decide) (by decide)).2.2, h45.2]; exact t6, by rw [(hc 1007 0 (by decide) (by decide)).2.2, h45.1]; exact t7⟩
  · rw [en, (hn 506 i (by decide) (by decide) hi).2.1]
    exact ⟨(d i hi).1.agn hi (fun x hx => ((g1.2 i hi).2.1.2.1 x hx).1) (fun f j f0 f1 hj => hn f j (by omega) f1 hj), (d i hi).2⟩
  · obtain ⟨n1, n2, n3, n4, n5, n6, n7, n8, n9, n10, n11, n12, n13⟩ := e i hi
    have R : ∀ f j, 1267 ≤ f → f ≤ 1279 → j < s.c → gI σ' f m (400 * t + j) = gI σ f m (400 * t + j) := fun f j f0 f1 hj => hr f _ (by omega)
    refine ⟨by rw [R 1267 i (by decide) (by decide) hi]; exact n1, by rw [R 1268 i (by decide) (by decide) hi]; exact n2, by rw [R 1269 i (by decide) (by decide) hi]; exact n3, by rw [R 1272 i (by decide) (by decide) hi]; exact n4, by rw [R 1279 i (by decide) (by decide) hi]; exact n5, by rw [R 1270 i (by decide) (by decide) hi]; exact n6, by rw [R 1274 i (by decide) (by decide) hi]; exact n7, by rw [R 1273 i (by decide) (by decide) hi]; exact n8, by rw [R 1275 i (by decide) (by decide) hi]; exact n9, by rw [R 1271 i (by decide) (by decide) hi]; exact n10, by rw [R 1276 i (by decide) (by decide) hi]; exact n11, by rw [R 1277 i (by decide) (by decide) hi]; exact n12, fun j a ha => by rw [R 1278 a (by decide) (by decide) ((g1.2 i hi).2.1.2.1 a (List.mem_of_getElem? ha)).1]; exact n13.1 j a ha, by rw [R 1278 i (by decide) (by decide) hi, R 1279 i (by decide) (by decide) hi]; exact n13.2⟩
/-- nothing of the trees is touched -/
theorem TreI.fr {P : Nat → Nat → Prop} (hT : TreI σ x m fo Ss b T I) (hx : x < hs σ ∧ m < hs σ) (hF : Fr P σ σ') (h0 : ∀ f r, (f / 100 = 5 ∨ (1000 ≤ f ∧ f ≤ 1007) ∨ f = 1104 ∨ f = 1105 ∨ f = 1108 ∨ f = 1109 ∨ f = 1110 ∨ (1264 ≤ f ∧ f ≤ 1279)) → ¬ P f r) (hi : gI σ 1101 x 0 ≤ gI σ' 1101 x 0) (hg : ∀ im : Int, 0 ≤ im → im < gI σ 1101 x 0 → img σ' x im = img σ x im ∧ gI σ 1201 m im.toNat ≤ gI σ' 1201 m im.toNat) : TreI σ' x m fo Ss b T I := by
  obtain ⟨⟨a1, a2, a3⟩, ⟨sp, b1, b2, b3⟩, c, d, ⟨rk, e1, e2, e3⟩, f⟩ := hT
  have R8 : ∀ j, gR σ' 1108 x j = gR σ 1108 x j := fun j => hF.R hx.1 (h0 _ _ (by decide)) j
  have R3 : ∀ tr, tr < hs σ → ∀ j, gR σ' 1003 tr j = gR σ 1003 tr j := fun tr h j => hF.R h (h0 _ _ (by decide)) j
  have to : ∀ tr, TOb σ tr → TOb σ' tr := fun tr ⟨q1, q2, q3⟩ => ⟨hF.lc q2 q1, Nat.lt_of_lt_of_le q2 hF.1, fun j r hj hr => by
    rw [R3 tr q2] at hr
    obtain ⟨y1, y2⟩ := q3 j r hj hr
    exact ⟨Nat.lt_of_lt_of_le y1 hF.1, by rw [hF.I y1 (h0 _ _ (by decide))]; exact y2⟩⟩
  have dj : ∀ tr tr', tr < hs σ → tr' < hs σ → Dj σ tr tr' → Dj σ' tr tr' := fun tr tr' q1 q2 hd => ⟨hd.1, fun j j' r hj hj' a b => by rw [R3 tr q1] at a; rw [R3 tr' q2] at b; exact hd.2 j j' r hj hj' a b⟩
  have e10 : gI σ' 1110 x 0 = gI σ 1110 x 0 := hF.I hx.1 (h0 _ _ (by decide)) 0
  refine ⟨⟨by rw [e10]; exact a1, by rw [e10]; exact a2, by rw [e10, hF.I hx.2 (h0 _ _ (by decide))]; exact a3⟩, ⟨sp, by rw [hF.R hx.1 (h0 _ _ (by decide))]; exact b1, to sp b2, fun t ht tr htr => by rw [R8] at htr; exact dj _ _ b2.2.1 (c t ht tr htr).2.1 (b3 t ht tr htr)⟩, fun t ht tr htr => by rw [R8] at htr; exact to tr (c t ht tr htr), fun t t' ht ht' hne tr tr' htr htr' => by rw [R8] at htr htr'; exact dj _ _ (c t ht tr htr).2.1 (c t' ht' tr' htr').2.1 (d t t' ht ht' hne tr tr' htr htr'), ⟨rk, by rw [hF.R hx.1 (h0 _ _ (by decide))]; exact e1, hF.lc e3 e2, Nat.lt_of_lt_of_le e3 hF.1⟩, fun t ht => ?_⟩
  rw [e10] at ht
  obtain ⟨tr, f1, f2⟩ := f t ht
  have q := c t (by omega) tr f1
  have im1 := f2.1.1
  obtain ⟨g1, g2⟩ := hg (I t) im1.1 im1.2
  refine ⟨tr, by rw [R8]; exact f1, f2.ag hi g1 g2 ⟨hF.R hx.1 (h0 _ _ (by decide)) 0, hF.R hx.1 (h0 _ _ (by decide)) 0⟩ (fun f j z0 z1 => (hF.2 f tr q.2.1).2 (h0 f tr (by omega)) j) (fun f i z0 z1 hi => ?_) (fun f j z => hF.I hx.2 (h0 _ _ (by omega)) j)⟩
  have nh := (q.2.2 i _ (by have := f2.2.1.2.2.2.1; omega) (f2.2.2.1 i hi)).1
  exact (hF.2 f _ nh).2 (h0 f _ (by omega)) 0
end S1
