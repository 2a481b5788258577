/-! relay: rows moved, a tree in another's place -/
def mvR (far y : Int) : Int := if y < 0 then y else y - far
theorem mv_oI {t : Nat} {v : Int} (ht : t ≤ 6) : mvR (400 * (6 - (t : Int))) (oI 6 v) = oI t v := by
  unfold mvR oI
  by_cases q : v < 0
  · rw [if_pos q, if_pos q, if_pos (by decide)]
  · rw [if_neg q, if_neg q, if_neg (by omega)]; omega
theorem mv_oX {t : Nat} {o : Option Nat} (ht : t ≤ 6) : mvR (400 * (6 - (t : Int))) (oX 6 o) = oX t o := by
  cases o with
  | none => rfl
  | some a =>
    show mvR _ ((400 * 6 + a : Nat) : Int) = ((400 * t + a : Nat) : Int)
    unfold mvR
    rw [if_neg (by omega)]; omega
section T1
variable {g : GP} {l : Launch} {d e : Nat} {σ σ' σ2 : St} {x m p b sp sq rk n t : Nat} {A B : DPa} {En : List Enm} {Ss : List Stc} {T : Nat → TS} {I : Nat → Int} {im : Int} {fo : Nat → Nat → Nat} {s : TS}
theorem tre_swap2 (hT : TreI σ x m fo Ss b T I) (h9 : gR σ 1109 x 0 = some sp) (hn : (n : Int) < gI σ 1110 x 0) (hn8 : gR σ 1108 x n = some sq) (hF : Frm (fun f r => (r = x ∧ (f = 1108 ∨ f = 1109)) ∨ (r = m ∧ (f = 1253 ∨ (1265 ≤ f ∧ f ≤ 1289)))) σ σ2) (r9 : gR σ2 1109 x 0 = some sq) (r8n : gR σ2 1108 x n = some sp) (r8 : ∀ t, ¬ t = n → gR σ2 1108 x t = gR σ 1108 x t) (hO : ∀ t' f j, ¬ t' = n → t' < 6 → ((f = 1265 ∨ f = 1266) ∧ j = t') ∨ (1267 ≤ f ∧ f ≤ 1279 ∧ 400 * t' ≤ j ∧ j < 400 * t' + 400) → gI σ2 f m j = gI σ f m j) (hV : TrV σ2 x m sp n fo Ss b s im) :
    TreI σ2 x m fo Ss b (fun t => if t = n then s else T t) (fun t => if t = n then im else I t) := by
  obtain ⟨⟨a1, a2, a3⟩, ⟨sp', b1, b2, b3⟩, c, d, ⟨rk', e1, e2, e3⟩, f⟩ := hT
  rw [h9] at b1
  obtain rfl : sp = sp' := Option.some.inj b1
  have n6 : n < 6 := by omega
  have ns : ∀ f r, f < 1108 ∨ (1110 ≤ f ∧ f ≤ 1252) ∨ f = 1264 → ¬ ((r = x ∧ (f = 1108 ∨ f = 1109)) ∨ (r = m ∧ (f = 1253 ∨ (1265 ≤ f ∧ f ≤ 1289)))) := fun f r z q => by omega
  have to2 : ∀ tr, TOb σ tr → TOb σ2 tr := fun tr ⟨q1, q2, q3⟩ => ⟨hF.lc q1, by rw [hF.2.1]; exact q2, fun j r hj hr => by rw [hF.R (ns _ _ (by omega))] at hr; rw [hF.I (ns _ _ (by omega)), hF.2.1]; exact q3 j r hj hr⟩
  have dj2 : ∀ tr tr', Dj σ tr tr' → Dj σ2 tr tr' := fun tr tr' hd => ⟨hd.1, fun j j' r hj hj' a b => by rw [hF.R (ns _ _ (by omega))] at a b; exact hd.2 j j' r hj hj' a b⟩
  have e10 : gI σ2 1110 x 0 = gI σ 1110 x 0 := hF.I (ns _ _ (by omega)) 0
  refine ⟨⟨by omega, by omega, by rw [e10, hF.I (ns _ _ (by omega))]; exact a3⟩, ⟨sq, r9, to2 sq (c n n6 sq hn8), fun t ht tr htr => ?_⟩, fun t ht tr htr => ?_, fun t1 t2 ht1 ht2 hne tr1 tr2 htr1 htr2 => ?_, ⟨rk', by rw [hF.R (ns _ _ (by omega))]; exact e1, hF.lc e2, by rw [hF.2.1]; exact e3⟩, fun t ht => ?_⟩
  · by_cases z : t = n
    · rw [z, r8n] at htr; cases htr; exact dj2 _ _ (b3 n n6 sq hn8).sy
    · rw [r8 t z] at htr; exact dj2 _ _ (d n t n6 ht (fun q => z q.symm) sq tr hn8 htr)
  · by_cases z : t = n
    · rw [z, r8n] at htr; cases htr; exact to2 _ b2
    · rw [r8 t z] at htr; exact to2 _ (c t ht tr htr)
  · by_cases z1 : t1 = n
    · rw [z1, r8n] at htr1
      cases htr1
      rw [r8 t2 (by omega)] at htr2
      exact dj2 _ _ (b3 t2 ht2 tr2 htr2)
    · rw [r8 t1 z1] at htr1
      by_cases z2 : t2 = n
      · rw [z2, r8n] at htr2
        cases htr2
        exact dj2 _ _ (b3 t1 ht1 tr1 htr1).sy
      · rw [r8 t2 z2] at htr2
        exact dj2 _ _ (d t1 t2 ht1 ht2 hne tr1 tr2 htr1 htr2)
  · by_cases z : t = n
    · dsimp only
      rw [if_pos z, if_pos z, z]
      exact ⟨sp, r8n, hV⟩
    · dsimp only
      rw [if_neg z, if_neg z]
      obtain ⟨tr, f1, f2⟩ := f t (by omega)
      exact ⟨tr, by rw [r8 t z]; exact f1, f2.ag (by rw [hF.I (ns _ _ (by omega))]; exact Int.le_refl _) (by unfold img; rw [hF.R (ns _ _ (by omega))]) (by rw [hF.I (ns _ _ (by omega))]; exact Int.le_refl _) ⟨hF.R (ns _ _ (by omega)) 0, hF.R (ns _ _ (by omega)) 0⟩ (fun f j z0 z1 => hF.2.2.2 f tr (ns _ _ (by omega)) j) (fun f i z0 z1 hi => hF.2.2.2 f _ (ns _ _ (by omega)) 0) (fun f j w => hO t f j z (by omega) w)⟩
theorem m_moved {y far : Int} {P : Int → St → Prop} (hy : -1 ≤ y ∧ y < 2800) (hf : 0 ≤ far ∧ far ≤ 2800) (hP : P (mvR far y) σ) : ACi g l d MX12_moved [vR 12 (some m), vI y, vI far] σ P := by
  unfold mvR at hP
  refine AC.of mo_X12_moved (Nat.le_of_ble_eq_true rfl) (bk_X12_moved_0 ?_)
  by_cases q : y < 0
  · rw [if_pos q] at hP
    exact ⟨fun w => absurd w (by omega), fun w => ⟨_, rfl, hP⟩⟩
  · rw [if_neg q] at hP
    exact ⟨fun w => ⟨⟨by omega, by omega⟩, _, rfl, hP⟩, fun w => absurd (by omega) w⟩
/-- the rows of tree 6 become those of tree t -/
theorem m_copy {P : Int → St → Prop} (hL : LC 12 σ m) (ht : t < 6) (hc : s.c ≤ 400) (h66 : gI σ 1266 m t = (s.c : Int)) (hN : ∀ i, i < s.c → NdR σ m 6 b s i) (hk : ∀ i, i < s.c → (∀ a ∈ s.k i, a < s.c) ∧ -1 ≤ s.d 5 i ∧ s.d 5 i < s.c)
    (hP : ∀ σ', Frm (fun f r => r = m ∧ (1267 ≤ f ∧ f ≤ 1279)) σ σ' → (∀ f j, ¬ (400 * t ≤ j ∧ j < 400 * t + 400) → gI σ' f m j = gI σ f m j) → (∀ i, i < s.c → NdR σ' m t b s i) → P (s.c : Int) σ') : AW g l (d + 1) MX12_relay 80 [some (vR 12 (some m)), some (vI (t : Int)), some (vI (400 * (6 - (t : Int)))), some (vI (400 * (t : Int))), none] [] σ (fun v σ' => ∃ r, v = some (vI r) ∧ P r σ') := by
  have loop : ∀ (n j : Nat) (τ : St), j + n = s.c → Frm (fun f r => r = m ∧ (1267 ≤ f ∧ f ≤ 1279)) σ τ → (∀ f q, ¬ (400 * t ≤ q ∧ q < 400 * t + j) → gI τ f m q = gI σ f m q) → (∀ i : Nat, i < j → (∀ f, f = 1267 ∨ f = 1268 ∨ f = 1269 ∨ f = 1271 ∨ f = 1272 ∨ f = 1273 ∨ f = 1274 ∨ f = 1275 ∨ f = 1279 → gI τ f m (400 * t + i) = gI σ f m (2400 + i)) ∧ (∀ f, f = 1270 ∨ f = 1276 ∨ f = 1277 ∨ f = 1278 → gI τ f m (400 * t + i) = mvR (400 * (6 - (t : Int))) (gI σ f m (2400 + i)))) → AW g l (d + 1) MX12_relay 80 [some (vR 12 (some m)), some (vI (t : Int)), some (vI (400 * (6 - (t : Int)))), some (vI ((400 * t + j : Nat) : Int)), none] [] τ (fun v σ' => ∃ r, v = some (vI r) ∧ P r σ') := by
    intro n
    induction n with
    | zero =>
      intro j τ hj F r1 r2
      refine bk_X12_relay_80 ?_
      rw [Int.toNat_natCast, F.I (fun q => by omega), h66]
      refine ⟨⟨by omega, by omega⟩, F.lc hL, ⟨by omega, by omega⟩, ⟨by omega, by omega⟩, fun _ => ⟨_, rfl, hP τ F (fun f q z => r1 f q (by omega)) (fun i hi => ?_)⟩, fun u => absurd (by omega) u⟩
      obtain ⟨u1, u2⟩ := r2 i (by omega)
      obtain ⟨y11, y12, y13⟩ := (hN i hi).x
      obtain ⟨n1, n2, n3, n4, n5, n6, n7, n8, n9, n10, _, _, _⟩ := hN i hi
      have y14 := (hN i hi).y
      refine NdR.of ?_ ?_ ?_ ?_ ?_ ?_ ?_ ?_ ?_ ?_ ?_ ?_ (fun q a ha => ?_) ?_
      · rw [u1 1267 (by decide)]; exact n1
      · rw [u1 1268 (by decide)]; exact n2
      · rw [u1 1269 (by decide)]; exact n3
      · rw [u1 1272 (by decide)]; exact n4
      · rw [u1 1279 (by decide)]; exact n5
      · rw [u2 1270 (by decide), show 2400 + i = 400 * 6 + i by omega, n6]; exact mv_oI (by omega)
      · rw [u1 1274 (by decide)]; exact n7
      · rw [u1 1273 (by decide)]; exact n8
      · rw [u1 1275 (by decide)]; exact n9
      · rw [u1 1271 (by decide)]; exact n10
      · rw [u2 1276 (by decide), show 2400 + i = 400 * 6 + i by omega, y11]; exact mv_oX (by omega)
      · rw [u2 1277 (by decide), show 2400 + i = 400 * 6 + i by omega, y12]; exact mv_oX (by omega)
      · have ac := (hk i hi).1 a (List.mem_of_getElem? ha)
        rw [(r2 a (by omega)).2 1278 (by decide), show 2400 + a = 400 * 6 + a by omega, y13 q a ha]; exact mv_oX (by omega)
      · rw [u1 1279 (by decide), u2 1278 (by decide)]
        rw [show 400 * 6 + i = 2400 + i by omega] at y14
        refine ⟨?_, y14.2⟩
        have z1 := y14.1
        unfold mvR
        by_cases z : gI σ 1278 m (2400 + i) < 0
        · rw [if_pos z]; omega
        · rw [if_neg z]; omega
    | succ n ih =>
      intro j τ hj F r1 r2
      have hjc : j < s.c := by omega
      have src : ∀ f, gI τ f m (2400 + j) = gI σ f m (2400 + j) := fun f => r1 f _ (by omega)
      obtain ⟨y11, y12, y13⟩ := (hN j hjc).x
      obtain ⟨n1, n2, n3, n4, n5, n6, _⟩ := hN j hjc
      have hkj := hk j hjc
      have ne : ¬ 2400 + j = 400 * t + j := by omega
      have b70 : -1 ≤ gI σ 1270 m (2400 + j) ∧ gI σ 1270 m (2400 + j) < 2800 := by
        rw [show 2400 + j = 400 * 6 + j by omega, n6]; unfold oI
        by_cases q : s.d 5 j < 0
        · rw [if_pos q]; omega
        · rw [if_neg q]; omega
      have bo : ∀ o : Option Nat, (∀ a, o = some a → a < s.c) → -1 ≤ oX 6 o ∧ oX 6 o < 2800 := fun o h => by
        cases o with
        | none => show (-1 : Int) ≤ -1 ∧ (-1 : Int) < 2800; omega
        | some a => have := h a rfl; show -1 ≤ ((400 * 6 + a : Nat) : Int) ∧ ((400 * 6 + a : Nat) : Int) < 2800; omega
      have b76 : -1 ≤ gI σ 1276 m (2400 + j) ∧ gI σ 1276 m (2400 + j) < 2800 := by
        rw [show 2400 + j = 400 * 6 + j by omega, y11]; exact bo _ (fun a ha => hkj.1 a (List.mem_of_getElem? ha))
      have b77 : -1 ≤ gI σ 1277 m (2400 + j) ∧ gI σ 1277 m (2400 + j) < 2800 := by
        rw [show 2400 + j = 400 * 6 + j by omega, y12]; exact bo _ (fun a ha => hkj.1 a (List.mem_of_getLast? ha))
      have y14 := (hN j hjc).y
      rw [show 400 * 6 + j = 2400 + j by omega] at y14
      have b78 : -1 ≤ gI σ 1278 m (2400 + j) ∧ gI σ 1278 m (2400 + j) < 2800 := by have := y14.1; omega
      have b79 : gI σ 1279 m (2400 + j) = 0 ∨ gI σ 1279 m (2400 + j) = 1 := y14.2
      have fr : ∀ {υ : St} {f : Nat} {v : Int}, 1267 ≤ f → f ≤ 1279 → Frm (fun f r => r = m ∧ (1267 ≤ f ∧ f ≤ 1279)) υ (sI υ f m (400 * t + j) v) := fun h0 h1 => Frm.sI ⟨rfl, h0, h1⟩
      refine bk_X12_relay_80 ?_
      rw [Int.toNat_natCast, F.I (fun q => by omega), h66, show (((400 * t + j : Nat) : Int) + 400 * (6 - (t : Int))).toNat = 2400 + j by omega, Int.toNat_natCast]
      refine ⟨⟨by omega, by omega⟩, F.lc hL, ⟨by omega, by omega⟩, ⟨by omega, by omega⟩, fun u => by omega, fun _ => ⟨⟨by omega, by omega⟩, ⟨by omega, by omega⟩, ⟨by omega, by omega⟩, ?_⟩⟩
      have wr : ∀ (υ : St) (f f' q : Nat) (v : Int), gI (sI υ f m (400 * t + j) v) f' m q = if f' = f ∧ q = 400 * t + j then v else gI υ f' m q := fun υ f f' q v => by
        rw [gI_sI]
        by_cases z : f' = f ∧ q = 400 * t + j
        · rw [if_pos z, if_pos ⟨z.1, rfl, z.2⟩]
        · rw [if_neg z, if_neg (fun y => z ⟨y.1, y.2.2⟩)]
      have so : ∀ (υ : St) (f f' : Nat) (v : Int), gI (sI υ f m (400 * t + j) v) f' m (2400 + j) = gI υ f' m (2400 + j) := fun υ f f' v => by rw [wr, if_neg (fun y => ne y.2)]
      rw [src 1267, src 1268, src 1269]
      generalize h3 : (sI (sI (sI τ 1267 m (400 * t + j) (gI σ 1267 m (2400 + j))) 1268 m (400 * t + j) (gI σ 1268 m (2400 + j))) 1269 m (400 * t + j) (gI σ 1269 m (2400 + j))) = τ3
      have F3 : Frm (fun f r => r = m ∧ (1267 ≤ f ∧ f ≤ 1279)) σ τ3 := by rw [← h3]; exact F.trans ((fr (by decide) (by decide)).trans ((fr (by decide) (by decide)).trans (fr (by decide) (by decide))))
      have s3 : ∀ f, gI τ3 f m (2400 + j) = gI σ f m (2400 + j) := fun f => by rw [← h3, so, so, so]; exact src f
      have o3 : ∀ f q, ¬ q = 400 * t + j → gI τ3 f m q = gI τ f m q := fun f q z => by rw [← h3, wr, if_neg (fun y => z y.2), wr, if_neg (fun y => z y.2), wr, if_neg (fun y => z y.2)]
      have v3 : ∀ f, f = 1267 ∨ f = 1268 ∨ f = 1269 → gI τ3 f m (400 * t + j) = gI σ f m (2400 + j) := fun f z => by
        rw [← h3]
        rcases z with rfl | rfl | rfl <;> simp only [wr, true_and, and_true, false_and, if_false, if_true, Nat.reduceEqDiff]
      rw [src 1270]
      refine m_moved b70 ⟨by omega, by omega⟩ ⟨F3.lc hL, ?_⟩
      rw [s3 1271, s3 1272, s3 1273, s3 1274, s3 1275, s3 1276]
      generalize hv70 : mvR (400 * (6 - (t : Int))) (gI σ 1270 m (2400 + j)) = v70
      generalize h6 : (sI (sI (sI (sI (sI (sI τ3 1270 m (400 * t + j) v70) 1271 m (400 * t + j) (gI σ 1271 m (2400 + j))) 1272 m (400 * t + j) (gI σ 1272 m (2400 + j))) 1273 m (400 * t + j) (gI σ 1273 m (2400 + j))) 1274 m (400 * t + j) (gI σ 1274 m (2400 + j))) 1275 m (400 * t + j) (gI σ 1275 m (2400 + j))) = τ6
      have F6 : Frm (fun f r => r = m ∧ (1267 ≤ f ∧ f ≤ 1279)) σ τ6 := by rw [← h6]; exact F3.trans ((fr (by decide) (by decide)).trans ((fr (by decide) (by decide)).trans ((fr (by decide) (by decide)).trans ((fr (by decide) (by decide)).trans ((fr (by decide) (by decide)).trans (fr (by decide) (by decide)))))))
      have s6 : ∀ f, gI τ6 f m (2400 + j) = gI σ f m (2400 + j) := fun f => by rw [← h6, so, so, so, so, so, so]; exact s3 f
      have o6 : ∀ f q, ¬ q = 400 * t + j → gI τ6 f m q = gI τ f m q := fun f q z => by rw [← h6, wr, if_neg (fun y => z y.2), wr, if_neg (fun y => z y.2), wr, if_neg (fun y => z y.2), wr, if_neg (fun y => z y.2), wr, if_neg (fun y => z y.2), wr, if_neg (fun y => z y.2)]; exact o3 f q z
      have v6 : ∀ f, f = 1267 ∨ f = 1268 ∨ f = 1269 ∨ f = 1271 ∨ f = 1272 ∨ f = 1273 ∨ f = 1274 ∨ f = 1275 → gI τ6 f m (400 * t + j) = gI σ f m (2400 + j) := fun f z => by
        rw [← h6]
        rcases z with rfl | rfl | rfl | rfl | rfl | rfl | rfl | rfl <;> simp only [wr, true_and, and_true, false_and, if_false, if_true, Nat.reduceEqDiff]
        · exact v3 _ (by decide)
        · exact v3 _ (by decide)
        · exact v3 _ (by decide)
      have w6 : gI τ6 1270 m (400 * t + j) = v70 := by rw [← h6]; simp only [wr, true_and, and_true, false_and, if_false, if_true, Nat.reduceEqDiff]
      refine m_moved b76 ⟨by omega, by omega⟩ ⟨F6.lc hL, ?_⟩
      rw [s6 1277]
      generalize hv76 : mvR (400 * (6 - (t : Int))) (gI σ 1276 m (2400 + j)) = v76
      refine m_moved b77 ⟨by omega, by omega⟩ ⟨(fr (f := 1276) (by decide) (by decide)).lc (F6.lc hL), ?_⟩
      rw [so, s6 1278]
      generalize hv77 : mvR (400 * (6 - (t : Int))) (gI σ 1277 m (2400 + j)) = v77
      refine m_moved b78 ⟨by omega, by omega⟩ ⟨(fr (f := 1277) (by decide) (by decide)).lc ((fr (f := 1276) (by decide) (by decide)).lc (F6.lc hL)), ?_⟩
      rw [so, so, s6 1279]
      generalize hv78 : mvR (400 * (6 - (t : Int))) (gI σ 1278 m (2400 + j)) = v78
      refine ⟨b79, ⟨by omega, by omega⟩, ?_⟩
      rw [show ((400 * t + j : Nat) : Int) + 1 = ((400 * t + (j + 1) : Nat) : Int) by omega]
      refine ih (j + 1) _ (by omega) (F6.trans ((fr (by decide) (by decide)).trans ((fr (by decide) (by decide)).trans ((fr (by decide) (by decide)).trans (fr (by decide) (by decide)))))) (fun f q z => ?_) (fun i hi => ?_)
      · have z : ¬ q = 400 * t + j := by omega
        rw [wr, if_neg (fun y => z y.2), wr, if_neg (fun y => z y.2), wr, if_neg (fun y => z y.2), wr, if_neg (fun y => z y.2), o6 f q z]
        exact r1 f q (by omega)
      · by_cases e : i = j
        · subst e
          refine ⟨fun f z => ?_, fun f z => ?_⟩
          · rcases z with rfl | rfl | rfl | rfl | rfl | rfl | rfl | rfl | rfl <;> simp only [wr, true_and, and_true, false_and, if_false, if_true, Nat.reduceEqDiff]
            all_goals exact v6 _ (by decide)
          · rcases z with rfl | rfl | rfl | rfl <;> simp only [wr, true_and, and_true, false_and, if_false, if_true, Nat.reduceEqDiff]
            · rw [w6, ← hv70]
            · rw [← hv76]
            · rw [← hv77]
            · rw [← hv78]
        · have z : ∀ f, gI (sI (sI (sI (sI τ6 1276 m (400 * t + j) v76) 1277 m (400 * t + j) v77) 1278 m (400 * t + j) v78) 1279 m (400 * t + j) (gI σ 1279 m (2400 + j))) f m (400 * t + i) = gI τ f m (400 * t + i) := fun f => by
            have z : ¬ 400 * t + i = 400 * t + j := by omega
            rw [wr, if_neg (fun y => z y.2), wr, if_neg (fun y => z y.2), wr, if_neg (fun y => z y.2), wr, if_neg (fun y => z y.2), o6 f _ z]
          have r := r2 i (by omega)
          exact ⟨fun f w => by rw [z]; exact r.1 f w, fun f w => by rw [z]; exact r.2 f w⟩
  have := loop s.c 0 σ (by omega) Frm.rfl (fun f q _ => rfl) (fun i hi => absurd hi (by omega))
  rw [show ((400 * t + 0 : Nat) : Int) = 400 * (t : Int) by omega] at this
  exact this
end T1
