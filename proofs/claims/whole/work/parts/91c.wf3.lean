/-! what is read is well made: cores, structs, items -/
section WF3
variable {X : Txt} {En : List Enm} {Ss : List Stc} {Fs : List Fld} {i : Nat}
theorem i2j_k {k : Int} (h0 : 0 ≤ k) (h1 : k ≤ 255) : (i2j k).toInt = k := by rw [i2j_toInt, w32_id (by omega) (by omega)]
theorem rCore_wf (hX : X.OK) {ec : Exr} {q : Nat × Fld} (hi : i ≤ X.K) (hc : WFx ec) (hC : tC X Ss i = .ok ()) (h : rCore X En Ss Fs (fld0.wEc ec) i = .ok q) : WFf En.length Ss q.2 ∧ q.1 ≤ X.K := by
  unfold rCore at h
  split at h
  · obtain ⟨a, a1, a2⟩ := bx_inv h
    obtain ⟨b, b1, b2⟩ := bx_inv a2
    obtain ⟨c1, c2⟩ := tT_ok a1
    obtain ⟨d1, d2⟩ := tO_ok b1
    have aK : a.1 ≤ X.K := by rw [c2]; exact nx_le hi
    exact rTail_wf hX (by rw [d2]; exact nx_le aK) b2 hc rfl rfl rfl rfl (by rw [d2]; exact (Txt.nm hX aK d1).1) (Or.inl ⟨rfl, rfl, by rw [c2]; exact Txt.tyr hX hi c1⟩)
  split at h
  · obtain ⟨a, a1, a2⟩ := bx_inv h
    obtain ⟨b, b1, b2⟩ := bx_inv a2
    obtain ⟨c1, c2, c3, c4⟩ := tI_ok a1
    obtain ⟨d1, d2⟩ := tO_ok b1
    rw [List.length_map] at c4
    have aK : a.1 ≤ X.K := by rw [c2]; exact nx_le hi
    exact rTail_wf hX (by rw [d2]; exact nx_le aK) b2 hc rfl rfl rfl rfl (by rw [d2]; exact (Txt.nm hX aK d1).1) (Or.inr ⟨rfl, c3, c4⟩)
  split at h
  · obtain ⟨a, a1, a2⟩ := bx_inv h
    obtain ⟨b, b1, b2⟩ := bx_inv a2
    obtain ⟨j, e1, e2⟩ := bx_inv b2
    obtain ⟨r, f1, f2⟩ := bx_inv e2
    obtain ⟨j2, g1, g2⟩ := bx_inv f2
    obtain ⟨c1, c2⟩ := tT_ok a1
    obtain ⟨d1, d2⟩ := tO_ok b1
    obtain ⟨_, e4⟩ := tk_ok e1
    obtain ⟨_, g4⟩ := tk_ok g1
    have aK : a.1 ≤ X.K := by rw [c2]; exact nx_le (nx_le hi)
    have bK : b.1 ≤ X.K := by rw [d2]; exact nx_le aK
    have ty : TyR a.2 := by rw [c2]; exact Txt.tyr hX (nx_le hi) c1
    obtain ⟨es, k1, k2, k3, k4⟩ := rParts_wf hX 13 _ 0 j r (by rw [e4]; exact nx_le bK) f1 (by show (0 : Int) ≤ 0; omega) (fun w' hw => by show ¬ (0 : Int) ≤ w'; omega) (Or.inl rfl) (by omega)
    cases g2
    rw [k1]
    refine ⟨⟨hc, WFx_none, WFx_none, by show es.length ≤ 16; omega, Or.inr (Or.inr (Or.inr (Or.inl ⟨rfl, by rw [d2]; exact (Txt.nm hX aK d1).1, rfl, ty, rfl, k2, k3⟩)))⟩, by show j2 ≤ X.K; rw [g4]; exact nx_le k4⟩
  split at h
  · obtain ⟨a, a1, a2⟩ := bx_inv h
    obtain ⟨d1, d2⟩ := tO_ok a1
    have aK : a.1 ≤ X.K := by rw [d2]; exact nx_le (nx_le hi)
    have nm : IsN a.2 := by rw [d2]; exact (Txt.nm hX (nx_le hi) d1).1
    split at a2
    · obtain ⟨r, f1, f2⟩ := bx_inv a2
      obtain ⟨j2, g1, g2⟩ := bx_inv f2
      obtain ⟨_, g4⟩ := tk_ok g1
      obtain ⟨w1, w2, w3⟩ := rx_wf hX hX.num (nx_le aK) f1
      cases g2
      exact ⟨⟨hc, w1, WFx_none, Nat.zero_le _, Or.inr (Or.inr (Or.inr (Or.inr (Or.inl ⟨rfl, nm, rfl, rfl, fun e => absurd e (by simp)⟩))))⟩, by show j2 ≤ X.K; rw [g4]; exact nx_le w3⟩
    · obtain ⟨j, e1, e2⟩ := bx_inv a2
      obtain ⟨r, f1, f2⟩ := bx_inv e2
      obtain ⟨_, e4⟩ := tk_ok e1
      obtain ⟨_, f4, f5, f6⟩ := tN_ok f1
      have jK : j ≤ X.K := by rw [e4]; exact nx_le aK
      cases f2
      exact ⟨⟨hc, WFx_none, WFx_none, Nat.zero_le _, Or.inr (Or.inr (Or.inr (Or.inr (Or.inl ⟨rfl, nm, rfl, rfl, fun _ => by rw [f4]; exact ⟨f5, f6⟩⟩))))⟩, by show r.1 ≤ X.K; rw [f4]; exact nx_le jK⟩
  split at h
  · obtain ⟨a, a1, a2⟩ := bx_inv h
    obtain ⟨j, e1, e2⟩ := bx_inv a2
    obtain ⟨r, f1, f2⟩ := bx_inv e2
    obtain ⟨j2, g1, g2⟩ := bx_inv f2
    obtain ⟨u, u1, u2⟩ := bx_inv g2
    obtain ⟨d1, d2⟩ := tO_ok a1
    obtain ⟨_, e4⟩ := tk_ok e1
    obtain ⟨_, g4⟩ := tk_ok g1
    have aK : a.1 ≤ X.K := by rw [d2]; exact nx_le (nx_le hi)
    have jK : j ≤ X.K := by rw [e4]; exact nx_le aK
    have nm : IsN a.2 := by rw [d2]; exact (Txt.nm hX (nx_le hi) d1).1
    obtain ⟨w1, w2, w3⟩ := rx_wf hX hX.num jK f1
    obtain ⟨es, k1, k2, k3, k4⟩ := rCases_wf hX 9 _ j2 u (by rw [g4]; exact nx_le w3) u1 (fun e he => absurd he (by show ¬ e ∈ ([] : List Ent); simp))
    split at u2
    · obtain ⟨o, o1, o2⟩ := bx_inv u2
      obtain ⟨j3, p1, p2⟩ := bx_inv o2
      obtain ⟨j4, q1, q2⟩ := bx_inv p2
      obtain ⟨_, o4, o5, o6⟩ := tI_ok o1
      obtain ⟨_, p4⟩ := tk_ok p1
      obtain ⟨_, q4⟩ := tk_ok q1
      rw [List.length_map] at o6
      cases q2
      rw [k1]
      exact ⟨⟨hc, w1, WFx_none, by show es.length ≤ 16; omega, Or.inr (Or.inr (Or.inr (Or.inr (Or.inr (Or.inl ⟨rfl, nm, rfl, rfl, ⟨_, rfl⟩, by show -1 ≤ o.2; omega, o6, k2⟩)))))⟩, by show j4 ≤ X.K; rw [q4, p4, o4]; exact nx_le (nx_le (nx_le (nx_le k4)))⟩
    · obtain ⟨j4, q1, q2⟩ := bx_inv u2
      obtain ⟨_, q4⟩ := tk_ok q1
      cases q2
      rw [k1]
      exact ⟨⟨hc, w1, WFx_none, by show es.length ≤ 16; omega, Or.inr (Or.inr (Or.inr (Or.inr (Or.inr (Or.inl ⟨rfl, nm, rfl, rfl, ⟨_, rfl⟩, by show (-1 : Int) ≤ -1; omega, by show (-1 : Int) < _; omega, k2⟩)))))⟩, by show j4 ≤ X.K; rw [q4]; exact nx_le k4⟩
  split at h
  · obtain ⟨j, e1, e2⟩ := bx_inv h
    obtain ⟨a, a1, a2⟩ := bx_inv e2
    obtain ⟨j2, g1, g2⟩ := bx_inv a2
    obtain ⟨r, f1, f2⟩ := bx_inv g2
    obtain ⟨x, x1, x2⟩ := bx_inv f2
    obtain ⟨e3, e4⟩ := tk_ok e1
    obtain ⟨d1, d2⟩ := tO_ok a1
    obtain ⟨_, g4⟩ := tk_ok g1
    obtain ⟨c1, c2⟩ := tT_ok f1
    have jK : j ≤ X.K := by rw [e4]; exact nx_le (nx_le hi)
    have aK : a.1 ≤ X.K := by rw [d2]; exact nx_le jK
    have nm : IsN a.2 := by rw [d2]; exact (Txt.nm hX jK d1).1
    have an : IsN (X.v (X.nx i)) := (Txt.nm hX (nx_le hi) e3).1
    have j2K : j2 ≤ X.K := by rw [g4]; exact nx_le aK
    have rK : r.1 ≤ X.K := by rw [c2]; exact nx_le j2K
    have ty : TyR r.2 := by rw [c2]; exact Txt.tyr hX j2K c1
    have hx : WFx x.2 ∧ x.1 ≤ X.K := by
      split at x1
      · obtain ⟨y, y1, y2⟩ := bx_inv x1
        obtain ⟨w1, w2, w3⟩ := rx_wf hX hX.num (nx_le rK) y1
        cases y2
        exact ⟨w1, w3⟩
      · cases x1
        exact ⟨WFx_none, rK⟩
    split at x2
    · obtain ⟨n, n1, n2⟩ := bx_inv x2
      obtain ⟨_, n4, n5, n6⟩ := tN_ok n1
      cases n2
      exact ⟨⟨hc, hx.1, WFx_none, Nat.zero_le _, Or.inr (Or.inr (Or.inr (Or.inr (Or.inr (Or.inr (Or.inl ⟨rfl, nm, rfl, ty, rfl, by rw [n4]; exact n5, by rw [n4]; exact n6, an⟩))))))⟩, by show n.1 ≤ X.K; rw [n4]; exact nx_le (nx_le hx.2)⟩
    · cases x2
      exact ⟨⟨hc, hx.1, WFx_none, Nat.zero_le _, Or.inr (Or.inr (Or.inr (Or.inr (Or.inr (Or.inr (Or.inl ⟨rfl, nm, rfl, ty, rfl, by show 1 ≤ (1 : Int64).toInt; decide, by show (1 : Int64).toInt ≤ 4096; decide, an⟩))))))⟩, hx.2⟩
  split at h
  · obtain ⟨n, n1, n2⟩ := bx_inv h
    obtain ⟨_, n4, n5, n6⟩ := tN_ok n1
    cases n2
    exact ⟨⟨hc, WFx_none, WFx_none, Nat.zero_le _, Or.inr (Or.inr (Or.inr (Or.inr (Or.inr (Or.inr (Or.inr (Or.inl ⟨rfl, rfl, rfl, rfl, by rw [n4]; exact n5, by rw [n4]; exact n6⟩)))))))⟩, by show n.1 ≤ X.K; rw [n4]; exact nx_le (nx_le hi)⟩
  split at h
  · obtain ⟨a, a1, a2⟩ := bx_inv h
    obtain ⟨j, e1, e2⟩ := bx_inv a2
    obtain ⟨d1, d2⟩ := tO_ok a1
    obtain ⟨_, e4⟩ := tk_ok e1
    have aK : a.1 ≤ X.K := by rw [d2]; exact nx_le (nx_le hi)
    have nm : IsN a.2 := by rw [d2]; exact (Txt.nm hX (nx_le hi) d1).1
    obtain ⟨es, k1, k2, k3, k4⟩ := rBytes_wf hX 17 _ j q (by rw [e4]; exact nx_le aK) e2 (fun e he => absurd he (by show ¬ e ∈ ([] : List Ent); simp))
    rw [k1]
    exact ⟨⟨hc, WFx_none, WFx_none, k3, Or.inr (Or.inr (Or.inr (Or.inr (Or.inr (Or.inr (Or.inr (Or.inr (Or.inl ⟨rfl, nm, rfl, rfl, k2⟩))))))))⟩, k4⟩
  · unfold rSum at h
    split at h
    · rename_i c0
      obtain ⟨r, f1, f2⟩ := bx_inv h
      obtain ⟨a, a1, a2⟩ := bx_inv f2
      obtain ⟨j, e1, e2⟩ := bx_inv a2
      obtain ⟨x, x1, x2⟩ := bx_inv e2
      obtain ⟨j2, g1, g2⟩ := bx_inv x2
      obtain ⟨y, y1, y2⟩ := bx_inv g2
      obtain ⟨c1, c2⟩ := tT_ok f1
      obtain ⟨d1, d2⟩ := tO_ok a1
      obtain ⟨_, e4⟩ := tk_ok e1
      obtain ⟨_, g4⟩ := tk_ok g1
      have iK : X.nx (X.nx i) ≤ X.K := nx_le (nx_le hi)
      have rK : r.1 ≤ X.K := by rw [c2]; exact nx_le iK
      have aK : a.1 ≤ X.K := by rw [d2]; exact nx_le rK
      have ty : TyR r.2 := by rw [c2]; exact Txt.tyr hX iK c1
      have nm : IsN a.2 := by rw [d2]; exact (Txt.nm hX rK d1).1
      obtain ⟨w1, w2, w3⟩ := rx_wf hX hX.num (by rw [e4]; exact nx_le aK) x1
      obtain ⟨z1, z2, z3⟩ := rx_wf hX hX.num (by rw [g4]; exact nx_le w3) y1
      cases y2
      have e := i2j_k (k := X.k (X.nx i)) (by omega) (by omega)
      exact ⟨⟨hc, w1, z1, Nat.zero_le _, Or.inr (Or.inr (Or.inr (Or.inr (Or.inr (Or.inr (Or.inr (Or.inr (Or.inr ⟨rfl, nm, rfl, ty, rfl, by show 217 ≤ (i2j (X.k (X.nx i))).toInt; omega, by show (i2j (X.k (X.nx i))).toInt ≤ 220; omega, ⟨_, rfl⟩, ⟨_, rfl⟩⟩))))))))⟩, z3⟩
    · exact absurd h (by simp)
theorem rField_wf (hX : X.OK) {q : Nat × Fld} (hi : i ≤ X.K) (h : rField X En Ss Fs i = .ok q) : WFf En.length Ss q.2 ∧ q.1 ≤ X.K ∧ Fs.length < 14 ∧ i ≤ q.1 := by
  unfold rField at h
  obtain ⟨u, u1, u2⟩ := bx_inv h
  split at u2
  · rename_i c14
    obtain ⟨r, r1, r2⟩ := bx_inv u2
    obtain ⟨s, s1, s2⟩ := bx_inv r2
    obtain ⟨j, t1, t2⟩ := bx_inv s2
    obtain ⟨_, t4⟩ := tk_ok t1
    have key : ∃ ec, r.2 = fld0.wEc ec ∧ WFx ec ∧ r.1 ≤ X.K ∧ tC X Ss r.1 = .ok () ∧ i ≤ r.1 := by
      split at r1
      · obtain ⟨e, e1, e2⟩ := bx_inv r1
        obtain ⟨j, a1, a2⟩ := bx_inv e2
        obtain ⟨b, b1, b2⟩ := bx_inv a2
        obtain ⟨_, a4⟩ := tk_ok a1
        obtain ⟨w1, w2, w3⟩ := rx_wf hX hX.num (nx_le hi) e1
        cases b2
        exact ⟨some e.2, rfl, w1, by show j ≤ X.K; rw [a4]; exact nx_le w3, b1, by show i ≤ j; have := tk_ge a1; have : i ≤ X.nx i := nx_ge; omega⟩
      · rename_i k2
        cases r1
        rw [if_neg k2] at u1
        exact ⟨none, rfl, WFx_none, hi, u1, Nat.le_refl _⟩
    obtain ⟨ec, k1, k2, k3, k4, k5⟩ := key
    have g1 := rCore_ge hX k3 s1
    have g2 := tk_ge t1
    rw [k1] at s1
    obtain ⟨w1, w2⟩ := rCore_wf hX k3 k2 k4 s1
    cases t2
    exact ⟨w1, by show j ≤ X.K; rw [t4]; exact nx_le w2, c14, by show i ≤ j; omega⟩
  · exact absurd u2 (by simp)
theorem rFields_wf (hX : X.OK) : ∀ (f : Nat) (Fs : List Fld) (i : Nat) (q : Nat × List Fld), i ≤ X.K → rFields X En Ss f Fs i = .ok q → (∀ F ∈ Fs, WFf En.length Ss F) → Fs.length ≤ 14 → (∀ F ∈ q.2, WFf En.length Ss F) ∧ q.2.length ≤ 14 ∧ q.1 ≤ X.K ∧ X.k q.1 = 125 ∧ i ≤ q.1
  | 0, Fs, i, q, _, h, _, _ => absurd h (by simp [rFields])
  | f + 1, Fs, i, q, hi, h, hF, hl => by
    rw [rFields] at h
    split at h
    · rename_i c; cases h; exact ⟨hF, hl, hi, c, Nat.le_refl _⟩
    · obtain ⟨a, a1, a2⟩ := bx_inv h
      obtain ⟨b1, b2, b3, b4⟩ := rField_wf hX hi a1
      have := rFields_wf hX f (Fs ++ [a.2]) a.1 q b2 a2 (fun F hF' => ?_) (by rw [app_l]; omega)
      · exact ⟨this.1, this.2.1, this.2.2.1, this.2.2.2.1, by have := this.2.2.2.2; omega⟩
      rcases List.mem_append.mp hF' with z | z
      · exact hF F z
      · rw [List.mem_singleton.mp z]; exact b1
theorem szA_le : ∀ (L : List Fld) (a : Int), 0 ≤ a → -1 ≤ szA Ss L a ∧ szA Ss L a ≤ 1000000
  | [], a, h => by unfold szA; split <;> omega
  | F :: L, a, h => by
    unfold szA
    split
    · omega
    · exact szA_le L _ (by omega)
def WFs (nE : Nat) (Ss : List Stc) : Prop := ∀ (s : Nat) (S : Stc), Ss[s]? = some S → IsN S.1 ∧ S.2.1.length ≤ 14 ∧ -1 ≤ S.2.2 ∧ S.2.2 ≤ 1000000 ∧ ∀ F ∈ S.2.1, WFf nE (Ss.take s) F
def WFe (En : List Enm) : Prop := ∀ (e : Nat) (E : Enm), En[e]? = some E → IsN E.1 ∧ E.2.length ≤ 10 ∧ ∀ x ∈ E.2, IsN x.1
theorem tW_ok {q : Nat × Int64} (h : tW X En Ss i = .ok q) : X.k i = 2 ∧ q = (X.nx i, X.v i) := by
  unfold tW at h
  split at h
  · rename_i c
    split at h
    · cases h; exact ⟨c, rfl⟩
    · exact absurd h (by simp)
  · exact absurd h (by simp)
theorem rStr_wf (hX : X.OK) {q : Nat × Stc} (hi : i ≤ X.K) (hk : ¬ X.k i = 0) (h : rStr X En Ss i = .ok q) : i < q.1 ∧ q.1 ≤ X.K ∧ IsN q.2.1 ∧ q.2.2.1.length ≤ 14 ∧ -1 ≤ q.2.2.2 ∧ q.2.2.2 ≤ 1000000 ∧ (∀ F ∈ q.2.2.1, WFf En.length Ss F) ∧ Ss.length < 20 := by
  unfold rStr at h
  split at h
  · rename_i c20
    obtain ⟨a, a1, a2⟩ := bx_inv h
    obtain ⟨j, b1, b2⟩ := bx_inv a2
    obtain ⟨r, c1, c2⟩ := bx_inv b2
    obtain ⟨d1, d2⟩ := tW_ok a1
    obtain ⟨_, e2⟩ := tk_ok b1
    obtain ⟨x1, x2⟩ := nx_gt hX.k0 hi hk
    have aK : a.1 ≤ X.K := by rw [d2]; exact nx_le (by omega)
    obtain ⟨w1, w2, w3, w4, w5⟩ := rFields_wf hX 15 [] j r (by rw [e2]; exact nx_le aK) c1 (fun F hF => absurd hF (by simp)) (Nat.zero_le _)
    cases c2
    have z := szA_le (Ss := Ss) r.2 0 (by omega)
    have g1 : X.nx i ≤ a.1 := by rw [d2]; exact nx_ge
    have g2 := tk_ge b1
    exact ⟨by show i < X.nx r.1; have : r.1 ≤ X.nx r.1 := nx_ge; omega, nx_le w3, by rw [d2]; exact (Txt.nm hX (by omega) d1).1, w2, z.1, z.2, w1, c20⟩
  · exact absurd h (by simp)
theorem rPair_wf (hX : X.OK) {Ps : List Ent} {q : Nat × List Ent} (hi : i ≤ X.K) (h : rPair X Ps i = .ok q) : ∃ v : Int64, q.2 = Ps ++ [(X.v i, v, 0)] ∧ IsN (X.v i) ∧ Ps.length < 10 ∧ i ≤ q.1 ∧ q.1 ≤ X.K := by
  unfold rPair at h
  split at h
  · rename_i k2
    split at h
    · split at h
      · rename_i c
        obtain ⟨j, a1, a2⟩ := bx_inv h
        obtain ⟨r, b1, b2⟩ := bx_inv a2
        obtain ⟨_, c2⟩ := tk_ok a1
        have n1 : i ≤ X.nx i := nx_ge
        have g1 := tk_ge a1
        have g2 := tS_ge b1
        have g3 := tS_ok (by rw [c2]; exact nx_le (nx_le hi)) b1
        cases b2
        exact ⟨r.2, rfl, (Txt.nm hX hi k2).1, c, by show i ≤ r.1; omega, g3⟩
      · exact absurd h (by simp)
    · exact absurd h (by simp)
  · exact absurd h (by simp)
theorem rPairs_wf (hX : X.OK) : ∀ (f : Nat) (Ps : List Ent) (i : Nat) (q : Nat × List Ent), i ≤ X.K → rPairs X f Ps i = .ok q → (∀ x ∈ Ps, IsN x.1) → (∀ x ∈ q.2, IsN x.1) ∧ q.2.length ≤ 10 ∧ i ≤ q.1 ∧ q.1 ≤ X.K
  | 0, Ps, i, q, _, h, _ => absurd h (by simp [rPairs])
  | f + 1, Ps, i, q, hi, h, hP => by
    rw [rPairs] at h
    obtain ⟨a, a1, a2⟩ := bx_inv h
    obtain ⟨v, b1, b2, b3, b4, b5⟩ := rPair_wf hX hi a1
    have hP' : ∀ x ∈ a.2, IsN x.1 := fun x hx => by
      rw [b1] at hx
      rcases List.mem_append.mp hx with z | z
      · exact hP x z
      · rw [List.mem_singleton.mp z]; exact b2
    have n1 : a.1 ≤ X.nx a.1 := nx_ge
    split at a2
    · have := rPairs_wf hX f a.2 (X.nx a.1) q (nx_le b5) a2 hP'
      exact ⟨this.1, this.2.1, by omega, this.2.2.2⟩
    · cases a2
      exact ⟨hP', by rw [b1, app_l]; omega, b4, b5⟩
theorem rEnm_wf (hX : X.OK) {q : Nat × Enm} (hi : i ≤ X.K) (hk : ¬ X.k i = 0) (h : rEnm X En Ss i = .ok q) : i < q.1 ∧ q.1 ≤ X.K ∧ IsN q.2.1 ∧ q.2.2.length ≤ 10 ∧ (∀ x ∈ q.2.2, IsN x.1) ∧ En.length < 8 := by
  unfold rEnm at h
  split at h
  · rename_i c8
    obtain ⟨a, a1, a2⟩ := bx_inv h
    obtain ⟨j, b1, b2⟩ := bx_inv a2
    obtain ⟨r, c1, c2⟩ := bx_inv b2
    obtain ⟨j2, e1, e2⟩ := bx_inv c2
    obtain ⟨d1, d2⟩ := tW_ok a1
    obtain ⟨_, f2⟩ := tk_ok b1
    obtain ⟨_, f4⟩ := tk_ok e1
    obtain ⟨x1, x2⟩ := nx_gt hX.k0 hi hk
    have aK : a.1 ≤ X.K := by rw [d2]; exact nx_le (by omega)
    have g1 : X.nx i ≤ a.1 := by rw [d2]; exact nx_ge
    have g2 := tk_ge b1
    have g3 := tk_ge e1
    obtain ⟨w1, w2, w3, w4⟩ := rPairs_wf hX 11 [] j r (by rw [f2]; exact nx_le aK) c1 (fun x hx => absurd hx (by simp))
    cases e2
    exact ⟨by show i < j2; omega, by show j2 ≤ X.K; rw [f4]; exact nx_le w4, by rw [d2]; exact (Txt.nm hX (by omega) d1).1, w2, w1, c8⟩
  · exact absurd h (by simp)
end WF3
