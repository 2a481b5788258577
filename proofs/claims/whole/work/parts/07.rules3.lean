theorem off_sI (σ : St) (f r i : Nat) (v : Int) : ∀ f' a' i', ¬ (f' = f ∧ a' = r ∧ i' = i) → Agr σ (sI σ f r i v) f' a' i' := fun f' a' i' h => ⟨if_neg h, rfl, rfl⟩
theorem off_sJ (σ : St) (f r i : Nat) (v : Int64) : ∀ f' a' i', ¬ (f' = f ∧ a' = r ∧ i' = i) → Agr σ (sJ σ f r i v) f' a' i' := fun f' a' i' h => ⟨rfl, if_neg h, rfl⟩
theorem off_sR (σ : St) (f r i : Nat) (v : Option Nat) : ∀ f' a' i', ¬ (f' = f ∧ a' = r ∧ i' = i) → Agr σ (sR σ f r i v) f' a' i' := fun f' a' i' h => ⟨rfl, rfl, if_neg h⟩
theorem gI_self (σ : St) (f r i : Nat) (v : Int) : gI (sI σ f r i v) f r i = v := if_pos ⟨rfl, rfl, rfl⟩
theorem gJ_self (σ : St) (f r i : Nat) (v : Int64) : gJ (sJ σ f r i v) f r i = v := if_pos ⟨rfl, rfl, rfl⟩
theorem gR_self (σ : St) (f r i : Nat) (v : Option Nat) : gR (sR σ f r i v) f r i = v := if_pos ⟨rfl, rfl, rfl⟩
theorem SV.cons2 {g : GP} {K : KM} {a b : AV} {S : List AV} {st : List Value} (h : SV g K (a :: b :: S) st) : ∃ v w st', st = v :: w :: st' ∧ VR g K a v ∧ VR g K b w ∧ SV g K S st' := by
  obtain ⟨v, st1, rfl, h1, h2⟩ := SV.cons h
  obtain ⟨w, st2, rfl, h3, h4⟩ := SV.cons h2
  exact ⟨v, w, st2, rfl, h1, h3, h4⟩
theorem SV.cons3 {g : GP} {K : KM} {a b c : AV} {S : List AV} {st : List Value} (h : SV g K (a :: b :: c :: S) st) : ∃ v w x st', st = v :: w :: x :: st' ∧ VR g K a v ∧ VR g K b w ∧ VR g K c x ∧ SV g K S st' := by
  obtain ⟨v, w, st1, rfl, h1, h2, h3⟩ := SV.cons2 h
  obtain ⟨x, st2, rfl, h4, h5⟩ := SV.cons h3
  exact ⟨v, w, x, st2, rfl, h1, h2, h4, h5⟩
theorem VR.arr {g : GP} {K : KM} {f a : Nat} {v : Value} (hf : f < 9000) (h : VR g K (vA f a) v) : ∃ q, v = .ref q ∧ K q = some (.inr (f, a)) := by
  unfold VR at h
  dsimp only at h
  rw [if_neg (by omega), if_neg (by omega)] at h
  exact h
section R3
variable {g : GP} {l : Launch} {d : Nat} {M : MD} {pc : Nat} {L : List (Option AV)} {S : List AV} {σ : St} {Q : Option AV → St → Prop}
variable {f r idx : Nat} {C nm ds : String} {fin : Bool}
theorem aw_putI {x : Int} (hF : FOK f .int C nm ds fin) (hfin : fin = false ∨ (M.1.name = "<init>" ∧ M.1.cls = C)) (hlink : Cond.fieldLink M.1.cls idx C nm ds ∈ lw_use) (hd : decode M.2.1 pc = .ok (.putfield idx, 3)) (k : AW g l d M (pc + 3) L S (sI σ f r 0 x) Q) : AW g l d M pc L (vI x :: vR (f / 100) (some r) :: S) σ Q := by
  intro p e R s m args below meth c Z K0 K H locs ls st E hR hW hK hS hL hSt
  obtain ⟨v, w, st', hq, ⟨y, hv1, hv2⟩, ⟨hw1, hw2⟩, hSt'⟩ := SV.cons2 hSt
  subst hq hv1 hw1
  refine put_core E hW hS hF hfin hw2 hlink hd rfl rfl (fun H' locs' cell c1 c2 c3 c4 c5 c6 => ?_)
  rw [← c3, ← nsl_same c3 (H := H) (fun q cq hq => ?_)]
  · exact k p e R s m args below meth c Z K0 K H' locs' ls _ E hR (hW.putO hF hw2 c1 c2 c3 c4 c5 rfl rfl (fun _ _ => rfl) (off_sI σ f r 0 x) (fun _ h => by cases h) ⟨y, rfl, by rw [gI_self]; exact hv2⟩) hK c6 hL hSt'
  · by_cases e : q = r
    · subst e; rw [c1] at hq; cases hq; exact ⟨_, c2, by simp [Cell.setSlot]⟩
    · exact ⟨cq, by rw [c4 q e]; exact hq, rfl⟩
theorem nar_bool {x : Int32} (h : x.toInt = 0 ∨ x.toInt = 1) : narrow .boolean (.int x) = .int x ∧ fits .boolean (.int x) = true := by
  rcases h with h | h
  · have : x = 0 := Int32.toInt_inj.mp (by rw [h]; rfl)
    subst this
    exact ⟨by decide +kernel, by decide +kernel⟩
  · have : x = 1 := Int32.toInt_inj.mp (by rw [h]; rfl)
    subst this
    exact ⟨by decide +kernel, by decide +kernel⟩
theorem aw_putZ {x : Int} (hF : FOK f .boolean C nm ds fin) (hfin : fin = false ∨ (M.1.name = "<init>" ∧ M.1.cls = C)) (hlink : Cond.fieldLink M.1.cls idx C nm ds ∈ lw_use) (hd : decode M.2.1 pc = .ok (.putfield idx, 3)) (hz : x = 0 ∨ x = 1) (k : AW g l d M (pc + 3) L S (sI σ f r 0 x) Q) : AW g l d M pc L (vI x :: vR (f / 100) (some r) :: S) σ Q := by
  intro p e R s m args below meth c Z K0 K H locs ls st E hR hW hK hS hL hSt
  obtain ⟨v, w, st', hq, ⟨y, hv1, hv2⟩, ⟨hw1, hw2⟩, hSt'⟩ := SV.cons2 hSt
  subst hq hv1 hw1
  have hnb := nar_bool (x := y) (by rw [hv2]; exact hz)
  refine put_core E hW hS hF hfin hw2 hlink hd hnb.1 hnb.2 (fun H' locs' cell c1 c2 c3 c4 c5 c6 => ?_)
  rw [← c3, ← nsl_same c3 (H := H) (fun q cq hq => ?_)]
  · exact k p e R s m args below meth c Z K0 K H' locs' ls _ E hR (hW.putO hF hw2 c1 c2 c3 c4 c5 rfl rfl (fun _ _ => rfl) (off_sI σ f r 0 x) (fun _ h => by cases h) ⟨y, rfl, by rw [gI_self]; exact hv2⟩) hK c6 hL hSt'
  · by_cases e : q = r
    · subst e; rw [c1] at hq; cases hq; exact ⟨_, c2, by simp [Cell.setSlot]⟩
    · exact ⟨cq, by rw [c4 q e]; exact hq, rfl⟩
theorem aw_putJ {x : Int64} (hF : FOK f .long C nm ds fin) (hfin : fin = false ∨ (M.1.name = "<init>" ∧ M.1.cls = C)) (hlink : Cond.fieldLink M.1.cls idx C nm ds ∈ lw_use) (hd : decode M.2.1 pc = .ok (.putfield idx, 3)) (k : AW g l d M (pc + 3) L S (sJ σ f r 0 x) Q) : AW g l d M pc L (vJ x :: vR (f / 100) (some r) :: S) σ Q := by
  intro p e R s m args below meth c Z K0 K H locs ls st E hR hW hK hS hL hSt
  obtain ⟨v, w, st', hq, hv1, ⟨hw1, hw2⟩, hSt'⟩ := SV.cons2 hSt
  have hv1 : v = .long x := hv1
  subst hq hv1 hw1
  refine put_core E hW hS hF hfin hw2 hlink hd rfl rfl (fun H' locs' cell c1 c2 c3 c4 c5 c6 => ?_)
  rw [← c3, ← nsl_same c3 (H := H) (fun q cq hq => ?_)]
  · exact k p e R s m args below meth c Z K0 K H' locs' ls _ E hR (hW.putO hF hw2 c1 c2 c3 c4 c5 rfl rfl (fun _ _ => rfl) (off_sJ σ f r 0 x) (fun _ h => by cases h) (by show _ = Value.long _; rw [gJ_self])) hK c6 hL hSt'
  · by_cases e : q = r
    · subst e; rw [c1] at hq; cases hq; exact ⟨_, c2, by simp [Cell.setSlot]⟩
    · exact ⟨cq, by rw [c4 q e]; exact hq, rfl⟩
theorem VR.toXV {K : KM} {t : String} {f a i : Nat} {q : Option Nat} {v : Value} (h : VR g K (vR (CIX t) q) v) (hq : gR σ f a i = q) : XV K (.object t) σ f a i v := by
  unfold XV
  dsimp only
  rw [hq]
  cases q with
  | none => exact h
  | some q => exact h
theorem aw_putR {ci : Nat} {D : String} {x : Option Nat} (hF : FOK f (.object D) C nm ds fin) (hci : CIX D = ci) (hfin : fin = false ∨ (M.1.name = "<init>" ∧ M.1.cls = C)) (hlink : Cond.fieldLink M.1.cls idx C nm ds ∈ lw_use) (hd : decode M.2.1 pc = .ok (.putfield idx, 3)) (k : AW g l d M (pc + 3) L S (sR σ f r 0 x) Q) : AW g l d M pc L (vR ci x :: vR (f / 100) (some r) :: S) σ Q := by
  intro p e R s m args below meth c Z K0 K H locs ls st E hR hW hK hS hL hSt
  subst hci
  obtain ⟨v, w, st', hq, hv1, ⟨hw1, hw2⟩, hSt'⟩ := SV.cons2 hSt
  subst hq hw1
  have hn : narrow (.object D) v = v ∧ fits (.object D) v = true := by
    rcases VR.ref hv1 with rfl | ⟨q, rfl⟩
    · exact ⟨rfl, rfl⟩
    · exact ⟨rfl, rfl⟩
  refine put_core E hW hS hF hfin hw2 hlink hd hn.1 hn.2 (fun H' locs' cell c1 c2 c3 c4 c5 c6 => ?_)
  rw [← c3, ← nsl_same c3 (H := H) (fun q cq hq => ?_)]
  · exact k p e R s m args below meth c Z K0 K H' locs' ls _ E hR (hW.putO hF hw2 c1 c2 c3 c4 c5 rfl rfl (fun _ _ => rfl) (off_sR σ f r 0 x) (fun _ h => by cases h) (hv1.toXV (gR_self σ f r 0 x))) hK c6 hL hSt'
  · by_cases e : q = r
    · subst e; rw [c1] at hq; cases hq; exact ⟨_, c2, by simp [Cell.setSlot]⟩
    · exact ⟨cq, by rw [c4 q e]; exact hq, rfl⟩
theorem in_of {x : Int32} {i : Int} {n : Nat} (h : x.toInt = i) (h0 : 0 ≤ i) (h1 : i < n) : ¬ (x < 0 ∨ n ≤ x.toNatClampNeg) ∧ x.toNatClampNeg = i.toNat ∧ i.toNat < n := by
  have h2 : x.toNatClampNeg = i.toNat := by rw [← h]; rfl
  have h3 : i.toNat < n := by omega
  exact ⟨vp_in_iff.mpr ⟨by rw [h]; exact h0, by rw [h]; exact h1⟩, h2, h3⟩
theorem aw_iaload {i : Int} (hf : f < 9000) (ht : TYF f = .array .int) (hd : decode M.2.1 pc = .ok (.iaload, 1)) (h0 : 0 ≤ i) (h1 : i < gL σ f r) (k : AW g l d M (pc + 1) L (vI (gI σ f r i.toNat) :: S) σ Q) : AW g l d M pc L (vI i :: vA f r :: S) σ Q := by
  intro p e R s m args below meth c Z K0 K H locs ls st E hR hW hK hS hL hSt
  obtain ⟨v, w, st', hq, ⟨y, hv1, hv2⟩, hw, hSt'⟩ := SV.cons2 hSt
  obtain ⟨q, hw1, hw2⟩ := VR.arr hf hw
  subst hq hv1 hw1
  obtain ⟨t, V, e1, e2, e3, e4, e5, e6⟩ := hW.2.2.2.2 q f r hw2
  cases ht.symm.trans e1
  obtain ⟨j1, j2, j3⟩ := in_of hv2 h0 h1
  have hA := E.2.2.2.2.2.2.2.2.2.1
  obtain ⟨x, hx1, hx2⟩ := e6 _ j3
  refine W.iald (v := V y.toNatClampNeg) E.1 E.2.1 e5 ((hA _ e2).1 _ V) (fun q => by cases q) (by rw [arrV_size]; exact j1) (by rw [arrV_read]; rw [j2]; exact j3) rfl rfl hd ?_
  rw [j2, hx1]
  exact k p e R s m args below meth c Z K0 K H locs ls _ E hR hW hK hS hL ⟨⟨x, rfl, hx2⟩, hSt'⟩
theorem aw_baload {i : Int} (hf : f < 9000) (ht : TYF f = .array .boolean) (hd : decode M.2.1 pc = .ok (.baload, 1)) (h0 : 0 ≤ i) (h1 : i < gL σ f r) (k : AW g l d M (pc + 1) L (vI (gI σ f r i.toNat) :: S) σ Q) : AW g l d M pc L (vI i :: vA f r :: S) σ Q := by
  intro p e R s m args below meth c Z K0 K H locs ls st E hR hW hK hS hL hSt
  obtain ⟨v, w, st', hq, ⟨y, hv1, hv2⟩, hw, hSt'⟩ := SV.cons2 hSt
  obtain ⟨q, hw1, hw2⟩ := VR.arr hf hw
  subst hq hv1 hw1
  obtain ⟨t, V, e1, e2, e3, e4, e5, e6⟩ := hW.2.2.2.2 q f r hw2
  cases ht.symm.trans e1
  obtain ⟨j1, j2, j3⟩ := in_of hv2 h0 h1
  have hA := E.2.2.2.2.2.2.2.2.2.1
  obtain ⟨x, hx1, hx2⟩ := e6 _ j3
  refine W.zald (v := V y.toNatClampNeg) E.1 E.2.1 e5 ((hA _ e2).1 _ V) (fun q => by cases q) (by rw [arrV_size]; exact j1) (by rw [arrV_read]; rw [j2]; exact j3) rfl rfl hd ?_
  rw [j2, hx1]
  exact k p e R s m args below meth c Z K0 K H locs ls _ E hR hW hK hS hL ⟨⟨x, rfl, hx2⟩, hSt'⟩
theorem aw_laload {i : Int} (hf : f < 9000) (ht : TYF f = .array .long) (hd : decode M.2.1 pc = .ok (.laload, 1)) (h0 : 0 ≤ i) (h1 : i < gL σ f r) (k : AW g l d M (pc + 1) L (vJ (gJ σ f r i.toNat) :: S) σ Q) : AW g l d M pc L (vI i :: vA f r :: S) σ Q := by
  intro p e R s m args below meth c Z K0 K H locs ls st E hR hW hK hS hL hSt
  obtain ⟨v, w, st', hq, ⟨y, hv1, hv2⟩, hw, hSt'⟩ := SV.cons2 hSt
  obtain ⟨q, hw1, hw2⟩ := VR.arr hf hw
  subst hq hv1 hw1
  obtain ⟨t, V, e1, e2, e3, e4, e5, e6⟩ := hW.2.2.2.2 q f r hw2
  cases ht.symm.trans e1
  obtain ⟨j1, j2, j3⟩ := in_of hv2 h0 h1
  have hA := E.2.2.2.2.2.2.2.2.2.1
  have hx1 : V i.toNat = .long _ := e6 _ j3
  refine W.lald (v := V y.toNatClampNeg) E.1 E.2.1 e5 ((hA _ e2).1 _ V) (fun q => by cases q) (by rw [arrV_size]; exact j1) (by rw [arrV_read]; rw [j2]; exact j3) rfl rfl hd ?_
  rw [j2, hx1]
  exact k p e R s m args below meth c Z K0 K H locs ls _ E hR hW hK hS hL ⟨rfl, hSt'⟩
theorem aw_aaload {i : Int} {ci : Nat} {D : String} (hf : f < 9000) (ht : TYF f = .array (.object D)) (hci : CIX D = ci) (hd : decode M.2.1 pc = .ok (.aaload, 1)) (h0 : 0 ≤ i) (h1 : i < gL σ f r) (k : AW g l d M (pc + 1) L (vR ci (gR σ f r i.toNat) :: S) σ Q) : AW g l d M pc L (vI i :: vA f r :: S) σ Q := by
  intro p e R s m args below meth c Z K0 K H locs ls st E hR hW hK hS hL hSt
  subst hci
  obtain ⟨v, w, st', hq, ⟨y, hv1, hv2⟩, hw, hSt'⟩ := SV.cons2 hSt
  obtain ⟨q, hw1, hw2⟩ := VR.arr hf hw
  subst hq hv1 hw1
  obtain ⟨t, V, e1, e2, e3, e4, e5, e6⟩ := hW.2.2.2.2 q f r hw2
  cases ht.symm.trans e1
  obtain ⟨j1, j2, j3⟩ := in_of hv2 h0 h1
  have hA := E.2.2.2.2.2.2.2.2.2.1
  have hx1 := e6 _ j3
  refine W.aald (v := V y.toNatClampNeg) (ty := .object D) E.1 E.2.1 e5 ((hA _ e2).1 _ V) rfl (fun q => by cases q) (by rw [arrV_size]; exact j1) (by rw [arrV_read]; rw [j2]; exact j3) rfl rfl hd ?_
  rw [j2]
  exact k p e R s m args below meth c Z K0 K H locs ls _ E hR hW hK hS hL ⟨hx1.toVR, hSt'⟩
theorem aw_alen {n : Nat} {t : FieldType} (hf : f < 9000) (ht : TYF f = .array t) (hd : decode M.2.1 pc = .ok (.arraylength, 1)) (hn : gL σ f r = n) (hn2 : n < 2147483648) (k : AW g l d M (pc + 1) L (vI (n : Int) :: S) σ Q) : AW g l d M pc L (vA f r :: S) σ Q := by
  intro p e R s m args below meth c Z K0 K H locs ls st E hR hW hK hS hL hSt
  obtain ⟨w, st', hq, hw, hSt'⟩ := SV.cons hSt
  obtain ⟨q, hw1, hw2⟩ := VR.arr hf hw
  subst hq hw1 hn
  obtain ⟨t, V, e1, e2, e3, e4, e5, e6⟩ := hW.2.2.2.2 q f r hw2
  have hA := E.2.2.2.2.2.2.2.2.2.1
  refine W.alen (n := Int32.ofNat (gL σ f r)) E.1 E.2.1 e5 ((hA _ e2).1 _ V) (by rw [arrV_size]) rfl rfl hd ?_
  refine k p e R s m args below meth c Z K0 K H locs ls _ E hR hW hK hS hL ⟨⟨_, rfl, ?_⟩, hSt'⟩
  exact nI_toInt hn2
theorem ast_nsl {H H' : Heap} {q : Nat} {c : Cell} {j : Nat} {v : Value} (hc : H[q]? = some c) (e : H'[q]? = some (c.setSlot j v)) (z : H'.size = H.size) (oq : ∀ q' : Nat, q' ≠ q → H'[q']? = H[q']?) (n : Nat) : nsl H' n = nsl H n := by
  refine nsl_same z (fun q' cq hq => ?_) n
  by_cases e' : q' = q
  · subst e'; rw [hc] at hq; cases hq; exact ⟨_, e, by simp [Cell.setSlot]⟩
  · exact ⟨cq, by rw [oq q' e']; exact hq, rfl⟩
theorem aw_iastore {i x : Int} (hf : f < 9000) (ht : TYF f = .array .int) (hd : decode M.2.1 pc = .ok (.iastore, 1)) (h0 : 0 ≤ i) (h1 : i < gL σ f r) (k : AW g l d M (pc + 1) L S (sI σ f r i.toNat x) Q) : AW g l d M pc L (vI x :: vI i :: vA f r :: S) σ Q := by
  intro p e R s m args below meth c Z K0 K H locs ls st E hR hW hK hS hL hSt
  obtain ⟨u, v, w, st', hq, ⟨z, hu1, hu2⟩, ⟨y, hv1, hv2⟩, hw, hSt'⟩ := SV.cons3 hSt
  obtain ⟨q, hw1, hw2⟩ := VR.arr hf hw
  subst hq hu1 hv1 hw1
  obtain ⟨t, V, e1, e2, e3, e4, e5, e6⟩ := hW.2.2.2.2 q f r hw2
  cases ht.symm.trans e1
  obtain ⟨j1, j2, j3⟩ := in_of hv2 h0 h1
  have hA := E.2.2.2.2.2.2.2.2.2.1
  refine W.iast E.1 E.2.1 e5 ((hA _ e2).1 _ V) (fun q => by cases q) (by rw [arrV_size]; exact j1) rfl rfl hd fun H' b1 b2 b3 => ?_
  rw [← b2, ← ast_nsl e5 b1 b2 b3]
  rw [j2] at b1
  exact k p e R s m args below meth c Z K0 K H' _ ls _ E hR (hW.putA ht hw2 e5 e6 b1 b2 b3 rfl rfl (fun _ _ => rfl) (off_sI σ f r _ x) ⟨z, rfl, by rw [gI_self]; exact hu2⟩) hK (hS.put b2 b3 (hW.2.1 q _ hw2).1) hL hSt'
theorem aw_bastore {i x : Int} (hf : f < 9000) (ht : TYF f = .array .boolean) (hd : decode M.2.1 pc = .ok (.bastore, 1)) (hz : x = 0 ∨ x = 1) (h0 : 0 ≤ i) (h1 : i < gL σ f r) (k : AW g l d M (pc + 1) L S (sI σ f r i.toNat x) Q) : AW g l d M pc L (vI x :: vI i :: vA f r :: S) σ Q := by
  intro p e R s m args below meth c Z K0 K H locs ls st E hR hW hK hS hL hSt
  obtain ⟨u, v, w, st', hq, ⟨z, hu1, hu2⟩, ⟨y, hv1, hv2⟩, hw, hSt'⟩ := SV.cons3 hSt
  obtain ⟨q, hw1, hw2⟩ := VR.arr hf hw
  subst hq hu1 hv1 hw1
  obtain ⟨t, V, e1, e2, e3, e4, e5, e6⟩ := hW.2.2.2.2 q f r hw2
  cases ht.symm.trans e1
  obtain ⟨j1, j2, j3⟩ := in_of hv2 h0 h1
  have hA := E.2.2.2.2.2.2.2.2.2.1
  refine W.zast E.1 E.2.1 e5 ((hA _ e2).1 _ V) (fun q => by cases q) (by rw [arrV_size]; exact j1) rfl rfl hd fun H' b1 b2 b3 => ?_
  rw [← b2, ← ast_nsl e5 b1 b2 b3]
  rw [j2, (nar_bool (by rw [hu2]; exact hz)).1] at b1
  exact k p e R s m args below meth c Z K0 K H' _ ls _ E hR (hW.putA ht hw2 e5 e6 b1 b2 b3 rfl rfl (fun _ _ => rfl) (off_sI σ f r _ x) ⟨z, rfl, by rw [gI_self]; exact hu2⟩) hK (hS.put b2 b3 (hW.2.1 q _ hw2).1) hL hSt'
theorem aw_lastore {i : Int} {x : Int64} (hf : f < 9000) (ht : TYF f = .array .long) (hd : decode M.2.1 pc = .ok (.lastore, 1)) (h0 : 0 ≤ i) (h1 : i < gL σ f r) (k : AW g l d M (pc + 1) L S (sJ σ f r i.toNat x) Q) : AW g l d M pc L (vJ x :: vI i :: vA f r :: S) σ Q := by
  intro p e R s m args below meth c Z K0 K H locs ls st E hR hW hK hS hL hSt
  obtain ⟨u, v, w, st', hq, hu1, ⟨y, hv1, hv2⟩, hw, hSt'⟩ := SV.cons3 hSt
  obtain ⟨q, hw1, hw2⟩ := VR.arr hf hw
  have hu1 : u = .long x := hu1
  subst hq hu1 hv1 hw1
  obtain ⟨t, V, e1, e2, e3, e4, e5, e6⟩ := hW.2.2.2.2 q f r hw2
  cases ht.symm.trans e1
  obtain ⟨j1, j2, j3⟩ := in_of hv2 h0 h1
  have hA := E.2.2.2.2.2.2.2.2.2.1
  refine W.last E.1 E.2.1 e5 ((hA _ e2).1 _ V) (fun q => by cases q) (by rw [arrV_size]; exact j1) rfl rfl hd fun H' b1 b2 b3 => ?_
  rw [← b2, ← ast_nsl e5 b1 b2 b3]
  rw [j2] at b1
  exact k p e R s m args below meth c Z K0 K H' _ ls _ E hR (hW.putA ht hw2 e5 e6 b1 b2 b3 rfl rfl (fun _ _ => rfl) (off_sJ σ f r _ x) (by show _ = Value.long _; rw [gJ_self])) hK (hS.put b2 b3 (hW.2.1 q _ hw2).1) hL hSt'
theorem aw_aastore {i : Int} {ci n : Nat} {D : String} (hf : f < 9000) (ht : TYF f = .array (.object D)) (hci : CIX D = ci) (hcl : (vwCl[ci]?).map (·.1) = some D) (hd : decode M.2.1 pc = .ok (.aastore, 1)) (h0 : 0 ≤ i) (h1 : i < gL σ f r) (k : AW g l d M (pc + 1) L S (sR σ f r i.toNat (some n)) Q) : AW g l d M pc L (vR ci (some n) :: vI i :: vA f r :: S) σ Q := by
  intro p e R s m args below meth c Z K0 K H locs ls st E hR hW hK hS hL hSt
  obtain ⟨u, v, w, st', hq, hu, ⟨y, hv1, hv2⟩, hw, hSt'⟩ := SV.cons3 hSt
  obtain ⟨q, hw1, hw2⟩ := VR.arr hf hw
  obtain ⟨hu1, hu2⟩ := hu
  subst hq hu1 hv1 hw1
  obtain ⟨t, V, e1, e2, e3, e4, e5, e6⟩ := hW.2.2.2.2 q f r hw2
  cases ht.symm.trans e1
  obtain ⟨j1, j2, j3⟩ := in_of hv2 h0 h1
  have hA := E.2.2.2.2.2.2.2.2.2.1
  have hKK := E.2.2.2.2.2.2.2.2.1
  obtain ⟨r', V', o1, ⟨cellV, g1, g2, g3, -⟩, -⟩ := hW.2.2.2.1 n ci hu2
  have hD : r'.1 = D := by rw [o1] at hcl; simpa using hcl
  have hcls := (hKK.1 ci r' o1).2
  obtain ⟨kA, comp, k1, k2, k3, -⟩ := (hA _ e2).2
  have hcomp : comp = (gD g).1 ci := by rw [← hD] at k3; exact Option.some.inj (k3.symm.trans hcls.1)
  subst hcomp
  obtain ⟨kC, hkC, -⟩ := hcls.2
  refine W.aast E.1 E.2.1 e5 (fun q h => by cases h) (fun h => by cases h) k1 k2 rfl hkC ⟨fun z => j1 (Or.inl z), by rw [arrV_size, j2]; exact j3⟩ g1 (fun q h => by rw [g3] at h; cases h) (by rw [g2]; exact hkC) (by rw [g2]; exact va_assign hcls) rfl rfl hd fun H' b1 b2 b3 => ?_
  rw [← b2, ← ast_nsl e5 b1 b2 b3]
  rw [j2] at b1
  exact k p e R s m args below meth c Z K0 K H' _ ls _ E hR (hW.putA ht hw2 e5 e6 b1 b2 b3 rfl rfl (fun _ _ => rfl) (off_sR σ f r _ (some n)) (VR.toXV (g := g) (q := some n) ⟨rfl, by rw [hci]; exact hu2⟩ (gR_self σ f r _ (some n)))) hK (hS.put b2 b3 (hW.2.1 q _ hw2).1) hL hSt'
end R3
