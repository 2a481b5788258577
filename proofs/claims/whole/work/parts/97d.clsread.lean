/-! the class lays: what is read, what is given -/
section N4
variable {g : GP} {l : Launch} {d : Nat} {σ σ' : St} {tr a dd c rk H Z i k fr : Nat} {no : Nat → Nat} {so : Nat → Nat} {fo : Nat → Nat → Nat} {En : List Enm} {Ss : List Stc} {s : TS} {h : Int → Int} {len : Int} {Own : Nat → Prop} {F : Fld}
theorem TrC.w {f : Nat} {v : Int} (hT : TrC σ tr no fo Ss Own H Z s) (hk : k < s.c) (hf : f = 2 ∨ f = 3 ∨ f = 4) : TrC (sI σ (501 + f) (no k) 0 v) tr no fo Ss Own H Z (s.w f k v) := by
  have inj := fun j j' => hT.inj (j := j) (j' := j')
  obtain ⟨⟨t1, t2, t3⟩, t4, t5, t6, t7, t8, t9⟩ := hT
  have o : ∀ f' r, ¬ (f' = 501 + f ∧ r = no k) → gI (sI σ (501 + f) (no k) 0 v) f' r 0 = gI σ f' r 0 := fun f' r z => by rw [gI_sI, if_neg (fun q => z ⟨q.1, q.2.1⟩)]
  refine ⟨⟨by rw [o _ _ (by omega)]; exact t1, by rw [o _ _ (by omega)]; exact t2, t3⟩, t4, fun j r hj hr => ?_, fun i hi => ?_, fun i hi => ?_, t8, t9⟩
  · rw [o _ _ (by omega)]; exact t5 j r hj hr
  · obtain ⟨⟨n1, n2, n3, n4, n5, n6, n7, n8, n9, n10, n11, n12, n13, n14⟩, nn⟩ := t6 i hi
    refine ⟨?_, by rw [w_ne (by omega)]; exact nn⟩
    by_cases e : i = k
    · subst e
      have dN : ∀ f', ¬ f' = f → (s.w f i v).d f' i = s.d f' i := fun f' z => w_ne z
      have gN : ∀ f', ¬ f' = 501 + f → gI (sI σ (501 + f) (no i) 0 v) f' (no i) 0 = gI σ f' (no i) 0 := fun f' z => o f' _ (fun q => z q.1)
      rcases hf with rfl | rfl | rfl
      · exact ⟨by rw [gN 501 (by decide), dN 0 (by decide)]; exact n1, by rw [gN 502 (by decide), dN 1 (by decide)]; exact n2, by rw [gI_slf, w_at], by rw [gN 504 (by decide), dN 3 (by decide)]; exact n4, by rw [gN 505 (by decide), dN 4 (by decide)]; exact n5, by rw [dN 5 (by decide)]; exact n6, by rw [dN 6 (by decide)]; exact n7, by rw [gN 514 (by decide), dN 7 (by decide)]; exact n8, by rw [gN 511 (by decide)]; exact n9, n10, n11, n12, by rw [gN 512 (by decide), dN 9 (by decide)]; exact n13, fun q F e hF he => by rw [dN 0 (by decide)] at q; rw [dN 6 (by decide)] at hF; rw [dN 8 (by decide)] at he; rw [gN 515 (by decide), gN 516 (by decide)]; exact n14 q F e hF he⟩
      · exact ⟨by rw [gN 501 (by decide), dN 0 (by decide)]; exact n1, by rw [gN 502 (by decide), dN 1 (by decide)]; exact n2, by rw [gN 503 (by decide), dN 2 (by decide)]; exact n3, by rw [gI_slf, w_at], by rw [gN 505 (by decide), dN 4 (by decide)]; exact n5, by rw [dN 5 (by decide)]; exact n6, by rw [dN 6 (by decide)]; exact n7, by rw [gN 514 (by decide), dN 7 (by decide)]; exact n8, by rw [gN 511 (by decide)]; exact n9, n10, n11, n12, by rw [gN 512 (by decide), dN 9 (by decide)]; exact n13, fun q F e hF he => by rw [dN 0 (by decide)] at q; rw [dN 6 (by decide)] at hF; rw [dN 8 (by decide)] at he; rw [gN 515 (by decide), gN 516 (by decide)]; exact n14 q F e hF he⟩
      · exact ⟨by rw [gN 501 (by decide), dN 0 (by decide)]; exact n1, by rw [gN 502 (by decide), dN 1 (by decide)]; exact n2, by rw [gN 503 (by decide), dN 2 (by decide)]; exact n3, by rw [gN 504 (by decide), dN 3 (by decide)]; exact n4, by rw [gI_slf, w_at], by rw [dN 5 (by decide)]; exact n6, by rw [dN 6 (by decide)]; exact n7, by rw [gN 514 (by decide), dN 7 (by decide)]; exact n8, by rw [gN 511 (by decide)]; exact n9, n10, n11, n12, by rw [gN 512 (by decide), dN 9 (by decide)]; exact n13, fun q F e hF he => by rw [dN 0 (by decide)] at q; rw [dN 6 (by decide)] at hF; rw [dN 8 (by decide)] at he; rw [gN 515 (by decide), gN 516 (by decide)]; exact n14 q F e hF he⟩
    · have dI : ∀ f', (s.w f k v).d f' i = s.d f' i := fun f' => w_nk e
      have gO : ∀ f', gI (sI σ (501 + f) (no k) 0 v) f' (no i) 0 = gI σ f' (no i) 0 := fun f' => o f' _ (fun q => e (inj i k hi hk q.2))
      unfold NdC
      simp only [dI, gO]
      exact ⟨n1, n2, n3, n4, n5, n6, n7, n8, n9, n10, n11, n12, n13, n14⟩
  · rw [w_ne (by omega)]; exact t7 i hi
theorem TrC.frm {Q : Nat → Nat → Prop} (hT : TrC σ tr no fo Ss Own H Z s) (hF : Frm Q σ σ') (n : ∀ f r, (500 ≤ f ∧ f ≤ 516) ∨ f = 1003 ∨ f = 1004 ∨ f = 1005 → ¬ Q f r) : TrC σ' tr no fo Ss Own H Z s := by
  obtain ⟨⟨t1, t2, t3⟩, t4, t5, t6, t7, t8, t9⟩ := hT
  refine ⟨⟨by rw [hF.I (n _ _ (by omega))]; exact t1, by rw [hF.I (n _ _ (by omega))]; exact t2, t3⟩, fun j hj => by rw [hF.R (n _ _ (by omega))]; exact t4 j hj, fun j r hj hr => ?_, fun i hi => ⟨(t6 i hi).1.ag (fun f r j f0 f1 => hF.2.2.2 f r (n f r (by omega)) j), by rw [hF.J (n _ _ (by omega))]; exact (t6 i hi).2⟩, t7, by rw [hF.2.1]; exact t8, by rw [hF.2.2.1]; exact t9⟩
  rw [hF.R (n _ _ (by omega))] at hr
  rw [hF.I (n _ _ (by omega)), hF.2.1]
  exact t5 j r hj hr
theorem TrC.own (hT : TrC σ tr no fo Ss Own H Z s) (hk : k < s.c) : Own (no k) := (hT.2.2.1 k (no k) (by have := hT.1.2.2; omega) (hT.2.1 k hk)).2.1
theorem TrC.fw {f : Nat} {v : Int} (hT : TrC σ tr no fo Ss Own H Z s) (hk : k < s.c) (h0 : 501 ≤ f) (h1 : f ≤ 516) : Fr (LyF tr rk Own) σ (sI σ f (no k) 0 v) := (Frm.sI (LyF.o (hT.own hk) h0 h1)).fr
theorem TrC.gar (hT : TrC σ tr no fo Ss Own H Z s) : TrG (sI σ 1005 tr 0 1) tr Own H Z := by
  obtain ⟨⟨t1, t2, t3⟩, t4, t5, t6, t7, t8, t9⟩ := hT
  refine ⟨gI_slf _ _ _ _ _, fun j r hj hr => ?_, ?_, ?_⟩
  · rw [gI_sI, if_neg (by simp)]; exact t5 j r hj hr
  · show hs σ ≤ _; omega
  · show sl σ ≤ _; omega
theorem TrG.w {f r : Nat} {v : Int} (hT : TrG σ tr Own H Z) (h0 : 501 ≤ f) (h1 : f ≤ 516) : TrG (sI σ f r 0 v) tr Own H Z := by
  obtain ⟨t1, t2, t3, t4⟩ := hT
  refine ⟨by rw [gI_sI, if_neg (by omega)]; exact t1, fun j r' hj hr => ?_, t3, t4⟩
  rw [gI_sI, if_neg (by omega)]; exact t2 j r' hj hr
theorem EnC.fdc (hE : EnC σ tr a dd c rk so fo En Ss len h Own) : FdC σ dd c fo Ss := fun fl F hF => by
  obtain ⟨_, S, hS, hk⟩ := gF_some hF
  exact (hE.2.2.2.1.1.2.2.2.2.2 _ S hS).2.2.2.2 _ F hk
theorem EnC.evc (hE : EnC σ tr a dd c rk so fo En Ss len h Own) (hT : TrC σ tr no fo Ss Own H Z s) (hI : TI Ss len s) (hU : TU Ss len s) : EvC σ a dd c so fo no Ss s len h := by
  obtain ⟨_, ⟨b1, b2, b3, b4, b5⟩, c1, _⟩ := id hE
  exact ⟨⟨b1, b2, b3, b4⟩, c1.2.2.2.1, hE.fdc, fun a' ha => (hT.2.2.2.1 a' ha).1, fun a' ha => ⟨hI.ndw hU ha, (hI.ndw hU ha).2.2.2.1, fun x hx => ((hI.2 a' ha).2.1.2.1 x hx).1⟩⟩
theorem nmo_of {S : Stc} {kk : Nat} {N : List Nd} (hS : Ss[(s.d 7 i).toNat]? = some S) (h7 : 0 ≤ s.d 7 i) (h14 : S.2.1.length ≤ 14) (hX : XN (S.2.1.take kk) (some N)) : ∀ x ∈ N, x.o = 2 → NmO Ss s i x.v.toInt := by
  intro x hx ho
  obtain ⟨c0, c1, F, hF, hk⟩ := hX N rfl x hx ho
  have hF' : S.2.1[(x.v.toInt / 13).toNat]? = some F := by
    rw [List.getElem?_take] at hF
    by_cases q : (x.v.toInt / 13).toNat < kk
    · rw [if_pos q] at hF; exact hF
    · rw [if_neg q] at hF; cases hF
  have lt := (List.getElem?_eq_some_iff.mp hF').1
  have g1 := gF_at hS hF' (by omega)
  rw [show (((s.d 7 i).toNat : Nat) : Int) = s.d 7 i by omega, show (((x.v.toInt / 13).toNat : Nat) : Int) = x.v.toInt / 13 by omega] at g1
  refine ⟨⟨c0, c1⟩, by omega, fun F' hF2 => ?_⟩
  rw [g1] at hF2
  cases hF2
  rcases hk with z | z
  · exact Or.inl z.1
  · exact Or.inr z.1
/-- an expr is worked out in struct i -/
theorem x_ev {N : List Nd} {at_ here : Int} {P : Int64 → St → Prop} (hE : EnC σ tr a dd c rk so fo En Ss len h Own) (hT : TrC σ tr no fo Ss Own H Z s) (hI : TI Ss len s) (hU : TU Ss len s) (hi : i < s.c) (h0' : s.d 0 i = 0) (hxc : XC σ c at_ (some N)) (hw : WFx (some N)) (hhere : 0 ≤ here ∧ here ≤ len) (hx : ∀ x ∈ N, x.o = 2 → NmO Ss s i x.v.toInt) (h20 : Ss.length ≤ 20)
    (h1 : ∀ v, evE here len (s.d 1 i) (nmV Ss h s i) N = some v → ∀ σ', Fr (LyF tr rk Own) σ σ' → Frm (RkF rk) σ σ' → TrC σ' tr no fo Ss Own H Z s → gI σ' 700 rk 0 = 0 → P v σ') (h0 : evE here len (s.d 1 i) (nmV Ss h s i) N = none → ∀ v σ', Fr (LyF tr rk Own) σ σ' → Frm (RkF rk) σ σ' → TrC σ' tr no fo Ss Own H Z s → gI σ' 700 rk 0 = 1 → P v σ') :
    ACj g l (d + 4) MX7_work [vR 7 (some rk), vR 0 (some c), vI at_, vR 5 (some (no i)), vI here, vR 3 (some a)] σ P := by
  have hE' := hE.evc hT hI hU
  obtain ⟨⟨_, _, _, _, _, lk, _⟩, _, c1, ⟨_, d2, _⟩, _⟩ := hE
  obtain ⟨nb, x1, x2, x3, x4⟩ := hxc
  obtain ⟨⟨_, _, _, v4, _⟩, _, vb, _⟩ := hI.2 i hi
  have v7 := v4 h0'
  rw [x1]
  have fr : ∀ σ', Frm (RkF rk) σ σ' → Fr (LyF tr rk Own) σ σ' := fun σ' hF => (hF.mono (fun f r q => Or.inr (Or.inl q))).fr
  have tc : ∀ σ', Frm (RkF rk) σ σ' → TrC σ' tr no fo Ss Own H Z s := fun σ' hF => hT.frm hF (fun f r z q => by omega)
  exact x_work lk c1.2.2.1 x3 x4 x2 d2 hw hE' hi (vb h0') ⟨v7.1, by omega⟩ hhere (fun x hx' ho => (hx x hx' ho).1) (fun v hv σ' hF h7 => h1 v hv σ' (fr σ' hF) hF (tc σ' hF) h7) (fun hv v σ' hF h7 => h0 hv v σ' (fr σ' hF) hF (tc σ' hF) h7)
theorem thr_n (ec : F.ec = none) : thr Ss h len s i F = (s, true) := by unfold thr; rw [ec]
theorem thr_f {N : List Nd} (ec : F.ec = some N) (hv : evE (s.d 2 i) len (s.d 1 i) (nmV Ss h s i) N = none) : thr Ss h len s i F = (if s.d 3 i = 0 then s.w 3 i 6 else s, false) := by
  unfold thr; rw [ec]; show (match evE (s.d 2 i) len (s.d 1 i) (nmV Ss h s i) N with
    | none => (if s.d 3 i = 0 then s.w 3 i 6 else s, false)
    | some v => (s, decide (¬ v = 0))) = _
  rw [hv]
theorem thr_v {N : List Nd} {v : Int64} (ec : F.ec = some N) (hv : evE (s.d 2 i) len (s.d 1 i) (nmV Ss h s i) N = some v) : thr Ss h len s i F = (s, decide (¬ v = 0)) := by
  unfold thr; rw [ec]; show (match evE (s.d 2 i) len (s.d 1 i) (nmV Ss h s i) N with
    | none => (if s.d 3 i = 0 then s.w 3 i 6 else s, false)
    | some v => (s, decide (¬ v = 0))) = _
  rw [hv]
theorem x_isThere {P : Int → St → Prop} (hE : EnC σ tr a dd c rk so fo En Ss len h Own) (hT : TrC σ tr no fo Ss Own H Z s) (hI : TI Ss len s) (hU : TU Ss len s) (hi : i < s.c) (h0' : s.d 0 i = 0) (hfc : FC σ dd c fr F) (hw : WFx F.ec) (hx : ∀ N, F.ec = some N → ∀ x ∈ N, x.o = 2 → NmO Ss s i x.v.toInt) (h20 : Ss.length ≤ 20)
    (hP : ∀ σ', Fr (LyF tr rk Own) σ σ' → TrC σ' tr no fo Ss Own H Z (thr Ss h len s i F).1 → P (if (thr Ss h len s i F).2 = true then 1 else 0) σ') : ACi g l (d + 5) MX10_isThere [vR 10 (some tr), vR 2 (some fr), vR 5 (some (no i))] σ P := by
  obtain ⟨⟨e1, e2, e3, _⟩, _, c1, _⟩ := id hE
  have xc := hfc.ec
  refine AC.of mo_X10_isThere (Nat.le_of_ble_eq_true rfl) (bk_X10_isThere_0 ⟨fr, rfl, fun z => ?_, fun z => ?_⟩)
  · cases ec : F.ec with
    | none => rw [ec] at xc; exact absurd xc z
    | some N =>
      rw [ec] at xc hw
      refine ⟨dd, e2, no i, rfl, rk, e3, ?_⟩
      rw [c1.2.1, e1, (hT.2.2.2.1 i hi).1.2.2.1]
      have rk1007 : ∀ σ', Frm (RkF rk) σ σ' → gR σ' 1007 tr 0 = some rk := fun σ' hF => by rw [hF.R (fun q => by omega)]; exact e3
      obtain ⟨⟨v1, _⟩, _⟩ := hI.2 i hi
      refine x_ev hE hT hI hU hi h0' xc hw ⟨by omega, by omega⟩ (hx N ec) h20 (fun v hv σ' f1 f2 t1 z7 => ?_) (fun hv v σ' f1 f2 t1 z7 => ?_)
      · rw [thr_v ec hv] at hP
        refine ⟨rk, rk1007 σ' f2, fun _ => bk_X10_isThere_61 ⟨rk, rk1007 σ' f2, fun w => absurd z7 w, fun _ => ⟨fun w => ⟨_, rfl, ?_⟩, fun w => ⟨_, rfl, ?_⟩⟩⟩, fun w => absurd z7 w⟩
        · have := hP σ' f1 t1; rw [if_neg (by simp [w])] at this; exact this
        · have := hP σ' f1 t1; rw [if_pos (by simp [w])] at this; exact this
      · rw [thr_f ec hv] at hP
        have hP : ∀ σ', Fr (LyF tr rk Own) σ σ' → TrC σ' tr no fo Ss Own H Z (if s.d 3 i = 0 then s.w 3 i 6 else s) → P 0 σ' := hP
        have n4 := (t1.2.2.2.1 i hi).1.2.2.2.1
        refine ⟨rk, rk1007 σ' f2, fun w => by omega, fun _ => ?_⟩
        rw [n4]
        refine ⟨fun w => bk_X10_isThere_61 ⟨rk, rk1007 σ' f2, fun _ => ⟨_, rfl, hP σ' f1 (by rw [if_neg w]; exact t1)⟩, fun u => by omega⟩, fun w => bk_X10_isThere_61 ⟨rk, rk1007 σ' f2, fun _ => ⟨_, rfl, hP _ (f1.trans (t1.fw hi (by decide) (by decide))) (by rw [if_pos w]; exact t1.w (f := 3) hi (by omega))⟩, fun u => ?_⟩⟩
        rw [gI_sI, if_neg (by simp)] at u
        omega
  · cases ec : F.ec with
    | none =>
      rw [thr_n ec] at hP
      exact ⟨_, rfl, hP σ Fr.rfl hT⟩
    | some N =>
      rw [ec] at xc
      obtain ⟨nb, x1, _⟩ := xc
      omega
theorem x_cover {n : Int} {P : Int → St → Prop} (hE : EnC σ tr a dd c rk so fo En Ss len h Own) (hT : TrC σ tr no fo Ss Own H Z s) (hk : k < s.c) (hb : 0 ≤ s.d 1 k ∧ s.d 1 k ≤ len) (hn : 0 ≤ n)
    (h1 : n ≤ len - s.d 1 k → ∀ σ', Fr (LyF tr rk Own) σ σ' → TrC σ' tr no fo Ss Own H Z (s.w 2 k (s.d 1 k + n)) → P 1 σ') (h0 : ¬ n ≤ len - s.d 1 k → ∀ σ', Fr (LyF tr rk Own) σ σ' → TrC σ' tr no fo Ss Own H Z (s.w 3 k 1) → P 0 σ') : ACi g l d MX10_cover [vR 10 (some tr), vR 5 (some (no k)), vI n] σ P := by
  obtain ⟨⟨e1, _⟩, ⟨_, b2, b3, _⟩, _⟩ := hE
  have n2 := (hT.2.2.2.1 k hk).1.2.1
  refine AC.of mo_X10_cover (Nat.le_of_ble_eq_true rfl) (bk_X10_cover_0 ⟨a, e1, no k, rfl, ?_⟩)
  rw [b2, n2]
  exact ⟨⟨by omega, by omega⟩, fun z => ⟨⟨by omega, by omega⟩, _, rfl, h1 z _ (hT.fw hk (by decide) (by decide)) (hT.w (f := 2) hk (by omega))⟩, fun z => ⟨_, rfl, h0 z _ (hT.fw hk (by decide) (by decide)) (hT.w (f := 3) hk (by omega))⟩⟩
/-- how many, or a fault -/
theorem x_amount {N : List Nd} {most : Int} {P : Int → St → Prop} (hE : EnC σ tr a dd c rk so fo En Ss len h Own) (hT : TrC σ tr no fo Ss Own H Z s) (hI : TI Ss len s) (hU : TU Ss len s) (hi : i < s.c) (h0' : s.d 0 i = 0) (hk : k < s.c) (h5 : s.d 5 k = (i : Int)) (hfc : FC σ dd c fr F) (e1 : F.e1 = some N) (hw : WFx F.e1) (hx : ∀ x ∈ N, x.o = 2 → NmO Ss s i x.v.toInt) (h20 : Ss.length ≤ 20) (hm : 0 ≤ most ∧ most ≤ 2000)
    (h6 : evE (s.d 1 k) len (s.d 1 i) (nmV Ss h s i) N = none → ∀ σ', Fr (LyF tr rk Own) σ σ' → TrC σ' tr no fo Ss Own H Z (s.w 3 k 6) → P (-1) σ')
    (hb : ∀ v, evE (s.d 1 k) len (s.d 1 i) (nmV Ss h s i) N = some v → v.toInt < 0 ∨ most < v.toInt → ∀ σ', Fr (LyF tr rk Own) σ σ' → TrC σ' tr no fo Ss Own H Z (s.w 3 k 5) → P (-1) σ')
    (h1 : ∀ v, evE (s.d 1 k) len (s.d 1 i) (nmV Ss h s i) N = some v → ¬ (v.toInt < 0 ∨ most < v.toInt) → ∀ σ', Fr (LyF tr rk Own) σ σ' → TrC σ' tr no fo Ss Own H Z s → P v.toInt σ') : ACi g l (d + 5) MX10_amount [vR 10 (some tr), vR 5 (some (no k)), vR 2 (some fr), vI most] σ P := by
  obtain ⟨⟨q1, q2, q3, _⟩, _, c1, _⟩ := id hE
  have xc := hfc.e1
  rw [e1] at xc hw
  obtain ⟨⟨v1, _⟩, _⟩ := hI.2 k hk
  obtain ⟨⟨n1, n2, n3, n4, n5, n6, _⟩, _⟩ := hT.2.2.2.1 k hk
  have op : oN no (s.d 5 k) = some (no i) := by unfold oN; rw [h5, if_neg (by omega), Int.toNat_natCast]
  refine AC.of mo_X10_amount (Nat.le_of_ble_eq_true rfl) (bk_X10_amount_0 ⟨dd, q2, fr, rfl, no k, rfl, rk, q3, ?_⟩)
  rw [c1.2.1, q1, n6, n2, op]
  have rk1007 : ∀ σ', Frm (RkF rk) σ σ' → gR σ' 1007 tr 0 = some rk := fun σ' hF => by rw [hF.R (fun q => by omega)]; exact q3
  have im : (i2j most).toInt = most := by rw [i2j_toInt, w32_id (by omega) (by omega)]
  have z0 : (0 : Int64).toInt = 0 := by decide
  refine x_ev hE hT hI hU hi h0' xc hw ⟨by omega, by omega⟩ hx h20 (fun v hv σ' f1 f2 t1 z7 => ⟨rk, rk1007 σ' f2, fun _ => ?_, fun w => absurd z7 w⟩) (fun hv v σ' f1 f2 t1 z7 => ⟨rk, rk1007 σ' f2, fun w => by omega, fun _ => ⟨_, rfl, h6 hv _ (f1.trans (t1.fw hk (by decide) (by decide))) (t1.w (f := 3) hk (by omega))⟩⟩)
  rw [im, z0]
  refine ⟨fun w => ⟨_, rfl, hb v hv (Or.inl w) _ (f1.trans (t1.fw hk (by decide) (by decide))) (t1.w (f := 3) hk (by omega))⟩, fun w => ⟨fun u => ⟨_, rfl, ?_⟩, fun u => ⟨_, rfl, hb v hv (Or.inr (by omega)) _ (f1.trans (t1.fw hk (by decide) (by decide))) (t1.w (f := 3) hk (by omega))⟩⟩⟩
  have := h1 v hv (by omega) σ' f1 t1
  rw [j2i_eq, w32_id (by omega) (by omega)]
  exact this
end N4
