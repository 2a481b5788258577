/-! addNode -/
section N3
variable {g : GP} {l : Launch} {d : Nat} {σ σ' : St} {tr a dd c rk H Z i k : Nat} {no : Nat → Nat} {so : Nat → Nat} {fo : Nat → Nat → Nat} {En : List Enm} {Ss : List Stc} {s : TS} {h : Int → Int} {len : Int} {Own : Nat → Prop}
/-- where a node that is made writes -/
def MkW (tr r : Nat) (no : Nat → Nat) (s : TS) (par : Int) (f r' : Nat) : Prop := (r' = r ∧ 501 ≤ f ∧ f ≤ 516) ∨ (∃ p : Nat, par = (p : Int) ∧ r' = no p ∧ (f = 508 ∨ f = 509 ∨ f = 511)) ∨ (∃ p : Nat, par = (p : Int) ∧ (s.k p).getLast?.map no = some r' ∧ f = 510) ∨ (r' = tr ∧ f = 1004)
theorem oN_some {v : Int} {r : Nat} (e : oN no v = some r) : ∃ p : Nat, v = (p : Int) ∧ r = no p := by
  unfold oN at e
  by_cases q : v < 0
  · rw [if_pos q] at e; cases e
  · rw [if_neg q] at e; cases e; exact ⟨v.toNat, by omega, rfl⟩
theorem oN_none {v : Int} (e : oN no v = none) : v < 0 := by
  unfold oN at e
  by_cases q : v < 0
  · exact q
  · rw [if_neg q] at e; cases e
theorem x_addNode {par what place fld u2 u7 u8 : Int} {nm : Int64} {P : Option Nat → St → Prop} (hE : EnC σ tr a dd c rk so fo En Ss len h Own) (hT : TrC σ tr no fo Ss Own H Z s) (hK : ∀ i, i < s.c → NdK s i) (hp : -1 ≤ par ∧ par < s.c) (hR : H + 400 ≤ gB g + 600000 ∧ Z + 6800 ≤ 7302250)
    (h0 : ¬ s.c < 400 → P none (sI σ 1005 tr 0 1))
    (h1 : s.c < 400 → ∀ σ' r, Fr (LyF tr rk Own) σ σ' → r < hs σ' → Own r → gI σ' 503 r 0 = place → gI σ' 514 r 0 = -1 → (∀ σ'', Frm (fun f r' => r' = r ∧ (f = 503 ∨ f = 514 ∨ f = 515 ∨ f = 516)) σ' σ'' → gI σ'' 503 r 0 = u2 → gI σ'' 514 r 0 = u7 → (what = 4 → ∀ F e, gF Ss fld = some F → F.es[(u8 - 1).toNat]? = some e → gI σ'' 515 r 0 = e.2.2 ∧ gI σ'' 516 r 0 = e.2.1.toInt) → TrC σ'' tr (noA no s.c r) fo Ss Own H Z (mkM s what par place fld u2 u7 u8 nm)) → P (some r) σ') :
    ACr g l (d + 2) MX10_addNode 5 [vR 10 (some tr), vR 5 (oN no par), vI what, vI place, vJ nm, vR 2 (oF fo fld)] σ P := by
  have hT' := hT
  obtain ⟨⟨t1, t2, t3⟩, t4, t5, t6, t7, t8, t9⟩ := hT
  obtain ⟨⟨_, _, _, lc, trh, _, _⟩, _⟩ := id hE
  have s49 : s.c < 400 → ∀ (τ : St) (r : Nat), Fr (LyF tr rk Own) σ τ → gI τ 1004 tr 0 = (s.c : Int) → gI τ 1005 tr 0 = 0 → (∀ j, j < s.c → gR τ 1003 tr j = some (no j)) → NA τ tr Own → (∀ i, i < s.c → NdC τ no fo Ss s i ∧ gJ τ 506 (no i) 0 = Int64.ofInt (s.d 10 i)) → hs τ ≤ H + s.c + 1 → sl τ ≤ Z + 17 * s.c + 17 → gR τ 1003 tr s.c = some r → (∀ j, j < s.c → ¬ no j = r) → AW g l (d + 2) MX10_addNode 49 [some (vR 10 (some tr)), some (vR 5 (oN no par)), some (vI what), some (vI place), some (vJ nm), none, some (vR 2 (oF fo fld)), none] [] τ (fun v σ' => ∃ r, v = some (vR 5 r) ∧ P r σ') := by
    intro hc τ r hF u1 u2' u3 u4 u5 u6 u7' u8' u9
    obtain ⟨rh, ro, _⟩ := u4 s.c r hc u8'
    have own : ∀ j, j < s.c → Own (no j) := fun j hj => (u4 j (no j) (by omega) (u3 j hj)).2.1
    have fin : ∀ ω, Frm (MkW tr r no s par) τ ω → gI ω 1004 tr 0 = (s.c : Int) + 1 → (∀ p : Nat, par = (p : Int) → gI ω 511 (no p) 0 = ((s.k p).length : Int) + 1 ∧ gR ω 509 (no p) 0 = some r ∧ (s.k p = [] → gR ω 508 (no p) 0 = some r) ∧ (¬ s.k p = [] → gR ω 508 (no p) 0 = gR τ 508 (no p) 0) ∧ ∀ q, (s.k p).getLast? = some q → gR ω 510 (no q) 0 = some r) → gI ω 501 r 0 = what → gI ω 502 r 0 = place → gI ω 503 r 0 = place → gI ω 504 r 0 = 0 → gI ω 505 r 0 = 0 → gJ ω 506 r 0 = nm → gR ω 507 r 0 = oN no par → gR ω 508 r 0 = none → gR ω 509 r 0 = none → gR ω 510 r 0 = none → gI ω 511 r 0 = 0 → gI ω 512 r 0 = (if par < 0 then 0 else s.d 9 par.toNat + 1) → gR ω 513 r 0 = oF fo fld → gI ω 514 r 0 = -1 → P (some r) ω := by
      intro ω hW w4 hpar r1 r2 r3 r4 r5 r6 r7 r8 r9 r10 r11 r12 r13 r14
      have nW : ∀ f r', f < 501 ∨ (516 < f ∧ ¬ f = 1004) → ¬ MkW tr r no s par f r' := fun f r' z q => by
        rcases q with q | ⟨p, q⟩ | ⟨p, q⟩ | q
        · omega
        · have := q.2.2; omega
        · have := q.2.2; omega
        · omega
      have hWL : Frm (LyF tr rk Own) τ ω := hW.mono (fun f r' q => by
        rcases q with q | ⟨p, q⟩ | ⟨p, q⟩ | q
        · rw [q.1]; exact LyF.o ro q.2.1 q.2.2
        · rw [q.2.1]; exact LyF.o (own p (by omega)) (by omega) (by omega)
        · cases hl : (s.k p).getLast? with
          | none => rw [hl] at q; exact absurd q.2.1 (by simp)
          | some y =>
            rw [hl] at q
            have e : some (no y) = some r' := q.2.1
            cases e
            exact LyF.o (own y ((hK p (by omega)).2.1 y (List.mem_of_getLast? hl)).1) (by omega) (by omega)
        · rw [q.1]; exact LyF.t (by omega))
      refine h1 hc ω r (hF.trans hWL.fr) (by rw [hW.2.1]; exact rh) ro r3 r14 (fun υ hV y3 y14 y15 => ?_)
      have hA : Frm (MkW tr r no s par) τ υ := hW.trans (hV.mono (fun f r' q => Or.inl ⟨q.1, by omega, by omega⟩))
      have nV : ∀ f r', ¬ (r' = r ∧ (f = 503 ∨ f = 514 ∨ f = 515 ∨ f = 516)) → Agr ω υ f r' 0 := fun f r' z => hV.2.2.2 f r' z 0
      have aV : ∀ f, ¬ (f = 503 ∨ f = 514 ∨ f = 515 ∨ f = 516) → Agr ω υ f r 0 := fun f z => nV f r (fun q => z q.2)
      have aP : ∀ f j, j < s.c → Agr ω υ f (no j) 0 := fun f j hj => nV f (no j) (fun q => u9 j hj q.1)
      refine ⟨⟨?_, ?_, by rw [mk_c]; omega⟩, fun j hj => ?_, fun j r' hj hr' => ?_, ?_, fun i hi => ?_, ?_, ?_⟩
      · rw [(nV 1004 tr (fun q => by omega)).1, w4, mk_c]; omega
      · rw [hA.I (nW _ _ (by omega))]; exact u2'
      · rw [mk_c] at hj
        rw [hA.R (nW _ _ (by omega))]
        by_cases e : j = s.c
        · rw [e, noA_n]; exact u8'
        · rw [noA_o e]; exact u3 j (by omega)
      · rw [hA.R (nW _ _ (by omega))] at hr'
        rw [hA.I (nW _ _ (by omega)), hA.2.1]
        exact u4 j r' hj hr'
      · rw [mk_c]
        refine tr_mk hK u5 (fun j j' hj hj' e => hT'.inj hj hj' e) u9 hp (fun f r' f0 f1 n1 n2 n3 => hA.2.2.2 f r' (fun q => ?_) 0) (fun p ep => ?_) ?_ ?_ y3 ?_ ?_ ?_ ?_ ?_ ?_ ?_ ?_ ?_ ?_ y14 y15
        · rcases q with q | ⟨p, q⟩ | ⟨p, q⟩ | q
          · exact n1 q.1
          · exact n2 p q.1 q.2.1 q.2.2
          · exact n3 p q.1 q.2.1 q.2.2
          · omega
        · have pc : p < s.c := by omega
          obtain ⟨z1, z2, z3, z4, z5⟩ := hpar p ep
          rw [(aP 511 p pc).1, (aP 509 p pc).2.2, (aP 508 p pc).2.2]
          exact ⟨z1, z2, z3, z4, fun q hq => by rw [(aP 510 q ((hK p pc).2.1 q (List.mem_of_getLast? hq)).1).2.2]; exact z5 q hq⟩
        · rw [(aV 501 (by decide)).1]; exact r1
        · rw [(aV 502 (by decide)).1]; exact r2
        · rw [(aV 504 (by decide)).1]; exact r4
        · rw [(aV 505 (by decide)).1]; exact r5
        · rw [(aV 506 (by decide)).2.1]; exact r6
        · rw [(aV 507 (by decide)).2.2]; exact r7
        · rw [(aV 508 (by decide)).2.2]; exact r8
        · rw [(aV 509 (by decide)).2.2]; exact r9
        · rw [(aV 510 (by decide)).2.2]; exact r10
        · rw [(aV 511 (by decide)).1]; exact r11
        · rw [(aV 512 (by decide)).1]; exact r12
        · rw [(aV 513 (by decide)).2.2]; exact r13
      · rw [mk_c] at hi
        by_cases e : i = s.c
        · rw [e]
          have n9 : (mkM s what par place fld u2 u7 u8 nm).d 9 s.c = if par < 0 then 0 else s.d 9 par.toNat + 1 := mk_n
          rw [n9]
          by_cases q : par < 0
          · rw [if_pos q]; omega
          · rw [if_neg q]; have := t7 par.toNat (by omega); omega
        · rw [mk_o e]; exact t7 i (by omega)
      · rw [hA.2.1, mk_c]; omega
      · rw [hA.2.2.1, mk_c]; omega
    have F0 : ∀ v, Frm (MkW tr r no s par) τ (sI τ 1004 tr 0 v) := fun v => Frm.sI (Or.inr (Or.inr (Or.inr ⟨rfl, rfl⟩)))
    have p12 : ∀ p : Nat, par = (p : Int) → gI τ 512 (no p) 0 = s.d 9 p ∧ 0 ≤ s.d 9 p ∧ s.d 9 p ≤ 400 := fun p ep => by
      have := t7 p (by omega)
      obtain ⟨⟨_, _, _, _, _, _, _, _, _, _, _, _, n13, _⟩, _⟩ := u5 p (by omega)
      exact ⟨n13, this.1, by omega⟩
    refine bk_X10_addNode_49 ?_
    rw [u1, Int.toNat_natCast, u8']
    refine ⟨hF.lc trh lc, ⟨by omega, by omega⟩, ⟨by omega, by omega⟩, r, rfl, x_begin (fun r' e => ?_) (fun ω hB b1 b2 b3 b4 b5 b6 b7 b8 b9 b10 b11 b12 b13 b14 => ⟨fun z => ⟨_, rfl, ?_⟩, fun r7 z => ?_⟩)⟩
    · obtain ⟨p, e1, e2⟩ := oN_some e
      obtain ⟨x1, x2, x3⟩ := p12 p e1
      have : gI (sI τ 1004 tr 0 ((s.c : Int) + 1)) 512 r' 0 = s.d 9 p := by rw [gI_sI, if_neg (by simp), e2]; exact x1
      rw [this]
      exact ⟨by omega, by omega⟩
    · -- no parent
      have pn := oN_none z
      refine fin ω ((F0 _).trans (hB.mono (fun f r' q => Or.inl q))) ?_ (fun p ep => by omega) b1 b2 b3 b4 b5 b6 b7 b8 b9 b10 b11 ?_ b13 b14
      · rw [hB.I (fun q => by omega), gI_slf]
      · rw [b12, z, if_pos pn]; rfl
    · obtain ⟨p, e1, e2⟩ := oN_some z
      have pc : p < s.c := by omega
      have npr : ¬ no p = r := u9 p pc
      have nB : ∀ f j, j < s.c → f < 1000 → Agr τ ω f (no j) 0 := fun f j hj hf => by
        have x := (F0 ((s.c : Int) + 1)).2.2.2 f (no j)
        refine ⟨?_, ?_, ?_⟩
        · rw [hB.I (fun q => u9 j hj q.1), gI_sI, if_neg (by omega)]
        · rw [hB.J (fun q => u9 j hj q.1)]; rfl
        · rw [hB.R (fun q => u9 j hj q.1)]; rfl
      obtain ⟨⟨_, _, _, _, _, _, _, _, n9, _, n11, _, _, _⟩, _⟩ := u5 p pc
      have kl := inc_len _ s.c (hK p pc).1 (fun x hx => ((hK p pc).2.1 x hx).1)
      have o11 : gI ω 511 (no p) 0 = ((s.k p).length : Int) := by rw [(nB 511 p pc (by decide)).1]; exact n9
      have o9 : gR ω 509 (no p) 0 = (s.k p).getLast?.map no := by rw [(nB 509 p pc (by decide)).2.2]; exact n11
      rw [e2]
      refine x_addKid (by rw [o11]; exact ⟨by omega, by omega⟩) (fun ω2 hK2 k1 k2 k3 k4 => ⟨_, rfl, ?_⟩)
      have k2n : ∀ f, ¬ (r = no p) → Agr ω ω2 f r 0 := fun f _ => hK2.2.2.2 f r (fun q => by
        rcases q with q | q
        · exact npr q.1.symm
        · rw [o9] at q
          cases hl : (s.k p).getLast? with
          | none => rw [hl] at q; exact absurd q.1 (by simp)
          | some y =>
            rw [hl] at q
            have e : some (no y) = some r := q.1
            exact u9 y ((hK p pc).2.1 y (List.mem_of_getLast? hl)).1 (Option.some.inj e)) 0
      have kk : ∀ f, Agr ω ω2 f r 0 := fun f => k2n f (fun q => npr q.symm)
      refine fin ω2 (((F0 _).trans (hB.mono (fun f r' q => Or.inl q))).trans (hK2.mono (fun f r' q => ?_))) ?_ (fun p' ep' => ?_) ?_ ?_ ?_ ?_ ?_ ?_ ?_ ?_ ?_ ?_ ?_ ?_ ?_ ?_
      · rcases q with q | q
        · exact Or.inr (Or.inl ⟨p, e1, q.1, q.2⟩)
        · rw [o9] at q; exact Or.inr (Or.inr (Or.inl ⟨p, e1, q.1, q.2⟩))
      · rw [hK2.I (fun q => by omega), hB.I (fun q => by omega), gI_slf]
      · rw [show p' = p by omega]
        refine ⟨by rw [k1, o11], k2, fun z => k3 (by rw [o9, z]; rfl), fun z => ?_, fun q hq => ?_⟩
        · cases hl : (s.k p).getLast? with
          | none => exact absurd (List.getLast?_eq_none_iff.mp hl) z
          | some y => rw [(k4 (no y) (by rw [o9, hl]; rfl)).1, (nB 508 p pc (by decide)).2.2]
        · exact (k4 (no q) (by rw [o9, hq]; rfl)).2
      · rw [(kk 501).1]; exact b1
      · rw [(kk 502).1]; exact b2
      · rw [(kk 503).1]; exact b3
      · rw [(kk 504).1]; exact b4
      · rw [(kk 505).1]; exact b5
      · rw [(kk 506).2.1]; exact b6
      · rw [(kk 507).2.2]; exact b7
      · rw [(kk 508).2.2]; exact b8
      · rw [(kk 509).2.2]; exact b9
      · rw [(kk 510).2.2]; exact b10
      · rw [(kk 511).1]; exact b11
      · rw [(kk 512).1, b12, z, if_neg (by omega)]
        show gI (sI τ 1004 tr 0 ((s.c : Int) + 1)) 512 r7 0 + 1 = _
        rw [gI_sI, if_neg (by simp), e2, (p12 p e1).1, e1, Int.toNat_natCast]
      · rw [(kk 513).2.2]; exact b13
      · rw [(kk 514).1]; exact b14
  refine AC.of mo_X10_addNode (Nat.le_of_ble_eq_true rfl) (bk_X10_addNode_0 ?_)
  rw [t1, Int.toNat_natCast]
  refine ⟨fun q => ⟨lc, ⟨by omega, by omega⟩, fun z => ?_, fun r z => ?_⟩, fun q => ⟨_, rfl, h0 (by omega)⟩⟩
  · -- a new object
    have hc : s.c < 400 := by omega
    refine ⟨⟨by omega, by omega⟩, AC.of mo_X5_init (Nat.le_of_ble_eq_true rfl) (bk_X5_init_0 ⟨rfl, ?_⟩)⟩
    have F1 : Fr (LyF tr rk Own) σ (sI (sNew σ 17) 500 (hs σ) 0 (gI (sNew σ 17) 1004 tr 0)) := Fr.sNew.frm (Frm.sI (P := fun _ r => r = hs σ) rfl) (fun f r q => by rw [q]; exact Nat.le_refl _)
    have F2 : Fr (LyF tr rk Own) σ (sR (sI (sNew σ 17) 500 (hs σ) 0 (gI (sNew σ 17) 1004 tr 0)) 1003 tr s.c (some (hs σ))) := F1.trans (Frm.sR (LyF.t (by omega))).fr
    refine ⟨F1.lc trh lc, s49 hc _ (hs σ) F2 ?_ ?_ (fun j hj => ?_) (fun j r hj hr => ?_) (fun i hi => ?_) ?_ ?_ ?_ (fun j hj e => ?_)⟩
    · show gI (sI (sNew σ 17) 500 (hs σ) 0 (gI (sNew σ 17) 1004 tr 0)) 1004 tr 0 = _
      rw [gI_sI, if_neg (by simp), gI_sNew, if_neg (by omega)]; exact t1
    · show gI (sI (sNew σ 17) 500 (hs σ) 0 (gI (sNew σ 17) 1004 tr 0)) 1005 tr 0 = _
      rw [gI_sI, if_neg (by simp), gI_sNew, if_neg (by omega)]; exact t2
    · rw [gR_sR, if_neg (by omega)]
      show gR (sNew σ 17) 1003 tr j = _
      rw [gR_sNew, if_neg (by omega)]; exact t4 j hj
    · show r < hs σ + 1 ∧ Own r ∧ gI (sI (sNew σ 17) 500 (hs σ) 0 (gI (sNew σ 17) 1004 tr 0)) 500 r 0 = (j : Int)
      rw [gR_sR] at hr
      by_cases e : j = s.c
      · rw [if_pos ⟨rfl, rfl, e⟩] at hr
        cases hr
        refine ⟨Nat.lt_succ_self _, hE.2.2.2.2 _ (Nat.le_refl _), ?_⟩
        rw [gI_slf, gI_sNew, if_neg (by omega), t1, e]
      · rw [if_neg (fun q => e q.2.2)] at hr
        have hr : gR (sNew σ 17) 1003 tr j = some r := hr
        rw [gR_sNew, if_neg (by omega)] at hr
        obtain ⟨x1, x2, x3⟩ := t5 j r hj hr
        refine ⟨by omega, x2, ?_⟩
        rw [gI_sI, if_neg (by omega), gI_sNew, if_neg (by omega)]; exact x3
    · have nh : no i < hs σ := (t5 i (no i) (by omega) (t4 i hi)).1
      obtain ⟨x1, x2⟩ := t6 i hi
      refine ⟨x1.agn hi (fun x hx => ((hK i hi).2.1 x hx).1) (fun f j f0 f1 hj => by
        have nj : no j < hs σ := (t5 j (no j) (by omega) (t4 j hj)).1
        refine ⟨?_, ?_, ?_⟩
        · show gI (sI (sNew σ 17) 500 (hs σ) 0 (gI (sNew σ 17) 1004 tr 0)) f (no j) 0 = _
          rw [gI_sI, if_neg (by omega), gI_sNew, if_neg (by omega)]
        · show gJ (sNew σ 17) f (no j) 0 = _
          rw [gJ_sNew, if_neg (by omega)]
        · rw [gR_sR, if_neg (by omega)]
          show gR (sNew σ 17) f (no j) 0 = _
          rw [gR_sNew, if_neg (by omega)]), ?_⟩
      show gJ (sNew σ 17) 506 (no i) 0 = _
      rw [gJ_sNew, if_neg (by omega)]; exact x2
    · show hs σ + 1 ≤ _; omega
    · show sl σ + 17 ≤ _; omega
    · exact gR_slf _ _ _ _ _
    · have := (t5 j (no j) (by omega) (t4 j hj)).1; omega
  · have hc : s.c < 400 := by omega
    exact s49 hc σ r Fr.rfl t1 t2 t4 t5 t6 (by omega) (by omega) z (fun j hj e => by
      have x := (t5 j (no j) (by omega) (t4 j hj)).2.2
      have y := (t5 s.c r hc z).2.2
      rw [e, y] at x; omega)
end N3
