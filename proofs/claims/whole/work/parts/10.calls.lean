def MOK (M : MD) (n : Nat) : Prop := Cond.code M.1 M.2.1 M.2.2.1 M.2.2.2 ∈ lw_use ∧ Cond.initialized M.1.cls ∈ lw_use ∧ (M.1.cls ≠ "java/lang/invoke/MethodHandle" ∧ M.1.cls ≠ "java/lang/invoke/VarHandle") ∧ (parseMethodDescriptor M.1.desc).map (fun d => d.parameters.length) = some n ∧ M.2.2.1 ≤ 41 ∧ plainFor M.1 = true
theorem RV.app {g : GP} {K : KM} {v : Option AV} {rv : Option Value} {S : List AV} {st : List Value} (h : RV g K v rv.toList) (hs : SV g K S st) : SV g K (v.toList ++ S) (rv.toList ++ st) := by
  cases v with
  | none =>
    have h : rv.toList = [] := h
    rw [h]
    exact hs
  | some a =>
    obtain ⟨w, h1, h2⟩ := h
    rw [h1]
    exact ⟨h2, hs⟩
theorem nar_char {x : Int32} (h : 0 ≤ x.toInt ∧ x.toInt < 65536) : narrow .char (.int x) = .int x := by
  have h1 : x = nI x.toInt.toNat := Int32.toInt_inj.mp (by rw [nI_toInt (by omega)]; omega)
  rw [h1]
  exact (pk_charN (by omega)).1
theorem nar_byte {x : Int32} (h : -128 ≤ x.toInt ∧ x.toInt < 128) : narrow .byte (.int x) = .int x := by
  have h1 : x.toInt8.toInt32 = x := by
    apply Int32.toInt_inj.mp
    rw [Int8.toInt_toInt32, Int32.toInt_toInt8, Int.bmod_def]
    have h8 : ((2 ^ 8 : Nat) : Int) = 256 := by decide
    rw [h8]
    split <;> omega
  have := pk_nb x
  rw [h1] at this
  exact this
section R6
variable {g : GP} {l : Launch} {d : Nat} {M : MD} {pc : Nat} {L : List (Option AV)} {S : List AV} {σ : St} {Q : Option AV → St → Prop}
theorem AC.mono {A : List AV} {Q' : Option AV → St → Prop} (h : ∀ v σ', Q v σ' → Q' v σ') (k : AC g l d M A σ Q) : AC g l d M A σ Q' := by
  intro K vals hv p e ha hc hk s m args below hf happ hP hT
  obtain ⟨n, o, h1, h2, h3, ⟨⟨v, σ', K', rv, q1, q2, q3, q4, q5⟩, q6⟩, hL⟩ := k K vals hv p e ha hc hk s m args below hf happ hP hT
  exact ⟨n, o, h1, h2, h3, ⟨⟨v, σ', K', rv, q1, q2, q3, q4, h v σ' q5⟩, q6⟩, hL⟩
/-- a method's contract out of its body's walk -/
theorem AC.of {n : Nat} {A : List AV} (hM : MOK M n) (hA : (inA A).length ≤ M.2.2.1) (k : AW g l d M 0 (inL A M.2.2.1) [] σ Q) : AC g l d M A σ Q := by
  intro K vals hv
  obtain ⟨m1, m2, m3, m4, m5, m6⟩ := hM
  refine va_MetF (cc := M.2.1) (maxL := M.2.2.1) (ret := M.2.2.2) m6 rfl ?_
  intro p e s m args below meth c s₁ B hml hP
  obtain ⟨rfl, hW, hKK, hKA, hwm, huse⟩ := hP
  have w1 := hW.1.1
  have hE : EnvOK g d M p (headSpec (wsM M) (rmA g d σ)).room s m vals.toArray meth c := ⟨B.exec, B.bytes, hml, B.returns, B.notSynchronized, (name_of_methodNamed B.named B.method).1, findClass_of_methodNamed B.named, huse, hKK, hKA, Nat.le_refl _, Nat.le_refl _,
    by rw [w1]; exact hW.1.2.2.1, by show s.heap.size + (gB g + 600000 - hs σ) = _; have := hW.1.2.2.2.1; omega, by show nsl s.heap (gB g) + (7302250 - sl σ) = _; have := hW.1.2.2.2.2.1; have := hW.1.2.1; omega, hwm⟩
  rw [lg_entry_eq]
  refine W.tight ?_
  refine k p e _ s m vals.toArray below meth c _ K K s.heap [] _ _ hE ?_ hW KLe.rfl va_S.rf (LV.entry hv hA) trivial
  intro v σ' K' H' locs' ls st pc hQ hW' hK' hS' hRV hok hd
  obtain ⟨hx, hb, -, hr, hlk, -⟩ := hE
  have w1' := hW'.1.1
  have w4' := hW'.1.2.2.2.1
  have w5' := hW'.1.2.2.2.2.1
  have hQc : ∀ (rv : Option Value), RV g K' v rv.toList → ∀ t : State, t.heap = H' → s.WarmedH t.vm → QcA g K Q vals.toArray s (.returned rv) t := fun rv hrv t ht _ => ⟨⟨v, σ', K', rv, rfl, hrv, by rw [ht]; exact hW', hK', hQ⟩, hS'.F ht⟩
  refine W.adds (n := gB g) (by rw [w1]; exact hW.1.2.2.1) (fun hadd hle => ?_)
  have w2 := hW.1.2.1
  have w2' := hW'.1.2.1
  refine W.widen (k := gB g + 600000 - hs σ) (n := 7302250 - sl σ) (by omega) (by omega) ?_
  match v, hok, hRV, hd, hQc with
  | none, hok, hRV, hd, hQc =>
    have hRV : st = [] := hRV
    subst hRV
    exact W.vret hx hb (hr.trans hok) (hQc none rfl) hS'.2.2 hd
  | some (.inl (.inl x)), hok, hRV, hd, hQc =>
    obtain ⟨w, rfl, y, rfl, hy⟩ := hRV
    rcases hok with hok | ⟨hok, hx01⟩ | ⟨hok, hc0, hc1⟩ | ⟨hok, hb0, hb1⟩
    · exact W.iret hx hb (hr.trans hok) (hQc (some (.int y)) ⟨_, rfl, y, rfl, hy⟩) hS'.2.2 hd
    · exact W.zret (ty := .boolean) hx hb (hr.trans hok) (nar_bool (by rw [hy]; exact hx01)).1 (hQc (some (.int y)) ⟨_, rfl, y, rfl, hy⟩) hS'.2.2 hd
    · exact W.zret (ty := .char) hx hb (hr.trans hok) (nar_char (by rw [hy]; exact ⟨hc0, hc1⟩)) (hQc (some (.int y)) ⟨_, rfl, y, rfl, hy⟩) hS'.2.2 hd
    · exact W.zret (ty := .byte) hx hb (hr.trans hok) (nar_byte (by rw [hy]; exact ⟨hb0, hb1⟩)) (hQc (some (.int y)) ⟨_, rfl, y, rfl, hy⟩) hS'.2.2 hd
  | some (.inl (.inr x)), hok, hRV, hd, hQc =>
    obtain ⟨w, rfl, hw⟩ := hRV
    have hw : w = .long x := hw
    subst hw
    exact W.lret hx hb (hr.trans hok) (hQc (some (.long x)) ⟨_, rfl, rfl⟩) hS'.2.2 hd
  | some (.inr x), hok, hRV, hd, hQc =>
    obtain ⟨w, rfl, hw⟩ := hRV
    obtain ⟨nm, hok⟩ := hok
    exact W.aret hx hb (hr.trans hok) (Or.inl ⟨nm, rfl⟩) (VR.ref hw) (hQc (some w) ⟨_, rfl, hw⟩) hS'.2.2 hd
theorem run_core {p : Program} {e : Env} {R : Room} {s : State} {m : MethodId} {args : Array Value} {below : List Frame} {meth : Method} {c : Code} {H : Heap} {locs : List Loc} {Z : State → Prop} {K : KM} {ls : Array Slot} {st0 rest : List Value} {a : Array Value} {mc ms cells slots : Nat}
    (hr : va_Run p l e R s m args below meth c H locs cells slots mc ms (F0 m pc ls st0) rest (QcA g K Q a) (fun q => gB g ≤ q)) (hS : va_S (fun q => gB g ≤ q) s.heap H locs)
    (kk : ∀ (v : Option AV) (σ' : St) (K' : KM) (rv : Option Value) (H' : Heap) (locs' : List Loc), RV g K' v rv.toList → Wd g σ' K' H' → KLe K K' → Q v σ' → va_S (fun q => gB g ≤ q) s.heap H' locs' → W p l e R s m args below meth c H' locs' (H'.size - s.heap.size) (nsl H' s.heap.size) Z (F0 m (pc + 3) ls (rv.toList ++ rest))) :
    W p l e R s m args below meth c H locs cells slots Z (F0 m pc ls st0) := by
  intro T hT X
  obtain ⟨rv0, st₀, t, T', L', h0, X', hL, e1, e2, ⟨⟨v, σ', K', rv, ho, q1, q2, q3, q4⟩, hz, hk⟩, st⟩ := hr T hT X
  cases ho
  rw [h0] at hz hk
  have hS' : va_S (fun q => gB g ≤ q) s.heap T'.heap (locs ++ L') := ⟨Nat.le_trans hS.1 (by rw [e1]; exact hz), fun q h1 h2 => by rw [e1, hk q (Nat.lt_of_lt_of_le h1 hS.1) h2]; exact hS.2.1 q h1 h2, fun q hq => by
    rcases List.mem_append.mp hq with h | h
    · exact hS.2.2 q h
    · exact hL q h⟩
  obtain ⟨t2, a1, b1⟩ := (W.tight (kk v σ' K' rv0 T'.heap (locs ++ L') q1 (by rw [e1]; exact q2) q3 q4 hS')) T' rfl X'
  exact ⟨t2, st t2 a1, b1⟩
theorem blindA {K : KM} {vals : List Value} : FrameBlind (PcA g σ K vals) := by
  intro a U g' mk ⟨q0, q1, q2, q3, q4, q5⟩
  exact ⟨q0, q1, va_K.moved (u := U) (U := U.calling g' mk a) (Vm.Alike.refl U.vm) q2, KA.moved (u := U) (U := U.calling g' mk a) (Vm.Alike.refl U.vm) q3, q4, use_moved (s := U) (U := U.calling g' mk a) (State.WarmedH.refl U) q5⟩
theorem preA {K : KM} {vals : List Value} {H : Heap} {s : State} (hW : Wd g σ K H) (hKK : va_K (gD g) vwCl [] s) (hA : KA g s) (hwm : (gS g).WarmedH s.vm) {args : Array Value} (hts : ∀ w ∈ lw_use, w.before args s = true) : ∀ U : State, U.heap = H → s.WarmedH U.vm → PcA g σ K vals vals.toArray U :=
  fun U hU hw => ⟨rfl, by rw [hU]; exact hW, va_K.moved hw.alike hKK, KA.moved hw.alike hA, State.WarmedH.trans hwm hw, use_moved hw hts⟩
theorem callBA {n idx : Nat} {M' : MD} {p : Program} {R : Room} {s : State} {m : MethodId} {args : Array Value} {meth : Method} {c : Code} (E : EnvOK g (d + 1) M p R s m args meth c) (hM : MOK M' n) (hl : Cond.methodLink M.1.cls idx M'.1 ∈ lw_use) : CallB R s args M.1.cls idx M'.1 M'.2.1 M'.2.2.1 M'.2.2.2 (wsM M') (rmA g d σ) (gB g + 600000 - hs σ) (7302250 - sl σ) n := by
  obtain ⟨hx, hb, hml, hrt, hlk, hnm, hown, hts, hKK, hA, hfr, hlo, hbs, hRc, hRs, hwm⟩ := E
  obtain ⟨m1, m2, m3, m4, m5, m6⟩ := hM
  refine ⟨rfl, rfl, hfr, ?_, pay_in hts (fun w hw => ?_), List.mem_cons_self, hts _ m1, hts _ m2, m3, fun sig h => ?_, hts _ hl⟩
  · show 8 + (M'.2.2.1 + 11) + 60 * d ≤ _
    omega
  · rw [List.mem_singleton.mp hw]
    exact ⟨m1, Or.inl (by first | rfl | simp [Cond.onTables, Cond.keeps, Cond.steady])⟩
  · rw [h] at m4
    exact (Option.some.inj m4).symm
theorem callNA {n idx : Nat} {M' : MD} {host : String} {p : Program} {R : Room} {s : State} {m : MethodId} {args : Array Value} {meth : Method} {c : Code} (E : EnvOK g (d + 1) M p R s m args meth c) (hM : MOK M' n) (hl : Cond.methodLinkNest M.1.cls idx M'.1 host ∈ lw_use) : va_CN R s args M.1.cls idx M'.1 host M'.2.1 M'.2.2.1 M'.2.2.2 (wsM M') (rmA g d σ) (gB g + 600000 - hs σ) (7302250 - sl σ) n := by
  obtain ⟨hx, hb, hml, hrt, hlk, hnm, hown, hts, hKK, hA, hfr, hlo, hbs, hRc, hRs, hwm⟩ := E
  obtain ⟨m1, m2, m3, m4, m5, m6⟩ := hM
  refine ⟨⟨rfl, rfl, hfr, ?_, pay_in hts (fun w hw => ?_), List.mem_cons_self⟩, hts _ m1, hts _ m2, m3, fun sig h => ?_, hts _ hl⟩
  · show 8 + (M'.2.2.1 + 11) + 60 * d ≤ _
    omega
  · rw [List.mem_singleton.mp hw]
    exact ⟨m1, Or.inl (by first | rfl | simp [Cond.onTables, Cond.keeps, Cond.steady])⟩
  · rw [h] at m4
    exact (Option.some.inj m4).symm
theorem aw_invV {n idx ci r : Nat} {M' : MD} (As : List AV) (hM : MOK M' n) (hn : As.length = n) (hl : Cond.methodLink M.1.cls idx M'.1 ∈ lw_use) (hi : Cond.instanceMethod M'.1 ∈ lw_use) (hs' : Cond.selects M'.1.cls M'.1 M'.1 ∈ lw_use) (hci : (vwCl[ci]?).map (·.1) = some M'.1.cls) (hd : decode M.2.1 pc = .ok (.invokevirtual idx, 3)) {S0 : List AV} (hS0 : S0 = As.reverse ++ vR ci (some r) :: S) (hcat : (S.map catA).sum ≤ 8)
    (k : AC g l d M' (vR ci (some r) :: As) σ (fun v σ' => AW g l (d + 1) M (pc + 3) L (v.toList ++ S) σ' Q)) : AW g l (d + 1) M pc L S0 σ Q := by
  subst hS0
  intro p e R s m args below meth c Z K0 K H locs ls st E hR hW hK hS hL hSt
  have E0 := E
  obtain ⟨hx, hb, hml, hrt, hlk, hnm, hown, hts, hKK, hA, hfr, hlo, hbs, hRc, hRs, hwm⟩ := E
  obtain ⟨sa, sb, rfl, h1, h2⟩ := SV.app hSt
  obtain ⟨v, st', rfl, hv, h3⟩ := SV.cons h2
  have h1' := SV.rev h1
  rw [List.reverse_reverse] at h1'
  have hv2 := hv.2
  obtain ⟨rfl, -⟩ := hv
  have hvals : SV g K (vR ci (some r) :: As) (.ref r :: sa.reverse) := ⟨⟨rfl, hv2⟩, h1'⟩
  have hL0 := hL
  obtain ⟨lv, hlv, -⟩ := hL
  have w1 := hW.1.1
  have w2 := hW.1.2.1
  have w4 := hW.1.2.2.2.1
  have w5 := hW.1.2.2.2.2.1
  refine W.adds hbs (fun hadd hle => ?_)
  obtain ⟨r', V', o1, ⟨cellB, g1, g2, g3, -⟩, -⟩ := hW.2.2.2.1 r ci hv2
  have hC : r'.1 = M'.1.cls := by rw [o1] at hci; simpa using hci
  have hpre : PreV s H M'.1.cls r (PcA g σ K (.ref r :: sa.reverse)) sa.reverse := ⟨blindA, ⟨cellB, g1, by rw [g3]; rfl, by rw [g2, ← hC]; exact (hKK.1 ci r' o1).2.1⟩, preA hW hKK hA hwm hts⟩
  refine run_core (va_runV (As := sa.reverse) (rest := st') ⟨hx, hb, hml, hown, hts⟩ (k K _ hvals) ⟨callBA E0 hM hl, hts _ hi, hts _ hs'⟩ hpre rfl ?_ hlv.1 (by rw [List.reverse_reverse]) (lv_room (by rw [SV.cats h3]; exact hcat)) hd ⟨by omega, by omega⟩) hS ?_
  · rw [SV.len h1']; exact hn
  · intro v' σ' K' rv H' locs' q1 q2 q3 q4 q5
    exact q4 p e R s m args below meth c Z K0 K' H' locs' ls _ E0 hR q2 (hK.trans q3) q5 (hL0.mono q3) (q1.app (SV.mono q3 h3))
theorem aw_invI {n idx ci r : Nat} {M' : MD} (As : List AV) (hM : MOK M' n) (hn : As.length = n) (hmn : M'.1.name = "<init>" ∧ M'.2.2.2 = none) (hl : Cond.methodLink M.1.cls idx M'.1 ∈ lw_use) (hi : Cond.instanceMethod M'.1 ∈ lw_use) (hd : decode M.2.1 pc = .ok (.invokespecial idx, 3)) {S0 : List AV} (hS0 : S0 = As.reverse ++ vR ci (some r) :: S) (hcat : (S.map catA).sum ≤ 8)
    (k : AC g l d M' (vR ci (some r) :: As) σ (fun v σ' => AW g l (d + 1) M (pc + 3) L (v.toList ++ S) σ' Q)) : AW g l (d + 1) M pc L S0 σ Q := by
  subst hS0
  intro p e R s m args below meth c Z K0 K H locs ls st E hR hW hK hS hL hSt
  have E0 := E
  obtain ⟨hx, hb, hml, hrt, hlk, hnm, hown, hts, hKK, hA, hfr, hlo, hbs, hRc, hRs, hwm⟩ := E
  obtain ⟨sa, sb, rfl, h1, h2⟩ := SV.app hSt
  obtain ⟨v, st', rfl, hv, h3⟩ := SV.cons h2
  have h1' := SV.rev h1
  rw [List.reverse_reverse] at h1'
  have hv2 := hv.2
  obtain ⟨rfl, -⟩ := hv
  have hvals : SV g K (vR ci (some r) :: As) (.ref r :: sa.reverse) := ⟨⟨rfl, hv2⟩, h1'⟩
  have hL0 := hL
  obtain ⟨lv, hlv, -⟩ := hL
  have w1 := hW.1.1
  have w2 := hW.1.2.1
  have w4 := hW.1.2.2.2.1
  have w5 := hW.1.2.2.2.2.1
  refine W.adds hbs (fun hadd hle => ?_)
  have hcb := callBA (σ := σ) E0 hM hl
  rw [hmn.2] at hcb
  refine run_core (va_runI (As := sa.reverse) (rest := st') ⟨hx, hb, hml, hown, hts⟩ (k K _ hvals) ⟨hcb, hmn.1, hts _ hi⟩ ⟨blindA, preA hW hKK hA hwm hts⟩ rfl ?_ hlv.1 (by rw [List.reverse_reverse]) (lv_room (by rw [SV.cats h3]; exact hcat)) hd ⟨by omega, by omega⟩) hS ?_
  · rw [SV.len h1']; exact hn
  · intro v' σ' K' rv H' locs' q1 q2 q3 q4 q5
    exact q4 p e R s m args below meth c Z K0 K' H' locs' ls _ E0 hR q2 (hK.trans q3) q5 (hL0.mono q3) (q1.app (SV.mono q3 h3))
theorem aw_invIN {n idx ci r : Nat} {M' : MD} {host : String} (As : List AV) (hM : MOK M' n) (hn : As.length = n) (hmn : M'.1.name = "<init>" ∧ M'.2.2.2 = none) (hl : Cond.methodLinkNest M.1.cls idx M'.1 host ∈ lw_use) (hi : Cond.instanceMethod M'.1 ∈ lw_use) (hd : decode M.2.1 pc = .ok (.invokespecial idx, 3)) {S0 : List AV} (hS0 : S0 = As.reverse ++ vR ci (some r) :: S) (hcat : (S.map catA).sum ≤ 8)
    (k : AC g l d M' (vR ci (some r) :: As) σ (fun v σ' => AW g l (d + 1) M (pc + 3) L (v.toList ++ S) σ' Q)) : AW g l (d + 1) M pc L S0 σ Q := by
  subst hS0
  intro p e R s m args below meth c Z K0 K H locs ls st E hR hW hK hS hL hSt
  have E0 := E
  obtain ⟨hx, hb, hml, hrt, hlk, hnm, hown, hts, hKK, hA, hfr, hlo, hbs, hRc, hRs, hwm⟩ := E
  obtain ⟨sa, sb, rfl, h1, h2⟩ := SV.app hSt
  obtain ⟨v, st', rfl, hv, h3⟩ := SV.cons h2
  have h1' := SV.rev h1
  rw [List.reverse_reverse] at h1'
  have hv2 := hv.2
  obtain ⟨rfl, -⟩ := hv
  have hvals : SV g K (vR ci (some r) :: As) (.ref r :: sa.reverse) := ⟨⟨rfl, hv2⟩, h1'⟩
  have hL0 := hL
  obtain ⟨lv, hlv, -⟩ := hL
  have w1 := hW.1.1
  have w2 := hW.1.2.1
  have w4 := hW.1.2.2.2.1
  have w5 := hW.1.2.2.2.2.1
  refine W.adds hbs (fun hadd hle => ?_)
  have hcb := callNA (σ := σ) E0 hM hl
  rw [hmn.2] at hcb
  refine run_core (va_runIN (As := sa.reverse) (rest := st') ⟨hx, hb, hml, hown, hts⟩ (k K _ hvals) ⟨hcb, hmn.1, hts _ hi⟩ ⟨blindA, preA hW hKK hA hwm hts⟩ rfl ?_ hlv.1 (by rw [List.reverse_reverse]) (lv_room (by rw [SV.cats h3]; exact hcat)) hd ⟨by omega, by omega⟩) hS ?_
  · rw [SV.len h1']; exact hn
  · intro v' σ' K' rv H' locs' q1 q2 q3 q4 q5
    exact q4 p e R s m args below meth c Z K0 K' H' locs' ls _ E0 hR q2 (hK.trans q3) q5 (hL0.mono q3) (q1.app (SV.mono q3 h3))
theorem aw_invS {n idx : Nat} {M' : MD} (As : List AV) (hM : MOK M' n) (hn : As.length = n) (hl : Cond.methodLink M.1.cls idx M'.1 ∈ lw_use) (hi : Cond.static M'.1 ∈ lw_use) (hd : decode M.2.1 pc = .ok (.invokestatic idx, 3)) {S0 : List AV} (hS0 : S0 = As.reverse ++ S) (hcat : (S.map catA).sum ≤ 8)
    (k : AC g l d M' As σ (fun v σ' => AW g l (d + 1) M (pc + 3) L (v.toList ++ S) σ' Q)) : AW g l (d + 1) M pc L S0 σ Q := by
  subst hS0
  intro p e R s m args below meth c Z K0 K H locs ls st E hR hW hK hS hL hSt
  have E0 := E
  obtain ⟨hx, hb, hml, hrt, hlk, hnm, hown, hts, hKK, hA, hfr, hlo, hbs, hRc, hRs, hwm⟩ := E
  obtain ⟨sa, st', rfl, h1, h3⟩ := SV.app hSt
  have h1' := SV.rev h1
  rw [List.reverse_reverse] at h1'
  have hL0 := hL
  obtain ⟨lv, hlv, -⟩ := hL
  have w1 := hW.1.1
  have w2 := hW.1.2.1
  have w4 := hW.1.2.2.2.1
  have w5 := hW.1.2.2.2.2.1
  refine W.adds hbs (fun hadd hle => ?_)
  refine run_core (va_runS (As := sa.reverse) (rest := st') ⟨hx, hb, hml, hown, hts⟩ (k K _ h1') ⟨callBA E0 hM hl, hts _ hi⟩ ⟨blindA, preA hW hKK hA hwm hts⟩ rfl ?_ hlv.1 (by rw [List.reverse_reverse]) (lv_room (by rw [SV.cats h3]; exact hcat)) hd ⟨by omega, by omega⟩) hS ?_
  · rw [SV.len h1']; exact hn
  · intro v' σ' K' rv H' locs' q1 q2 q3 q4 q5
    exact q4 p e R s m args below meth c Z K0 K' H' locs' ls _ E0 hR q2 (hK.trans q3) q5 (hL0.mono q3) (q1.app (SV.mono q3 h3))
theorem aw_invSN {n idx : Nat} {M' : MD} {host : String} (As : List AV) (hM : MOK M' n) (hn : As.length = n) (hl : Cond.methodLinkNest M.1.cls idx M'.1 host ∈ lw_use) (hi : Cond.static M'.1 ∈ lw_use) (hd : decode M.2.1 pc = .ok (.invokestatic idx, 3)) {S0 : List AV} (hS0 : S0 = As.reverse ++ S) (hcat : (S.map catA).sum ≤ 8)
    (k : AC g l d M' As σ (fun v σ' => AW g l (d + 1) M (pc + 3) L (v.toList ++ S) σ' Q)) : AW g l (d + 1) M pc L S0 σ Q := by
  subst hS0
  intro p e R s m args below meth c Z K0 K H locs ls st E hR hW hK hS hL hSt
  have E0 := E
  obtain ⟨hx, hb, hml, hrt, hlk, hnm, hown, hts, hKK, hA, hfr, hlo, hbs, hRc, hRs, hwm⟩ := E
  obtain ⟨sa, st', rfl, h1, h3⟩ := SV.app hSt
  have h1' := SV.rev h1
  rw [List.reverse_reverse] at h1'
  have hL0 := hL
  obtain ⟨lv, hlv, -⟩ := hL
  have w1 := hW.1.1
  have w2 := hW.1.2.1
  have w4 := hW.1.2.2.2.1
  have w5 := hW.1.2.2.2.2.1
  refine W.adds hbs (fun hadd hle => ?_)
  refine run_core (va_runSN (As := sa.reverse) (rest := st') ⟨hx, hb, hml, hown, hts⟩ (k K _ h1') ⟨callNA E0 hM hl, hts _ hi, trivial⟩ ⟨blindA, preA hW hKK hA hwm hts⟩ rfl ?_ hlv.1 (by rw [List.reverse_reverse]) (lv_room (by rw [SV.cats h3]; exact hcat)) hd ⟨by omega, by omega⟩) hS ?_
  · rw [SV.len h1']; exact hn
  · intro v' σ' K' rv H' locs' q1 q2 q3 q4 q5
    exact q4 p e R s m args below meth c Z K0 K' H' locs' ls _ E0 hR q2 (hK.trans q3) q5 (hL0.mono q3) (q1.app (SV.mono q3 h3))
end R6
