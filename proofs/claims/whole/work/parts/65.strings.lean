/-! strings that are constants: rules, and the JDK's methods over them -/
def SFk (g : GP) (e : Nat) (tx : String) (bs : List Int32) : Prop := ∃ q b : Nat, vk_R "OverlayViewer$Tape" e tx q (gS g) ∧ va_O "java/lang/String" q (fun q => gB g ≤ q) (gS g) (gS g).heap ∧ va_OF "java/lang/String" "coder" "B" (.int 0) q (fun q => gB g ≤ q) (gS g) (gS g).heap ∧
  va_OF "java/lang/String" "value" "[B" (.ref b) q (fun q => gB g ≤ q) (gS g) (gS g).heap ∧ va_T .byte b bs.length (fun j => .int (bs.getD j 0)) (fun q => gB g ≤ q) (gS g) (gS g).heap ∧ (STm (9300 + e)).eval #[] (gS g) none [] (gS g) = some (.ref b)
def SZk (g : GP) : Prop := va_Z "java/lang/String" "COMPACT_STRINGS" "Z" (.int 1) (fun q => gB g ≤ q) (gS g) (gS g).heap ∧ va_Zq "jdk/internal/util/Preconditions" "SIOOBE_FORMATTER" "Ljava/util/function/BiFunction;" (fun q => gB g ≤ q) (gS g) (gS g).heap
theorem keptS {g : GP} {σ : St} {K : KM} {H : Heap} {s : State} {locs : List Loc} (hW : Wd g σ K H) (hbs : gB g ≤ s.heap.size) (hS : va_S (fun q => gB g ≤ q) s.heap H locs) : ∀ a : Nat, a < (gS g).heap.size → ¬ (fun q => gB g ≤ q) a → s.heap[a]? = (gS g).heap[a]? := fun a h1 h2 => by
  have h3 : ¬ gB g ≤ a := h2
  rw [← hS.2.1 a (by omega) h2]
  exact hW.1.2.2.2.2.2 a (by omega)
theorem VR.str {g : GP} {K : KM} {f : Nat} {v : Value} (h1 : 9000 ≤ f) (h2 : f < 9999) : VR g K (vA f 0) v ↔ ∃ q, v = .ref q ∧ (STm f).eval #[] (gS g) none [] (gS g) = some (.ref q) := by
  unfold VR
  dsimp only
  rw [if_neg (by omega), if_pos h1]
theorem STm_s {e : Nat} (he : e < 300) : STm (9000 + e) = .string "OverlayViewer$Tape" e := by
  unfold STm
  rw [if_pos (by omega), show 9000 + e - 9000 = e by omega]
section RS
variable {g : GP} {l : Launch} {d : Nat} {M : MD} {pc : Nat} {L : List (Option AV)} {S : List AV} {σ : St} {Q : Option AV → St → Prop} {e : Nat} {tx : String} {bs : List Int32}
theorem aw_ldcS (he : e < 300) (hF : SFk g e tx bs) (hM : M.1.cls = "OverlayViewer$Tape") (hd : decode M.2.1 pc = .ok (.ldc e, 2)) (k : AW g l d M (pc + 2) L (vA (9000 + e) 0 :: S) σ Q) : AW g l d M pc L S σ Q := by
  intro p ev R s m args below meth c Z K0 K H locs ls st E hR hW hK hS hL hSt
  have E0 := E
  obtain ⟨hx, hb, hml, hr, hlk, hnm, hown, hts, hKK, hA, hfr, hlo, hbs, hRc, hRs, hwm⟩ := E
  obtain ⟨q, b, f1, -⟩ := hF
  rw [hM] at hown
  exact va_ldcS hx hb hown (f1.warm hwm) hd (k p ev R s m args below meth c Z K0 K H locs ls _ E0 hR hW hK hS hL ⟨(VR.str (by omega) (by omega)).mpr ⟨q, rfl, by rw [STm_s he]; exact f1.2⟩, hSt⟩)
theorem aw_strVal {idx : Nat} (he : e < 300) (hF : SFk g e tx bs) (hl : Cond.fieldLink M.1.cls idx "java/lang/String" "value" "[B" ∈ lw_use) (hd : decode M.2.1 pc = .ok (.getfield idx, 3)) (k : AW g l d M (pc + 3) L (vA (9300 + e) 0 :: S) σ Q) : AW g l d M pc L (vA (9000 + e) 0 :: S) σ Q := by
  intro p ev R s m args below meth c Z K0 K H locs ls st E hR hW hK hS hL hSt
  have E0 := E
  obtain ⟨hx, hb, hml, hr, hlk, hnm, hown, hts, hKK, hA, hfr, hlo, hbs, hRc, hRs, hwm⟩ := E
  obtain ⟨q, b, f1, f2, f3, f4, f5, f6⟩ := hF
  obtain ⟨v, st', hq, hv, hSt'⟩ := SV.cons hSt
  obtain ⟨q', rfl, hv2⟩ := (VR.str (by omega) (by omega)).mp hv
  rw [STm_s he, f1.2] at hv2
  obtain rfl : q = q' := by simpa using hv2
  subst hq
  exact vk_getf hx hb ((f4.moved hwm.alike).kept (keptS hW hbs hS)) hS hown (hts _ hl) (fun _ h => h) hd (k p ev R s m args below meth c Z K0 K H locs ls _ E0 hR hW hK hS hL ⟨(VR.str (by omega) (by omega)).mpr ⟨b, rfl, f6⟩, hSt'⟩)
theorem aw_strCod {idx : Nat} (he : e < 300) (hF : SFk g e tx bs) (hl : Cond.fieldLink M.1.cls idx "java/lang/String" "coder" "B" ∈ lw_use) (hd : decode M.2.1 pc = .ok (.getfield idx, 3)) (k : AW g l d M (pc + 3) L (vI 0 :: S) σ Q) : AW g l d M pc L (vA (9000 + e) 0 :: S) σ Q := by
  intro p ev R s m args below meth c Z K0 K H locs ls st E hR hW hK hS hL hSt
  have E0 := E
  obtain ⟨hx, hb, hml, hr, hlk, hnm, hown, hts, hKK, hA, hfr, hlo, hbs, hRc, hRs, hwm⟩ := E
  obtain ⟨q, b, f1, f2, f3, f4, f5, f6⟩ := hF
  obtain ⟨v, st', hq, hv, hSt'⟩ := SV.cons hSt
  obtain ⟨q', rfl, hv2⟩ := (VR.str (by omega) (by omega)).mp hv
  rw [STm_s he, f1.2] at hv2
  obtain rfl : q = q' := by simpa using hv2
  subst hq
  exact vk_getf hx hb ((f3.moved hwm.alike).kept (keptS hW hbs hS)) hS hown (hts _ hl) (fun _ h => h) hd (k p ev R s m args below meth c Z K0 K H locs ls _ E0 hR hW hK hS hL ⟨⟨0, rfl, rfl⟩, hSt'⟩)
theorem aw_compact {idx : Nat} (hZ : SZk g) (hl : Cond.fieldLink M.1.cls idx "java/lang/String" "COMPACT_STRINGS" "Z" ∈ lw_use) (hd : decode M.2.1 pc = .ok (.getstatic idx, 3)) (k : AW g l d M (pc + 3) L (vI 1 :: S) σ Q) : AW g l d M pc L S σ Q := by
  intro p ev R s m args below meth c Z K0 K H locs ls st E hR hW hK hS hL hSt
  have E0 := E
  obtain ⟨hx, hb, hml, hr, hlk, hnm, hown, hts, hKK, hA, hfr, hlo, hbs, hRc, hRs, hwm⟩ := E
  exact va_gets hx hb ((hZ.1.moved hwm.alike).kept (keptS hW hbs hS)) hS hown (hts _ hl) (fun _ h => h) hd (k p ev R s m args below meth c Z K0 K H locs ls _ E0 hR hW hK hS hL ⟨⟨1, rfl, rfl⟩, hSt⟩)
/-- the formatter stands where the script would -/
theorem aw_fmt {idx : Nat} (hZ : va_Z "jdk/internal/util/Preconditions" "SIOOBE_FORMATTER" "Ljava/util/function/BiFunction;" (.ref g.2.2.2.1) (fun q => gB g ≤ q) (gS g) (gS g).heap) (hl : Cond.fieldLink M.1.cls idx "jdk/internal/util/Preconditions" "SIOOBE_FORMATTER" "Ljava/util/function/BiFunction;" ∈ lw_use) (hd : decode M.2.1 pc = .ok (.getstatic idx, 3)) (k : AW g l d M (pc + 3) L (vA 9999 0 :: S) σ Q) : AW g l d M pc L S σ Q := by
  intro p ev R s m args below meth c Z K0 K H locs ls st E hR hW hK hS hL hSt
  have E0 := E
  obtain ⟨hx, hb, hml, hr, hlk, hnm, hown, hts, hKK, hA, hfr, hlo, hbs, hRc, hRs, hwm⟩ := E
  exact va_gets hx hb ((hZ.moved hwm.alike).kept (keptS hW hbs hS)) hS hown (hts _ hl) (fun _ h => h) hd (k p ev R s m args below meth c Z K0 K H locs ls _ E0 hR hW hK hS hL ⟨by show VR g K (vA 9999 0) _; unfold VR; dsimp only; rw [if_pos rfl], hSt⟩)
theorem aw_fmtN {idx : Nat} (hZ : va_Z "jdk/internal/util/Preconditions" "SIOOBE_FORMATTER" "Ljava/util/function/BiFunction;" .null (fun q => gB g ≤ q) (gS g) (gS g).heap) (hl : Cond.fieldLink M.1.cls idx "jdk/internal/util/Preconditions" "SIOOBE_FORMATTER" "Ljava/util/function/BiFunction;" ∈ lw_use) (hd : decode M.2.1 pc = .ok (.getstatic idx, 3)) (k : AW g l d M (pc + 3) L (vR 0 none :: S) σ Q) : AW g l d M pc L S σ Q := by
  intro p ev R s m args below meth c Z K0 K H locs ls st E hR hW hK hS hL hSt
  have E0 := E
  obtain ⟨hx, hb, hml, hr, hlk, hnm, hown, hts, hKK, hA, hfr, hlo, hbs, hRc, hRs, hwm⟩ := E
  exact va_gets hx hb ((hZ.moved hwm.alike).kept (keptS hW hbs hS)) hS hown (hts _ hl) (fun _ h => h) hd (k p ev R s m args below meth c Z K0 K H locs ls _ E0 hR hW hK hS hL ⟨rfl, hSt⟩)
theorem aw_blen (he : e < 300) (hF : SFk g e tx bs) (hn : bs.length < 2147483648) (hd : decode M.2.1 pc = .ok (.arraylength, 1)) (k : AW g l d M (pc + 1) L (vI (bs.length : Int) :: S) σ Q) : AW g l d M pc L (vA (9300 + e) 0 :: S) σ Q := by
  intro p ev R s m args below meth c Z K0 K H locs ls st E hR hW hK hS hL hSt
  have E0 := E
  obtain ⟨hx, hb, hml, hr, hlk, hnm, hown, hts, hKK, hA, hfr, hlo, hbs, hRc, hRs, hwm⟩ := E
  obtain ⟨q, b, f1, f2, f3, f4, f5, f6⟩ := hF
  obtain ⟨v, st', hq, hv, hSt'⟩ := SV.cons hSt
  obtain ⟨q', rfl, hv2⟩ := (VR.str (by omega) (by omega)).mp hv
  rw [f6] at hv2
  obtain rfl : b = q' := by simpa using hv2
  subst hq
  exact va_tlen hx hb ((f5.moved hwm.alike).kept (keptS hW hbs hS)) hS rfl hd (k p ev R s m args below meth c Z K0 K H locs ls _ E0 hR hW hK hS hL ⟨⟨_, rfl, nI_toInt hn⟩, hSt'⟩)
theorem aw_bbload {i : Int} (he : e < 300) (hF : SFk g e tx bs) (hd : decode M.2.1 pc = .ok (.baload, 1)) (h0 : 0 ≤ i) (h1 : i < bs.length) (k : AW g l d M (pc + 1) L (vI (bs.getD i.toNat 0).toInt :: S) σ Q) : AW g l d M pc L (vI i :: vA (9300 + e) 0 :: S) σ Q := by
  intro p ev R s m args below meth c Z K0 K H locs ls st E hR hW hK hS hL hSt
  have E0 := E
  obtain ⟨hx, hb, hml, hr, hlk, hnm, hown, hts, hKK, hA, hfr, hlo, hbs, hRc, hRs, hwm⟩ := E
  obtain ⟨q, b, f1, f2, f3, f4, f5, f6⟩ := hF
  obtain ⟨v, w, st', hq, ⟨y, hv1, hv2⟩, hw, hSt'⟩ := SV.cons2 hSt
  obtain ⟨q', rfl, hv3⟩ := (VR.str (by omega) (by omega)).mp hw
  rw [f6] at hv3
  obtain rfl : b = q' := by simpa using hv3
  subst hq hv1
  obtain ⟨j1, j2, j3⟩ := in_of hv2 h0 h1
  exact va_tb hx hb ((f5.moved hwm.alike).kept (keptS hW hbs hS)) hS j1 (v := .int (bs.getD i.toNat 0)) (by rw [j2]) hd (k p ev R s m args below meth c Z K0 K H locs ls _ E0 hR hW hK hS hL ⟨⟨_, rfl, rfl⟩, hSt'⟩)
theorem aw_i2b {x : Int} (h0 : 0 ≤ x) (h1 : x ≤ 255) (hd : decode M.2.1 pc = .ok (.i2b, 1)) (k : AW g l d M (pc + 1) L (vI (if x < 128 then x else x - 256) :: S) σ Q) : AW g l d M pc L (vI x :: S) σ Q := by
  intro p ev R s m args below meth c Z K0 K H locs ls st E hR hW hK hS hL hSt
  have E0 := E
  obtain ⟨hx, hb, hml, hr, hlk, hnm, hown, hts, hKK, hA, hfr, hlo, hbs, hRc, hRs, hwm⟩ := E
  obtain ⟨_, _, hq1, ⟨a, hq2, rfl⟩, hq3⟩ := SV.cons hSt
  subst hq2 hq1
  refine lv_i2b hx hb hd rfl (k p ev R s m args below meth c Z K0 K H locs ls _ E0 hR hW hK hS hL ⟨⟨_, rfl, ?_⟩, hq3⟩)
  rw [Int8.toInt_toInt32, Int32.toInt_toInt8, Int.bmod_def]
  have h8 : ((2 ^ 8 : Nat) : Int) = 256 := by decide
  rw [h8]
  split <;> split <;> omega
/-- a call of a method of the String -/
theorem aw_strV {n idx : Nat} {M' : MD} (As : List AV) (he : e < 300) (hF : SFk g e tx bs) (hM : MOK M' n) (hn : As.length = n) (hl : Cond.methodLink M.1.cls idx M'.1 ∈ lw_use) (hi : Cond.instanceMethod M'.1 ∈ lw_use) (hs' : Cond.selects M'.1.cls M'.1 M'.1 ∈ lw_use) (hci : M'.1.cls = "java/lang/String") (hd : decode M.2.1 pc = .ok (.invokevirtual idx, 3)) {S0 : List AV} (hS0 : S0 = As.reverse ++ vA (9000 + e) 0 :: S) (hcat : (S.map catA).sum ≤ 8)
    (k : ACi g l d M' (vA (9000 + e) 0 :: As) σ (fun v σ' => AW g l (d + 1) M (pc + 3) L (vI v :: S) σ' Q)) : AW g l (d + 1) M pc L S0 σ Q := by
  subst hS0
  have k : AC g l d M' (vA (9000 + e) 0 :: As) σ (fun v σ' => AW g l (d + 1) M (pc + 3) L (v.toList ++ S) σ' Q) := AC.mono (fun _ _ ⟨_, e, k'⟩ => by subst e; exact k') k
  intro p ev R s m args below meth c Z K0 K H locs ls st E hR hW hK hS hL hSt
  have E0 := E
  obtain ⟨hx, hb, hml, hrt, hlk, hnm, hown, hts, hKK, hA, hfr, hlo, hbs, hRc, hRs, hwm⟩ := E
  obtain ⟨q, b, f1, f2, f3, f4, f5, f6⟩ := hF
  obtain ⟨sa, sb, rfl, h1, h2⟩ := SV.app hSt
  obtain ⟨v, st', rfl, hv, h3⟩ := SV.cons h2
  have h1' := SV.rev h1
  rw [List.reverse_reverse] at h1'
  have hv0 := hv
  obtain ⟨q', rfl, hv2⟩ := (VR.str (by omega) (by omega)).mp hv
  rw [STm_s he, f1.2] at hv2
  obtain rfl : q = q' := by simpa using hv2
  have hvals : SV g K (vA (9000 + e) 0 :: As) (.ref q :: sa.reverse) := ⟨hv0, h1'⟩
  have hL0 := hL
  obtain ⟨lv, hlv, -⟩ := hL
  have w1 := hW.1.1
  have w2 := hW.1.2.1
  have w4 := hW.1.2.2.2.1
  have w5 := hW.1.2.2.2.2.1
  refine W.adds hbs (fun hadd hle => ?_)
  obtain ⟨cellB, g1, g2, g3, -⟩ := ((f2.moved hwm.alike).kept (keptS hW hbs hS)).kept hS.2.1
  have hpre : PreV s H M'.1.cls q (PcA g σ K (.ref q :: sa.reverse)) sa.reverse := ⟨blindA, ⟨cellB, g1, g2, by rw [hci]; exact g3⟩, preA hW hKK hA hwm hts⟩
  refine run_core (va_runV (As := sa.reverse) (rest := st') ⟨hx, hb, hml, hown, hts⟩ (k K _ hvals) ⟨callBA E0 hM hl, hts _ hi, hts _ hs'⟩ hpre rfl ?_ hlv.1 (by rw [List.reverse_reverse]) (lv_room (by rw [SV.cats h3]; exact hcat)) hd ⟨by omega, by omega⟩) hS ?_
  · rw [SV.len h1']; exact hn
  · intro v' σ' K' rv H' locs' q1 q2 q3 q4 q5
    exact q4 p ev R s m args below meth c Z K0 K' H' locs' ls _ E0 hR q2 (hK.trans q3) q5 (hL0.mono q3) (q1.app (SV.mono q3 h3))
end RS
