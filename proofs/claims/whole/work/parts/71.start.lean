/-! the law's entry: classes, array classes, strings; its body by AW gives the walk that is owed -/
theorem tb_any {w : Cond} (i : Nat) (h : tables_1[i]? = some w) : w ∈ lw_tbl := List.mem_append_right _ (List.mem_of_getElem? h)
theorem k_va {args : Array Value} {s : State} (hts : ∀ w ∈ lw_use, w.before args s = true) : ∃ D : va_G, va_K D vwCl [] s := by
  obtain ⟨c0, i0, k0⟩ := u_known (C := RX0) (T := TX0) (N := 3) (n := 3) hts uk_X0 (hts _ ln_X0)
  obtain ⟨c1, i1, k1⟩ := u_known (C := RX1) (T := TX1) (N := 11) (n := 11) hts uk_X1 (hts _ ln_X1)
  obtain ⟨c2, i2, k2⟩ := u_known (C := RX2) (T := TX2) (N := 17) (n := 17) hts uk_X2 (hts _ ln_X2)
  obtain ⟨c3, i3, k3⟩ := u_known (C := RX3) (T := TX3) (N := 5) (n := 5) hts uk_X3 (hts _ ln_X3)
  obtain ⟨c4, i4, k4⟩ := u_known (C := RX4) (T := TX4) (N := 6) (n := 6) hts uk_X4 (hts _ ln_X4)
  obtain ⟨c5, i5, k5⟩ := u_known (C := RX5) (T := TX5) (N := 17) (n := 17) hts uk_X5 (hts _ ln_X5)
  obtain ⟨c6, i6, k6⟩ := u_known (C := RX6) (T := TX6) (N := 11) (n := 11) hts uk_X6 (hts _ ln_X6)
  obtain ⟨c7, i7, k7⟩ := u_known (C := RX7) (T := TX7) (N := 3) (n := 3) hts uk_X7 (hts _ ln_X7)
  obtain ⟨c8, i8, k8⟩ := u_known (C := RX8) (T := TX8) (N := 5) (n := 5) hts uk_X8 (hts _ ln_X8)
  obtain ⟨c9, i9, k9⟩ := u_known (C := RX9) (T := TX9) (N := 7) (n := 7) hts uk_X9 (hts _ ln_X9)
  obtain ⟨c10, i10, k10⟩ := u_known (C := RX10) (T := TX10) (N := 10) (n := 10) hts uk_X10 (hts _ ln_X10)
  obtain ⟨c11, i11, k11⟩ := u_known (C := RX11) (T := TX11) (N := 16) (n := 16) hts uk_X11 (hts _ ln_X11)
  obtain ⟨c12, i12, k12⟩ := u_known (C := RX12) (T := TX12) (N := 91) (n := 91) hts uk_X12 (hts _ ln_X12)
  refine ⟨(fun k => match k with | 0 => c0 | 1 => c1 | 2 => c2 | 3 => c3 | 4 => c4 | 5 => c5 | 6 => c6 | 7 => c7 | 8 => c8 | 9 => c9 | 10 => c10 | 11 => c11 | _ => c12, fun k => match k with | 0 => i0 | 1 => i1 | 2 => i2 | 3 => i3 | 4 => i4 | 5 => i5 | 6 => i6 | 7 => i7 | 8 => i8 | 9 => i9 | 10 => i10 | 11 => i11 | _ => i12), fun k q hq => ?_, fun k q h => by simp at h⟩
  match k, hq with
  | 0, hq => cases hq; exact k0
  | 1, hq => cases hq; exact k1
  | 2, hq => cases hq; exact k2
  | 3, hq => cases hq; exact k3
  | 4, hq => cases hq; exact k4
  | 5, hq => cases hq; exact k5
  | 6, hq => cases hq; exact k6
  | 7, hq => cases hq; exact k7
  | 8, hq => cases hq; exact k8
  | 9, hq => cases hq; exact k9
  | 10, hq => cases hq; exact k10
  | 11, hq => cases hq; exact k11
  | 12, hq => cases hq; exact k12
  | k + 13, hq => simp [vwCl] at hq
theorem k_ka {args : Array Value} {s : State} (hts : ∀ w ∈ lw_use, w.before args s = true) : ∃ C : FieldType → ClassId, ∀ t ∈ ATS, ArrOfT s (C t) t ∧ va_RA s (C t) t := by
  have prim : ∀ t : FieldType, (Cond.arrayClass t).before args s = true → (∀ c, s.vm.findClass ("[" ++ t.toString) = some c → va_RA s c t) → ∃ c, ArrOfT s c t ∧ va_RA s c t := by
    intro t h hr
    obtain ⟨c, k, comp, h1, h2, h3⟩ := Cond.arrayClass_spec (args := args) (first := s) (o := none) (s := s) (idx := []) h
    exact ⟨c, fun n z => ⟨fun k => by simp [arrV], k, h2, comp, h3⟩, hr c h1⟩
  have obj : ∀ C : String, (Cond.arrayOver (.object C)).before args s = true → ∃ c, ArrOfT s c (.object C) ∧ va_RA s c (.object C) := by
    intro C h
    obtain ⟨comp, c, k, h1, -, h2, h3, h4⟩ := Cond.arrayOver_spec (args := args) (first := s) (o := none) (s := s) (idx := []) h
    exact ⟨c, fun n z => ⟨fun k => by simp [arrV], k, h2, comp, h3⟩, k, comp, h2, h3, h1, h4⟩
  have all : ∀ t : FieldType, ∃ c, t ∈ ATS → ArrOfT s c t ∧ va_RA s c t := by
    intro t
    by_cases ht : t ∈ ATS
    · have hex : ∃ c, ArrOfT s c t ∧ va_RA s c t := by
        simp only [ATS, List.mem_cons, List.not_mem_nil, or_false] at ht
        rcases ht with rfl | rfl | rfl | rfl | rfl | rfl | rfl | rfl | rfl
        · exact prim .int (hts _ la_int) (fun c h => h)
        · exact prim .long (hts _ la_long) (fun c h => h)
        · exact prim .boolean (hts _ la_boolean) (fun c h => h)
        · exact obj _ (hts _ lo_X3)
        · exact obj _ (hts _ lo_X4)
        · exact obj _ (hts _ lo_X8)
        · exact obj _ (hts _ lo_X2)
        · exact obj _ (hts _ lo_X5)
        · exact obj _ (hts _ lo_X10)
      obtain ⟨c, hc⟩ := hex
      exact ⟨c, fun _ => hc⟩
    · exact ⟨0, fun h => absurd h ht⟩
  obtain ⟨C, hC⟩ := Classical.axiomOfChoice all
  exact ⟨C, hC⟩
theorem k_str {args : Array Value} {g : GP} {e : Nat} {tx : String} {bs : List Int32} (hn : bs.length < 2 ^ 31) (he : STm (9300 + e) = .field (.string "OverlayViewer$Tape" e) "java/lang/String" "value" "[B") (hsr : (Cond.stringRef "OverlayViewer$Tape" e tx).before args (gS g) = true) (hex : (Cond.exactly (.string "OverlayViewer$Tape" e) "java/lang/String").before args (gS g) = true) (hco : (Cond.eq (.field (.string "OverlayViewer$Tape" e) "java/lang/String" "coder" "B") (.int 0)).before args (gS g) = true)
    (har : (Cond.arrayOf (.field (.string "OverlayViewer$Tape" e) "java/lang/String" "value" "[B") .byte).before args (gS g) = true) (hle : (Cond.eq (.length (.field (.string "OverlayViewer$Tape" e) "java/lang/String" "value" "[B")) (.int (Int32.ofNat bs.length))).before args (gS g) = true)
    (hel : ∀ j : Nat, j < bs.length → (Cond.eq (.elem (.field (.string "OverlayViewer$Tape" e) "java/lang/String" "value" "[B") (.int (Int32.ofNat j))) (.int (bs.getD j 0))).before args (gS g) = true) : SFk g e tx bs := by
  have hA : ∀ a : Nat, a < (gS g).heap.size → ¬ (fun q => gB g ≤ q) a := fun a h q => by
    have q' : gB g ≤ a := q
    exact absurd h (Nat.not_lt.mpr q')
  obtain ⟨a, c, cA, kA, q1, q2, q3, q4, q5, q6, -⟩ := Cond.exactly_spec (args := args) (first := gS g) (o := none) (s := gS g) (idx := []) (t := .string "OverlayViewer$Tape" e) (cls := "java/lang/String") hex
  obtain ⟨t, ht, hT⟩ := va_Tof (f := fun j => .int (bs.getD j 0)) (A := fun q => gB g ≤ q) hn har (va_eqt hle) (fun j hj => va_eqt (hel j hj)) hA
  exact ⟨a, t, vk_R.of hsr q1, ⟨cA, q3, q5, by rw [q6]; exact q2, hA a (Array.getElem?_eq_some_iff.mp q3).1⟩, vk_OFof q1 (va_eqt hco) hA, vk_OFof q1 ht hA, hT, by rw [he]; exact ht⟩
theorem kw_in : ∀ j : Fin 124, Cond.eq (.elem (.field (.string "OverlayViewer$Tape" 28) "java/lang/String" "value" "[B") (.int (Int32.ofNat j.val))) (.int (KWB.getD j.val 0)) ∈ flatC (Jvm.Cond.and given_1 narrow_1) := by decide +kernel
theorem sg_in : ∀ j : Fin 18, Cond.eq (.elem (.field (.string "OverlayViewer$Tape" 76) "java/lang/String" "value" "[B") (.int (Int32.ofNat j.val))) (.int (SGB.getD j.val 0)) ∈ flatC (Jvm.Cond.and given_1 narrow_1) := by decide +kernel
set_option maxRecDepth 8000 in
theorem k_sok {b : Nat} {g : GP} (hts : ∀ w ∈ lw_tbl, w.before #[Value.ref b] (gS g) = true) (hgv : (Jvm.Cond.and given_1 narrow_1).before #[Value.ref b] (gS g) = true) : SOK g := by
  have hf := flat_of_before _ hgv
  have hA : ∀ a : Nat, a < (gS g).heap.size → ¬ (fun q => gB g ≤ q) a := fun a h q => by
    have q' : gB g ≤ a := q
    exact absurd h (Nat.not_lt.mpr q')
  refine ⟨k_str (args := #[Value.ref b]) (by decide) rfl (hts _ (tb_any 38 (by decide +kernel))) (hf _ (by decide +kernel)) (hf _ (by decide +kernel)) (hf _ (by decide +kernel)) (hf _ (by decide +kernel)) (fun j hj => hf _ (kw_in ⟨j, hj⟩)), k_str (args := #[Value.ref b]) (by decide) rfl (hts _ (tb_any 723 (by decide +kernel))) (hf _ (by decide +kernel)) (hf _ (by decide +kernel)) (hf _ (by decide +kernel)) (hf _ (by decide +kernel)) (fun j hj => hf _ (sg_in ⟨j, hj⟩)), ?_, ?_⟩
  · exact va_Zof (hts _ (tb_any 48 (by decide +kernel))) (hts _ (tb_any 3 (by decide +kernel))) (va_eqt (hf _ (by decide +kernel))) hA
  · obtain ⟨v, hv1, hv2⟩ := Cond.isRef_spec (args := #[Value.ref b]) (first := gS g) (o := none) (s := gS g) (idx := []) (t := .static "jdk/internal/util/Preconditions" "SIOOBE_FORMATTER" "Ljava/util/function/BiFunction;") (hf _ (by decide +kernel))
    cases v with
    | ref q => exact Or.inr ⟨q, va_Zof (hts _ (tb_any 64 (by decide +kernel))) (hts _ (tb_any 5 (by decide +kernel))) hv1 hA⟩
    | null => exact Or.inl (va_Zof (hts _ (tb_any 64 (by decide +kernel))) (hts _ (tb_any 5 (by decide +kernel))) hv1 hA)
    | _ => simp [Value.isRef] at hv2
