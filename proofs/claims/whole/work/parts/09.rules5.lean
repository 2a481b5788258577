def ok4 : FieldType → Bool
  | .int => true
  | .boolean => true
  | .long => true
  | .object _ => true
  | _ => false
theorem ATS_ok4 : ∀ t ∈ ATS, ok4 t = true := by decide +kernel
theorem XV.dfl4 {K : KM} {σ : St} {f a i : Nat} {t : FieldType} (ht : ok4 t = true) (h1 : gI σ f a i = 0) (h2 : gJ σ f a i = 0) (h3 : gR σ f a i = none) : XV K t σ f a i (defaultValue t) := by
  cases t with
  | int => exact ⟨0, rfl, by rw [h1]; rfl⟩
  | boolean => exact ⟨0, rfl, by rw [h1]; rfl⟩
  | long => show _ = Value.long _; rw [h2]; rfl
  | object C => unfold XV; dsimp only; rw [h3]; rfl
  | _ => cases ht
theorem Wd.mkA {g : GP} {σ : St} {K : KM} {H H' : Heap} {n f r : Nat} {t : FieldType} {C nm ds : String} {fin : Bool} (hW : Wd g (sB σ n) K H) (hsz : H.size = hs σ + 1) (hf : K (hs σ) = none) (hb : gB g ≤ hs σ) (hF : FOK f (.array t) C nm ds fin) (hKr : K r = some (.inl (f / 100))) (ht : t ∈ ATS) (hn : n ≠ 0) (hL0 : gL σ f r = 0)
    (ha : H[hs σ]? = some (arrV (gC g t) n (fun _ => defaultValue t))) {cell : Cell} (hc : H[r]? = some cell) (hc' : H'[r]? = some (cell.setSlot ((gD g).2 (f / 100) (f % 100)) (.ref (hs σ)))) (hz : H'.size = H.size) (ho : ∀ q : Nat, q ≠ r → H'[q]? = H[q]?)
    (hap : ∀ x y N, (∃ T, vwCl[f / 100]? = some (C, T, N)) → x < N → y < N → x ≠ y → (gD g).2 (f / 100) x ≠ (gD g).2 (f / 100) y) : Wd g (sArr σ f r n) (Kset K (hs σ) (.inr (f, r))) H' := by
  have hO := hW.objAt hF hKr
  obtain ⟨⟨w1, w2, w3, w4, w5, w6⟩, w7, w8, w9, w10⟩ := hW
  have hle := Kset_le (x := .inr (f, r)) hf
  have hne : ∀ a x, K a = some x → a ≠ hs σ := fun a x h e => by rw [e, hf] at h; cases h
  have hrne : r ≠ hs σ := hne r _ hKr
  have hag : ∀ f' a i, ¬ (f' = f ∧ a = r) → Agr (sB σ n) (sArr σ f r n) f' a i := fun f' a i h => ⟨if_neg h, if_neg h, if_neg h⟩
  have hL : ∀ f' a, ¬ (f' = f ∧ a = r) → gL (sArr σ f r n) f' a = gL (sB σ n) f' a := fun f' a h => if_neg h
  have hLn : gL (sArr σ f r n) f r = n := if_pos ⟨rfl, rfl⟩
  have hno : ∀ q, K q ≠ some (.inr (f, r)) := fun q hq => by
    obtain ⟨_, _, _, _, e3, _⟩ := w10 q f r hq
    exact e3 hL0
  have hTF : TYF f = .array t := by obtain ⟨_, _, _, _, _, h, _⟩ := hF; exact h
  refine ⟨⟨by rw [hz]; exact w1, by rw [ast_nsl hc hc' hz ho]; exact w2, w3, w4, w5, fun q hq => ?_⟩, fun a x hx => ?_, fun q q' x hq hq' => ?_, fun a c hx => ?_, fun q f' a hq => ?_⟩
  · have := (w7 r _ hKr).1
    rw [ho q (by omega)]
    exact w6 q hq
  · rw [hz]
    by_cases e : a = hs σ
    · subst e; exact ⟨hb, by omega⟩
    · rw [Kset_ne e] at hx; exact w7 a x hx
  · by_cases e : q = hs σ
    · by_cases e' : q' = hs σ
      · rw [e, e']
      · rw [e, Kset_self] at hq
        rw [Kset_ne e', ← (show some (Sum.inr (f, r)) = some (Sum.inr x) from hq)] at hq'
        exact absurd hq' (hno q')
    · by_cases e' : q' = hs σ
      · rw [e', Kset_self] at hq'
        rw [Kset_ne e, ← (show some (Sum.inr (f, r)) = some (Sum.inr x) from hq')] at hq
        exact absurd hq (hno q)
      · rw [Kset_ne e] at hq
        rw [Kset_ne e'] at hq'
        exact w8 q q' x hq hq'
  · have e : a ≠ hs σ := fun e => by rw [e, Kset_self] at hx; cases hx
    rw [Kset_ne e] at hx
    by_cases ear : a = r
    · subst ear
      obtain rfl : f / 100 = c := by have := hKr.symm.trans hx; simpa using this
      obtain ⟨T, N, V, h1, h2, h3, ⟨cell', q1, q2, q3, q4⟩, h5, h6⟩ := hO
      cases hc.symm.trans q1
      refine ⟨_, updV V (f % 100) (.ref (hs σ)), h1, ⟨_, hc', q2, q3, t_set q4 (fun x y hx hy hne => hap x y N ⟨T, h1⟩ hx hy hne) h2 _⟩, fun k hk => ?_⟩
      by_cases hkf : k = f % 100
      · subst hkf
        rw [f_eq, hTF]
        simp only [updV, if_true]
        exact Or.inr ⟨_, rfl, Kset_self _ _ _, by rw [hLn]; exact hn⟩
      · simp only [updV, if_neg hkf]
        have hx : ¬ (100 * (f / 100) + k = f ∧ a = a) := fun q => hkf (by have := q.1; omega)
        exact (XV.agr (hag _ _ _ hx) (hL _ _ hx) (h5 k hk)).mono hle
    · obtain ⟨r', V, h1, h2, h3⟩ := w9 a c hx
      exact ⟨r', V, h1, h2.kept (ho a ear), fun k hk => (XV.agr (hag _ _ _ (fun q => ear q.2)) (hL _ _ (fun q => ear q.2)) (h3 k hk)).mono hle⟩
  · by_cases e : q = hs σ
    · rw [e, Kset_self] at hq
      obtain ⟨rfl, rfl⟩ : f = f' ∧ r = a := by simpa using hq
      refine ⟨t, fun _ => defaultValue t, hTF, ht, by rw [hLn]; exact hn, hle _ _ hKr, by rw [e, hLn, ho _ (fun z => hrne z.symm)]; exact ha, fun i _ => ?_⟩
      exact XV.dfl4 (ATS_ok4 t ht) (if_pos ⟨rfl, rfl⟩) (if_pos ⟨rfl, rfl⟩) (if_pos ⟨rfl, rfl⟩)
    · rw [Kset_ne e] at hq
      obtain ⟨t', V, e1, e2, e3, e4, e5, e6⟩ := w10 q f' a hq
      have hx : ¬ (f' = f ∧ a = r) := fun z => by rw [z.1, z.2] at hq; exact hno q hq
      have eq : q ≠ r := fun z => by rw [z, hKr] at hq; cases hq
      refine ⟨t', V, e1, e2, by rw [hL _ _ hx]; exact e3, hle _ _ e4, by rw [hL _ _ hx, ho q eq]; exact e5, fun i hi => ?_⟩
      rw [hL _ _ hx] at hi
      exact (XV.agr (hag _ _ _ hx) (hL _ _ hx) (e6 i hi)).mono hle
section R5
variable {g : GP} {l : Launch} {d : Nat} {M : MD} {pc : Nat} {L : List (Option AV)} {S : List AV} {σ : St} {Q : Option AV → St → Prop}
theorem mk_core {p : Program} {e : Env} {R : Room} {s : State} {m : MethodId} {args : Array Value} {below : List Frame} {meth : Method} {c : Code} {H H1 : Heap} {locs : List Loc} {Z : State → Prop} {K K0 : KM} {ls : Array Slot} {st' : List Value} {f r n idx : Nat} {t : FieldType} {C nm ds : String} {fin : Bool}
    (E : EnvOK g d M p R s m args meth c) (hR : Ret g M Q K0 p l e R s m args below meth c Z) (hW : Wd g σ K H) (hK : KLe K0 K) (hS : va_S (fun q => gB g ≤ q) s.heap H locs) (hL : LV g K ls M.2.2.1 L) (hSt : SV g K S st') (hKr : K r = some (.inl (f / 100)))
    (hF : FOK f (.array t) C nm ds fin) (ht : t ∈ ATS) (hini : M.1.name = "<init>" ∧ M.1.cls = C) (hlink : Cond.fieldLink M.1.cls idx C nm ds ∈ lw_use) (hd : decode M.2.1 pc = .ok (.putfield idx, 3)) (hn : n ≠ 0) (hL0 : gL σ f r = 0) (h1 : hs σ + 1 ≤ gB g + 600000) (h2 : sl σ + n ≤ 7302250)
    (hH1 : H1 = H.push (arrV (gC g t) n (fun _ => defaultValue t))) (k : AW g l d M (pc + 3) L S (sArr σ f r n) Q) : W p l e R s m args below meth c H1 locs (H1.size - s.heap.size) (nsl H1 s.heap.size) Z (F0 m pc ls (.ref H.size :: .ref r :: st')) := by
  have w1 := hW.1.1
  have hfresh : K (hs σ) = none := hW.fresh (by omega)
  have hWp := hW.push (cell := arrV (gC g t) n (fun _ => defaultValue t)) (n := n) (arrV_size _ _ _) h1 h2
  have z1 : H1.size = H.size + 1 := by rw [hH1, Array.size_push]
  have e1 : H1[hs σ]? = some (arrV (gC g t) n (fun _ => defaultValue t)) := by rw [hH1, ← w1, Array.getElem?_push_size]
  have o1 : ∀ q : Nat, q < H.size → H1[q]? = H[q]? := fun q hq => by rw [hH1, Array.getElem?_push, if_neg (Nat.ne_of_lt hq)]
  rw [← hH1] at hWp
  have hS1 : va_S (fun q => gB g ≤ q) s.heap H1 locs := ⟨Nat.le_trans hS.1 (by omega), fun x h1 h2 => (o1 x (Nat.lt_of_lt_of_le h1 hS.1)).trans (hS.2.1 x h1 h2), hS.2.2⟩
  refine put_core E hWp hS1 hF (Or.inr hini) hKr hlink hd rfl rfl (fun H' locs' cell c1 c2 c3 c4 c5 c6 => ?_)
  rw [← c3, ← ast_nsl c1 c2 c3 c4]
  have hle := Kset_le (x := .inr (f, r)) hfresh
  rw [w1] at c2
  exact k p e R s m args below meth c Z K0 (Kset K (hs σ) (.inr (f, r))) H' locs' ls _ E hR (hWp.mkA (by omega) hfresh hW.1.2.2.1 hF hKr ht hn hL0 e1 c1 c2 c3 c4 c5) (hK.trans hle) c6 (hL.mono hle) (SV.mono hle hSt)
theorem aw_mkArr {f r n idx : Nat} {i : Int} {t : FieldType} {atype : ArrayType} {C nm ds : String} {fin : Bool} (hF : FOK f (.array t) C nm ds fin) (ht : t ∈ ATS) (hty : newarray.typeOf atype = t) (hRA : ∀ s cA, va_RA s cA t → s.vm.findClass ("[" ++ t.toString) = some cA) (hac : Cond.arrayClass t ∈ lw_use) (hini : M.1.name = "<init>" ∧ M.1.cls = C) (hlink : Cond.fieldLink M.1.cls idx C nm ds ∈ lw_use)
    (hd0 : decode M.2.1 pc = .ok (.newarray atype, 2)) (hd : decode M.2.1 (pc + 2) = .ok (.putfield idx, 3)) (hi : i = n) (hn : n ≠ 0) (hn2 : n ≤ 60000) (hL0 : gL σ f r = 0) (h1 : hs σ + 1 ≤ gB g + 600000) (h2 : sl σ + n ≤ 7302250) (k : AW g l d M (pc + 5) L S (sArr σ f r n) Q) : AW g l d M pc L (vI i :: vR (f / 100) (some r) :: S) σ Q := by
  intro p e R s m args below meth c Z K0 K H locs ls st E hR hW hK hS hL hSt
  have E0 := E
  obtain ⟨hx, hb, hml, hrt, hlk, hnm, hown, hts, hKK, hA, hfr, hlo, hbs, hRc, hRs, hwm⟩ := E
  obtain ⟨v, w, st', hq, ⟨y, hv1, hv2⟩, ⟨hw1, hw2⟩, hSt'⟩ := SV.cons2 hSt
  subst hq hv1 hw1 hty
  have hy : y.toNatClampNeg = n := by
    have : y.toNatClampNeg = y.toInt.toNat := rfl
    rw [this, hv2, hi]; rfl
  have w1 := hW.1.1
  have w2 := hW.1.2.1
  refine W.adds hbs (fun hadd hle => ?_)
  refine W.newa hx hb (hts _ hac) rfl hd0 rfl (fun q => ?_) ?_ (by omega) (by omega) (fun cA kA comp f1 f2 f3 => ?_)
  · have := Int32.lt_iff_toInt_lt.mp q
    rw [hv2, hi, show (0 : Int32).toInt = 0 from rfl] at this
    omega
  · rw [hy]
    have : componentBytes (newarray.typeOf atype) ≤ 8 := by cases atype <;> decide
    calc n * componentBytes (newarray.typeOf atype) ≤ 60000 * 8 := Nat.mul_le_mul hn2 this
      _ ≤ 536870912 := by decide
  · have hcA : cA = gC g (newarray.typeOf atype) := Option.some.inj (f1.symm.trans (hRA _ _ (hA _ ht).2))
    subst hcA
    refine W.tight ?_
    rw [hy]
    exact mk_core (H := H) E0 hR hW hK hS hL hSt' hw2 hF ht hini hlink hd hn hL0 h1 h2 (by rw [arrV_new]) k
theorem aw_mkArrR {f r n idx idx0 : Nat} {i : Int} {D : String} {C nm ds : String} {fin : Bool} (hF : FOK f (.array (.object D)) C nm ds fin) (ht : .object D ∈ ATS) (hcl : Cond.classLink M.1.cls idx0 D ∈ lw_use) (hao : Cond.arrayOver (.object D) ∈ lw_use) (hini : M.1.name = "<init>" ∧ M.1.cls = C) (hlink : Cond.fieldLink M.1.cls idx C nm ds ∈ lw_use)
    (hd0 : decode M.2.1 pc = .ok (.anewarray idx0, 3)) (hd : decode M.2.1 (pc + 3) = .ok (.putfield idx, 3)) (hi : i = n) (hn : n ≠ 0) (hn2 : n ≤ 60000) (hL0 : gL σ f r = 0) (h1 : hs σ + 1 ≤ gB g + 600000) (h2 : sl σ + n ≤ 7302250) (k : AW g l d M (pc + 6) L S (sArr σ f r n) Q) : AW g l d M pc L (vI i :: vR (f / 100) (some r) :: S) σ Q := by
  intro p e R s m args below meth c Z K0 K H locs ls st E hR hW hK hS hL hSt
  have E0 := E
  obtain ⟨hx, hb, hml, hrt, hlk, hnm, hown, hts, hKK, hA, hfr, hlo, hbs, hRc, hRs, hwm⟩ := E
  obtain ⟨v, w, st', hq, ⟨y, hv1, hv2⟩, ⟨hw1, hw2⟩, hSt'⟩ := SV.cons2 hSt
  subst hq hv1 hw1
  have hy : y.toNatClampNeg = n := by
    have : y.toNatClampNeg = y.toInt.toNat := rfl
    rw [this, hv2, hi]; rfl
  have w1 := hW.1.1
  have w2 := hW.1.2.1
  refine W.adds hbs (fun hadd hle => ?_)
  refine W.anew hx hb hown (hts _ hcl) (hts _ hao) rfl hd0 rfl (fun q => ?_) (by omega) (by omega) (by omega) (fun cA kA comp f1 f2 f3 f4 => ?_)
  · have := Int32.lt_iff_toInt_lt.mp q
    rw [hv2, hi, show (0 : Int32).toInt = 0 from rfl] at this
    omega
  · obtain ⟨_, _, _, _, _, hRA⟩ := (hA _ ht).2
    have hcA : cA = gC g (.object D) := Option.some.inj (f1.symm.trans hRA)
    subst hcA
    refine W.tight ?_
    rw [hy]
    exact mk_core (H := H) E0 hR hW hK hS hL hSt' hw2 hF ht hini hlink hd hn hL0 h1 h2 (by rw [arrV_new]; rfl) k
end R5
