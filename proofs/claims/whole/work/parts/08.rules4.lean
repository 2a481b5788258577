def sB (σ : St) (n : Nat) : St := (σ.1, σ.2.1, σ.2.2.1, σ.2.2.2.1, hs σ + 1, sl σ + n)
def Kset (K : KM) (q : Nat) (x : Nat ⊕ (Nat × Nat)) : KM := fun a => if a = q then some x else K a
theorem Kset_le {K : KM} {q : Nat} {x : Nat ⊕ (Nat × Nat)} (h : K q = none) : KLe K (Kset K q x) := by
  intro a y hy
  unfold Kset
  split
  · rename_i e; subst e; rw [h] at hy; cases hy
  · exact hy
theorem Kset_self (K : KM) (q : Nat) (x : Nat ⊕ (Nat × Nat)) : Kset K q x q = some x := if_pos rfl
theorem Kset_ne {K : KM} {q a : Nat} {x : Nat ⊕ (Nat × Nat)} (h : a ≠ q) : Kset K q x a = K a := if_neg h
theorem Wd.fresh {g : GP} {σ : St} {K : KM} {H : Heap} (hW : Wd g σ K H) {q : Nat} (hq : H.size ≤ q) : K q = none := by
  cases h : K q with
  | none => rfl
  | some x => have := (hW.2.1 q x h).2; omega
theorem Wd.push {g : GP} {σ : St} {K : KM} {H : Heap} (hW : Wd g σ K H) {cell : Cell} {n : Nat} (hn : cell.slots.size = n) (h1 : hs σ + 1 ≤ gB g + 600000) (h2 : sl σ + n ≤ 7302250) : Wd g (sB σ n) K (H.push cell) := by
  obtain ⟨⟨w1, w2, w3, w4, w5, w6⟩, w7, w8, w9, w10⟩ := hW
  have ho : ∀ q : Nat, q < H.size → (H.push cell)[q]? = H[q]? := fun q hq => by rw [Array.getElem?_push, if_neg (Nat.ne_of_lt hq)]
  refine ⟨⟨?_, ?_, ?_, h1, h2, fun q hq => ?_⟩, fun a x ha => ?_, w8, fun a ci ha => ?_, fun q f a hq => ?_⟩
  · show _ = hs σ + 1
    rw [Array.size_push, w1]
  · show _ = sl σ + n
    rw [nsl_push _ _ (by rw [w1]; exact w3), w2, hn]
  · show _ ≤ hs σ + 1
    omega
  · rw [ho q (by omega)]; exact w6 q hq
  · have := w7 a x ha
    rw [Array.size_push]
    omega
  · obtain ⟨r, V, e1, e2, e3⟩ := w9 a ci ha
    exact ⟨r, V, e1, e2.kept (ho a (w7 a _ ha).2), fun k hk => XV.agr Agr.rfl rfl (e3 k hk)⟩
  · obtain ⟨t, V, e1, e2, e3, e4, e5, e6⟩ := w10 q f a hq
    exact ⟨t, V, e1, e2, e3, e4, by rw [ho q (w7 q _ hq).2]; exact e5, fun i hi => XV.agr Agr.rfl rfl (e6 i hi)⟩
def ok5 : FieldType → Bool
  | .int => true
  | .boolean => true
  | .long => true
  | .object _ => true
  | .array _ => true
  | _ => false
def okC (ci N : Nat) : Bool := decide (N ≤ 100) && (List.range N).all (fun k => ok5 (TYT ci k))
theorem okC_all : ∀ (ci : Nat) (r : vw_C), vwCl[ci]? = some r → okC ci r.2.2 = true
  | 0, _, h => by cases h; decide +kernel
  | 1, _, h => by cases h; decide +kernel
  | 2, _, h => by cases h; decide +kernel
  | 3, _, h => by cases h; decide +kernel
  | 4, _, h => by cases h; decide +kernel
  | 5, _, h => by cases h; decide +kernel
  | 6, _, h => by cases h; decide +kernel
  | 7, _, h => by cases h; decide +kernel
  | 8, _, h => by cases h; decide +kernel
  | 9, _, h => by cases h; decide +kernel
  | 10, _, h => by cases h; decide +kernel
  | 11, _, h => by cases h; decide +kernel
  | 12, _, h => by cases h; decide +kernel
  | _ + 13, _, h => by simp [vwCl] at h
theorem TYF_at {ci k : Nat} (h : k < 100) : TYF (100 * ci + k) = TYT ci k := by
  unfold TYF
  rw [show (100 * ci + k) / 100 = ci by omega, show (100 * ci + k) % 100 = k by omega]
theorem XV.dflt {K : KM} {σ : St} {f a : Nat} {t : FieldType} (ht : ok5 t = true) (h1 : gI σ f a 0 = 0) (h2 : gJ σ f a 0 = 0) (h3 : gR σ f a 0 = none) (h4 : gL σ f a = 0) : XV K t σ f a 0 (defaultValue t) := by
  cases t with
  | int => exact ⟨0, rfl, by rw [h1]; rfl⟩
  | boolean => exact ⟨0, rfl, by rw [h1]; rfl⟩
  | long => show _ = Value.long _; rw [h2]; rfl
  | object C => unfold XV; dsimp only; rw [h3]; rfl
  | array t => exact Or.inl ⟨h4, rfl⟩
  | _ => cases ht
theorem Wd.newO {g : GP} {σ : St} {K : KM} {H : Heap} {n ci : Nat} {r : vw_C} (hW : Wd g (sB σ n) K H) (hsz : H.size = hs σ + 1) (hf : K (hs σ) = none) (hb : gB g ≤ hs σ) (hr : vwCl[ci]? = some r) (ho : t_OB (hs σ) ((gD g).1 ci) r.2.2 ((gD g).2 ci) H (fun j => defaultValue (TYT ci j))) : Wd g (sNew σ n) (Kset K (hs σ) (.inl ci)) H := by
  obtain ⟨⟨w1, w2, w3, w4, w5, w6⟩, w7, w8, w9, w10⟩ := hW
  have hle := Kset_le (x := .inl ci) hf
  have hag : ∀ f a i, a ≠ hs σ → Agr (sB σ n) (sNew σ n) f a i := fun f a i h => ⟨if_neg h, if_neg h, if_neg h⟩
  have hL : ∀ f a, a ≠ hs σ → gL (sNew σ n) f a = gL (sB σ n) f a := fun f a h => if_neg h
  have hne : ∀ a x, K a = some x → a ≠ hs σ := fun a x h e => by rw [e, hf] at h; cases h
  refine ⟨⟨w1, w2, w3, w4, w5, w6⟩, fun a x ha => ?_, fun q q' x hq hq' => ?_, fun a c ha => ?_, fun q f a hq => ?_⟩
  · by_cases e : a = hs σ
    · subst e; exact ⟨hb, by omega⟩
    · rw [Kset_ne e] at ha; exact w7 a x ha
  · have e : q ≠ hs σ := fun e => by rw [e, Kset_self] at hq; cases hq
    have e' : q' ≠ hs σ := fun e => by rw [e, Kset_self] at hq'; cases hq'
    rw [Kset_ne e] at hq
    rw [Kset_ne e'] at hq'
    exact w8 q q' x hq hq'
  · by_cases e : a = hs σ
    · subst e
      rw [Kset_self] at ha
      have ha : ci = c := by simpa using ha
      subst ha
      have hk := okC_all _ _ hr
      unfold okC at hk
      rw [Bool.and_eq_true] at hk
      have hN : r.2.2 ≤ 100 := of_decide_eq_true hk.1
      refine ⟨r, _, hr, ho, fun k hkN => ?_⟩
      rw [TYF_at (by omega)]
      exact XV.dflt (List.all_eq_true.mp hk.2 k (List.mem_range.mpr hkN)) (if_pos rfl) (if_pos rfl) (if_pos rfl) (if_pos rfl)
    · rw [Kset_ne e] at ha
      obtain ⟨r, V, e1, e2, e3⟩ := w9 a c ha
      exact ⟨r, V, e1, e2, fun k hk => (XV.agr (hag _ _ _ e) (hL _ _ e) (e3 k hk)).mono hle⟩
  · have e : q ≠ hs σ := fun e => by rw [e, Kset_self] at hq; cases hq
    rw [Kset_ne e] at hq
    obtain ⟨t, V, e1, e2, e3, e4, e5, e6⟩ := w10 q f a hq
    have ea := hne a _ e4
    refine ⟨t, V, e1, e2, by rw [hL _ _ ea]; exact e3, hle _ _ e4, by rw [hL _ _ ea]; exact e5, fun i hi => ?_⟩
    rw [hL _ _ ea] at hi
    exact (XV.agr (hag _ _ _ ea) (hL _ _ ea) (e6 i hi)).mono hle
section R4
variable {g : GP} {l : Launch} {d : Nat} {M : MD} {pc : Nat} {L : List (Option AV)} {S : List AV} {σ : St} {Q : Option AV → St → Prop}
theorem aw_new {ci n idx : Nat} {C : String} {T : u_T} (hr : vwCl[ci]? = some (C, T, n)) (hcl : Cond.classLink M.1.cls idx C ∈ lw_use) (hins : Cond.instantiable C n ∈ lw_use) (hini : Cond.initialized C ∈ lw_use) (hd : decode M.2.1 pc = .ok (.new idx, 3)) (h1 : hs σ + 1 ≤ gB g + 600000) (h2 : sl σ + n ≤ 7302250)
    (k : AW g l d M (pc + 3) L (vR ci (some (hs σ)) :: S) (sNew σ n) Q) : AW g l d M pc L S σ Q := by
  intro p e R s m args below meth c Z K0 K H locs ls st E hR hW hK hS hL hSt
  have E0 := E
  obtain ⟨hx, hb, hml, hrt, hlk, hnm, hown, hts, hKK, hA, hfr, hlo, hbs, hRc, hRs, hwm⟩ := E
  refine W.adds hbs (fun hadd hle => ?_)
  have w1 := hW.1.1
  have w2 := hW.1.2.1
  refine W.newc hx hb hown (hts _ hcl) (hts _ hins) (hts _ hini) rfl hd (by omega) (by omega) (fun cC kC f1 f2 f3 f4 => ?_)
  have hKn := hKK.1 ci _ hr
  have hcC : cC = (gD g).1 ci := Option.some.inj (f1.symm.trans hKn.2.1)
  subst hcC
  refine W.tight ?_
  have hsz : ({ cls := (gD g).1 ci, slots := kC.instanceTypes.map defaultValue, vm := .none } : Cell).slots.size = n := by simp [f4]
  have hfresh : K (hs σ) = none := hW.fresh (by omega)
  have hWp := hW.push hsz h1 h2
  generalize hH1 : H.push ({ cls := (gD g).1 ci, slots := kC.instanceTypes.map defaultValue, vm := .none } : Cell) = H1 at hWp ⊢
  have z1 : H1.size = H.size + 1 := by rw [← hH1, Array.size_push]
  have e1 : H1[H.size]? = some { cls := (gD g).1 ci, slots := kC.instanceTypes.map defaultValue, vm := .none } := by rw [← hH1, Array.getElem?_push_size]
  have o1 : ∀ q : Nat, q < H.size → H1[q]? = H[q]? := fun q hq => by rw [← hH1, Array.getElem?_push, if_neg (Nat.ne_of_lt hq)]
  have hob := u_born (TYT ci) hts (cf_all _ _ hr).1 hKn f2 e1 (cf_all _ _ hr).2.1
  rw [w1] at hob
  have hW2 := hWp.newO (by omega) hfresh hW.1.2.2.1 hr hob
  have hle2 := Kset_le (x := .inl ci) hfresh
  exact k p e R s m args below meth c Z K0 (Kset K (hs σ) (.inl ci)) H1 locs ls _ E0 hR hW2 (hK.trans hle2) ⟨Nat.le_trans hS.1 (by omega), fun x h1 h2 => (o1 x (Nat.lt_of_lt_of_le h1 hS.1)).trans (hS.2.1 x h1 h2), hS.2.2⟩ (hL.mono hle2) ⟨⟨by rw [w1], Kset_self _ _ _⟩, SV.mono hle2 hSt⟩
theorem aw_objInit {r ci idx : Nat} (hl : Cond.methodLink M.1.cls idx Lib.objectInit ∈ lw_use) (hi : Cond.instanceMethod Lib.objectInit ∈ lw_use) (hc : Cond.code Lib.objectInit ⟨#[0xb1]⟩ 1 none ∈ lw_use) (hd : decode M.2.1 pc = .ok (.invokespecial idx, 3)) (hcat : (S.map catA).sum ≤ 8) (k : AW g l (d + 1) M (pc + 3) L S σ Q) : AW g l (d + 1) M pc L (vR ci (some r) :: S) σ Q := by
  intro p e R s m args below meth c Z K0 K H locs ls st E hR hW hK hS hL hSt
  have E0 := E
  obtain ⟨hx, hb, hml, hrt, hlk, hnm, hown, hts, hKK, hA, hfr, hlo, hbs, hRc, hRs, hwm⟩ := E
  obtain ⟨v, st', hq, ⟨hv1, hv2⟩, hSt'⟩ := SV.cons hSt
  subst hq hv1
  have hm := lv_room (m := m) (pc := pc) (ls := ls) (rest := .ref r :: st') (st := st') (by rw [SV.cats hSt']; exact hcat)
  have hL0 := hL
  obtain ⟨lv, hlv, -⟩ := hL
  refine W.objInit hx hb hown (hts _ hl) (hts _ hi) (hts _ hc) rfl (hlv.1.trans hml.symm) rfl hd (by omega) (by omega) ?_
  exact k p e R s m args below meth c Z K0 K H locs ls _ E0 hR hW hK hS hL0 hSt'
end R4
