/-! what laying keeps -/
section LV
variable {En : List Enm} {Ss : List Stc} {h : Int → Int} {len : Int} {s s' : TS} {i k : Nat}
theorem NdV.cg (hv : NdV Ss len s i) (hd : ∀ f, s'.d f i = s.d f i) : NdV Ss len s' i := by
  unfold NdV nmN at hv ⊢
  simp only [hd]
  exact hv
theorem NdU.cg (hv : NdU Ss len s i) (hd : ∀ f, s'.d f i = s.d f i) : NdU Ss len s' i := by
  unfold NdU at hv ⊢
  simp only [hd]
  exact hv
theorem NdK.cg (hv : NdK s i) (hk : s'.k i = s.k i) (hd : s'.d 5 i = s.d 5 i) (hx : ∀ x ∈ s.k i, s'.d 5 x = s.d 5 x) (hc : s.c ≤ s'.c) : NdK s' i := by
  obtain ⟨k1, k2, k3, k4⟩ := hv
  refine ⟨by rw [hk]; exact k1, fun x hx' => ?_, by rw [hd]; exact k3, by rw [hd]; exact k4⟩
  rw [hk] at hx'
  rw [hx x hx']
  exact ⟨Nat.lt_of_lt_of_le (k2 x hx').1 hc, (k2 x hx').2⟩
theorem NdB.cg (hv : NdB Ss s i) (hk : s'.k i = s.k i) (hd : ∀ f, s'.d f i = s.d f i) (hx : ∀ x ∈ s.k i, ∀ f, s'.d f x = s.d f x) (hc : s.c ≤ s'.c) : NdB Ss s' i := by
  obtain ⟨b1, b2⟩ := hv
  refine ⟨fun z => ?_, fun z => ?_⟩
  · rw [hd] at z
    obtain ⟨a1, a2⟩ := b1 z
    refine ⟨fun a ha => ?_, ?_⟩
    · rw [hk] at ha
      obtain ⟨c1, kk, F, c2, c3, c4, c5⟩ := a1 a ha
      exact ⟨Nat.lt_of_lt_of_le c1 hc, kk, F, c2, by rw [hx a ha, hd]; exact c3, by rw [hx a ha]; exact c4, by rw [hx a ha]; exact c5⟩
    · rw [hk]
      refine List.Pairwise.imp_of_mem (fun {x y} hx' hy' z => ?_) a2
      rw [hx x hx', hx y hy']; exact z
  · rw [hd] at z
    obtain ⟨⟨a1, a2⟩, a3⟩ := b2 z
    refine ⟨⟨fun q => by rw [hk]; exact a1 (by rw [← hd]; exact q), fun j a ha => ?_⟩, fun x hx' => ?_⟩
    · rw [hk] at ha
      have m := List.mem_of_getElem? ha
      obtain ⟨c1, c2, c3⟩ := a2 j a ha
      exact ⟨Nat.lt_of_lt_of_le c1 hc, by rw [hx a m]; exact c2, by rw [hx a m]; exact c3⟩
    · rw [hk] at hx'
      rw [hx x hx']; exact a3 x hx'
theorem TI.w2 (hT : TI Ss len s) {v : Int} (h1 : s.d 1 k ≤ v) (h2 : v ≤ len) : TI Ss len (s.w 2 k v) := by
  refine ⟨hT.1, fun i hi => ?_⟩
  obtain ⟨⟨v1, v2, v3, v4, v5⟩, kk, bb⟩ := hT.2 i hi
  refine ⟨⟨?_, v2, v3, v4, v5⟩, kk, bb⟩
  show 0 ≤ s.d 1 i ∧ s.d 1 i ≤ (s.w 2 k v).d 2 i ∧ (s.w 2 k v).d 2 i ≤ len
  by_cases e : i = k
  · rw [e, w_at]; rw [e] at v1; exact ⟨v1.1, h1, h2⟩
  · rw [w_nk e]; exact v1
theorem TI.w3 (hT : TI Ss len s) {v : Int} (h4 : ¬ s.d 0 k = 4) (h3 : s.d 0 k = 3 → v = 1 → s.k k = []) : TI Ss len (s.w 3 k v) := by
  refine ⟨hT.1, fun i hi => ?_⟩
  obtain ⟨vv, kk, b1, b2⟩ := hT.2 i hi
  refine ⟨vv, kk, b1, fun z => ?_⟩
  have z : s.d 0 i = 3 := z
  obtain ⟨⟨a1, a2⟩, a3⟩ := b2 z
  refine ⟨⟨fun q => ?_, fun j a ha => ?_⟩, a3⟩
  · show s.k i = []
    by_cases e : i = k
    · subst e
      rw [w_at] at q
      exact h3 z q
    · rw [w_nk e] at q
      exact a1 q
  · have ha : (s.k i)[j]? = some a := ha
    obtain ⟨c1, c2, c3⟩ := a2 j a ha
    have n4 := a3 a (List.mem_of_getElem? ha)
    refine ⟨c1, c2, ?_⟩
    rw [w_nk (fun e => h4 (by rw [← e]; exact n4))]; exact c3
theorem TI.w4 (hT : TI Ss len s) {v : Int} : TI Ss len (s.w 4 k v) := ⟨hT.1, fun i hi => hT.2 i hi⟩
theorem TU.w2 (hU : TU Ss len s) {v : Int} (h5 : ¬ s.d 0 k = 5) : TU Ss len (s.w 2 k v) := by
  intro i hi F hF
  obtain ⟨u1, u2⟩ := hU i hi F hF
  refine ⟨u1, fun z e f => ?_⟩
  have z : s.d 0 i = 5 := z
  have := u2 z e f
  rw [w_nk (f' := 2) (fun q => h5 (by rw [← q]; exact z))]
  exact this
theorem TU.w3 (hU : TU Ss len s) {v : Int} (hv : v = 1 ∨ ¬ s.d 3 k = 1) : TU Ss len (s.w 3 k v) := by
  intro i hi F hF
  obtain ⟨u1, u2⟩ := hU i hi F hF
  have key : ¬ (s.w 3 k v).d 3 i = 1 → ¬ s.d 3 i = 1 := fun f => by
    by_cases e : i = k
    · rw [e] at f ⊢
      rw [w_at] at f
      exact hv.resolve_left f
    · rw [w_nk e] at f; exact f
  exact ⟨fun z f => u1 z (key f), fun z e f => u2 z e (key f)⟩
theorem TU.w4 (hU : TU Ss len s) {v : Int} : TU Ss len (s.w 4 k v) := fun i hi => hU i hi
/-- all but node k -/
def TX (Ss : List Stc) (len : Int) (s : TS) (k : Nat) : Prop := ∀ i, i < s.c → ¬ i = k → NdU Ss len s i
theorem TX.all (hX : TX Ss len s k) (hk : NdU Ss len s k) : TU Ss len s := fun i hi => by
  by_cases e : i = k
  · rw [e]; exact hk
  · exact hX i hi e
/-- from s to s' node i is filled -/
def Ex (i : Nat) (s s' : TS) : Prop := s.c ≤ s'.c ∧ (∀ j, j < s.c → ¬ j = i → (∀ f, s'.d f j = s.d f j) ∧ s'.k j = s.k j) ∧ ∀ f, ¬ f = 2 → ¬ f = 3 → ¬ f = 4 → s'.d f i = s.d f i
theorem Ex.rfl : Ex i s s := ⟨Nat.le_refl _, fun _ _ _ => ⟨fun _ => Eq.refl _, Eq.refl _⟩, fun _ _ _ _ => Eq.refl _⟩
theorem Ex.trans {s'' : TS} (a : Ex i s s') (b : Ex i s' s'') : Ex i s s'' := by
  obtain ⟨a1, a2, a3⟩ := a
  obtain ⟨b1, b2, b3⟩ := b
  refine ⟨Nat.le_trans a1 b1, fun j hj hn => ?_, fun f h2 h3 h4 => (b3 f h2 h3 h4).trans (a3 f h2 h3 h4)⟩
  obtain ⟨c1, c2⟩ := a2 j hj hn
  obtain ⟨d1, d2⟩ := b2 j (Nat.lt_of_lt_of_le hj a1) hn
  exact ⟨fun f => (d1 f).trans (c1 f), d2.trans c2⟩
theorem Ex.w {f : Nat} {v : Int} (hf : f = 2 ∨ f = 3 ∨ f = 4) : Ex i s (s.w f i v) := ⟨Nat.le_refl _, fun j _ hn => ⟨fun f' => w_nk hn, Eq.refl _⟩, fun f' h2 h3 h4 => w_ne (by omega)⟩
section MK
variable {what par place fld u2 u7 u8 : Int} {nm : Int64}
theorem mk_c : (mkM s what par place fld u2 u7 u8 nm).c = s.c + 1 := Eq.refl _
theorem mk_o {f j : Nat} (hj : ¬ j = s.c) : (mkM s what par place fld u2 u7 u8 nm).d f j = s.d f j := if_neg hj
theorem mk_ko {j : Nat} (hj : ¬ j = s.c) (hp : ¬ par = (j : Int)) : (mkM s what par place fld u2 u7 u8 nm).k j = s.k j := by
  show (if j = s.c then [] else if par = (j : Int) then s.k j ++ [s.c] else s.k j) = _
  rw [if_neg hj, if_neg hp]
theorem mk_kp {j : Nat} (hj : ¬ j = s.c) (hp : par = (j : Int)) : (mkM s what par place fld u2 u7 u8 nm).k j = s.k j ++ [s.c] := by
  show (if j = s.c then [] else if par = (j : Int) then s.k j ++ [s.c] else s.k j) = _
  rw [if_neg hj, if_pos hp]
theorem mk_kn : (mkM s what par place fld u2 u7 u8 nm).k s.c = [] := if_pos (Eq.refl _)
theorem mk_n {f : Nat} : (mkM s what par place fld u2 u7 u8 nm).d f s.c = (if f = 0 then what else if f = 1 then place else if f = 2 then u2 else if f = 5 then par else if f = 6 then fld else if f = 7 then u7 else if f = 8 then u8 else if f = 9 then (if par < 0 then 0 else s.d 9 par.toNat + 1) else if f = 10 then nm.toInt else 0) := if_pos (Eq.refl _)
theorem mkO_some (e : mkO s what par place fld u2 u7 u8 nm = some s') : s.c < 400 ∧ s' = mkM s what par place fld u2 u7 u8 nm := by
  unfold mkO at e
  by_cases q : s.c < 400
  · rw [if_pos q] at e; cases e; exact ⟨q, Eq.refl _⟩
  · rw [if_neg q] at e; cases e
theorem Ex.mk (hi : i < s.c) (hp : par = (i : Int)) : Ex i s (mkM s what par place fld u2 u7 u8 nm) :=
  ⟨Nat.le_succ _, fun j hj hn => ⟨fun f => mk_o (by omega), mk_ko (by omega) (by omega)⟩, fun f _ _ _ => mk_o (by omega)⟩
/-- a kid of i is made and filled -/
theorem Ex.sub (hi : i < s.c) (hp : par = (i : Int)) (hE : Ex s.c (mkM s what par place fld u2 u7 u8 nm) s') : Ex i s s' := by
  obtain ⟨a1, a2, a3⟩ := hE
  rw [mk_c] at a1 a2
  refine ⟨by omega, fun j hj hn => ?_, fun f _ _ _ => ?_⟩
  · obtain ⟨c1, c2⟩ := a2 j (by omega) (by omega)
    exact ⟨fun f => by rw [c1 f, mk_o (by omega)], by rw [c2, mk_ko (by omega) (by omega)]⟩
  · rw [(a2 i (by omega) (by omega)).1 f, mk_o (by omega)]
theorem TI.mk (hT : TI Ss len s) (hc : s.c < 400) (hp : -1 ≤ par ∧ par < s.c) (h1 : 0 ≤ place ∧ place ≤ u2 ∧ u2 ≤ len) (h2 : 0 ≤ what ∧ what ≤ 10)
    (h3 : fld = -1 ∧ what = 0 ∨ 0 ≤ fld ∧ ∃ F, gF Ss fld = some F ∧ (what = F.ki ∧ ¬ F.ki = 4 ∨ what = 4 ∧ F.ki = 3 ∧ 1 ≤ u8 ∧ u8 ≤ F.es.length ∨ what = 1 ∧ F.ki = 2 ∧ F.st = -1) ∧ (isNu what → TyR F.ty)) (h4 : what = 0 → 0 ≤ u7 ∧ u7 < Ss.length)
    (h5 : nmN Ss (mkM s what par place fld u2 u7 u8 nm) s.c = nm)
    (hS : ∀ i : Nat, par = (i : Int) → s.d 0 i = 0 → (∃ (kk : Nat) (F : Fld), kk < 14 ∧ fld = 14 * s.d 7 i + kk ∧ gF Ss fld = some F ∧ what = F.ki) ∧ ∀ a ∈ s.k i, s.d 6 a < fld)
    (hB : ∀ i : Nat, par = (i : Int) → s.d 0 i = 3 → what = 4 ∧ u8 = ((s.k i).length : Int) + 1 ∧ ¬ s.d 3 i = 1) : TI Ss len (mkM s what par place fld u2 u7 u8 nm) := by
  refine ⟨by rw [mk_c]; omega, fun i hi => ?_⟩
  rw [mk_c] at hi
  by_cases e : i = s.c
  · subst e
    have n0 : (mkM s what par place fld u2 u7 u8 nm).d 0 s.c = what := mk_n
    have n1 : (mkM s what par place fld u2 u7 u8 nm).d 1 s.c = place := mk_n
    have n2 : (mkM s what par place fld u2 u7 u8 nm).d 2 s.c = u2 := mk_n
    have n3 : (mkM s what par place fld u2 u7 u8 nm).d 3 s.c = 0 := mk_n
    have n5 : (mkM s what par place fld u2 u7 u8 nm).d 5 s.c = par := mk_n
    have n6 : (mkM s what par place fld u2 u7 u8 nm).d 6 s.c = fld := mk_n
    have n7 : (mkM s what par place fld u2 u7 u8 nm).d 7 s.c = u7 := mk_n
    have n8 : (mkM s what par place fld u2 u7 u8 nm).d 8 s.c = u8 := mk_n
    have n10 : (mkM s what par place fld u2 u7 u8 nm).d 10 s.c = nm.toInt := mk_n
    refine ⟨⟨by rw [n1, n2]; exact h1, by rw [n0]; exact h2, by rw [n0, n6, n8]; exact h3, by rw [n0, n7]; exact h4, by rw [n10, h5]⟩, ⟨by rw [mk_kn]; exact List.Pairwise.nil, fun x hx => ?_, by rw [n5]; exact hp.1, by rw [n5]; exact hp.2⟩, fun _ => ⟨fun a ha => ?_, by rw [mk_kn]; exact List.Pairwise.nil⟩, fun _ => ⟨⟨fun _ => mk_kn, fun j a ha => ?_⟩, fun x hx => ?_⟩⟩
    · rw [mk_kn] at hx; exact absurd hx (by simp)
    · rw [mk_kn] at ha; exact absurd ha (by simp)
    · rw [mk_kn] at ha; exact absurd ha (by simp)
    · rw [mk_kn] at hx; exact absurd hx (by simp)
  · have hi : i < s.c := by omega
    obtain ⟨vv, kk, bb⟩ := hT.2 i hi
    have xo : ∀ x ∈ s.k i, ∀ f, (mkM s what par place fld u2 u7 u8 nm).d f x = s.d f x := fun x hx f => mk_o (by have := (kk.2.1 x hx).1; omega)
    refine ⟨vv.cg (fun f => mk_o e), ?_⟩
    by_cases ep : par = (i : Int)
    · have ek : (mkM s what par place fld u2 u7 u8 nm).k i = s.k i ++ [s.c] := mk_kp e ep
      obtain ⟨k1, k2, k3, k4⟩ := kk
      obtain ⟨b1, b2⟩ := bb
      have n0 : (mkM s what par place fld u2 u7 u8 nm).d 0 s.c = what := mk_n
      have n3 : (mkM s what par place fld u2 u7 u8 nm).d 3 s.c = 0 := mk_n
      have n5 : (mkM s what par place fld u2 u7 u8 nm).d 5 s.c = par := mk_n
      have n6 : (mkM s what par place fld u2 u7 u8 nm).d 6 s.c = fld := mk_n
      have n8 : (mkM s what par place fld u2 u7 u8 nm).d 8 s.c = u8 := mk_n
      refine ⟨⟨?_, fun x hx => ?_, by rw [mk_o e]; exact k3, by rw [mk_o e]; exact k4⟩, fun z => ⟨fun a ha => ?_, ?_⟩, fun z => ⟨⟨fun q => ?_, fun j a ha => ?_⟩, fun x hx => ?_⟩⟩
      · rw [ek, List.pairwise_append]
        refine ⟨k1, List.pairwise_singleton _ _, fun a ha b hb => ?_⟩
        rw [List.mem_singleton.mp hb]; exact (k2 a ha).1
      · rw [ek] at hx
        rw [mk_c]
        rcases List.mem_append.mp hx with hx | hx
        · rw [xo x hx]
          have := k2 x hx
          exact ⟨by omega, this.2⟩
        · rw [List.mem_singleton.mp hx, n5]
          exact ⟨by omega, ep⟩
      · rw [mk_o e] at z
        obtain ⟨⟨kk, F, q1, q2, q3, q4⟩, q5⟩ := hS i ep z
        rw [ek] at ha
        rw [mk_c, mk_o (f := 7) e]
        rcases List.mem_append.mp ha with ha | ha
        · obtain ⟨c1, kk', F', c2, c3, c4, c5⟩ := (b1 z).1 a ha
          rw [xo a ha, xo a ha]
          exact ⟨by omega, kk', F', c2, c3, c4, c5⟩
        · rw [List.mem_singleton.mp ha, n6, n0]
          exact ⟨by omega, kk, F, q1, q2, q3, q4⟩
      · rw [mk_o e] at z
        obtain ⟨_, q5⟩ := hS i ep z
        rw [ek, List.pairwise_append]
        refine ⟨List.Pairwise.imp_of_mem (fun {x y} hx hy z => by rw [xo x hx, xo y hy]; exact z) (b1 z).2, List.pairwise_singleton _ _, fun a ha b hb => ?_⟩
        rw [List.mem_singleton.mp hb, n6, xo a ha]; exact q5 a ha
      · rw [mk_o e] at z q
        exact absurd q (hB i ep z).2.2
      · rw [mk_o e] at z
        obtain ⟨q1, q2, q3⟩ := hB i ep z
        rw [ek] at ha
        rw [mk_c]
        rcases app_q ha with ⟨lt, ha⟩ | ⟨ej, ea⟩
        · obtain ⟨c1, c2, c3⟩ := (b2 z).1.2 j a ha
          have m := List.mem_of_getElem? ha
          rw [xo a m, xo a m]
          exact ⟨by omega, c2, c3⟩
        · rw [ea, n8, n3, q2, ej]
          exact ⟨by omega, Eq.refl _, Eq.refl _⟩
      · rw [mk_o e] at z
        rw [ek] at hx
        rcases List.mem_append.mp hx with hx | hx
        · rw [xo x hx]; exact (b2 z).2 x hx
        · rw [List.mem_singleton.mp hx, n0]; exact (hB i ep z).1
    · exact ⟨kk.cg (mk_ko e ep) (mk_o e) (fun x hx => xo x hx 5) (Nat.le_succ _), bb.cg (mk_ko e ep) (fun f => mk_o e) xo (Nat.le_succ _)⟩
theorem TX.mk (hU : TU Ss len s) : TX Ss len (mkM s what par place fld u2 u7 u8 nm) s.c := fun i hi hn => by
  rw [mk_c] at hi
  exact (hU i (by omega)).cg (fun f => mk_o hn)
end MK
/-- what a filling of structs keeps -/
def LG (Ss : List Stc) (len : Int) (L : LY) : Prop := ∀ s i st s', TI Ss len s → TU Ss len s → i + 1 = s.c → s.d 0 i = 0 → s.d 7 i = st → s.k i = [] → L s i st = some s' → TI Ss len s' ∧ TU Ss len s' ∧ Ex i s s'
theorem nm_st {par place u2 st : Int} : nmN Ss (mkM s 0 par place (-1) u2 st 0 (nmS Ss st)) s.c = nmS Ss st := by
  have n6 : (mkM s 0 par place (-1) u2 st 0 (nmS Ss st)).d 6 s.c = -1 := mk_n
  have n7 : (mkM s 0 par place (-1) u2 st 0 (nmS Ss st)).d 7 s.c = st := mk_n
  unfold nmN
  rw [n6, n7, if_pos (by decide)]
  rfl
theorem gF_neg {fl : Int} (hn : fl < 0) : gF Ss fl = none := by unfold gF; rw [if_pos hn]
theorem addS_ok {L : LY} {par st place : Int} (hL : LG Ss len L) (hT : TI Ss len s) (hU : TU Ss len s) (hp : -1 ≤ par ∧ par < s.c) (hk : ∀ i : Nat, par = (i : Int) → ¬ s.d 0 i = 0 ∧ ¬ s.d 0 i = 3) (h1 : 0 ≤ place ∧ place ≤ len) (hst : 0 ≤ st ∧ st < Ss.length) (e : addS L Ss s par st place = some s') :
    TI Ss len s' ∧ TU Ss len s' ∧ (∀ i : Nat, par = (i : Int) → Ex i s s') ∧ s.c < s'.c ∧ s'.d 1 s.c = place := by
  unfold addS at e
  cases em : mkO s 0 par place (-1) place st 0 (nmS Ss st) with
  | none => rw [em] at e; cases e
  | some s1 =>
    rw [em] at e
    have e : L s1 s.c st = some s' := e
    obtain ⟨c4, rfl⟩ := mkO_some em
    have T1 : TI Ss len (mkM s 0 par place (-1) place st 0 (nmS Ss st)) := hT.mk c4 hp ⟨h1.1, Int.le_refl _, h1.2⟩ (by omega) (Or.inl ⟨rfl, rfl⟩) (fun _ => hst) nm_st (fun i ei z => absurd z (hk i ei).1) (fun i ei z => absurd z (hk i ei).2)
    have n0 : (mkM s 0 par place (-1) place st 0 (nmS Ss st)).d 0 s.c = 0 := mk_n
    have n1 : (mkM s 0 par place (-1) place st 0 (nmS Ss st)).d 1 s.c = place := mk_n
    have n6 : (mkM s 0 par place (-1) place st 0 (nmS Ss st)).d 6 s.c = -1 := mk_n
    have n7 : (mkM s 0 par place (-1) place st 0 (nmS Ss st)).d 7 s.c = st := mk_n
    have U1 : TU Ss len (mkM s 0 par place (-1) place st 0 (nmS Ss st)) := TX.all (TX.mk hU) (fun F hF => by rw [n6, gF_neg (by decide)] at hF; cases hF)
    obtain ⟨t1, t2, t3⟩ := hL _ s.c st s' T1 U1 rfl n0 n7 mk_kn e
    refine ⟨t1, t2, fun i ei => Ex.sub (by omega) ei t3, ?_, ?_⟩
    · have := t3.1; rw [mk_c] at this; omega
    · rw [t3.2.2 1 (by decide) (by decide) (by decide)]; exact n1
theorem arS_ok {L : LY} {st : Int} (hL : LG Ss len L) (hst : 0 ≤ st ∧ st < Ss.length) : ∀ (n : Nat) (s s' : TS), TI Ss len s → TU Ss len s → k < s.c → s.d 0 k = 2 → arS L Ss k st n s = some s' → TI Ss len s' ∧ TU Ss len s' ∧ Ex k s s' := by
  intro n
  induction n with
  | zero => intro s s' hT hU _ _ e; cases e; exact ⟨hT, hU, Ex.rfl⟩
  | succ n ih =>
    intro s s' hT hU hk h0 e
    rw [arS] at e
    obtain ⟨⟨v1, _⟩, _⟩ := hT.2 k hk
    cases ea : addS L Ss s k st (s.d 2 k) with
    | none => rw [ea] at e; cases e
    | some s1 =>
      rw [ea] at e
      have e : arS L Ss k st n (s1.w 2 k (s1.d 2 s.c)) = some s' := e
      obtain ⟨t1, t2, t3, t4, t5⟩ := addS_ok hL hT hU ⟨by omega, by omega⟩ (fun i ei => by rw [show i = k by omega]; omega) ⟨by omega, by omega⟩ hst ea
      have ex := t3 k rfl
      have k0 : s1.d 0 k = 2 := by rw [ex.2.2 0 (by decide) (by decide) (by decide)]; exact h0
      have k1 : s1.d 1 k = s.d 1 k := ex.2.2 1 (by decide) (by decide) (by decide)
      obtain ⟨⟨w1, _⟩, _⟩ := t1.2 s.c t4
      obtain ⟨r1, r2, r3⟩ := ih _ s' (t1.w2 (by omega) w1.2.2) (t2.w2 (by omega)) (Nat.lt_of_lt_of_le hk ex.1) (by rw [w_ne (by decide)]; exact k0) e
      exact ⟨r1, r2, (ex.trans (Ex.w (Or.inl rfl))).trans r3⟩
theorem nm_fl {what par place fl u2 u7 u8 : Int} {F : Fld} (hF : gF Ss fl = some F) (h4 : ¬ what = 4) (h1 : what = 1 → ¬ F.ki = 2) : nmN Ss (mkM s what par place fl u2 u7 u8 F.nm) s.c = F.nm := by
  have n0 : (mkM s what par place fl u2 u7 u8 F.nm).d 0 s.c = what := mk_n
  have n6 : (mkM s what par place fl u2 u7 u8 F.nm).d 6 s.c = fl := mk_n
  unfold nmN
  rw [n6, n0, if_neg (by have := (gF_some hF).1; omega), hF]
  show (if what = 4 then _ else if what = 1 ∧ F.ki = 2 then (0 : Int64) else F.nm) = F.nm
  rw [if_neg h4, if_neg (fun q => h1 q.1 q.2)]
theorem nm_el {par place fl u2 u7 u8 : Int} {F : Fld} (hF : gF Ss fl = some F) (h2 : F.ki = 2) : nmN Ss (mkM s 1 par place fl u2 u7 u8 0) s.c = 0 := by
  have n0 : (mkM s 1 par place fl u2 u7 u8 0).d 0 s.c = 1 := mk_n
  have n6 : (mkM s 1 par place fl u2 u7 u8 0).d 6 s.c = fl := mk_n
  unfold nmN
  rw [n6, n0, if_neg (by have := (gF_some hF).1; omega), hF]
  show (if (1 : Int) = 4 then _ else if (1 : Int) = 1 ∧ F.ki = 2 then (0 : Int64) else F.nm) = 0
  rw [if_neg (by decide), if_pos ⟨rfl, h2⟩]
theorem nm_pt {par place fl u2 u7 : Int} {p : Nat} {F : Fld} {e : Ent} (hF : gF Ss fl = some F) (he : F.es[p]? = some e) : nmN Ss (mkM s 4 par place fl u2 u7 ((p : Int) + 1) e.1) s.c = e.1 := by
  have n0 : (mkM s 4 par place fl u2 u7 ((p : Int) + 1) e.1).d 0 s.c = 4 := mk_n
  have n6 : (mkM s 4 par place fl u2 u7 ((p : Int) + 1) e.1).d 6 s.c = fl := mk_n
  have n8 : (mkM s 4 par place fl u2 u7 ((p : Int) + 1) e.1).d 8 s.c = (p : Int) + 1 := mk_n
  unfold nmN
  rw [n6, n0, n8, if_neg (by have := (gF_some hF).1; omega), hF]
  show (if (4 : Int) = 4 then (match F.es[((p : Int) + 1 - 1).toNat]? with
      | some e => e.1
      | none => 0) else _) = e.1
  rw [if_pos rfl, show ((p : Int) + 1 - 1).toNat = p by omega, he]
theorem arW_ok {fl : Int} {F : Fld} (hF : gF Ss fl = some F) (f2 : F.ki = 2) (fs : F.st = -1) (ty : TyR F.ty) : ∀ (n : Nat) (s : TS) (r : TS × Bool), TI Ss len s → TU Ss len s → k < s.c → s.d 0 k = 2 → arW len k (tw F.ty) fl n s = some r → TI Ss len r.1 ∧ TU Ss len r.1 ∧ Ex k s r.1 := by
  have f0 := (gF_some hF).1
  intro n
  induction n with
  | zero => intro s r hT hU _ _ e; cases e; exact ⟨hT, hU, Ex.rfl⟩
  | succ n ih =>
    intro s r hT hU hk h0 e
    rw [arW] at e
    obtain ⟨⟨v1, _⟩, _⟩ := hT.2 k hk
    cases em : mkO s 1 k (s.d 2 k) fl (s.d 2 k) (-1) 0 0 with
    | none => rw [em] at e; cases e
    | some s1 =>
      rw [em] at e
      have e : (if tw F.ty ≤ len - s.d 2 k then arW len k (tw F.ty) fl n ((s1.w 2 s.c (s.d 2 k + tw F.ty)).w 2 k (s.d 2 k + tw F.ty)) else some (s1.w 3 s.c 1, false)) = some r := e
      obtain ⟨c4, rfl⟩ := mkO_some em
      have T1 : TI Ss len (mkM s 1 k (s.d 2 k) fl (s.d 2 k) (-1) 0 0) := hT.mk c4 ⟨by omega, by omega⟩ ⟨by omega, Int.le_refl _, v1.2.2⟩ (by omega) (Or.inr ⟨f0, F, hF, Or.inr (Or.inr ⟨rfl, f2, fs⟩), fun _ => ty⟩) (fun q => absurd q (by decide)) (nm_el hF f2) (fun i ei z => by rw [show i = k by omega] at z; omega) (fun i ei z => by rw [show i = k by omega] at z; omega)
      have X1 : TX Ss len (mkM s 1 k (s.d 2 k) fl (s.d 2 k) (-1) 0 0) s.c := TX.mk hU
      have nk : ¬ k = s.c := by omega
      have n0 : (mkM s 1 k (s.d 2 k) fl (s.d 2 k) (-1) 0 0).d 0 s.c = 1 := mk_n
      have n1 : (mkM s 1 k (s.d 2 k) fl (s.d 2 k) (-1) 0 0).d 1 s.c = s.d 2 k := mk_n
      have n6 : (mkM s 1 k (s.d 2 k) fl (s.d 2 k) (-1) 0 0).d 6 s.c = fl := mk_n
      have E1 : Ex k s (mkM s 1 k (s.d 2 k) fl (s.d 2 k) (-1) 0 0) := Ex.mk hk rfl
      have t1 := ty.1
      by_cases q : tw F.ty ≤ len - s.d 2 k
      · rw [if_pos q] at e
        have T2 := T1.w2 (k := s.c) (v := s.d 2 k + tw F.ty) (by rw [n1]; omega) (by omega)
        have k1 : ((mkM s 1 k (s.d 2 k) fl (s.d 2 k) (-1) 0 0).w 2 s.c (s.d 2 k + tw F.ty)).d 1 k = s.d 1 k := by rw [w_ne (by decide), mk_o nk]
        have k0 : ((mkM s 1 k (s.d 2 k) fl (s.d 2 k) (-1) 0 0).w 2 s.c (s.d 2 k + tw F.ty)).d 0 k = 2 := by rw [w_ne (by decide), mk_o nk]; exact h0
        have U2 : TU Ss len ((mkM s 1 k (s.d 2 k) fl (s.d 2 k) (-1) 0 0).w 2 s.c (s.d 2 k + tw F.ty)) := by
          refine TX.all (k := s.c) (fun i hi hn => (X1 i hi hn).cg (fun f => w_nk hn)) (fun F' hF' => ?_)
          rw [w_ne (by decide), n6, hF] at hF'
          cases hF'
          rw [w_ne (f' := 0) (by decide), w_ne (f' := 1) (by decide), n0, n1]
          exact ⟨fun _ _ => by omega, fun z => absurd z (by decide)⟩
        have T3 := T2.w2 (k := k) (v := s.d 2 k + tw F.ty) (by rw [k1]; omega) (by omega)
        have U3 := U2.w2 (k := k) (v := s.d 2 k + tw F.ty) (by rw [k0]; decide)
        obtain ⟨r1, r2, r3⟩ := ih _ r T3 U3 (by show k < s.c + 1; omega) (by rw [w_ne (by decide)]; exact k0) e
        refine ⟨r1, r2, Ex.trans ?_ r3⟩
        refine Ex.trans (s' := (mkM s 1 k (s.d 2 k) fl (s.d 2 k) (-1) 0 0).w 2 s.c (s.d 2 k + tw F.ty)) ?_ (Ex.w (Or.inl rfl))
        exact Ex.sub hk rfl (Ex.w (Or.inl rfl))
      · rw [if_neg q] at e
        cases e
        refine ⟨T1.w3 (by rw [n0]; decide) (fun z => absurd z (by rw [n0]; decide)), ?_, Ex.sub hk rfl (Ex.w (Or.inr (Or.inl rfl)))⟩
        refine TX.all (k := s.c) (fun i hi hn => (X1 i hi hn).cg (fun f => w_nk hn)) (fun F' hF' => ?_)
        exact ⟨fun _ z => absurd w_at z, fun _ _ z => absurd w_at z⟩
theorem btO_ok {fl : Int} {F : Fld} (hF : gF Ss fl = some F) (f3 : F.ki = 3) (ty : TyR F.ty) : ∀ (es : List Ent) (p : Nat) (s s' : TS), (∀ j e, es[j]? = some e → F.es[p + j]? = some e) → TI Ss len s → TU Ss len s → k < s.c → s.d 0 k = 3 → s.d 6 k = fl → s.d 3 k = 0 → (s.k k).length = p → btO k fl es p s = some s' → TI Ss len s' ∧ TU Ss len s' ∧ Ex k s s' := by
  have f0 := (gF_some hF).1
  intro es
  induction es with
  | nil => intro p s s' _ hT hU _ _ _ _ _ e; cases e; exact ⟨hT, hU, Ex.rfl⟩
  | cons x es ih =>
    intro p s s' hes hT hU hk h0 h6 h3 hp e
    rw [btO] at e
    obtain ⟨⟨v1, _⟩, _⟩ := hT.2 k hk
    have hx : F.es[p]? = some x := hes 0 x rfl
    have lt := (List.getElem?_eq_some_iff.mp hx).1
    cases em : mkO s 4 k (s.d 1 k) fl (s.d 2 k) (-1) ((p : Int) + 1) x.1 with
    | none => rw [em] at e; cases e
    | some s1 =>
      rw [em] at e
      have e : btO k fl es (p + 1) s1 = some s' := e
      obtain ⟨c4, rfl⟩ := mkO_some em
      have T1 : TI Ss len (mkM s 4 k (s.d 1 k) fl (s.d 2 k) (-1) ((p : Int) + 1) x.1) := hT.mk c4 ⟨by omega, by omega⟩ v1 (by omega) (Or.inr ⟨f0, F, hF, Or.inr (Or.inl ⟨rfl, f3, by omega, by omega⟩), fun _ => ty⟩) (fun q => absurd q (by decide)) (nm_pt hF hx) (fun i ei z => by rw [show i = k by omega] at z; omega) (fun i ei z => by rw [show i = k by omega]; exact ⟨rfl, by omega, by omega⟩)
      have nk : ¬ k = s.c := by omega
      have n0 : (mkM s 4 k (s.d 1 k) fl (s.d 2 k) (-1) ((p : Int) + 1) x.1).d 0 s.c = 4 := mk_n
      have n1 : (mkM s 4 k (s.d 1 k) fl (s.d 2 k) (-1) ((p : Int) + 1) x.1).d 1 s.c = s.d 1 k := mk_n
      have n6 : (mkM s 4 k (s.d 1 k) fl (s.d 2 k) (-1) ((p : Int) + 1) x.1).d 6 s.c = fl := mk_n
      have nu := (hU k hk F (by rw [h6]; exact hF)).1 (by rw [h0]; unfold isNu; omega) (by omega)
      have U1 : TU Ss len (mkM s 4 k (s.d 1 k) fl (s.d 2 k) (-1) ((p : Int) + 1) x.1) := TX.all (TX.mk hU) (fun F' hF' => by
        rw [n6, hF] at hF'
        cases hF'
        rw [n0, n1]
        exact ⟨fun _ _ => nu, fun z => absurd z (by decide)⟩)
      obtain ⟨r1, r2, r3⟩ := ih (p + 1) _ s' (fun j y hy => by rw [show p + 1 + j = p + (j + 1) by omega]; exact hes (j + 1) y hy) T1 U1 (by rw [mk_c]; omega) (by rw [mk_o nk]; exact h0) (by rw [mk_o nk]; exact h6) (by rw [mk_o nk]; exact h3) (by rw [mk_kp nk rfl, app_l, hp]) e
      exact ⟨r1, r2, (Ex.mk hk rfl).trans r3⟩
end LV
