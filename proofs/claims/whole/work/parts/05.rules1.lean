def i_and (x y : Int) : Int := (Int32.ofInt x &&& Int32.ofInt y).toInt
def i_or (x y : Int) : Int := (Int32.ofInt x ||| Int32.ofInt y).toInt
def i_xor (x y : Int) : Int := (Int32.ofInt x ^^^ Int32.ofInt y).toInt
def i_shl (x y : Int) : Int := (Int32.ofInt x <<< (Int32.ofInt y &&& 31)).toInt
def i_shr (x y : Int) : Int := (Int32.ofInt x >>> (Int32.ofInt y &&& 31)).toInt
def i_div (x y : Int) : Int := (Int32.ofInt x / Int32.ofInt y).toInt
def i_rem (x y : Int) : Int := (Int32.ofInt x - Int32.ofInt x / Int32.ofInt y * Int32.ofInt y).toInt
def j_rem (x y : Int64) : Int64 := x - x / y * y
def j_shl (x : Int64) (n : Int) : Int64 := x <<< ((Int32.ofInt n).toInt64 &&& 63)
def j_shr (x : Int64) (n : Int) : Int64 := x >>> ((Int32.ofInt n).toInt64 &&& 63)
def j_ushr (x : Int64) (n : Int) : Int64 := (x.toUInt64 >>> ((Int32.ofInt n).toInt64.toUInt64 &&& Int64.toUInt64 63)).toInt64
def i2j (n : Int) : Int64 := (Int32.ofInt n).toInt64
def j2i (x : Int64) : Int := x.toInt32.toInt
def i_2c (n : Int) : Int := ((Int32.ofInt n).toUInt32 % 65536).toInt32.toInt
theorem lg_lt (x y : Int64) : lg_cmp x y < 0 ↔ x.toInt < y.toInt := by
  unfold lg_cmp
  split
  · rename_i h; have h := Int64.lt_iff_toInt_lt.mp h
    exact ⟨fun q => absurd q (by decide), fun q => absurd q (by omega)⟩
  · rename_i h; have h : ¬ y.toInt < x.toInt := fun q => h (Int64.lt_iff_toInt_lt.mpr q)
    split
    · rename_i h2; subst h2; exact ⟨fun q => absurd q (by decide), fun q => absurd q (by omega)⟩
    · rename_i h2; have h2 : ¬ x.toInt = y.toInt := fun q => h2 (Int64.toInt_inj.mp q)
      exact ⟨fun _ => by omega, fun _ => by decide⟩
theorem lg_le (x y : Int64) : lg_cmp x y ≤ 0 ↔ x.toInt ≤ y.toInt := by
  unfold lg_cmp
  split
  · rename_i h; have h := Int64.lt_iff_toInt_lt.mp h
    exact ⟨fun q => absurd q (by decide), fun q => absurd q (by omega)⟩
  · rename_i h; have h : ¬ y.toInt < x.toInt := fun q => h (Int64.lt_iff_toInt_lt.mpr q)
    split
    · exact ⟨fun _ => by omega, fun _ => by decide⟩
    · exact ⟨fun _ => by omega, fun _ => by decide⟩
theorem lg_gt (x y : Int64) : 0 < lg_cmp x y ↔ y.toInt < x.toInt := by
  have h := lg_le x y
  rw [← Int.not_le, ← h, ← Int32.not_le]
theorem lg_ge (x y : Int64) : 0 ≤ lg_cmp x y ↔ y.toInt ≤ x.toInt := by
  have h := lg_lt x y
  rw [← Int.not_lt, ← h, ← Int32.not_lt]
theorem lg_eq (x y : Int64) : lg_cmp x y = 0 ↔ x = y := by
  unfold lg_cmp
  split
  · rename_i h; have h := Int64.lt_iff_toInt_lt.mp h
    exact ⟨fun q => absurd q (by decide), fun q => by subst q; omega⟩
  · split
    · rename_i h; exact ⟨fun _ => h, fun _ => rfl⟩
    · rename_i h; exact ⟨fun q => absurd q (by decide), fun q => absurd q h⟩
/-- a switch: the targets from lo on -/
def swP : List Nat → Int → Int → (Nat → Prop) → Prop
  | [], _, _, _ => True
  | t :: tg, lo, x, P => (x = lo → P t) ∧ swP tg (lo + 1) x P
theorem swP_at : ∀ {tg : List Nat} {lo x : Int} {P : Nat → Prop}, swP tg lo x P → ∀ (i : Nat) (t : Nat), tg[i]? = some t → x = lo + (i : Int) → P t
  | [], _, _, _, _, i, t, h, _ => by simp at h
  | u :: tg, lo, x, P, hs, 0, t, h, hx => by
    have : u = t := by simpa using h
    subst this
    exact hs.1 (by simpa using hx)
  | u :: tg, lo, x, P, hs, i + 1, t, h, hx => swP_at hs.2 i t (by simpa using h) (by rw [hx]; push_cast; omega)
def swL : List (Int × Nat) → Nat → Int → (Nat → Prop) → Prop
  | [], dt, _, P => P dt
  | (k, t) :: tg, dt, x, P => (x = k → P t) ∧ (¬ x = k → swL tg dt x P)
section R1
variable {g : GP} {l : Launch} {d : Nat} {M : MD} {pc : Nat} {L : List (Option AV)} {S : List AV} {σ : St} {Q : Option AV → St → Prop}
theorem AW.mono {Q' : Option AV → St → Prop} (h : ∀ v σ', Q v σ' → Q' v σ') (k : AW g l d M pc L S σ Q) : AW g l d M pc L S σ Q' := by
  intro p e R s m args below meth c Z K0 K H locs ls st E hR hW hK hS hL hSt
  exact k p e R s m args below meth c Z K0 K H locs ls st E (fun v σ' K' H' locs' ls st pc hq => hR v σ' K' H' locs' ls st pc (h v σ' hq)) hW hK hS hL hSt
theorem aw_iadd {x y : Int} (hd : decode M.2.1 pc = .ok (.iadd, 1)) (k : AW g l d M (pc + 1) L (vI (w32 (x + y)) :: S) σ Q) : AW g l d M pc L (vI y :: vI x :: S) σ Q := by
  intro p e R s m args below meth c Z K0 K H locs ls st E hR hW hK hS hL hSt
  have E0 := E
  obtain ⟨hx, hb, hml, hr, hlk, hnm, hown, hts, hKK, hA, hfr, hlo, hbs, hRc, hRs, hwm⟩ := E
  obtain ⟨_, _, hq1, ⟨b, hq2, rfl⟩, hq3⟩ := SV.cons hSt
  subst hq2 hq1
  clear hSt
  have hSt := hq3
  clear hq3
  obtain ⟨_, _, hq1, ⟨a, hq2, rfl⟩, hq3⟩ := SV.cons hSt
  subst hq2 hq1
  clear hSt
  have hSt := hq3
  clear hq3
  exact lv_iadd hx hb hd (k p e R s m args below meth c Z K0 K H locs ls _ E0 hR hW hK hS hL ⟨⟨_, rfl, by rw [Int32.toInt_add, w32_bmod]⟩, hSt⟩)
theorem aw_isub {x y : Int} (hd : decode M.2.1 pc = .ok (.isub, 1)) (k : AW g l d M (pc + 1) L (vI (w32 (x - y)) :: S) σ Q) : AW g l d M pc L (vI y :: vI x :: S) σ Q := by
  intro p e R s m args below meth c Z K0 K H locs ls st E hR hW hK hS hL hSt
  have E0 := E
  obtain ⟨hx, hb, hml, hr, hlk, hnm, hown, hts, hKK, hA, hfr, hlo, hbs, hRc, hRs, hwm⟩ := E
  obtain ⟨_, _, hq1, ⟨b, hq2, rfl⟩, hq3⟩ := SV.cons hSt
  subst hq2 hq1
  clear hSt
  have hSt := hq3
  clear hq3
  obtain ⟨_, _, hq1, ⟨a, hq2, rfl⟩, hq3⟩ := SV.cons hSt
  subst hq2 hq1
  clear hSt
  have hSt := hq3
  clear hq3
  exact lv_isub hx hb hd (k p e R s m args below meth c Z K0 K H locs ls _ E0 hR hW hK hS hL ⟨⟨_, rfl, by rw [Int32.toInt_sub, w32_bmod]⟩, hSt⟩)
theorem aw_imul {x y : Int} (hd : decode M.2.1 pc = .ok (.imul, 1)) (k : AW g l d M (pc + 1) L (vI (w32 (x * y)) :: S) σ Q) : AW g l d M pc L (vI y :: vI x :: S) σ Q := by
  intro p e R s m args below meth c Z K0 K H locs ls st E hR hW hK hS hL hSt
  have E0 := E
  obtain ⟨hx, hb, hml, hr, hlk, hnm, hown, hts, hKK, hA, hfr, hlo, hbs, hRc, hRs, hwm⟩ := E
  obtain ⟨_, _, hq1, ⟨b, hq2, rfl⟩, hq3⟩ := SV.cons hSt
  subst hq2 hq1
  clear hSt
  have hSt := hq3
  clear hq3
  obtain ⟨_, _, hq1, ⟨a, hq2, rfl⟩, hq3⟩ := SV.cons hSt
  subst hq2 hq1
  clear hSt
  have hSt := hq3
  clear hq3
  exact lv_imul hx hb hd (k p e R s m args below meth c Z K0 K H locs ls _ E0 hR hW hK hS hL ⟨⟨_, rfl, by rw [Int32.toInt_mul, w32_bmod]⟩, hSt⟩)
theorem aw_iand {x y : Int} (hd : decode M.2.1 pc = .ok (.iand, 1)) (k : AW g l d M (pc + 1) L (vI (i_and x y) :: S) σ Q) : AW g l d M pc L (vI y :: vI x :: S) σ Q := by
  intro p e R s m args below meth c Z K0 K H locs ls st E hR hW hK hS hL hSt
  have E0 := E
  obtain ⟨hx, hb, hml, hr, hlk, hnm, hown, hts, hKK, hA, hfr, hlo, hbs, hRc, hRs, hwm⟩ := E
  obtain ⟨_, _, hq1, ⟨b, hq2, rfl⟩, hq3⟩ := SV.cons hSt
  subst hq2 hq1
  clear hSt
  have hSt := hq3
  clear hq3
  obtain ⟨_, _, hq1, ⟨a, hq2, rfl⟩, hq3⟩ := SV.cons hSt
  subst hq2 hq1
  clear hSt
  have hSt := hq3
  clear hq3
  exact lv_iand hx hb hd (k p e R s m args below meth c Z K0 K H locs ls _ E0 hR hW hK hS hL ⟨⟨_, rfl, by unfold i_and; rw [ofInt_toInt', ofInt_toInt']⟩, hSt⟩)
theorem aw_ior {x y : Int} (hd : decode M.2.1 pc = .ok (.ior, 1)) (k : AW g l d M (pc + 1) L (vI (i_or x y) :: S) σ Q) : AW g l d M pc L (vI y :: vI x :: S) σ Q := by
  intro p e R s m args below meth c Z K0 K H locs ls st E hR hW hK hS hL hSt
  have E0 := E
  obtain ⟨hx, hb, hml, hr, hlk, hnm, hown, hts, hKK, hA, hfr, hlo, hbs, hRc, hRs, hwm⟩ := E
  obtain ⟨_, _, hq1, ⟨b, hq2, rfl⟩, hq3⟩ := SV.cons hSt
  subst hq2 hq1
  clear hSt
  have hSt := hq3
  clear hq3
  obtain ⟨_, _, hq1, ⟨a, hq2, rfl⟩, hq3⟩ := SV.cons hSt
  subst hq2 hq1
  clear hSt
  have hSt := hq3
  clear hq3
  exact lv_ior hx hb hd (k p e R s m args below meth c Z K0 K H locs ls _ E0 hR hW hK hS hL ⟨⟨_, rfl, by unfold i_or; rw [ofInt_toInt', ofInt_toInt']⟩, hSt⟩)
theorem aw_ixor {x y : Int} (hd : decode M.2.1 pc = .ok (.ixor, 1)) (k : AW g l d M (pc + 1) L (vI (i_xor x y) :: S) σ Q) : AW g l d M pc L (vI y :: vI x :: S) σ Q := by
  intro p e R s m args below meth c Z K0 K H locs ls st E hR hW hK hS hL hSt
  have E0 := E
  obtain ⟨hx, hb, hml, hr, hlk, hnm, hown, hts, hKK, hA, hfr, hlo, hbs, hRc, hRs, hwm⟩ := E
  obtain ⟨_, _, hq1, ⟨b, hq2, rfl⟩, hq3⟩ := SV.cons hSt
  subst hq2 hq1
  clear hSt
  have hSt := hq3
  clear hq3
  obtain ⟨_, _, hq1, ⟨a, hq2, rfl⟩, hq3⟩ := SV.cons hSt
  subst hq2 hq1
  clear hSt
  have hSt := hq3
  clear hq3
  exact lv_ixor hx hb hd (k p e R s m args below meth c Z K0 K H locs ls _ E0 hR hW hK hS hL ⟨⟨_, rfl, by unfold i_xor; rw [ofInt_toInt', ofInt_toInt']⟩, hSt⟩)
theorem aw_ishl {x y : Int} (hd : decode M.2.1 pc = .ok (.ishl, 1)) (k : AW g l d M (pc + 1) L (vI (i_shl x y) :: S) σ Q) : AW g l d M pc L (vI y :: vI x :: S) σ Q := by
  intro p e R s m args below meth c Z K0 K H locs ls st E hR hW hK hS hL hSt
  have E0 := E
  obtain ⟨hx, hb, hml, hr, hlk, hnm, hown, hts, hKK, hA, hfr, hlo, hbs, hRc, hRs, hwm⟩ := E
  obtain ⟨_, _, hq1, ⟨b, hq2, rfl⟩, hq3⟩ := SV.cons hSt
  subst hq2 hq1
  clear hSt
  have hSt := hq3
  clear hq3
  obtain ⟨_, _, hq1, ⟨a, hq2, rfl⟩, hq3⟩ := SV.cons hSt
  subst hq2 hq1
  clear hSt
  have hSt := hq3
  clear hq3
  exact lv_ishl hx hb hd (k p e R s m args below meth c Z K0 K H locs ls _ E0 hR hW hK hS hL ⟨⟨_, rfl, by unfold i_shl; rw [ofInt_toInt', ofInt_toInt']⟩, hSt⟩)
theorem aw_ishr {x y : Int} (hd : decode M.2.1 pc = .ok (.ishr, 1)) (k : AW g l d M (pc + 1) L (vI (i_shr x y) :: S) σ Q) : AW g l d M pc L (vI y :: vI x :: S) σ Q := by
  intro p e R s m args below meth c Z K0 K H locs ls st E hR hW hK hS hL hSt
  have E0 := E
  obtain ⟨hx, hb, hml, hr, hlk, hnm, hown, hts, hKK, hA, hfr, hlo, hbs, hRc, hRs, hwm⟩ := E
  obtain ⟨_, _, hq1, ⟨b, hq2, rfl⟩, hq3⟩ := SV.cons hSt
  subst hq2 hq1
  clear hSt
  have hSt := hq3
  clear hq3
  obtain ⟨_, _, hq1, ⟨a, hq2, rfl⟩, hq3⟩ := SV.cons hSt
  subst hq2 hq1
  clear hSt
  have hSt := hq3
  clear hq3
  exact lv_ishr hx hb hd (k p e R s m args below meth c Z K0 K H locs ls _ E0 hR hW hK hS hL ⟨⟨_, rfl, by unfold i_shr; rw [ofInt_toInt', ofInt_toInt']⟩, hSt⟩)
theorem aw_idiv {x y : Int} (hd : decode M.2.1 pc = .ok (.idiv, 1)) (hn : ¬ y = 0) (k : AW g l d M (pc + 1) L (vI (i_div x y) :: S) σ Q) : AW g l d M pc L (vI y :: vI x :: S) σ Q := by
  intro p e R s m args below meth c Z K0 K H locs ls st E hR hW hK hS hL hSt
  have E0 := E
  obtain ⟨hx, hb, hml, hr, hlk, hnm, hown, hts, hKK, hA, hfr, hlo, hbs, hRc, hRs, hwm⟩ := E
  obtain ⟨_, _, hq1, ⟨b, hq2, rfl⟩, hq3⟩ := SV.cons hSt
  subst hq2 hq1
  clear hSt
  have hSt := hq3
  clear hq3
  obtain ⟨_, _, hq1, ⟨a, hq2, rfl⟩, hq3⟩ := SV.cons hSt
  subst hq2 hq1
  clear hSt
  have hSt := hq3
  clear hq3
  exact lv_idiv hx hb hd (fun q => hn (by rw [q]; rfl)) (k p e R s m args below meth c Z K0 K H locs ls _ E0 hR hW hK hS hL ⟨⟨_, rfl, by unfold i_div; rw [ofInt_toInt', ofInt_toInt']⟩, hSt⟩)
theorem aw_irem {x y : Int} (hd : decode M.2.1 pc = .ok (.irem, 1)) (hn : ¬ y = 0) (k : AW g l d M (pc + 1) L (vI (i_rem x y) :: S) σ Q) : AW g l d M pc L (vI y :: vI x :: S) σ Q := by
  intro p e R s m args below meth c Z K0 K H locs ls st E hR hW hK hS hL hSt
  have E0 := E
  obtain ⟨hx, hb, hml, hr, hlk, hnm, hown, hts, hKK, hA, hfr, hlo, hbs, hRc, hRs, hwm⟩ := E
  obtain ⟨_, _, hq1, ⟨b, hq2, rfl⟩, hq3⟩ := SV.cons hSt
  subst hq2 hq1
  clear hSt
  have hSt := hq3
  clear hq3
  obtain ⟨_, _, hq1, ⟨a, hq2, rfl⟩, hq3⟩ := SV.cons hSt
  subst hq2 hq1
  clear hSt
  have hSt := hq3
  clear hq3
  exact lv_irem hx hb hd (fun q => hn (by rw [q]; rfl)) (k p e R s m args below meth c Z K0 K H locs ls _ E0 hR hW hK hS hL ⟨⟨_, rfl, by unfold i_rem; rw [ofInt_toInt', ofInt_toInt']⟩, hSt⟩)
theorem aw_ladd {x y : Int64} (hd : decode M.2.1 pc = .ok (.ladd, 1)) (k : AW g l d M (pc + 1) L (vJ (x + y) :: S) σ Q) : AW g l d M pc L (vJ y :: vJ x :: S) σ Q := by
  intro p e R s m args below meth c Z K0 K H locs ls st E hR hW hK hS hL hSt
  have E0 := E
  obtain ⟨hx, hb, hml, hr, hlk, hnm, hown, hts, hKK, hA, hfr, hlo, hbs, hRc, hRs, hwm⟩ := E
  obtain ⟨_, _, hq1, hjb, hq3⟩ := SV.cons hSt
  have hjb : _ = Value.long _ := hjb
  subst hjb hq1
  clear hSt
  have hSt := hq3
  clear hq3
  obtain ⟨_, _, hq1, hja, hq3⟩ := SV.cons hSt
  have hja : _ = Value.long _ := hja
  subst hja hq1
  clear hSt
  have hSt := hq3
  clear hq3
  exact lv_ladd hx hb hd (k p e R s m args below meth c Z K0 K H locs ls _ E0 hR hW hK hS hL ⟨rfl, hSt⟩)
theorem aw_lsub {x y : Int64} (hd : decode M.2.1 pc = .ok (.lsub, 1)) (k : AW g l d M (pc + 1) L (vJ (x - y) :: S) σ Q) : AW g l d M pc L (vJ y :: vJ x :: S) σ Q := by
  intro p e R s m args below meth c Z K0 K H locs ls st E hR hW hK hS hL hSt
  have E0 := E
  obtain ⟨hx, hb, hml, hr, hlk, hnm, hown, hts, hKK, hA, hfr, hlo, hbs, hRc, hRs, hwm⟩ := E
  obtain ⟨_, _, hq1, hjb, hq3⟩ := SV.cons hSt
  have hjb : _ = Value.long _ := hjb
  subst hjb hq1
  clear hSt
  have hSt := hq3
  clear hq3
  obtain ⟨_, _, hq1, hja, hq3⟩ := SV.cons hSt
  have hja : _ = Value.long _ := hja
  subst hja hq1
  clear hSt
  have hSt := hq3
  clear hq3
  exact lv_lsub hx hb hd (k p e R s m args below meth c Z K0 K H locs ls _ E0 hR hW hK hS hL ⟨rfl, hSt⟩)
theorem aw_lmul {x y : Int64} (hd : decode M.2.1 pc = .ok (.lmul, 1)) (k : AW g l d M (pc + 1) L (vJ (x * y) :: S) σ Q) : AW g l d M pc L (vJ y :: vJ x :: S) σ Q := by
  intro p e R s m args below meth c Z K0 K H locs ls st E hR hW hK hS hL hSt
  have E0 := E
  obtain ⟨hx, hb, hml, hr, hlk, hnm, hown, hts, hKK, hA, hfr, hlo, hbs, hRc, hRs, hwm⟩ := E
  obtain ⟨_, _, hq1, hjb, hq3⟩ := SV.cons hSt
  have hjb : _ = Value.long _ := hjb
  subst hjb hq1
  clear hSt
  have hSt := hq3
  clear hq3
  obtain ⟨_, _, hq1, hja, hq3⟩ := SV.cons hSt
  have hja : _ = Value.long _ := hja
  subst hja hq1
  clear hSt
  have hSt := hq3
  clear hq3
  exact lv_lmul hx hb hd (k p e R s m args below meth c Z K0 K H locs ls _ E0 hR hW hK hS hL ⟨rfl, hSt⟩)
theorem aw_land {x y : Int64} (hd : decode M.2.1 pc = .ok (.land, 1)) (k : AW g l d M (pc + 1) L (vJ (x &&& y) :: S) σ Q) : AW g l d M pc L (vJ y :: vJ x :: S) σ Q := by
  intro p e R s m args below meth c Z K0 K H locs ls st E hR hW hK hS hL hSt
  have E0 := E
  obtain ⟨hx, hb, hml, hr, hlk, hnm, hown, hts, hKK, hA, hfr, hlo, hbs, hRc, hRs, hwm⟩ := E
  obtain ⟨_, _, hq1, hjb, hq3⟩ := SV.cons hSt
  have hjb : _ = Value.long _ := hjb
  subst hjb hq1
  clear hSt
  have hSt := hq3
  clear hq3
  obtain ⟨_, _, hq1, hja, hq3⟩ := SV.cons hSt
  have hja : _ = Value.long _ := hja
  subst hja hq1
  clear hSt
  have hSt := hq3
  clear hq3
  exact lv_land hx hb hd (k p e R s m args below meth c Z K0 K H locs ls _ E0 hR hW hK hS hL ⟨rfl, hSt⟩)
theorem aw_lor {x y : Int64} (hd : decode M.2.1 pc = .ok (.lor, 1)) (k : AW g l d M (pc + 1) L (vJ (x ||| y) :: S) σ Q) : AW g l d M pc L (vJ y :: vJ x :: S) σ Q := by
  intro p e R s m args below meth c Z K0 K H locs ls st E hR hW hK hS hL hSt
  have E0 := E
  obtain ⟨hx, hb, hml, hr, hlk, hnm, hown, hts, hKK, hA, hfr, hlo, hbs, hRc, hRs, hwm⟩ := E
  obtain ⟨_, _, hq1, hjb, hq3⟩ := SV.cons hSt
  have hjb : _ = Value.long _ := hjb
  subst hjb hq1
  clear hSt
  have hSt := hq3
  clear hq3
  obtain ⟨_, _, hq1, hja, hq3⟩ := SV.cons hSt
  have hja : _ = Value.long _ := hja
  subst hja hq1
  clear hSt
  have hSt := hq3
  clear hq3
  exact lv_lor hx hb hd (k p e R s m args below meth c Z K0 K H locs ls _ E0 hR hW hK hS hL ⟨rfl, hSt⟩)
theorem aw_lxor {x y : Int64} (hd : decode M.2.1 pc = .ok (.lxor, 1)) (k : AW g l d M (pc + 1) L (vJ (x ^^^ y) :: S) σ Q) : AW g l d M pc L (vJ y :: vJ x :: S) σ Q := by
  intro p e R s m args below meth c Z K0 K H locs ls st E hR hW hK hS hL hSt
  have E0 := E
  obtain ⟨hx, hb, hml, hr, hlk, hnm, hown, hts, hKK, hA, hfr, hlo, hbs, hRc, hRs, hwm⟩ := E
  obtain ⟨_, _, hq1, hjb, hq3⟩ := SV.cons hSt
  have hjb : _ = Value.long _ := hjb
  subst hjb hq1
  clear hSt
  have hSt := hq3
  clear hq3
  obtain ⟨_, _, hq1, hja, hq3⟩ := SV.cons hSt
  have hja : _ = Value.long _ := hja
  subst hja hq1
  clear hSt
  have hSt := hq3
  clear hq3
  exact lv_lxor hx hb hd (k p e R s m args below meth c Z K0 K H locs ls _ E0 hR hW hK hS hL ⟨rfl, hSt⟩)
theorem aw_ldiv {x y : Int64} (hd : decode M.2.1 pc = .ok (.ldiv, 1)) (hn : ¬ y = 0) (k : AW g l d M (pc + 1) L (vJ (x / y) :: S) σ Q) : AW g l d M pc L (vJ y :: vJ x :: S) σ Q := by
  intro p e R s m args below meth c Z K0 K H locs ls st E hR hW hK hS hL hSt
  have E0 := E
  obtain ⟨hx, hb, hml, hr, hlk, hnm, hown, hts, hKK, hA, hfr, hlo, hbs, hRc, hRs, hwm⟩ := E
  obtain ⟨_, _, hq1, hjb, hq3⟩ := SV.cons hSt
  have hjb : _ = Value.long _ := hjb
  subst hjb hq1
  clear hSt
  have hSt := hq3
  clear hq3
  obtain ⟨_, _, hq1, hja, hq3⟩ := SV.cons hSt
  have hja : _ = Value.long _ := hja
  subst hja hq1
  clear hSt
  have hSt := hq3
  clear hq3
  exact lv_ldiv hx hb hd hn (k p e R s m args below meth c Z K0 K H locs ls _ E0 hR hW hK hS hL ⟨rfl, hSt⟩)
theorem aw_lrem {x y : Int64} (hd : decode M.2.1 pc = .ok (.lrem, 1)) (hn : ¬ y = 0) (k : AW g l d M (pc + 1) L (vJ (j_rem x y) :: S) σ Q) : AW g l d M pc L (vJ y :: vJ x :: S) σ Q := by
  intro p e R s m args below meth c Z K0 K H locs ls st E hR hW hK hS hL hSt
  have E0 := E
  obtain ⟨hx, hb, hml, hr, hlk, hnm, hown, hts, hKK, hA, hfr, hlo, hbs, hRc, hRs, hwm⟩ := E
  obtain ⟨_, _, hq1, hjb, hq3⟩ := SV.cons hSt
  have hjb : _ = Value.long _ := hjb
  subst hjb hq1
  clear hSt
  have hSt := hq3
  clear hq3
  obtain ⟨_, _, hq1, hja, hq3⟩ := SV.cons hSt
  have hja : _ = Value.long _ := hja
  subst hja hq1
  clear hSt
  have hSt := hq3
  clear hq3
  exact lv_lrem hx hb hd hn (k p e R s m args below meth c Z K0 K H locs ls _ E0 hR hW hK hS hL ⟨rfl, hSt⟩)
theorem aw_lshl {x : Int64} {y : Int} (hd : decode M.2.1 pc = .ok (.lshl, 1)) (k : AW g l d M (pc + 1) L (vJ (j_shl x y) :: S) σ Q) : AW g l d M pc L (vI y :: vJ x :: S) σ Q := by
  intro p e R s m args below meth c Z K0 K H locs ls st E hR hW hK hS hL hSt
  have E0 := E
  obtain ⟨hx, hb, hml, hr, hlk, hnm, hown, hts, hKK, hA, hfr, hlo, hbs, hRc, hRs, hwm⟩ := E
  obtain ⟨_, _, hq1, ⟨b, hq2, rfl⟩, hq3⟩ := SV.cons hSt
  subst hq2 hq1
  clear hSt
  have hSt := hq3
  clear hq3
  obtain ⟨_, _, hq1, hja, hq3⟩ := SV.cons hSt
  have hja : _ = Value.long _ := hja
  subst hja hq1
  clear hSt
  have hSt := hq3
  clear hq3
  exact lv_lshl hx hb hd rfl (k p e R s m args below meth c Z K0 K H locs ls _ E0 hR hW hK hS hL ⟨by show _ = Value.long (j_shl _ _); unfold j_shl; rw [ofInt_toInt'], hSt⟩)
theorem aw_lshr {x : Int64} {y : Int} (hd : decode M.2.1 pc = .ok (.lshr, 1)) (k : AW g l d M (pc + 1) L (vJ (j_shr x y) :: S) σ Q) : AW g l d M pc L (vI y :: vJ x :: S) σ Q := by
  intro p e R s m args below meth c Z K0 K H locs ls st E hR hW hK hS hL hSt
  have E0 := E
  obtain ⟨hx, hb, hml, hr, hlk, hnm, hown, hts, hKK, hA, hfr, hlo, hbs, hRc, hRs, hwm⟩ := E
  obtain ⟨_, _, hq1, ⟨b, hq2, rfl⟩, hq3⟩ := SV.cons hSt
  subst hq2 hq1
  clear hSt
  have hSt := hq3
  clear hq3
  obtain ⟨_, _, hq1, hja, hq3⟩ := SV.cons hSt
  have hja : _ = Value.long _ := hja
  subst hja hq1
  clear hSt
  have hSt := hq3
  clear hq3
  exact lv_lshr hx hb hd rfl (k p e R s m args below meth c Z K0 K H locs ls _ E0 hR hW hK hS hL ⟨by show _ = Value.long (j_shr _ _); unfold j_shr; rw [ofInt_toInt'], hSt⟩)
theorem aw_lushr {x : Int64} {y : Int} (hd : decode M.2.1 pc = .ok (.lushr, 1)) (k : AW g l d M (pc + 1) L (vJ (j_ushr x y) :: S) σ Q) : AW g l d M pc L (vI y :: vJ x :: S) σ Q := by
  intro p e R s m args below meth c Z K0 K H locs ls st E hR hW hK hS hL hSt
  have E0 := E
  obtain ⟨hx, hb, hml, hr, hlk, hnm, hown, hts, hKK, hA, hfr, hlo, hbs, hRc, hRs, hwm⟩ := E
  obtain ⟨_, _, hq1, ⟨b, hq2, rfl⟩, hq3⟩ := SV.cons hSt
  subst hq2 hq1
  clear hSt
  have hSt := hq3
  clear hq3
  obtain ⟨_, _, hq1, hja, hq3⟩ := SV.cons hSt
  have hja : _ = Value.long _ := hja
  subst hja hq1
  clear hSt
  have hSt := hq3
  clear hq3
  exact lv_lushr hx hb hd rfl (k p e R s m args below meth c Z K0 K H locs ls _ E0 hR hW hK hS hL ⟨by show _ = Value.long (j_ushr _ _); unfold j_ushr; rw [ofInt_toInt'], hSt⟩)
theorem aw_lneg {x : Int64} (hd : decode M.2.1 pc = .ok (.lneg, 1)) (k : AW g l d M (pc + 1) L (vJ (-x) :: S) σ Q) : AW g l d M pc L (vJ x :: S) σ Q := by
  intro p e R s m args below meth c Z K0 K H locs ls st E hR hW hK hS hL hSt
  have E0 := E
  obtain ⟨hx, hb, hml, hr, hlk, hnm, hown, hts, hKK, hA, hfr, hlo, hbs, hRc, hRs, hwm⟩ := E
  obtain ⟨_, _, hq1, hja, hq3⟩ := SV.cons hSt
  have hja : _ = Value.long _ := hja
  subst hja hq1
  clear hSt
  have hSt := hq3
  clear hq3
  exact lv_lneg hx hb hd (k p e R s m args below meth c Z K0 K H locs ls _ E0 hR hW hK hS hL ⟨rfl, hSt⟩)
theorem aw_i2l {x : Int} (hd : decode M.2.1 pc = .ok (.i2l, 1)) (k : AW g l d M (pc + 1) L (vJ (i2j x) :: S) σ Q) : AW g l d M pc L (vI x :: S) σ Q := by
  intro p e R s m args below meth c Z K0 K H locs ls st E hR hW hK hS hL hSt
  have E0 := E
  obtain ⟨hx, hb, hml, hr, hlk, hnm, hown, hts, hKK, hA, hfr, hlo, hbs, hRc, hRs, hwm⟩ := E
  obtain ⟨_, _, hq1, ⟨a, hq2, rfl⟩, hq3⟩ := SV.cons hSt
  subst hq2 hq1
  clear hSt
  have hSt := hq3
  clear hq3
  exact lv_i2l hx hb hd rfl (k p e R s m args below meth c Z K0 K H locs ls _ E0 hR hW hK hS hL ⟨by show _ = Value.long (i2j _); unfold i2j; rw [ofInt_toInt'], hSt⟩)
theorem aw_l2i {x : Int64} (hd : decode M.2.1 pc = .ok (.l2i, 1)) (k : AW g l d M (pc + 1) L (vI (j2i x) :: S) σ Q) : AW g l d M pc L (vJ x :: S) σ Q := by
  intro p e R s m args below meth c Z K0 K H locs ls st E hR hW hK hS hL hSt
  have E0 := E
  obtain ⟨hx, hb, hml, hr, hlk, hnm, hown, hts, hKK, hA, hfr, hlo, hbs, hRc, hRs, hwm⟩ := E
  obtain ⟨_, _, hq1, hja, hq3⟩ := SV.cons hSt
  have hja : _ = Value.long _ := hja
  subst hja hq1
  clear hSt
  have hSt := hq3
  clear hq3
  exact lv_l2i hx hb hd rfl (k p e R s m args below meth c Z K0 K H locs ls _ E0 hR hW hK hS hL ⟨⟨_, rfl, rfl⟩, hSt⟩)
theorem aw_i2c {x : Int} (hd : decode M.2.1 pc = .ok (.i2c, 1)) (k : AW g l d M (pc + 1) L (vI (i_2c x) :: S) σ Q) : AW g l d M pc L (vI x :: S) σ Q := by
  intro p e R s m args below meth c Z K0 K H locs ls st E hR hW hK hS hL hSt
  have E0 := E
  obtain ⟨hx, hb, hml, hr, hlk, hnm, hown, hts, hKK, hA, hfr, hlo, hbs, hRc, hRs, hwm⟩ := E
  obtain ⟨_, _, hq1, ⟨a, hq2, rfl⟩, hq3⟩ := SV.cons hSt
  subst hq2 hq1
  clear hSt
  have hSt := hq3
  clear hq3
  exact lv_i2c hx hb hd rfl (k p e R s m args below meth c Z K0 K H locs ls _ E0 hR hW hK hS hL ⟨⟨_, rfl, by unfold i_2c; rw [ofInt_toInt']⟩, hSt⟩)
theorem aw_iconst {n x : Int} (hd : decode M.2.1 pc = .ok (.iconst n, 1)) (hn : (Int32.ofInt n).toInt = x) (k : AW g l d M (pc + 1) L (vI x :: S) σ Q) : AW g l d M pc L S σ Q := by
  intro p e R s m args below meth c Z K0 K H locs ls st E hR hW hK hS hL hSt
  have E0 := E
  obtain ⟨hx, hb, hml, hr, hlk, hnm, hown, hts, hKK, hA, hfr, hlo, hbs, hRc, hRs, hwm⟩ := E
  exact lv_iconst hx hb hd rfl (k p e R s m args below meth c Z K0 K H locs ls _ E0 hR hW hK hS hL ⟨⟨_, rfl, hn⟩, hSt⟩)
theorem aw_bipush {n x : Int} (hd : decode M.2.1 pc = .ok (.bipush n, 2)) (hn : (Int8.ofInt n).toInt32.toInt = x) (k : AW g l d M (pc + 2) L (vI x :: S) σ Q) : AW g l d M pc L S σ Q := by
  intro p e R s m args below meth c Z K0 K H locs ls st E hR hW hK hS hL hSt
  have E0 := E
  obtain ⟨hx, hb, hml, hr, hlk, hnm, hown, hts, hKK, hA, hfr, hlo, hbs, hRc, hRs, hwm⟩ := E
  exact lv_bipush hx hb hd rfl (k p e R s m args below meth c Z K0 K H locs ls _ E0 hR hW hK hS hL ⟨⟨_, rfl, hn⟩, hSt⟩)
theorem aw_sipush {n x : Int} (hd : decode M.2.1 pc = .ok (.sipush n, 3)) (hn : (Int16.ofInt n).toInt32.toInt = x) (k : AW g l d M (pc + 3) L (vI x :: S) σ Q) : AW g l d M pc L S σ Q := by
  intro p e R s m args below meth c Z K0 K H locs ls st E hR hW hK hS hL hSt
  have E0 := E
  obtain ⟨hx, hb, hml, hr, hlk, hnm, hown, hts, hKK, hA, hfr, hlo, hbs, hRc, hRs, hwm⟩ := E
  exact lv_sipush hx hb hd rfl (k p e R s m args below meth c Z K0 K H locs ls _ E0 hR hW hK hS hL ⟨⟨_, rfl, hn⟩, hSt⟩)
theorem aw_ldc {i : Nat} {v : Int32} {x : Int} (hc : Cond.constant M.1.cls i v ∈ lw_use) (hd : decode M.2.1 pc = .ok (.ldc i, 2)) (hn : v.toInt = x) (k : AW g l d M (pc + 2) L (vI x :: S) σ Q) : AW g l d M pc L S σ Q := by
  intro p e R s m args below meth c Z K0 K H locs ls st E hR hW hK hS hL hSt
  have E0 := E
  obtain ⟨hx, hb, hml, hr, hlk, hnm, hown, hts, hKK, hA, hfr, hlo, hbs, hRc, hRs, hwm⟩ := E
  exact lv_ldc hx hb hown (hts _ hc) hd (k p e R s m args below meth c Z K0 K H locs ls _ E0 hR hW hK hS hL ⟨⟨_, rfl, hn⟩, hSt⟩)
theorem aw_lconst {n : Fin 2} {x : Int64} (hd : decode M.2.1 pc = .ok (.lconst n, 1)) (hn : Int64.ofNat (n : Nat) = x) (k : AW g l d M (pc + 1) L (vJ x :: S) σ Q) : AW g l d M pc L S σ Q := by
  intro p e R s m args below meth c Z K0 K H locs ls st E hR hW hK hS hL hSt
  have E0 := E
  obtain ⟨hx, hb, hml, hr, hlk, hnm, hown, hts, hKK, hA, hfr, hlo, hbs, hRc, hRs, hwm⟩ := E
  exact lv_lconst hx hb hd hn (k p e R s m args below meth c Z K0 K H locs ls _ E0 hR hW hK hS hL ⟨rfl, hSt⟩)
theorem aw_ldc2 {i : Nat} {x : Int64} (hc : Cond.constantLong M.1.cls i x ∈ lw_use) (hd : decode M.2.1 pc = .ok (.ldc2_w i, 3)) (k : AW g l d M (pc + 3) L (vJ x :: S) σ Q) : AW g l d M pc L S σ Q := by
  intro p e R s m args below meth c Z K0 K H locs ls st E hR hW hK hS hL hSt
  have E0 := E
  obtain ⟨hx, hb, hml, hr, hlk, hnm, hown, hts, hKK, hA, hfr, hlo, hbs, hRc, hRs, hwm⟩ := E
  exact lv_ldc2 hx hb hown (hts _ hc) hd (k p e R s m args below meth c Z K0 K H locs ls _ E0 hR hW hK hS hL ⟨rfl, hSt⟩)
theorem aw_null (cl : Nat) (hd : decode M.2.1 pc = .ok (.aconst_null, 1)) (k : AW g l d M (pc + 1) L (vR cl none :: S) σ Q) : AW g l d M pc L S σ Q := by
  intro p e R s m args below meth c Z K0 K H locs ls st E hR hW hK hS hL hSt
  have E0 := E
  obtain ⟨hx, hb, hml, hr, hlk, hnm, hown, hts, hKK, hA, hfr, hlo, hbs, hRc, hRs, hwm⟩ := E
  exact lv_null hx hb hd (k p e R s m args below meth c Z K0 K H locs ls _ E0 hR hW hK hS hL ⟨rfl, hSt⟩)
theorem aw_iload_n {q : Fin 4} {i : Nat} {x : Int} (hd : decode M.2.1 pc = .ok (.iload_n q, 1)) (hi : (q : Nat) = i) (hl : L[i]? = some (some (vI x))) (k : AW g l d M (pc + 1) L (vI x :: S) σ Q) : AW g l d M pc L S σ Q := by
  intro p e R s m args below meth c Z K0 K H locs ls st E hR hW hK hS hL hSt
  have E0 := E
  obtain ⟨hx, hb, hml, hr, hlk, hnm, hown, hts, hKK, hA, hfr, hlo, hbs, hRc, hRs, hwm⟩ := E
  obtain ⟨_, hl', a, rfl, rfl⟩ := hL.at hl
  exact lv_iload_n hx hb hd hi hl' (k p e R s m args below meth c Z K0 K H locs ls _ E0 hR hW hK hS hL ⟨⟨_, rfl, rfl⟩, hSt⟩)
theorem aw_iload {i : Nat} {x : Int} (hd : decode M.2.1 pc = .ok (.iload i, 2)) (hl : L[i]? = some (some (vI x))) (k : AW g l d M (pc + 2) L (vI x :: S) σ Q) : AW g l d M pc L S σ Q := by
  intro p e R s m args below meth c Z K0 K H locs ls st E hR hW hK hS hL hSt
  have E0 := E
  obtain ⟨hx, hb, hml, hr, hlk, hnm, hown, hts, hKK, hA, hfr, hlo, hbs, hRc, hRs, hwm⟩ := E
  obtain ⟨_, hl', a, rfl, rfl⟩ := hL.at hl
  exact lv_iload hx hb hd hl' (k p e R s m args below meth c Z K0 K H locs ls _ E0 hR hW hK hS hL ⟨⟨_, rfl, rfl⟩, hSt⟩)
theorem aw_lload_n {q : Fin 4} {i : Nat} {x : Int64} (hd : decode M.2.1 pc = .ok (.lload_n q, 1)) (hi : (q : Nat) = i) (hl : L[i]? = some (some (vJ x))) (k : AW g l d M (pc + 1) L (vJ x :: S) σ Q) : AW g l d M pc L S σ Q := by
  intro p e R s m args below meth c Z K0 K H locs ls st E hR hW hK hS hL hSt
  have E0 := E
  obtain ⟨hx, hb, hml, hr, hlk, hnm, hown, hts, hKK, hA, hfr, hlo, hbs, hRc, hRs, hwm⟩ := E
  obtain ⟨_, hl, hj⟩ := hL.at hl
  have hj : _ = Value.long _ := hj
  subst hj
  exact lv_lload_n hx hb hd hi hl (k p e R s m args below meth c Z K0 K H locs ls _ E0 hR hW hK hS hL ⟨rfl, hSt⟩)
theorem aw_lload {i : Nat} {x : Int64} (hd : decode M.2.1 pc = .ok (.lload i, 2)) (hl : L[i]? = some (some (vJ x))) (k : AW g l d M (pc + 2) L (vJ x :: S) σ Q) : AW g l d M pc L S σ Q := by
  intro p e R s m args below meth c Z K0 K H locs ls st E hR hW hK hS hL hSt
  have E0 := E
  obtain ⟨hx, hb, hml, hr, hlk, hnm, hown, hts, hKK, hA, hfr, hlo, hbs, hRc, hRs, hwm⟩ := E
  obtain ⟨_, hl, hj⟩ := hL.at hl
  have hj : _ = Value.long _ := hj
  subst hj
  exact lv_lload hx hb hd hl (k p e R s m args below meth c Z K0 K H locs ls _ E0 hR hW hK hS hL ⟨rfl, hSt⟩)
theorem VR.ref {K : KM} {x : Sum (Nat × Option Nat) (Nat × Nat)} {v : Value} (h : VR g K (.inr x) v) : v = .null ∨ ∃ q, v = .ref q := by
  match x, h with
  | .inl (_, none), h => exact Or.inl h
  | .inl (_, some q), h => exact Or.inr ⟨q, h.1⟩
  | .inr (f, r), h =>
    unfold VR at h
    dsimp only at h
    split at h
    · exact Or.inr ⟨_, h⟩
    · split at h
      · obtain ⟨q, e, _⟩ := h; exact Or.inr ⟨q, e⟩
      · obtain ⟨q, e, _⟩ := h; exact Or.inr ⟨q, e⟩
theorem aw_aload_n {q : Fin 4} {i : Nat} {x : Sum (Nat × Option Nat) (Nat × Nat)} (hd : decode M.2.1 pc = .ok (.aload_n q, 1)) (hi : (q : Nat) = i) (hl : L[i]? = some (some (.inr x))) (k : AW g l d M (pc + 1) L (.inr x :: S) σ Q) : AW g l d M pc L S σ Q := by
  intro p e R s m args below meth c Z K0 K H locs ls st E hR hW hK hS hL hSt
  have E0 := E
  obtain ⟨hx, hb, hml, hr, hlk, hnm, hown, hts, hKK, hA, hfr, hlo, hbs, hRc, hRs, hwm⟩ := E
  obtain ⟨v, hl, hv⟩ := hL.at hl
  rcases VR.ref hv with rfl | ⟨q, rfl⟩
  · exact lv_aload_nN hx hb hd hi hl (k p e R s m args below meth c Z K0 K H locs ls _ E0 hR hW hK hS hL ⟨hv, hSt⟩)
  · exact lv_aload_n hx hb hd hi hl (k p e R s m args below meth c Z K0 K H locs ls _ E0 hR hW hK hS hL ⟨hv, hSt⟩)
theorem aw_aload {i : Nat} {x : Sum (Nat × Option Nat) (Nat × Nat)} (hd : decode M.2.1 pc = .ok (.aload i, 2)) (hl : L[i]? = some (some (.inr x))) (k : AW g l d M (pc + 2) L (.inr x :: S) σ Q) : AW g l d M pc L S σ Q := by
  intro p e R s m args below meth c Z K0 K H locs ls st E hR hW hK hS hL hSt
  have E0 := E
  obtain ⟨hx, hb, hml, hr, hlk, hnm, hown, hts, hKK, hA, hfr, hlo, hbs, hRc, hRs, hwm⟩ := E
  obtain ⟨v, hl, hv⟩ := hL.at hl
  rcases VR.ref hv with rfl | ⟨q, rfl⟩
  · exact lv_aloadN hx hb hd hl (k p e R s m args below meth c Z K0 K H locs ls _ E0 hR hW hK hS hL ⟨hv, hSt⟩)
  · exact lv_aload hx hb hd hl (k p e R s m args below meth c Z K0 K H locs ls _ E0 hR hW hK hS hL ⟨hv, hSt⟩)
theorem aw_istore_n {q : Fin 4} {i : Nat} {x : Int} {L' : List (Option AV)} (hd : decode M.2.1 pc = .ok (.istore_n q, 1)) (hi : (q : Nat) = i) (hn : i < M.2.2.1) (hl : st1 L i (vI x) = L') (k : AW g l d M (pc + 1) L' S σ Q) : AW g l d M pc L ((vI x) :: S) σ Q := by
  intro p e R s m args below meth c Z K0 K H locs ls st E hR hW hK hS hL hSt
  have E0 := E
  obtain ⟨hx, hb, hml, hr, hlk, hnm, hown, hts, hKK, hA, hfr, hlo, hbs, hRc, hRs, hwm⟩ := E
  subst hl
  obtain ⟨lv, h1, h2⟩ := hL
  obtain ⟨_, _, hq1, ⟨a, hq2, rfl⟩, hq3⟩ := SV.cons hSt
  subst hq2 hq1
  clear hSt
  have hSt := hq3
  clear hq3
  have hv : VR g K (vI a.toInt) (.int a) := ⟨a, rfl, rfl⟩
  exact lv_istore_n hx hb hd hi h1 hn rfl (fun ls hl => (k p e R s m args below meth c Z K0 K H locs ls _ E0 hR hW hK hS (LV.st1 h2 hv hl) hSt))
theorem aw_istore {i : Nat} {x : Int} {L' : List (Option AV)} (hd : decode M.2.1 pc = .ok (.istore i, 2)) (hn : i < M.2.2.1) (hl : st1 L i (vI x) = L') (k : AW g l d M (pc + 2) L' S σ Q) : AW g l d M pc L ((vI x) :: S) σ Q := by
  intro p e R s m args below meth c Z K0 K H locs ls st E hR hW hK hS hL hSt
  have E0 := E
  obtain ⟨hx, hb, hml, hr, hlk, hnm, hown, hts, hKK, hA, hfr, hlo, hbs, hRc, hRs, hwm⟩ := E
  subst hl
  obtain ⟨lv, h1, h2⟩ := hL
  obtain ⟨_, _, hq1, ⟨a, hq2, rfl⟩, hq3⟩ := SV.cons hSt
  subst hq2 hq1
  clear hSt
  have hSt := hq3
  clear hq3
  have hv : VR g K (vI a.toInt) (.int a) := ⟨a, rfl, rfl⟩
  exact lv_istore hx hb hd h1 hn rfl (fun ls hl => (k p e R s m args below meth c Z K0 K H locs ls _ E0 hR hW hK hS (LV.st1 h2 hv hl) hSt))
theorem aw_lstore_n {q : Fin 4} {i : Nat} {x : Int64} {L' : List (Option AV)} (hd : decode M.2.1 pc = .ok (.lstore_n q, 1)) (hi : (q : Nat) = i) (hn : i + 1 < M.2.2.1) (hl : st2 L i (vJ x) = L') (k : AW g l d M (pc + 1) L' S σ Q) : AW g l d M pc L ((vJ x) :: S) σ Q := by
  intro p e R s m args below meth c Z K0 K H locs ls st E hR hW hK hS hL hSt
  have E0 := E
  obtain ⟨hx, hb, hml, hr, hlk, hnm, hown, hts, hKK, hA, hfr, hlo, hbs, hRc, hRs, hwm⟩ := E
  subst hl
  obtain ⟨lv, h1, h2⟩ := hL
  obtain ⟨_, _, hq1, hja, hq3⟩ := SV.cons hSt
  have hja : _ = Value.long _ := hja
  subst hja hq1
  clear hSt
  have hSt := hq3
  clear hq3
  have hv : VR g K (vJ x) (.long x) := rfl
  exact lv_lstore_n hx hb hd hi h1 hn rfl (fun ls hl => (k p e R s m args below meth c Z K0 K H locs ls _ E0 hR hW hK hS (LV.st2 h2 hv hl) hSt))
theorem aw_lstore {i : Nat} {x : Int64} {L' : List (Option AV)} (hd : decode M.2.1 pc = .ok (.lstore i, 2)) (hn : i + 1 < M.2.2.1) (hl : st2 L i (vJ x) = L') (k : AW g l d M (pc + 2) L' S σ Q) : AW g l d M pc L ((vJ x) :: S) σ Q := by
  intro p e R s m args below meth c Z K0 K H locs ls st E hR hW hK hS hL hSt
  have E0 := E
  obtain ⟨hx, hb, hml, hr, hlk, hnm, hown, hts, hKK, hA, hfr, hlo, hbs, hRc, hRs, hwm⟩ := E
  subst hl
  obtain ⟨lv, h1, h2⟩ := hL
  obtain ⟨_, _, hq1, hja, hq3⟩ := SV.cons hSt
  have hja : _ = Value.long _ := hja
  subst hja hq1
  clear hSt
  have hSt := hq3
  clear hq3
  have hv : VR g K (vJ x) (.long x) := rfl
  exact lv_lstore hx hb hd h1 hn rfl (fun ls hl => (k p e R s m args below meth c Z K0 K H locs ls _ E0 hR hW hK hS (LV.st2 h2 hv hl) hSt))
theorem aw_astore_n {q : Fin 4} {i : Nat} {x : Sum (Nat × Option Nat) (Nat × Nat)} {L' : List (Option AV)} (hd : decode M.2.1 pc = .ok (.astore_n q, 1)) (hi : (q : Nat) = i) (hn : i < M.2.2.1) (hl : st1 L i (.inr x) = L') (k : AW g l d M (pc + 1) L' S σ Q) : AW g l d M pc L ((.inr x) :: S) σ Q := by
  intro p e R s m args below meth c Z K0 K H locs ls st E hR hW hK hS hL hSt
  have E0 := E
  obtain ⟨hx, hb, hml, hr, hlk, hnm, hown, hts, hKK, hA, hfr, hlo, hbs, hRc, hRs, hwm⟩ := E
  subst hl
  obtain ⟨lv, h1, h2⟩ := hL
  obtain ⟨v, _, hq1, hv, hq3⟩ := SV.cons hSt
  subst hq1
  clear hSt
  have hSt := hq3
  clear hq3
  rcases VR.ref hv with rfl | ⟨q, rfl⟩
  · exact lv_astore_nN hx hb hd hi h1 hn rfl (fun ls hl => (k p e R s m args below meth c Z K0 K H locs ls _ E0 hR hW hK hS (LV.st1 h2 hv hl) hSt))
  · exact lv_astore_n hx hb hd hi h1 hn rfl (fun ls hl => (k p e R s m args below meth c Z K0 K H locs ls _ E0 hR hW hK hS (LV.st1 h2 hv hl) hSt))
theorem aw_astore {i : Nat} {x : Sum (Nat × Option Nat) (Nat × Nat)} {L' : List (Option AV)} (hd : decode M.2.1 pc = .ok (.astore i, 2)) (hn : i < M.2.2.1) (hl : st1 L i (.inr x) = L') (k : AW g l d M (pc + 2) L' S σ Q) : AW g l d M pc L ((.inr x) :: S) σ Q := by
  intro p e R s m args below meth c Z K0 K H locs ls st E hR hW hK hS hL hSt
  have E0 := E
  obtain ⟨hx, hb, hml, hr, hlk, hnm, hown, hts, hKK, hA, hfr, hlo, hbs, hRc, hRs, hwm⟩ := E
  subst hl
  obtain ⟨lv, h1, h2⟩ := hL
  obtain ⟨v, _, hq1, hv, hq3⟩ := SV.cons hSt
  subst hq1
  clear hSt
  have hSt := hq3
  clear hq3
  rcases VR.ref hv with rfl | ⟨q, rfl⟩
  · exact lv_astoreN hx hb hd h1 hn rfl (fun ls hl => (k p e R s m args below meth c Z K0 K H locs ls _ E0 hR hW hK hS (LV.st1 h2 hv hl) hSt))
  · exact lv_astore hx hb hd h1 hn rfl (fun ls hl => (k p e R s m args below meth c Z K0 K H locs ls _ E0 hR hW hK hS (LV.st1 h2 hv hl) hSt))
theorem aw_iinc {i : Nat} {n x : Int} {L' : List (Option AV)} (hd : decode M.2.1 pc = .ok (.iinc i n, 3)) (hx' : L[i]? = some (some (vI x))) (hn : i < M.2.2.1) (hm : (Int32.ofInt n).toInt = n) (hl : st1 L i (vI (w32 (x + n))) = L') (k : AW g l d M (pc + 3) L' S σ Q) : AW g l d M pc L S σ Q := by
  intro p e R s m args below meth c Z K0 K H locs ls st E hR hW hK hS hL hSt
  have E0 := E
  obtain ⟨hx, hb, hml, hr, hlk, hnm, hown, hts, hKK, hA, hfr, hlo, hbs, hRc, hRs, hwm⟩ := E
  subst hl
  obtain ⟨lv, h1, h2⟩ := hL
  obtain ⟨_, hv, a, rfl, rfl⟩ := h2 i _ hx'
  obtain ⟨j, hj⟩ := List.getElem?_of_mem hv
  have hw : VR g K (vI (w32 (a.toInt + n))) (.int (a + Int32.ofInt n)) := ⟨_, rfl, by rw [Int32.toInt_add, w32_bmod, hm]⟩
  exact lv_iinc hx hb hd h1 hj rfl hn rfl (fun ls hl => (k p e R s m args below meth c Z K0 K H locs ls _ E0 hR hW hK hS (LV.st1 h2 hw hl) hSt))
theorem aw_dup {a : AV} (hd : decode M.2.1 pc = .ok (.dup, 1)) (hc : catA a = 1) (k : AW g l d M (pc + 1) L (a :: a :: S) σ Q) : AW g l d M pc L (a :: S) σ Q := by
  intro p e R s m args below meth c Z K0 K H locs ls st E hR hW hK hS hL hSt
  have E0 := E
  obtain ⟨hx, hb, hml, hr, hlk, hnm, hown, hts, hKK, hA, hfr, hlo, hbs, hRc, hRs, hwm⟩ := E
  obtain ⟨v, _, hq1, hv, hq3⟩ := SV.cons hSt
  subst hq1
  clear hSt
  have hSt := hq3
  clear hq3
  exact lv_dup hx hb hd (hv.cat.trans hc) (k p e R s m args below meth c Z K0 K H locs ls _ E0 hR hW hK hS hL ⟨hv, hv, hSt⟩)
theorem aw_pop {a : AV} (hd : decode M.2.1 pc = .ok (.pop, 1)) (hc : catA a = 1) (k : AW g l d M (pc + 1) L S σ Q) : AW g l d M pc L (a :: S) σ Q := by
  intro p e R s m args below meth c Z K0 K H locs ls st E hR hW hK hS hL hSt
  have E0 := E
  obtain ⟨hx, hb, hml, hr, hlk, hnm, hown, hts, hKK, hA, hfr, hlo, hbs, hRc, hRs, hwm⟩ := E
  obtain ⟨v, _, hq1, hv, hq3⟩ := SV.cons hSt
  subst hq1
  clear hSt
  have hSt := hq3
  clear hq3
  exact lv_pop hx hb hd (hv.cat.trans hc) (k p e R s m args below meth c Z K0 K H locs ls _ E0 hR hW hK hS hL hSt)
theorem aw_dup2 {a b : AV} (hd : decode M.2.1 pc = .ok (.dup2, 1)) (hc : catA a = 1) (hc' : catA b = 1) (k : AW g l d M (pc + 1) L (a :: b :: a :: b :: S) σ Q) : AW g l d M pc L (a :: b :: S) σ Q := by
  intro p e R s m args below meth c Z K0 K H locs ls st E hR hW hK hS hL hSt
  have E0 := E
  obtain ⟨hx, hb, hml, hr, hlk, hnm, hown, hts, hKK, hA, hfr, hlo, hbs, hRc, hRs, hwm⟩ := E
  obtain ⟨v, _, hq1, hv, hq3⟩ := SV.cons hSt
  subst hq1
  clear hSt
  have hSt := hq3
  clear hq3
  obtain ⟨w, _, hq1, hw, hq3⟩ := SV.cons hSt
  subst hq1
  clear hSt
  have hSt := hq3
  clear hq3
  exact lv_dup2_11 hx hb hd (hv.cat.trans hc) (hw.cat.trans hc') (k p e R s m args below meth c Z K0 K H locs ls _ E0 hR hW hK hS hL ⟨hv, hw, hv, hw, hSt⟩)
theorem aw_dup2J {x : Int64} (hd : decode M.2.1 pc = .ok (.dup2, 1)) (k : AW g l d M (pc + 1) L (vJ x :: vJ x :: S) σ Q) : AW g l d M pc L (vJ x :: S) σ Q := by
  intro p e R s m args below meth c Z K0 K H locs ls st E hR hW hK hS hL hSt
  have E0 := E
  obtain ⟨hx, hb, hml, hr, hlk, hnm, hown, hts, hKK, hA, hfr, hlo, hbs, hRc, hRs, hwm⟩ := E
  obtain ⟨_, _, hq1, hja, hq3⟩ := SV.cons hSt
  have hja : _ = Value.long _ := hja
  subst hja hq1
  clear hSt
  have hSt := hq3
  clear hq3
  exact lv_dup2_2 hx hb hd rfl (k p e R s m args below meth c Z K0 K H locs ls _ E0 hR hW hK hS hL ⟨rfl, rfl, hSt⟩)
theorem aw_goto {off : Int} {tgt : Nat} (hd : decode M.2.1 pc = .ok (.goto off, 3)) (ht : (pc : Int) + off = (tgt : Int)) (k : AW g l d M tgt L S σ Q) : AW g l d M pc L S σ Q := by
  intro p e R s m args below meth c Z K0 K H locs ls st E hR hW hK hS hL hSt
  have E0 := E
  obtain ⟨hx, hb, hml, hr, hlk, hnm, hown, hts, hKK, hA, hfr, hlo, hbs, hRc, hRs, hwm⟩ := E
  exact lv_goto hx hb hd ht (k p e R s m args below meth c Z K0 K H locs ls _ E0 hR hW hK hS hL hSt)
theorem aw_icmp_lt {x y : Int} {off : Int} {tgt : Nat} (hd : decode M.2.1 pc = .ok (.if_icmp .lt off, 3)) (ht : (pc : Int) + off = (tgt : Int)) (kt : x < y → AW g l d M tgt L S σ Q) (kf : ¬ x < y → AW g l d M (pc + 3) L S σ Q) : AW g l d M pc L (vI y :: vI x :: S) σ Q := by
  intro p e R s m args below meth c Z K0 K H locs ls st E hR hW hK hS hL hSt
  have E0 := E
  obtain ⟨hx, hb, hml, hr, hlk, hnm, hown, hts, hKK, hA, hfr, hlo, hbs, hRc, hRs, hwm⟩ := E
  obtain ⟨_, _, hq1, ⟨b, hq2, rfl⟩, hq3⟩ := SV.cons hSt
  subst hq2 hq1
  clear hSt
  have hSt := hq3
  clear hq3
  obtain ⟨_, _, hq1, ⟨a, hq2, rfl⟩, hq3⟩ := SV.cons hSt
  subst hq2 hq1
  clear hSt
  have hSt := hq3
  clear hq3
  exact lv_icmp_lt hx hb hd ht (fun h => (kt (Int32.lt_iff_toInt_lt.mp h) p e R s m args below meth c Z K0 K H locs ls _ E0 hR hW hK hS hL hSt)) (fun h => (kf (fun q => h (Int32.lt_iff_toInt_lt.mpr q)) p e R s m args below meth c Z K0 K H locs ls _ E0 hR hW hK hS hL hSt))
theorem aw_if_lt {x : Int} {off : Int} {tgt : Nat} (hd : decode M.2.1 pc = .ok (.ifCond .lt off, 3)) (ht : (pc : Int) + off = (tgt : Int)) (kt : x < 0 → AW g l d M tgt L S σ Q) (kf : ¬ x < 0 → AW g l d M (pc + 3) L S σ Q) : AW g l d M pc L (vI x :: S) σ Q := by
  intro p e R s m args below meth c Z K0 K H locs ls st E hR hW hK hS hL hSt
  have E0 := E
  obtain ⟨hx, hb, hml, hr, hlk, hnm, hown, hts, hKK, hA, hfr, hlo, hbs, hRc, hRs, hwm⟩ := E
  obtain ⟨_, _, hq1, ⟨a, hq2, rfl⟩, hq3⟩ := SV.cons hSt
  subst hq2 hq1
  clear hSt
  have hSt := hq3
  clear hq3
  exact lv_if_lt hx hb hd ht (fun h => (kt (Int32.lt_iff_toInt_lt.mp h) p e R s m args below meth c Z K0 K H locs ls _ E0 hR hW hK hS hL hSt)) (fun h => (kf (fun q => h (Int32.lt_iff_toInt_lt.mpr q)) p e R s m args below meth c Z K0 K H locs ls _ E0 hR hW hK hS hL hSt))
theorem aw_lcmp_lt {x y : Int64} {off : Int} {tgt : Nat} (hd0 : decode M.2.1 pc = .ok (.lcmp, 1)) (hd : decode M.2.1 (pc + 1) = .ok (.ifCond .lt off, 3)) (ht : ((pc + 1 : Nat) : Int) + off = (tgt : Int)) (kt : x.toInt < y.toInt → AW g l d M tgt L S σ Q) (kf : ¬ x.toInt < y.toInt → AW g l d M (pc + 4) L S σ Q) : AW g l d M pc L (vJ y :: vJ x :: S) σ Q := by
  intro p e R s m args below meth c Z K0 K H locs ls st E hR hW hK hS hL hSt
  have E0 := E
  obtain ⟨hx, hb, hml, hr, hlk, hnm, hown, hts, hKK, hA, hfr, hlo, hbs, hRc, hRs, hwm⟩ := E
  obtain ⟨_, _, hq1, hjb, hq3⟩ := SV.cons hSt
  have hjb : _ = Value.long _ := hjb
  subst hjb hq1
  clear hSt
  have hSt := hq3
  clear hq3
  obtain ⟨_, _, hq1, hja, hq3⟩ := SV.cons hSt
  have hja : _ = Value.long _ := hja
  subst hja hq1
  clear hSt
  have hSt := hq3
  clear hq3
  refine W.lcmp hx hb hd0 ?_
  exact lv_if_lt hx hb hd ht (fun h => (kt ((lg_lt _ _).mp h) p e R s m args below meth c Z K0 K H locs ls _ E0 hR hW hK hS hL hSt)) (fun h => (kf (fun q => h ((lg_lt _ _).mpr q)) p e R s m args below meth c Z K0 K H locs ls _ E0 hR hW hK hS hL hSt))
theorem aw_icmp_ge {x y : Int} {off : Int} {tgt : Nat} (hd : decode M.2.1 pc = .ok (.if_icmp .ge off, 3)) (ht : (pc : Int) + off = (tgt : Int)) (kt : y ≤ x → AW g l d M tgt L S σ Q) (kf : ¬ y ≤ x → AW g l d M (pc + 3) L S σ Q) : AW g l d M pc L (vI y :: vI x :: S) σ Q := by
  intro p e R s m args below meth c Z K0 K H locs ls st E hR hW hK hS hL hSt
  have E0 := E
  obtain ⟨hx, hb, hml, hr, hlk, hnm, hown, hts, hKK, hA, hfr, hlo, hbs, hRc, hRs, hwm⟩ := E
  obtain ⟨_, _, hq1, ⟨b, hq2, rfl⟩, hq3⟩ := SV.cons hSt
  subst hq2 hq1
  clear hSt
  have hSt := hq3
  clear hq3
  obtain ⟨_, _, hq1, ⟨a, hq2, rfl⟩, hq3⟩ := SV.cons hSt
  subst hq2 hq1
  clear hSt
  have hSt := hq3
  clear hq3
  exact lv_icmp_ge hx hb hd ht (fun h => (kt (Int32.le_iff_toInt_le.mp h) p e R s m args below meth c Z K0 K H locs ls _ E0 hR hW hK hS hL hSt)) (fun h => (kf (fun q => h (Int32.le_iff_toInt_le.mpr q)) p e R s m args below meth c Z K0 K H locs ls _ E0 hR hW hK hS hL hSt))
theorem aw_if_ge {x : Int} {off : Int} {tgt : Nat} (hd : decode M.2.1 pc = .ok (.ifCond .ge off, 3)) (ht : (pc : Int) + off = (tgt : Int)) (kt : 0 ≤ x → AW g l d M tgt L S σ Q) (kf : ¬ 0 ≤ x → AW g l d M (pc + 3) L S σ Q) : AW g l d M pc L (vI x :: S) σ Q := by
  intro p e R s m args below meth c Z K0 K H locs ls st E hR hW hK hS hL hSt
  have E0 := E
  obtain ⟨hx, hb, hml, hr, hlk, hnm, hown, hts, hKK, hA, hfr, hlo, hbs, hRc, hRs, hwm⟩ := E
  obtain ⟨_, _, hq1, ⟨a, hq2, rfl⟩, hq3⟩ := SV.cons hSt
  subst hq2 hq1
  clear hSt
  have hSt := hq3
  clear hq3
  exact lv_if_ge hx hb hd ht (fun h => (kt (Int32.le_iff_toInt_le.mp h) p e R s m args below meth c Z K0 K H locs ls _ E0 hR hW hK hS hL hSt)) (fun h => (kf (fun q => h (Int32.le_iff_toInt_le.mpr q)) p e R s m args below meth c Z K0 K H locs ls _ E0 hR hW hK hS hL hSt))
theorem aw_lcmp_ge {x y : Int64} {off : Int} {tgt : Nat} (hd0 : decode M.2.1 pc = .ok (.lcmp, 1)) (hd : decode M.2.1 (pc + 1) = .ok (.ifCond .ge off, 3)) (ht : ((pc + 1 : Nat) : Int) + off = (tgt : Int)) (kt : y.toInt ≤ x.toInt → AW g l d M tgt L S σ Q) (kf : ¬ y.toInt ≤ x.toInt → AW g l d M (pc + 4) L S σ Q) : AW g l d M pc L (vJ y :: vJ x :: S) σ Q := by
  intro p e R s m args below meth c Z K0 K H locs ls st E hR hW hK hS hL hSt
  have E0 := E
  obtain ⟨hx, hb, hml, hr, hlk, hnm, hown, hts, hKK, hA, hfr, hlo, hbs, hRc, hRs, hwm⟩ := E
  obtain ⟨_, _, hq1, hjb, hq3⟩ := SV.cons hSt
  have hjb : _ = Value.long _ := hjb
  subst hjb hq1
  clear hSt
  have hSt := hq3
  clear hq3
  obtain ⟨_, _, hq1, hja, hq3⟩ := SV.cons hSt
  have hja : _ = Value.long _ := hja
  subst hja hq1
  clear hSt
  have hSt := hq3
  clear hq3
  refine W.lcmp hx hb hd0 ?_
  exact lv_if_ge hx hb hd ht (fun h => (kt ((lg_ge _ _).mp h) p e R s m args below meth c Z K0 K H locs ls _ E0 hR hW hK hS hL hSt)) (fun h => (kf (fun q => h ((lg_ge _ _).mpr q)) p e R s m args below meth c Z K0 K H locs ls _ E0 hR hW hK hS hL hSt))
theorem aw_icmp_gt {x y : Int} {off : Int} {tgt : Nat} (hd : decode M.2.1 pc = .ok (.if_icmp .gt off, 3)) (ht : (pc : Int) + off = (tgt : Int)) (kt : y < x → AW g l d M tgt L S σ Q) (kf : ¬ y < x → AW g l d M (pc + 3) L S σ Q) : AW g l d M pc L (vI y :: vI x :: S) σ Q := by
  intro p e R s m args below meth c Z K0 K H locs ls st E hR hW hK hS hL hSt
  have E0 := E
  obtain ⟨hx, hb, hml, hr, hlk, hnm, hown, hts, hKK, hA, hfr, hlo, hbs, hRc, hRs, hwm⟩ := E
  obtain ⟨_, _, hq1, ⟨b, hq2, rfl⟩, hq3⟩ := SV.cons hSt
  subst hq2 hq1
  clear hSt
  have hSt := hq3
  clear hq3
  obtain ⟨_, _, hq1, ⟨a, hq2, rfl⟩, hq3⟩ := SV.cons hSt
  subst hq2 hq1
  clear hSt
  have hSt := hq3
  clear hq3
  exact lv_icmp_gt hx hb hd ht (fun h => (kt (Int32.lt_iff_toInt_lt.mp h) p e R s m args below meth c Z K0 K H locs ls _ E0 hR hW hK hS hL hSt)) (fun h => (kf (fun q => h (Int32.lt_iff_toInt_lt.mpr q)) p e R s m args below meth c Z K0 K H locs ls _ E0 hR hW hK hS hL hSt))
theorem aw_if_gt {x : Int} {off : Int} {tgt : Nat} (hd : decode M.2.1 pc = .ok (.ifCond .gt off, 3)) (ht : (pc : Int) + off = (tgt : Int)) (kt : 0 < x → AW g l d M tgt L S σ Q) (kf : ¬ 0 < x → AW g l d M (pc + 3) L S σ Q) : AW g l d M pc L (vI x :: S) σ Q := by
  intro p e R s m args below meth c Z K0 K H locs ls st E hR hW hK hS hL hSt
  have E0 := E
  obtain ⟨hx, hb, hml, hr, hlk, hnm, hown, hts, hKK, hA, hfr, hlo, hbs, hRc, hRs, hwm⟩ := E
  obtain ⟨_, _, hq1, ⟨a, hq2, rfl⟩, hq3⟩ := SV.cons hSt
  subst hq2 hq1
  clear hSt
  have hSt := hq3
  clear hq3
  exact lv_if_gt hx hb hd ht (fun h => (kt (Int32.lt_iff_toInt_lt.mp h) p e R s m args below meth c Z K0 K H locs ls _ E0 hR hW hK hS hL hSt)) (fun h => (kf (fun q => h (Int32.lt_iff_toInt_lt.mpr q)) p e R s m args below meth c Z K0 K H locs ls _ E0 hR hW hK hS hL hSt))
theorem aw_lcmp_gt {x y : Int64} {off : Int} {tgt : Nat} (hd0 : decode M.2.1 pc = .ok (.lcmp, 1)) (hd : decode M.2.1 (pc + 1) = .ok (.ifCond .gt off, 3)) (ht : ((pc + 1 : Nat) : Int) + off = (tgt : Int)) (kt : y.toInt < x.toInt → AW g l d M tgt L S σ Q) (kf : ¬ y.toInt < x.toInt → AW g l d M (pc + 4) L S σ Q) : AW g l d M pc L (vJ y :: vJ x :: S) σ Q := by
  intro p e R s m args below meth c Z K0 K H locs ls st E hR hW hK hS hL hSt
  have E0 := E
  obtain ⟨hx, hb, hml, hr, hlk, hnm, hown, hts, hKK, hA, hfr, hlo, hbs, hRc, hRs, hwm⟩ := E
  obtain ⟨_, _, hq1, hjb, hq3⟩ := SV.cons hSt
  have hjb : _ = Value.long _ := hjb
  subst hjb hq1
  clear hSt
  have hSt := hq3
  clear hq3
  obtain ⟨_, _, hq1, hja, hq3⟩ := SV.cons hSt
  have hja : _ = Value.long _ := hja
  subst hja hq1
  clear hSt
  have hSt := hq3
  clear hq3
  refine W.lcmp hx hb hd0 ?_
  exact lv_if_gt hx hb hd ht (fun h => (kt ((lg_gt _ _).mp h) p e R s m args below meth c Z K0 K H locs ls _ E0 hR hW hK hS hL hSt)) (fun h => (kf (fun q => h ((lg_gt _ _).mpr q)) p e R s m args below meth c Z K0 K H locs ls _ E0 hR hW hK hS hL hSt))
theorem aw_icmp_le {x y : Int} {off : Int} {tgt : Nat} (hd : decode M.2.1 pc = .ok (.if_icmp .le off, 3)) (ht : (pc : Int) + off = (tgt : Int)) (kt : x ≤ y → AW g l d M tgt L S σ Q) (kf : ¬ x ≤ y → AW g l d M (pc + 3) L S σ Q) : AW g l d M pc L (vI y :: vI x :: S) σ Q := by
  intro p e R s m args below meth c Z K0 K H locs ls st E hR hW hK hS hL hSt
  have E0 := E
  obtain ⟨hx, hb, hml, hr, hlk, hnm, hown, hts, hKK, hA, hfr, hlo, hbs, hRc, hRs, hwm⟩ := E
  obtain ⟨_, _, hq1, ⟨b, hq2, rfl⟩, hq3⟩ := SV.cons hSt
  subst hq2 hq1
  clear hSt
  have hSt := hq3
  clear hq3
  obtain ⟨_, _, hq1, ⟨a, hq2, rfl⟩, hq3⟩ := SV.cons hSt
  subst hq2 hq1
  clear hSt
  have hSt := hq3
  clear hq3
  exact lv_icmp_le hx hb hd ht (fun h => (kt (Int32.le_iff_toInt_le.mp h) p e R s m args below meth c Z K0 K H locs ls _ E0 hR hW hK hS hL hSt)) (fun h => (kf (fun q => h (Int32.le_iff_toInt_le.mpr q)) p e R s m args below meth c Z K0 K H locs ls _ E0 hR hW hK hS hL hSt))
theorem aw_if_le {x : Int} {off : Int} {tgt : Nat} (hd : decode M.2.1 pc = .ok (.ifCond .le off, 3)) (ht : (pc : Int) + off = (tgt : Int)) (kt : x ≤ 0 → AW g l d M tgt L S σ Q) (kf : ¬ x ≤ 0 → AW g l d M (pc + 3) L S σ Q) : AW g l d M pc L (vI x :: S) σ Q := by
  intro p e R s m args below meth c Z K0 K H locs ls st E hR hW hK hS hL hSt
  have E0 := E
  obtain ⟨hx, hb, hml, hr, hlk, hnm, hown, hts, hKK, hA, hfr, hlo, hbs, hRc, hRs, hwm⟩ := E
  obtain ⟨_, _, hq1, ⟨a, hq2, rfl⟩, hq3⟩ := SV.cons hSt
  subst hq2 hq1
  clear hSt
  have hSt := hq3
  clear hq3
  exact lv_if_le hx hb hd ht (fun h => (kt (Int32.le_iff_toInt_le.mp h) p e R s m args below meth c Z K0 K H locs ls _ E0 hR hW hK hS hL hSt)) (fun h => (kf (fun q => h (Int32.le_iff_toInt_le.mpr q)) p e R s m args below meth c Z K0 K H locs ls _ E0 hR hW hK hS hL hSt))
theorem aw_lcmp_le {x y : Int64} {off : Int} {tgt : Nat} (hd0 : decode M.2.1 pc = .ok (.lcmp, 1)) (hd : decode M.2.1 (pc + 1) = .ok (.ifCond .le off, 3)) (ht : ((pc + 1 : Nat) : Int) + off = (tgt : Int)) (kt : x.toInt ≤ y.toInt → AW g l d M tgt L S σ Q) (kf : ¬ x.toInt ≤ y.toInt → AW g l d M (pc + 4) L S σ Q) : AW g l d M pc L (vJ y :: vJ x :: S) σ Q := by
  intro p e R s m args below meth c Z K0 K H locs ls st E hR hW hK hS hL hSt
  have E0 := E
  obtain ⟨hx, hb, hml, hr, hlk, hnm, hown, hts, hKK, hA, hfr, hlo, hbs, hRc, hRs, hwm⟩ := E
  obtain ⟨_, _, hq1, hjb, hq3⟩ := SV.cons hSt
  have hjb : _ = Value.long _ := hjb
  subst hjb hq1
  clear hSt
  have hSt := hq3
  clear hq3
  obtain ⟨_, _, hq1, hja, hq3⟩ := SV.cons hSt
  have hja : _ = Value.long _ := hja
  subst hja hq1
  clear hSt
  have hSt := hq3
  clear hq3
  refine W.lcmp hx hb hd0 ?_
  exact lv_if_le hx hb hd ht (fun h => (kt ((lg_le _ _).mp h) p e R s m args below meth c Z K0 K H locs ls _ E0 hR hW hK hS hL hSt)) (fun h => (kf (fun q => h ((lg_le _ _).mpr q)) p e R s m args below meth c Z K0 K H locs ls _ E0 hR hW hK hS hL hSt))
theorem aw_icmp_eq {x y : Int} {off : Int} {tgt : Nat} (hd : decode M.2.1 pc = .ok (.if_icmp .eq off, 3)) (ht : (pc : Int) + off = (tgt : Int)) (kt : x = y → AW g l d M tgt L S σ Q) (kf : ¬ x = y → AW g l d M (pc + 3) L S σ Q) : AW g l d M pc L (vI y :: vI x :: S) σ Q := by
  intro p e R s m args below meth c Z K0 K H locs ls st E hR hW hK hS hL hSt
  have E0 := E
  obtain ⟨hx, hb, hml, hr, hlk, hnm, hown, hts, hKK, hA, hfr, hlo, hbs, hRc, hRs, hwm⟩ := E
  obtain ⟨_, _, hq1, ⟨b, hq2, rfl⟩, hq3⟩ := SV.cons hSt
  subst hq2 hq1
  clear hSt
  have hSt := hq3
  clear hq3
  obtain ⟨_, _, hq1, ⟨a, hq2, rfl⟩, hq3⟩ := SV.cons hSt
  subst hq2 hq1
  clear hSt
  have hSt := hq3
  clear hq3
  exact lv_icmp_eq hx hb hd ht (fun h => (kt (congrArg Int32.toInt h) p e R s m args below meth c Z K0 K H locs ls _ E0 hR hW hK hS hL hSt)) (fun h => (kf (fun q => h (Int32.toInt_inj.mp q)) p e R s m args below meth c Z K0 K H locs ls _ E0 hR hW hK hS hL hSt))
theorem aw_icmp_ne {x y : Int} {off : Int} {tgt : Nat} (hd : decode M.2.1 pc = .ok (.if_icmp .ne off, 3)) (ht : (pc : Int) + off = (tgt : Int)) (kt : ¬ x = y → AW g l d M tgt L S σ Q) (kf : x = y → AW g l d M (pc + 3) L S σ Q) : AW g l d M pc L (vI y :: vI x :: S) σ Q := by
  intro p e R s m args below meth c Z K0 K H locs ls st E hR hW hK hS hL hSt
  have E0 := E
  obtain ⟨hx, hb, hml, hr, hlk, hnm, hown, hts, hKK, hA, hfr, hlo, hbs, hRc, hRs, hwm⟩ := E
  obtain ⟨_, _, hq1, ⟨b, hq2, rfl⟩, hq3⟩ := SV.cons hSt
  subst hq2 hq1
  clear hSt
  have hSt := hq3
  clear hq3
  obtain ⟨_, _, hq1, ⟨a, hq2, rfl⟩, hq3⟩ := SV.cons hSt
  subst hq2 hq1
  clear hSt
  have hSt := hq3
  clear hq3
  exact lv_icmp_ne hx hb hd ht (fun h => (kt (fun q => h (Int32.toInt_inj.mp q)) p e R s m args below meth c Z K0 K H locs ls _ E0 hR hW hK hS hL hSt)) (fun h => (kf (congrArg Int32.toInt h) p e R s m args below meth c Z K0 K H locs ls _ E0 hR hW hK hS hL hSt))
theorem aw_if_eq {x : Int} {off : Int} {tgt : Nat} (hd : decode M.2.1 pc = .ok (.ifCond .eq off, 3)) (ht : (pc : Int) + off = (tgt : Int)) (kt : x = 0 → AW g l d M tgt L S σ Q) (kf : ¬ x = 0 → AW g l d M (pc + 3) L S σ Q) : AW g l d M pc L (vI x :: S) σ Q := by
  intro p e R s m args below meth c Z K0 K H locs ls st E hR hW hK hS hL hSt
  have E0 := E
  obtain ⟨hx, hb, hml, hr, hlk, hnm, hown, hts, hKK, hA, hfr, hlo, hbs, hRc, hRs, hwm⟩ := E
  obtain ⟨_, _, hq1, ⟨a, hq2, rfl⟩, hq3⟩ := SV.cons hSt
  subst hq2 hq1
  clear hSt
  have hSt := hq3
  clear hq3
  exact lv_if_eq hx hb hd ht (fun h => (kt (congrArg Int32.toInt h) p e R s m args below meth c Z K0 K H locs ls _ E0 hR hW hK hS hL hSt)) (fun h => (kf (fun q => h (Int32.toInt_inj.mp q)) p e R s m args below meth c Z K0 K H locs ls _ E0 hR hW hK hS hL hSt))
theorem aw_if_ne {x : Int} {off : Int} {tgt : Nat} (hd : decode M.2.1 pc = .ok (.ifCond .ne off, 3)) (ht : (pc : Int) + off = (tgt : Int)) (kt : ¬ x = 0 → AW g l d M tgt L S σ Q) (kf : x = 0 → AW g l d M (pc + 3) L S σ Q) : AW g l d M pc L (vI x :: S) σ Q := by
  intro p e R s m args below meth c Z K0 K H locs ls st E hR hW hK hS hL hSt
  have E0 := E
  obtain ⟨hx, hb, hml, hr, hlk, hnm, hown, hts, hKK, hA, hfr, hlo, hbs, hRc, hRs, hwm⟩ := E
  obtain ⟨_, _, hq1, ⟨a, hq2, rfl⟩, hq3⟩ := SV.cons hSt
  subst hq2 hq1
  clear hSt
  have hSt := hq3
  clear hq3
  exact lv_if_ne hx hb hd ht (fun h => (kt (fun q => h (Int32.toInt_inj.mp q)) p e R s m args below meth c Z K0 K H locs ls _ E0 hR hW hK hS hL hSt)) (fun h => (kf (congrArg Int32.toInt h) p e R s m args below meth c Z K0 K H locs ls _ E0 hR hW hK hS hL hSt))
theorem aw_lcmp_eq {x y : Int64} {off : Int} {tgt : Nat} (hd0 : decode M.2.1 pc = .ok (.lcmp, 1)) (hd : decode M.2.1 (pc + 1) = .ok (.ifCond .eq off, 3)) (ht : ((pc + 1 : Nat) : Int) + off = (tgt : Int)) (kt : x = y → AW g l d M tgt L S σ Q) (kf : ¬ x = y → AW g l d M (pc + 4) L S σ Q) : AW g l d M pc L (vJ y :: vJ x :: S) σ Q := by
  intro p e R s m args below meth c Z K0 K H locs ls st E hR hW hK hS hL hSt
  have E0 := E
  obtain ⟨hx, hb, hml, hr, hlk, hnm, hown, hts, hKK, hA, hfr, hlo, hbs, hRc, hRs, hwm⟩ := E
  obtain ⟨_, _, hq1, hjb, hq3⟩ := SV.cons hSt
  have hjb : _ = Value.long _ := hjb
  subst hjb hq1
  clear hSt
  have hSt := hq3
  clear hq3
  obtain ⟨_, _, hq1, hja, hq3⟩ := SV.cons hSt
  have hja : _ = Value.long _ := hja
  subst hja hq1
  clear hSt
  have hSt := hq3
  clear hq3
  refine W.lcmp hx hb hd0 ?_
  exact lv_if_eq hx hb hd ht (fun h => (kt ((lg_eq _ _).mp h) p e R s m args below meth c Z K0 K H locs ls _ E0 hR hW hK hS hL hSt)) (fun h => (kf (fun q => h ((lg_eq _ _).mpr q)) p e R s m args below meth c Z K0 K H locs ls _ E0 hR hW hK hS hL hSt))
theorem aw_lcmp_ne {x y : Int64} {off : Int} {tgt : Nat} (hd0 : decode M.2.1 pc = .ok (.lcmp, 1)) (hd : decode M.2.1 (pc + 1) = .ok (.ifCond .ne off, 3)) (ht : ((pc + 1 : Nat) : Int) + off = (tgt : Int)) (kt : ¬ x = y → AW g l d M tgt L S σ Q) (kf : x = y → AW g l d M (pc + 4) L S σ Q) : AW g l d M pc L (vJ y :: vJ x :: S) σ Q := by
  intro p e R s m args below meth c Z K0 K H locs ls st E hR hW hK hS hL hSt
  have E0 := E
  obtain ⟨hx, hb, hml, hr, hlk, hnm, hown, hts, hKK, hA, hfr, hlo, hbs, hRc, hRs, hwm⟩ := E
  obtain ⟨_, _, hq1, hjb, hq3⟩ := SV.cons hSt
  have hjb : _ = Value.long _ := hjb
  subst hjb hq1
  clear hSt
  have hSt := hq3
  clear hq3
  obtain ⟨_, _, hq1, hja, hq3⟩ := SV.cons hSt
  have hja : _ = Value.long _ := hja
  subst hja hq1
  clear hSt
  have hSt := hq3
  clear hq3
  refine W.lcmp hx hb hd0 ?_
  exact lv_if_ne hx hb hd ht (fun h => (kt (fun q => h ((lg_eq _ _).mpr q)) p e R s m args below meth c Z K0 K H locs ls _ E0 hR hW hK hS hL hSt)) (fun h => (kf ((lg_eq _ _).mp h) p e R s m args below meth c Z K0 K H locs ls _ E0 hR hW hK hS hL hSt))
theorem aw_ifnull {cl : Nat} {q : Option Nat} {off : Int} {tgt : Nat} (hd : decode M.2.1 pc = .ok (.ifnull off, 3)) (ht : (pc : Int) + off = (tgt : Int)) (kt : q = none → AW g l d M tgt L S σ Q) (kf : ∀ r, q = some r → AW g l d M (pc + 3) L S σ Q) : AW g l d M pc L (vR cl q :: S) σ Q := by
  intro p e R s m args below meth c Z K0 K H locs ls st E hR hW hK hS hL hSt
  have E0 := E
  obtain ⟨hx, hb, hml, hr, hlk, hnm, hown, hts, hKK, hA, hfr, hlo, hbs, hRc, hRs, hwm⟩ := E
  obtain ⟨v, _, hq1, hv, hq3⟩ := SV.cons hSt
  subst hq1
  clear hSt
  have hSt := hq3
  clear hq3
  cases q with
  | none =>
    have hv : v = .null := hv
    subst hv
    exact lv_ifnullN hx hb hd ht (kt rfl p e R s m args below meth c Z K0 K H locs ls _ E0 hR hW hK hS hL hSt)
  | some r =>
    obtain ⟨rfl, -⟩ : v = .ref r ∧ _ := hv
    exact lv_ifnull hx hb hd (kf r rfl p e R s m args below meth c Z K0 K H locs ls _ E0 hR hW hK hS hL hSt)
theorem aw_ifnonnull {cl : Nat} {q : Option Nat} {off : Int} {tgt : Nat} (hd : decode M.2.1 pc = .ok (.ifnonnull off, 3)) (ht : (pc : Int) + off = (tgt : Int)) (kt : ∀ r, q = some r → AW g l d M tgt L S σ Q) (kf : q = none → AW g l d M (pc + 3) L S σ Q) : AW g l d M pc L (vR cl q :: S) σ Q := by
  intro p e R s m args below meth c Z K0 K H locs ls st E hR hW hK hS hL hSt
  have E0 := E
  obtain ⟨hx, hb, hml, hr, hlk, hnm, hown, hts, hKK, hA, hfr, hlo, hbs, hRc, hRs, hwm⟩ := E
  obtain ⟨v, _, hq1, hv, hq3⟩ := SV.cons hSt
  subst hq1
  clear hSt
  have hSt := hq3
  clear hq3
  cases q with
  | none =>
    have hv : v = .null := hv
    subst hv
    exact lv_ifnonnullN hx hb hd (kf rfl p e R s m args below meth c Z K0 K H locs ls _ E0 hR hW hK hS hL hSt)
  | some r =>
    obtain ⟨rfl, -⟩ : v = .ref r ∧ _ := hv
    exact lv_ifnonnull hx hb hd ht (kt r rfl p e R s m args below meth c Z K0 K H locs ls _ E0 hR hW hK hS hL hSt)
theorem aw_table {x dflt lo hi : Int} {offs : Array Int} {len dt : Nat} (tg : List Nat) (hd : decode M.2.1 pc = .ok (.tableswitch dflt lo hi offs, len)) (hh : hi = lo + tg.length - 1) (hdt : (pc : Int) + dflt = (dt : Int)) (htg : offs.toList.map (fun o => (pc : Int) + o) = tg.map (fun t : Nat => (t : Int)))
    (k1 : swP tg lo x (fun t => AW g l d M t L S σ Q)) (k2 : x < lo ∨ hi < x → AW g l d M dt L S σ Q) : AW g l d M pc L (vI x :: S) σ Q := by
  intro p e R s m args below meth c Z K0 K H locs ls st E hR hW hK hS hL hSt
  have E0 := E
  obtain ⟨hx, hb, hml, hr, hlk, hnm, hown, hts, hKK, hA, hfr, hlo, hbs, hRc, hRs, hwm⟩ := E
  obtain ⟨_, _, hq1, ⟨a, hq2, rfl⟩, hq3⟩ := SV.cons hSt
  subst hq2 hq1
  clear hSt
  have hSt := hq3
  clear hq3
  by_cases h : a.toInt < lo ∨ hi < a.toInt
  · exact lv_tableOut hx hb hd h hdt (k2 h p e R s m args below meth c Z K0 K H locs ls _ E0 hR hW hK hS hL hSt)
  · have h1 : ¬ a.toInt < lo := fun q => h (Or.inl q)
    have h2 : ¬ hi < a.toInt := fun q => h (Or.inr q)
    obtain ⟨i, hi'⟩ : ∃ i : Nat, a.toInt = lo + i := ⟨(a.toInt - lo).toNat, by omega⟩
    have hlt : i < tg.length := by omega
    have he : (offs.toList.map (fun o => (pc : Int) + o))[i]? = (tg.map (fun t : Nat => (t : Int)))[i]? := by rw [htg]
    rw [List.getElem?_map, List.getElem?_map, List.getElem?_eq_getElem hlt, Array.getElem?_toList] at he
    cases ho : offs[i]? with
    | none => rw [ho] at he; cases he
    | some off =>
      rw [ho] at he
      have he : (pc : Int) + off = (tg[i] : Int) := by simpa using he
      exact lv_tableIn hx hb hd h1 h2 (by rw [show (a.toInt - lo).toNat = i by omega]; exact ho) he (swP_at k1 i _ (List.getElem?_eq_getElem hlt) hi' p e R s m args below meth c Z K0 K H locs ls _ E0 hR hW hK hS hL hSt)
theorem sw_look {x : Int32} {pc : Nat} {dflt : Int} {dt : Nat} {P : Nat → Prop} (hdt : (pc : Int) + dflt = (dt : Int)) : ∀ (ps : List (Int × Int)) (tg : List (Int × Nat)), ps.map (fun q => (q.1, (pc : Int) + q.2)) = tg.map (fun q => (q.1, (q.2 : Int))) → swL tg dt x.toInt P → ∃ t : Nat, (pc : Int) + Op.lookupswitch.offset ps dflt x.toInt = t ∧ P t
  | [], [], _, h => ⟨dt, by simpa [Op.lookupswitch.offset] using hdt, h⟩
  | [], _ :: _, h, _ => by simp at h
  | _ :: _, [], h, _ => by simp at h
  | (a, b) :: ps, (k, t) :: tg, h, hs => by
    rw [List.map_cons, List.map_cons, List.cons.injEq] at h
    obtain ⟨h1, h2⟩ := h
    have e1 : a = k := congrArg Prod.fst h1
    have e2 : (pc : Int) + b = (t : Int) := congrArg Prod.snd h1
    subst e1
    by_cases hx : x.toInt = a
    · exact ⟨t, by simp [Op.lookupswitch.offset, hx]; exact e2, hs.1 hx⟩
    · obtain ⟨u, q1, q2⟩ := sw_look hdt ps tg h2 (hs.2 hx)
      refine ⟨u, ?_, q2⟩
      rw [← q1]
      have hx' : ¬ a = x.toInt := fun q => hx q.symm
      simp [Op.lookupswitch.offset, hx, hx']
theorem aw_lookup {x dflt : Int} {ps : Array (Int × Int)} {len dt : Nat} (tg : List (Int × Nat)) (hd : decode M.2.1 pc = .ok (.lookupswitch dflt ps, len)) (hp : (ps.toList.zip (ps.toList.drop 1)).all (fun (a, next) => a.1 < next.1) = true) (hdt : (pc : Int) + dflt = (dt : Int)) (htg : ps.toList.map (fun q => (q.1, (pc : Int) + q.2)) = tg.map (fun q => (q.1, (q.2 : Int))))
    (k1 : swL tg dt x (fun t => AW g l d M t L S σ Q)) : AW g l d M pc L (vI x :: S) σ Q := by
  intro p e R s m args below meth c Z K0 K H locs ls st E hR hW hK hS hL hSt
  have E0 := E
  obtain ⟨hx, hb, hml, hr, hlk, hnm, hown, hts, hKK, hA, hfr, hlo, hbs, hRc, hRs, hwm⟩ := E
  obtain ⟨_, _, hq1, ⟨a, hq2, rfl⟩, hq3⟩ := SV.cons hSt
  subst hq2 hq1
  clear hSt
  have hSt := hq3
  clear hq3
  obtain ⟨t, e1, k⟩ := sw_look hdt _ tg htg k1
  exact lv_lookup hx hb hd hp rfl e1 (k p e R s m args below meth c Z K0 K H locs ls _ E0 hR hW hK hS hL hSt)
theorem aw_ret (hQ : Q none σ) (hm : M.2.2.2 = none) (hd : decode M.2.1 pc = .ok (.return_, 1)) : AW g l d M pc L [] σ Q := by
  intro p e R s m args below meth c Z K0 K H locs ls st E hR hW hK hS hL hSt
  have E0 := E
  obtain ⟨hx, hb, hml, hr, hlk, hnm, hown, hts, hKK, hA, hfr, hlo, hbs, hRc, hRs, hwm⟩ := E
  exact hR none σ K H locs ls st pc hQ hW hK hS (SV.nil hSt) hm hd
theorem aw_ireturn {x : Int} (hd : decode M.2.1 pc = .ok (.ireturn, 1)) (hm : M.2.2.2 = some .int) (hQ : Q (some (vI x)) σ) : AW g l d M pc L [vI x] σ Q := by
  intro p e R s m args below meth c Z K0 K H locs ls st E hR hW hK hS hL hSt
  have E0 := E
  obtain ⟨hx, hb, hml, hr, hlk, hnm, hown, hts, hKK, hA, hfr, hlo, hbs, hRc, hRs, hwm⟩ := E
  obtain ⟨v, _, hq1, hv, hq3⟩ := SV.cons hSt
  subst hq1
  clear hSt
  have hSt := hq3
  clear hq3
  exact hR (some (vI x)) σ K H locs ls _ pc hQ hW hK hS ⟨v, by rw [SV.nil hSt], hv⟩ (Or.inl hm) hd
theorem aw_zreturn {x : Int} (hd : decode M.2.1 pc = .ok (.ireturn, 1)) (hm : M.2.2.2 = some .boolean) (hz : x = 0 ∨ x = 1) (hQ : Q (some (vI x)) σ) : AW g l d M pc L [vI x] σ Q := by
  intro p e R s m args below meth c Z K0 K H locs ls st E hR hW hK hS hL hSt
  have E0 := E
  obtain ⟨hx, hb, hml, hr, hlk, hnm, hown, hts, hKK, hA, hfr, hlo, hbs, hRc, hRs, hwm⟩ := E
  obtain ⟨v, _, hq1, hv, hq3⟩ := SV.cons hSt
  subst hq1
  clear hSt
  have hSt := hq3
  clear hq3
  exact hR (some (vI x)) σ K H locs ls _ pc hQ hW hK hS ⟨v, by rw [SV.nil hSt], hv⟩ (Or.inr (Or.inl ⟨hm, hz⟩)) hd
theorem aw_creturn {x : Int} (hd : decode M.2.1 pc = .ok (.ireturn, 1)) (hm : M.2.2.2 = some .char) (hz : 0 ≤ x ∧ x < 65536) (hQ : Q (some (vI x)) σ) : AW g l d M pc L [vI x] σ Q := by
  intro p e R s m args below meth c Z K0 K H locs ls st E hR hW hK hS hL hSt
  have E0 := E
  obtain ⟨hx, hb, hml, hr, hlk, hnm, hown, hts, hKK, hA, hfr, hlo, hbs, hRc, hRs, hwm⟩ := E
  obtain ⟨v, _, hq1, hv, hq3⟩ := SV.cons hSt
  subst hq1
  clear hSt
  have hSt := hq3
  clear hq3
  exact hR (some (vI x)) σ K H locs ls _ pc hQ hW hK hS ⟨v, by rw [SV.nil hSt], hv⟩ (Or.inr (Or.inr (Or.inl ⟨hm, hz⟩))) hd
theorem aw_breturn {x : Int} (hd : decode M.2.1 pc = .ok (.ireturn, 1)) (hm : M.2.2.2 = some .byte) (hz : -128 ≤ x ∧ x < 128) (hQ : Q (some (vI x)) σ) : AW g l d M pc L [vI x] σ Q := by
  intro p e R s m args below meth c Z K0 K H locs ls st E hR hW hK hS hL hSt
  have E0 := E
  obtain ⟨hx, hb, hml, hr, hlk, hnm, hown, hts, hKK, hA, hfr, hlo, hbs, hRc, hRs, hwm⟩ := E
  obtain ⟨v, _, hq1, hv, hq3⟩ := SV.cons hSt
  subst hq1
  clear hSt
  have hSt := hq3
  clear hq3
  exact hR (some (vI x)) σ K H locs ls _ pc hQ hW hK hS ⟨v, by rw [SV.nil hSt], hv⟩ (Or.inr (Or.inr (Or.inr ⟨hm, hz⟩))) hd
theorem aw_lreturn {x : Int64} (hd : decode M.2.1 pc = .ok (.lreturn, 1)) (hm : M.2.2.2 = some .long) (hQ : Q (some (vJ x)) σ) : AW g l d M pc L [vJ x] σ Q := by
  intro p e R s m args below meth c Z K0 K H locs ls st E hR hW hK hS hL hSt
  have E0 := E
  obtain ⟨hx, hb, hml, hr, hlk, hnm, hown, hts, hKK, hA, hfr, hlo, hbs, hRc, hRs, hwm⟩ := E
  obtain ⟨v, _, hq1, hv, hq3⟩ := SV.cons hSt
  subst hq1
  clear hSt
  have hSt := hq3
  clear hq3
  exact hR (some (vJ x)) σ K H locs ls _ pc hQ hW hK hS ⟨v, by rw [SV.nil hSt], hv⟩ hm hd
theorem aw_areturn {x : Sum (Nat × Option Nat) (Nat × Nat)} {n : String} (hd : decode M.2.1 pc = .ok (.areturn, 1)) (hm : M.2.2.2 = some (.object n)) (hQ : Q (some (.inr x)) σ) : AW g l d M pc L [.inr x] σ Q := by
  intro p e R s m args below meth c Z K0 K H locs ls st E hR hW hK hS hL hSt
  have E0 := E
  obtain ⟨hx, hb, hml, hr, hlk, hnm, hown, hts, hKK, hA, hfr, hlo, hbs, hRc, hRs, hwm⟩ := E
  obtain ⟨v, _, hq1, hv, hq3⟩ := SV.cons hSt
  subst hq1
  clear hSt
  have hSt := hq3
  clear hq3
  exact hR (some (.inr x)) σ K H locs ls _ pc hQ hW hK hS ⟨v, by rw [SV.nil hSt], hv⟩ ⟨n, hm⟩ hd
end R1
