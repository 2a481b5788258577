/-! the class lays: fields, structs, trees -/
theorem pad_eq {x n : Int} (hn : 1 ≤ n) : (-x) % n = (n - x % n) % n := by
  have e : -x = (n - x % n) + n * (-(x / n) - 1) := by
    have h1 := Int.emod_add_mul_ediv x n
    have h2 : n * (-(x / n) - 1) = -(n * (x / n)) - n := by rw [Int.mul_sub, Int.mul_neg, Int.mul_one]
    omega
  rw [e, Int.add_mul_emod_self_left]
theorem FW.k0 {En : List Enm} {Ss : List Stc} {F : Fld} (hW : FW En Ss F) (hk : F.ki = 0) : 0 ≤ F.st ∧ F.st < Ss.length := by
  obtain ⟨_, _, _, _, w⟩ := hW
  rcases w with w | w | w | w | w | w | w | w | w | w
  · exact w.2
  · exact absurd w.1 (by omega)
  · exact absurd w.1 (by omega)
  · exact absurd w.1 (by omega)
  · exact absurd w.1 (by omega)
  · exact absurd w.1 (by omega)
  · exact absurd w.1 (by omega)
  · exact absurd w.1 (by omega)
  · exact absurd w.1 (by omega)
  · exact absurd w.1 (by omega)
theorem FW.k1 {En : List Enm} {Ss : List Stc} {F : Fld} (hW : FW En Ss F) (hk : F.ki = 1) : TyR F.ty ∧ F.st = -1 ∧ -1 ≤ F.pr ∧ F.pr < En.length := by
  obtain ⟨_, _, _, _, w⟩ := hW
  rcases w with w | w | w | w | w | w | w | w | w | w
  · exact absurd w.1 (by omega)
  · exact w.2
  · exact absurd w.1 (by omega)
  · exact absurd w.1 (by omega)
  · exact absurd w.1 (by omega)
  · exact absurd w.1 (by omega)
  · exact absurd w.1 (by omega)
  · exact absurd w.1 (by omega)
  · exact absurd w.1 (by omega)
  · exact absurd w.1 (by omega)
theorem FW.k2 {En : List Enm} {Ss : List Stc} {F : Fld} (hW : FW En Ss F) (hk : F.ki = 2) : F.st = -1 ∧ TyR F.ty ∨ 0 ≤ F.st ∧ F.st < Ss.length ∧ (F.e1 = none → 0 < szS Ss F.st) := by
  obtain ⟨_, _, _, _, w⟩ := hW
  rcases w with w | w | w | w | w | w | w | w | w | w
  · exact absurd w.1 (by omega)
  · exact absurd w.1 (by omega)
  · exact w.2
  · exact absurd w.1 (by omega)
  · exact absurd w.1 (by omega)
  · exact absurd w.1 (by omega)
  · exact absurd w.1 (by omega)
  · exact absurd w.1 (by omega)
  · exact absurd w.1 (by omega)
  · exact absurd w.1 (by omega)
theorem FW.k3 {En : List Enm} {Ss : List Stc} {F : Fld} (hW : FW En Ss F) (hk : F.ki = 3) : TyR F.ty ∧ BiO F.es 0 (8 * tw F.ty) ∧ F.es.length ≤ 12 := by
  obtain ⟨_, _, _, _, w⟩ := hW
  rcases w with w | w | w | w | w | w | w | w | w | w
  · exact absurd w.1 (by omega)
  · exact absurd w.1 (by omega)
  · exact absurd w.1 (by omega)
  · exact w.2
  · exact absurd w.1 (by omega)
  · exact absurd w.1 (by omega)
  · exact absurd w.1 (by omega)
  · exact absurd w.1 (by omega)
  · exact absurd w.1 (by omega)
  · exact absurd w.1 (by omega)
theorem FW.k5 {En : List Enm} {Ss : List Stc} {F : Fld} (hW : FW En Ss F) (hk : F.ki = 5) : F.e1 = none → 0 ≤ F.nu.toInt ∧ F.nu.toInt ≤ 255 := by
  obtain ⟨_, _, _, _, w⟩ := hW
  rcases w with w | w | w | w | w | w | w | w | w | w
  · exact absurd w.1 (by omega)
  · exact absurd w.1 (by omega)
  · exact absurd w.1 (by omega)
  · exact absurd w.1 (by omega)
  · exact w.2
  · exact absurd w.1 (by omega)
  · exact absurd w.1 (by omega)
  · exact absurd w.1 (by omega)
  · exact absurd w.1 (by omega)
  · exact absurd w.1 (by omega)
theorem FW.k6 {En : List Enm} {Ss : List Stc} {F : Fld} (hW : FW En Ss F) (hk : F.ki = 6) : (∃ N, F.e1 = some N) ∧ -1 ≤ F.ot ∧ F.ot < Ss.length ∧ ∀ e ∈ F.es, 0 ≤ e.2.2 ∧ e.2.2 < Ss.length := by
  obtain ⟨_, _, _, _, w⟩ := hW
  rcases w with w | w | w | w | w | w | w | w | w | w
  · exact absurd w.1 (by omega)
  · exact absurd w.1 (by omega)
  · exact absurd w.1 (by omega)
  · exact absurd w.1 (by omega)
  · exact absurd w.1 (by omega)
  · exact w.2
  · exact absurd w.1 (by omega)
  · exact absurd w.1 (by omega)
  · exact absurd w.1 (by omega)
  · exact absurd w.1 (by omega)
theorem FW.k7 {En : List Enm} {Ss : List Stc} {F : Fld} (hW : FW En Ss F) (hk : F.ki = 7) : TyR F.ty ∧ 0 ≤ F.st ∧ F.st < Ss.length ∧ 1 ≤ F.nu.toInt ∧ F.nu.toInt ≤ 4096 := by
  obtain ⟨_, _, _, _, w⟩ := hW
  rcases w with w | w | w | w | w | w | w | w | w | w
  · exact absurd w.1 (by omega)
  · exact absurd w.1 (by omega)
  · exact absurd w.1 (by omega)
  · exact absurd w.1 (by omega)
  · exact absurd w.1 (by omega)
  · exact absurd w.1 (by omega)
  · exact w.2
  · exact absurd w.1 (by omega)
  · exact absurd w.1 (by omega)
  · exact absurd w.1 (by omega)
theorem FW.k8 {En : List Enm} {Ss : List Stc} {F : Fld} (hW : FW En Ss F) (hk : F.ki = 8) : 1 ≤ F.nu.toInt ∧ F.nu.toInt ≤ 64 := by
  obtain ⟨_, _, _, _, w⟩ := hW
  rcases w with w | w | w | w | w | w | w | w | w | w
  · exact absurd w.1 (by omega)
  · exact absurd w.1 (by omega)
  · exact absurd w.1 (by omega)
  · exact absurd w.1 (by omega)
  · exact absurd w.1 (by omega)
  · exact absurd w.1 (by omega)
  · exact absurd w.1 (by omega)
  · exact w.2
  · exact absurd w.1 (by omega)
  · exact absurd w.1 (by omega)
theorem FW.k9 {En : List Enm} {Ss : List Stc} {F : Fld} (hW : FW En Ss F) (hk : F.ki = 9) : ∀ e ∈ F.es, -1 ≤ e.2.1.toInt ∧ e.2.1.toInt ≤ 255 := by
  obtain ⟨_, _, _, _, w⟩ := hW
  rcases w with w | w | w | w | w | w | w | w | w | w
  · exact absurd w.1 (by omega)
  · exact absurd w.1 (by omega)
  · exact absurd w.1 (by omega)
  · exact absurd w.1 (by omega)
  · exact absurd w.1 (by omega)
  · exact absurd w.1 (by omega)
  · exact absurd w.1 (by omega)
  · exact absurd w.1 (by omega)
  · exact w.2
  · exact absurd w.1 (by omega)
theorem FW.k10 {En : List Enm} {Ss : List Stc} {F : Fld} (hW : FW En Ss F) (hk : F.ki = 10) : TyR F.ty ∧ 217 ≤ F.nu.toInt ∧ F.nu.toInt ≤ 220 ∧ (∃ N, F.e1 = some N) ∧ ∃ N, F.e2 = some N := by
  obtain ⟨_, _, _, _, w⟩ := hW
  rcases w with w | w | w | w | w | w | w | w | w | w
  · exact absurd w.1 (by omega)
  · exact absurd w.1 (by omega)
  · exact absurd w.1 (by omega)
  · exact absurd w.1 (by omega)
  · exact absurd w.1 (by omega)
  · exact absurd w.1 (by omega)
  · exact absurd w.1 (by omega)
  · exact absurd w.1 (by omega)
  · exact absurd w.1 (by omega)
  · exact w.2
theorem FW.ne4 {En : List Enm} {Ss : List Stc} {F : Fld} (hW : FW En Ss F) : ¬ F.ki = 4 ∧ 0 ≤ F.ki ∧ F.ki ≤ 10 ∧ (isNu F.ki → TyR F.ty) := by
  obtain ⟨_, _, _, _, w⟩ := hW
  unfold isNu
  rcases w with w | w | w | w | w | w | w | w | w | w
  · exact ⟨by omega, by omega, by omega, fun z => by omega⟩
  · exact ⟨by omega, by omega, by omega, fun _ => w.2.1⟩
  · exact ⟨by omega, by omega, by omega, fun z => by omega⟩
  · exact ⟨by omega, by omega, by omega, fun _ => w.2.1⟩
  · exact ⟨by omega, by omega, by omega, fun z => by omega⟩
  · exact ⟨by omega, by omega, by omega, fun z => by omega⟩
  · exact ⟨by omega, by omega, by omega, fun _ => w.2.1⟩
  · exact ⟨by omega, by omega, by omega, fun z => by omega⟩
  · exact ⟨by omega, by omega, by omega, fun z => by omega⟩
  · exact ⟨by omega, by omega, by omega, fun _ => w.2.1⟩
section N8
variable {g : GP} {l : Launch} {d e : Nat} {σ σ' : St} {B tr a dd c rk H Z i k fr kk : Nat} {no : Nat → Nat} {so : Nat → Nat} {fo : Nat → Nat → Nat} {En : List Enm} {Ss : List Stc} {s s' : TS} {h : Int → Int} {len fl dep st : Int} {Own : Nat → Prop} {F : Fld} {L : LY} {S : Stc}
/-- a node for a field -/
abbrev mkF (s : TS) (i : Nat) (fl : Int) (F : Fld) : TS := mkM s F.ki i (s.d 2 i) fl (s.d 2 i) (if F.ki = 0 then F.st else -1) 0 F.nm
theorem fld_mk (hW : FW En Ss F) (hF : gF Ss fl = some F) (hT : TI Ss len s) (hU : TU Ss len s) (hc : s.c < 400) (hi : i < s.c) (h0 : s.d 0 i = 0) (h7 : s.d 7 i = st) (hfl : fl = 14 * st + kk) (h14 : kk < 14) (hks : ∀ a ∈ s.k i, s.d 6 a < fl) : TI Ss len (mkF s i fl F) ∧ TX Ss len (mkF s i fl F) s.c := by
  obtain ⟨⟨v1, _⟩, _⟩ := hT.2 i hi
  obtain ⟨w1, w2, w3, w4⟩ := hW.ne4
  exact ⟨hT.mk hc ⟨by omega, by omega⟩ ⟨by omega, Int.le_refl _, v1.2.2⟩ ⟨w2, w3⟩ (Or.inr ⟨(gF_some hF).1, F, hF, Or.inl ⟨rfl, w1⟩, w4⟩) (fun z => by rw [if_pos z]; exact hW.k0 z) (nm_fl hF w1 (fun z => by omega)) (fun j ej _ => by rw [show j = i by omega, h7]; exact ⟨⟨kk, F, h14, hfl, hF, rfl⟩, hks⟩) (fun j ej z => by rw [show j = i by omega] at z; omega), TX.mk hU⟩
theorem x_layField {P : Int → St → Prop} (hL : LyC g l B tr a dd c rk so fo En Ss len h Own H Z L (dep + 1)) (hG : LG Ss len L) (hB : B ≤ e + 8) (hd : 0 ≤ dep ∧ dep ≤ 100) (hE : EnC σ tr a dd c rk so fo En Ss len h Own) (hT : TrC σ tr no fo Ss Own H Z s) (hI : TI Ss len s) (hU : TU Ss len s) (hi : i < s.c) (h0 : s.d 0 i = 0) (h7 : s.d 7 i = st) (hst : 0 ≤ st) (hS : Ss[st.toNat]? = some S) (hS14 : S.2.1.length ≤ 14) (hfl : fl = 14 * st + kk) (h14 : kk < 14) (hks : ∀ a ∈ s.k i, s.d 6 a < fl) (hF : gF Ss fl = some F) (hfr : fr = fo (fl / 14).toNat (fl % 14).toNat) (hW : FW En Ss F) (hX : XNf (S.2.1.take kk) F) (hsz : ∀ x, szS Ss x ≤ 1000000) (hh : ∀ p : Int, 0 ≤ p → p < len → 0 ≤ h p ∧ h p ≤ 255) (h20 : Ss.length ≤ 20) (hR : H + 400 ≤ gB g + 600000 ∧ Z + 6800 ≤ 7302250)
    (hP : PoB σ tr rk Own no fo Ss H Z s (lyF En Ss h len L s i fl F) P) : ACi g l (e + 11) MX10_layField [vR 10 (some tr), vR 5 (some (no i)), vR 2 (some fr), vI dep] σ P := by
  have f0 := (gF_some hF).1
  have fc : FC σ dd c fr F := by rw [hfr]; exact hE.fdc fl F hF
  obtain ⟨⟨vi, _⟩, _⟩ := hI.2 i hi
  obtain ⟨⟨_, _, n3, _⟩, _⟩ := hT.2.2.2.1 i hi
  obtain ⟨ne4, _, _, _⟩ := hW.ne4
  refine AC.of mo_X10_layField (Nat.le_of_ble_eq_true rfl) (bk_X10_layField_0 ⟨fr, rfl, no i, rfl, ?_⟩)
  rw [fc.ki, fc.nm, n3]
  refine x_addN (par := (i : Int)) (fld := fl) (u2 := s.d 2 i) (u7 := if F.ki = 0 then F.st else -1) (u8 := 0) oN_at.symm (oF_at f0 hfr).symm hE hT (fun i hi => (hI.2 i hi).2.1) ⟨by omega, by omega⟩ hR (fun nc => ⟨fun _ => ⟨_, rfl, hP.2 ?_ 0 _ (Or.inl rfl) (Frm.sI (LyF.t (by omega))).fr hT.gar⟩, (fun r w => nomatch w)⟩) (fun hc σ5 r f5 rh ro r503 r514 post => ⟨(fun w => nomatch w), fun r7 er => ?_⟩)
  · unfold lyF mkO; rw [if_neg nc]
  cases er
  have E5 := hE.fr f5
  have fc5 : FC σ5 dd c fr F := by rw [hfr]; exact E5.fdc fl F hF
  obtain ⟨I1, X1⟩ := fld_mk hW hF hI hU hc hi h0 h7 hfl h14 hks
  have em : mkO s F.ki i (s.d 2 i) fl (s.d 2 i) (if F.ki = 0 then F.st else -1) 0 F.nm = some (mkF s i fl F) := by unfold mkO; rw [if_pos hc]
  have ni : ¬ i = s.c := by omega
  have m0 : (mkF s i fl F).d 0 s.c = F.ki := mk_n
  have m1 : (mkF s i fl F).d 1 s.c = s.d 2 i := mk_n
  have m3 : (mkF s i fl F).d 3 s.c = 0 := mk_n
  have m5 : (mkF s i fl F).d 5 s.c = (i : Int) := mk_n
  have m6 : (mkF s i fl F).d 6 s.c = fl := mk_n
  have m7 : (mkF s i fl F).d 7 s.c = if F.ki = 0 then F.st else -1 := mk_n
  have mc : (mkF s i fl F).c = s.c + 1 := rfl
  have mk' : (mkF s i fl F).k s.c = [] := mk_kn
  have i0 : (mkF s i fl F).d 0 i = 0 := by rw [mk_o ni]; exact h0
  have i1 : (mkF s i fl F).d 1 i = s.d 1 i := mk_o ni
  have i7 : (mkF s i fl F).d 7 i = st := by rw [mk_o ni]; exact h7
  have nn : noA no s.c r s.c = r := noA_n
  have nni : noA no s.c r i = no i := noA_o ni
  -- what is wanted behind the body
  have body : PoB σ5 tr rk Own (noA no s.c r) fo Ss H Z (mkF s i fl F) (bdF En Ss h len L (mkF s i fl F) i s.c fl F) (fun v σ' => (v = 0 ∨ v = 1) ∧ ∃ y, some (vI v) = some (vI y) ∧ P y (sI σ' 503 (no i) 0 (gI σ' 503 r 0))) := by
    refine ⟨fun r0 e0 σ' no' f' T' a' => ⟨by cases r0.2 <;> simp, _, rfl, ?_⟩, fun e0 v σ' hv f' T' => ⟨hv, _, rfl, ?_⟩⟩
    · have kp := bdF_ok hW hF hG I1 X1 rfl m0 m6 m3 mk' (fun z => by rw [m7, if_pos z]) e0
      have cl := kp.2.2.1
      rw [mc] at cl a'
      have g503 := (T'.2.2.2.1 s.c (by omega)).1.2.2.1
      rw [a' s.c (by omega), nn] at g503
      rw [g503]
      have T2 := T'.w (k := i) (f := 2) (v := r0.1.d 2 s.c) (by omega) (by omega)
      rw [a' i (by omega), nni] at T2
      exact hP.1 (r0.1.w 2 i (r0.1.d 2 s.c), r0.2) (by unfold lyF; rw [em]; dsimp only; rw [e0]) _ no' ((f5.trans f').trans (Frm.sI (LyF.o (hT.own hi) (by decide) (by decide))).fr) T2 (fun j hj => by rw [a' j (by omega), noA_o (by omega)])
    · exact hP.2 (by unfold lyF; rw [em]; dsimp only; rw [e0]) v _ hv ((f5.trans f').trans (Frm.sI (LyF.o (hT.own hi) (by decide) (by decide))).fr) (T'.w (by decide) (by decide))
  have T5 : ¬ F.ki = 0 → TrC σ5 tr (noA no s.c r) fo Ss Own H Z (mkF s i fl F) := fun z => post σ5 Frm.rfl r503 (by rw [if_neg z]; exact r514) (fun q => absurd q ne4)
  have U5 : ¬ isNu F.ki → (F.ki = 5 → ¬ F.e1 = none) → TU Ss len (mkF s i fl F) := fun n5 n6 => TX.all X1 (fun F' q => by
    rw [m6, hF] at q
    cases q
    rw [m0]
    exact ⟨fun z => absurd z n5, fun z z1 => absurd z1 (n6 z)⟩)
  have hil : i < (mkF s i fl F).c := by rw [mc]; omega
  have hcl : s.c < (mkF s i fl F).c := by rw [mc]; omega
  have nmo : ∀ (t : TS), t.d 7 i = st → ∀ ex, XN (S.2.1.take kk) ex → ∀ N, ex = some N → ∀ x ∈ N, x.o = 2 → NmO Ss t i x.v.toInt := fun t t7 ex hx N eN => by
    rw [eN] at hx
    exact nmo_of (S := S) (kk := kk) (by rw [t7]; exact hS) (by omega) hS14 hx
  unfold bdF at body
  rw [fc5.ki]
  refine ⟨fun z => ?_, fun z => ?_, fun z => ?_, fun z => ?_, fun z => absurd z ne4, fun z => ?_, fun z => ?_, fun z => ?_, fun z => ?_, fun z => ?_, fun z => ?_⟩
  · -- a struct
    rw [if_pos z] at body
    rw [fc5.st]
    have T6 := post (sI σ5 514 r 0 F.st) (Frm.sI ⟨rfl, by omega⟩) (by rw [gI_sI, if_neg (by simp)]; exact r503) (by rw [gI_slf, if_pos z]) (fun q => absurd q ne4)
    refine ⟨⟨by omega, by omega⟩, hL (e + 10) (by omega) σ5 (noA no s.c r) (mkF s i fl F) s.c r F.st _ nn.symm E5 T6 I1 (U5 (by unfold isNu; omega) (fun q => by omega)) rfl (by rw [m0]; exact z) (by rw [m7, if_pos z]) mk' (fun s2 es σ2 no2 f2 T2 a2 => ?_) (fun en σ2 f2 T2 => ?_)⟩
    · exact (body.1 (s2, true) (by rw [es]; rfl) σ2 no2 f2 T2 a2).2
    · exact (body.2 (by rw [en]; rfl) 1 σ2 (Or.inr rfl) f2 T2).2
  · rw [if_neg (by omega), if_pos z] at body
    have w := hW.k1 z
    have A := x_layWhole (d := e + 8) (g := g) (l := l) E5 (T5 (by omega)) I1 X1 hcl hF m6 (by rw [m0]; exact z) hfr w.1 w.2.2 body
    rw [nn] at A; exact A
  · rw [if_neg (by omega), if_neg (by omega), if_pos z] at body
    have A := x_layArray (e := e) hL hG hB hd E5 (T5 (by omega)) I1 (U5 (by unfold isNu; omega) (fun q => by omega)) hil i0 hcl (by rw [m0]; exact z) m5 hF hfr z (hW.k2 z) (hsz _) hW.2.1 (nmo _ i7 _ hX.2.1) h20 hR body
    rw [nn] at A; exact A
  · rw [if_neg (by omega), if_neg (by omega), if_neg (by omega), if_pos z] at body
    have w := hW.k3 z
    have A := x_layBits (d := e + 7) (g := g) (l := l) E5 (T5 (by omega)) I1 X1 hcl hF m6 (by rw [m0]; exact z) m3 mk' hfr z w.1 w.2.1 w.2.2 hR body
    rw [nn] at A; exact A
  · rw [if_neg (by omega), if_neg (by omega), if_neg (by omega), if_neg (by omega), if_pos z] at body
    have ng := fc5.e1
    unfold lyTx at body
    refine ⟨fun q => ?_, fun q => ?_⟩
    · cases e1 : F.e1 with
      | none => rw [e1] at ng; exact absurd ng q
      | some N =>
        rw [e1] at body
        dsimp only at body
        have A := x_layText (d := e + 4) (g := g) (l := l) E5 (T5 (by omega)) I1 (U5 (by unfold isNu; omega) (fun _ q => by rw [e1] at q; cases q)) hil i0 hcl m5 hF hfr e1 hW.2.1 (nmo _ i7 _ hX.2.1 N e1) h20 body
        rw [nn] at A; exact A
    · cases e1 : F.e1 with
      | none =>
        rw [e1] at body
        dsimp only at body
        have A := x_layUntil (d := e + 9) (g := g) (l := l) E5 (T5 (by omega)) I1 hcl hF hfr (hW.k5 z e1) hh body
        rw [nn] at A; exact A
      | some N => rw [e1] at ng; obtain ⟨b0, x1, _⟩ := ng; omega
  · rw [if_neg (by omega), if_neg (by omega), if_neg (by omega), if_neg (by omega), if_neg (by omega), if_pos z] at body
    have w := hW.k6 z
    have A := x_layUnion (e := e) (P := fun σ' => ∃ y, some (vI 1) = some (vI y) ∧ P y (sI σ' 503 (no i) 0 (gI σ' 503 r 0))) hL hG hB hd E5 (T5 (by omega)) I1 (U5 (by unfold isNu; omega) (fun q => by omega)) hil i0 hcl (by rw [m0]; exact z) m5 hF hfr w.1 ⟨w.2.1, w.2.2.1⟩ w.2.2.2 hW.2.1 (nmo _ i7 _ hX.2.1) h20 hR ?_
    · rw [nn] at A; exact A
    · refine ⟨fun r0 e0 σ' no' f' T' a' => ?_, fun e0 v σ' hv f' T' => (body.2 e0 1 σ' (Or.inr rfl) f' T').2⟩
      have r2 : r0.2 = true := by
        obtain ⟨N, eN⟩ := w.1
        unfold lyUn at e0
        rw [eN] at e0
        dsimp only at e0
        cases ev : evE ((mkF s i fl F).d 1 s.c) len ((mkF s i fl F).d 1 i) (nmV Ss h (mkF s i fl F) i) N with
        | none => rw [ev] at e0; cases e0; rfl
        | some v =>
          rw [ev] at e0
          dsimp only at e0
          by_cases y : tgt F v = -1
          · rw [if_pos y] at e0; cases e0; rfl
          · rw [if_neg y] at e0
            cases ea : addS L Ss (mkF s i fl F) s.c (tgt F v) ((mkF s i fl F).d 1 s.c) with
            | none => rw [ea] at e0; cases e0
            | some s2 => rw [ea] at e0; cases e0; rfl
      have := (body.1 r0 e0 σ' no' f' T' a').2
      rw [if_pos r2] at this
      exact this
  · rw [if_neg (by omega), if_neg (by omega), if_neg (by omega), if_neg (by omega), if_neg (by omega), if_neg (by omega), if_pos z] at body
    have w := hW.k7 z
    have A := x_layPointer (e := e) hL hG hB hd E5 (T5 (by omega)) I1 X1 hil i0 hcl (by rw [m0]; exact z) m5 hF m6 hfr w.1 ⟨w.2.1, w.2.2.1⟩ hW.2.1 (nmo _ (by rw [w_ne (by decide)]; exact i7) _ hX.2.1) h20 hR body
    rw [nn] at A; exact A
  · rw [if_neg (by omega), if_neg (by omega), if_neg (by omega), if_neg (by omega), if_neg (by omega), if_neg (by omega), if_neg (by omega), if_pos z] at body
    have w := hW.k8 z
    have n2 := ((T5 (by omega)).2.2.2.1 s.c hcl).1.2.1
    have n2i := ((T5 (by omega)).2.2.2.1 i hil).1.2.1
    have lb := hE.2.1.2.2.1
    rw [nn, m1] at n2
    rw [nni, i1] at n2i
    rw [n2, n2i]
    have ix : (i2j (s.d 2 i - s.d 1 i)).toInt = s.d 2 i - s.d 1 i := by rw [i2j_toInt, w32_id (by omega) (by omega)]
    refine ⟨⟨by omega, by omega⟩, x_padding fc5 w.2 (by rw [ix]; omega) (by rw [ix]; omega) (fun v hv => ?_)⟩
    rw [ix, if_neg (by omega), pad_eq w.1] at hv
    rw [m1, i1] at body
    have v0 : 0 ≤ v.toInt := by rw [hv]; exact Int.emod_nonneg _ (by omega)
    have v1 : v.toInt < F.nu.toInt := by rw [hv]; exact Int.emod_lt_of_pos _ (by omega)
    rw [← hv] at body
    rw [j2i_eq, w32_id (by omega) (by omega)]
    unfold covB at body
    have A := x_cover (d := e + 10) (g := g) (l := l) (n := v.toInt) (P := fun v σ' => (v = 0 ∨ v = 1) ∧ ∃ y, some (vI v) = some (vI y) ∧ P y (sI σ' 503 (no i) 0 (gI σ' 503 r 0))) E5 (T5 (by omega)) hcl ⟨by rw [m1]; omega, by rw [m1]; omega⟩ v0 (fun q σ2 f2 T2 => ?_) (fun q σ2 f2 T2 => ?_)
    · rw [nn] at A; exact A
    · rw [if_pos q] at body; exact body.t f2 T2
    · rw [if_neg q] at body; exact body.f f2 T2
  · rw [if_neg (by omega), if_neg (by omega), if_neg (by omega), if_neg (by omega), if_neg (by omega), if_neg (by omega), if_neg (by omega), if_neg (by omega), if_pos z] at body
    have A := x_layMagic (d := e + 9) (g := g) (l := l) E5 (T5 (by omega)) I1 hcl hF hfr (hW.k9 z) body
    rw [nn] at A; exact A
  · have z' : F.ki = 10 := by
      obtain ⟨_, _, _, _, w⟩ := hW
      omega
    rw [if_neg (by omega), if_neg (by omega), if_neg (by omega), if_neg (by omega), if_neg (by omega), if_neg (by omega), if_neg (by omega), if_neg (by omega), if_neg (by omega)] at body
    have w := hW.k10 z'
    have A := x_laySum (d := e + 4) (g := g) (l := l) (P := fun v σ' => ∃ r3, some r = some r3 ∧ ∃ r5, some (no i) = some r5 ∧ ((v = 0 ∨ v = 1) ∧ ∃ y, some (vI v) = some (vI y) ∧ P y (sI σ' 503 r5 0 (gI σ' 503 r3 0)))) E5 (T5 (by omega)) I1 X1 hil i0 hcl m5 ni hF m6 (by rw [m0]; exact z') m3 hfr w.1 ⟨w.2.1, w.2.2.1⟩ hW.2.1 hW.2.2.1 (nmo _ (by rw [w_ne (by decide)]; exact i7) _ hX.2.1) (nmo _ (by rw [w_ne (by decide)]; exact i7) _ hX.2.2) h20 w.2.2.2.1 w.2.2.2.2 hh ?_
    · rw [nn] at A; exact bk_X10_layField_234 A
    · exact ⟨fun r0 e0 σ' no' f' T' a' => ⟨r, rfl, no i, rfl, body.1 r0 e0 σ' no' f' T' a'⟩, fun e0 v σ' hv f' T' => ⟨r, rfl, no i, rfl, body.2 e0 v σ' hv f' T'⟩⟩
theorem x_layStruct0 {B : Nat} (hB : 1 ≤ B) : LyC g l B tr a dd c rk so fo En Ss len h Own H Z (lyS En Ss h len 0) 21 := by
  intro D hD σ no s i ro st P hro hE hT hI hU hi h0 h7 hk ho hn
  obtain ⟨e, rfl⟩ : ∃ e, D = e + 1 := ⟨D - 1, by omega⟩
  refine AC.of mo_X10_layStruct (Nat.le_of_ble_eq_true rfl) (bk_X10_layStruct_0 ⟨ro, rfl, fun w => absurd w (by decide), fun _ => ⟨rfl, ?_⟩⟩)
  have ow : Own ro := by rw [hro]; exact hT.own (by omega)
  have T2 := hT.w (k := i) (f := 3) (v := 9) (by omega) (by omega)
  rw [← hro] at T2
  exact ho (s.w 3 i 9) rfl _ no ((Frm.sI (LyF.o ow (by decide) (by decide))).trans (Frm.sI (LyF.o ow (by decide) (by decide)))).fr T2 (fun _ _ => rfl)
theorem x_layStruct1 {r : Nat} (hW : LW En Ss) (hsz : ∀ x, szS Ss x ≤ 1000000) (hh : ∀ p : Int, 0 ≤ p → p < len → 0 ≤ h p ∧ h p ≤ 255) (hR : H + 400 ≤ gB g + 600000 ∧ Z + 6800 ≤ 7302250) (hB8 : 8 ≤ B) (hd : 1 ≤ dep ∧ dep ≤ 20) (hL : LyC g l B tr a dd c rk so fo En Ss len h Own H Z (lyS En Ss h len r) (dep + 1)) : LyC g l (B + 4) tr a dd c rk so fo En Ss len h Own H Z (lyS En Ss h len (r + 1)) dep := by
  intro D hD σ no s i ro st P hro hE hT hI hU hi h0 h7 hk ho hn
  obtain ⟨e, rfl⟩ : ∃ e, D = e + 12 := ⟨D - 12, by omega⟩
  have hG : LG Ss len (lyS En Ss h len r) := lyS_ok hW r
  have hi' : i < s.c := by omega
  obtain ⟨⟨_, _, _, v4, _⟩, _⟩ := hI.2 i hi'
  have v4 := v4 h0
  rw [h7] at v4
  have h20 := hW.1
  obtain ⟨⟨q1, q2, q3, _⟩, _, c1, ⟨d1, _⟩, _⟩ := id hE
  obtain ⟨sh1, _, _⟩ := c1.2.2.2.1.1 st.toNat (by omega)
  have hS : Ss[st.toNat]? = some Ss[st.toNat] := List.getElem?_eq_getElem (by omega)
  generalize Ss[st.toNat] = S at hS
  have w := hW.2 _ S hS
  have eS : lyS En Ss h len (r + 1) s i st = lyFs En Ss h len (lyS En Ss h len r) i st S.2.1 0 s := by
    show (match Ss[st.toNat]? with
      | none => some s
      | some S => lyFs En Ss h len (lyS En Ss h len r) i st S.2.1 0 s) = _
    rw [hS]
  rw [eS] at ho hn
  have ow : Own ro := by rw [hro]; exact hT.own hi'
  -- the loop ends
  have stop : ∀ (τ : St) (x5 x6 : Int), (gI τ 802 (so st.toNat) 0 ≤ x6 ∨ x5 = 0 ∨ ¬ gI τ 1005 tr 0 = 0) → P τ → AW g l (e + 12) MX10_layStruct 35 [some (vR 10 (some tr)), some (vR 5 (some ro)), none, some (vI dep), some (vR 8 (some (so st.toNat))), some (vI x5), some (vI x6), none] [] τ (fun v σ' => v = none ∧ P σ') := fun τ x5 x6 hz hp => by
    refine bk_X10_layStruct_35 ⟨so st.toNat, rfl, fun _ => ⟨rfl, hp⟩, fun y => ⟨fun _ => ⟨rfl, hp⟩, fun y2 => ⟨fun _ => ⟨rfl, hp⟩, fun y3 => ?_⟩⟩⟩
    rcases hz with z | z | z
    · exact absurd z y
    · exact absurd z y2
    · exact absurd y3 z
  have loop : ∀ (Fs : List Fld) (kk : Nat) (τ : St) (no1 : Nat → Nat) (s1 : TS), (∀ j F, Fs[j]? = some F → S.2.1[kk + j]? = some F) → kk + Fs.length = S.2.1.length → Fr (LyF tr rk Own) σ τ → TrC τ tr no1 fo Ss Own H Z s1 → TI Ss len s1 → TU Ss len s1 → s.c ≤ s1.c → s1.d 0 i = 0 → s1.d 7 i = st → (∀ a ∈ s1.k i, s1.d 6 a < 14 * st + kk) → (∀ j, j < s.c → no1 j = no j) → lyFs En Ss h len (lyS En Ss h len r) i st S.2.1 0 s = lyFs En Ss h len (lyS En Ss h len r) i st Fs kk s1 → AW g l (e + 12) MX10_layStruct 35 [some (vR 10 (some tr)), some (vR 5 (some ro)), none, some (vI dep), some (vR 8 (some (so st.toNat))), some (vI 1), some (vI (kk : Int)), none] [] τ (fun v σ' => v = none ∧ P σ') := by
    intro Fs
    induction Fs with
    | nil =>
      intro kk τ no1 s1 _ hkl fτ Tτ _ _ _ _ _ _ hno el
      have hkl : kk + 0 = S.2.1.length := hkl
      have Eτ := hE.fr fτ
      refine stop τ 1 _ (Or.inl ?_) (ho s1 el τ no1 fτ Tτ hno)
      rw [(Eτ.2.2.2.1.1.2.2.2.2.2 _ S hS).2.1]; omega
    | cons F Fs ih =>
      intro kk τ no1 s1 hFs hkl fτ Tτ I1 U1 hc k0 k7 hks hno el
      have hkl : kk + (Fs.length + 1) = S.2.1.length := hkl
      have Eτ := hE.fr fτ
      have hF0 : S.2.1[kk]? = some F := hFs 0 F rfl
      have k14 : kk < 14 := by omega
      obtain ⟨fw, fx⟩ := w.2 kk F hF0
      have hgF : gF Ss (14 * st + kk) = some F := by
        have := gF_at hS hF0 k14
        rw [show ((st.toNat : Nat) : Int) = st by omega] at this
        exact this
      have hfr : fo st.toNat kk = fo ((14 * st + kk) / 14).toNat ((14 * st + kk) % 14).toNat := by
        rw [show ((14 * st + (kk : Int)) / 14).toNat = st.toNat by omega, show ((14 * st + (kk : Int)) % 14).toNat = kk by omega]
      obtain ⟨_, sh2, sh3⟩ := Eτ.2.2.1.2.2.2.1.1 st.toNat (by omega)
      have hi1 : i < s1.c := by omega
      have ni : no1 i = ro := by rw [hno i hi', hro]
      have rest : ∀ j F', Fs[j]? = some F' → S.2.1[kk + 1 + j]? = some F' := fun j F' q => by rw [show kk + 1 + j = kk + (j + 1) by omega]; exact hFs (j + 1) F' q
      rw [lyFs] at el
      obtain ⟨t1, t2, t3, t4⟩ := thr_ok (h := h) (F := F) I1 U1 k0
      refine bk_X10_layStruct_35 ⟨so st.toNat, rfl, ?_⟩
      rw [(Eτ.2.2.2.1.1.2.2.2.2.2 _ S hS).2.1]
      refine ⟨fun y => absurd y (by omega), fun _ => ⟨fun y => absurd y (by decide), fun _ => ⟨fun y => absurd Tτ.1.2.1 y, fun _ => ⟨sh2, ⟨by omega, by omega⟩, ?_⟩⟩⟩⟩
      rw [Int.toNat_natCast, (sh3 kk k14).1, ← ni]
      have fcτ : FC τ dd c (fo st.toNat kk) F := by rw [hfr]; exact Eτ.fdc _ F hgF
      refine x_isThere (d := e + 6) Eτ Tτ I1 U1 hi1 k0 fcτ fw.1 (fun N eN => by
        have hx := fx.1
        rw [eN] at hx
        exact nmo_of (S := S) (kk := kk) (by rw [k7]; exact hS) (by omega) w.1 hx) h20 (fun σ8 f8 T8 => ?_)
      have a0 : (thr Ss h len s1 i F).1.d 0 i = 0 := by rw [t1.2.2.2.2 0 (by decide) (by decide) (by decide)]; exact k0
      have a7 : (thr Ss h len s1 i F).1.d 7 i = st := by rw [t1.2.2.2.2 7 (by decide) (by decide) (by decide)]; exact k7
      have ak : ∀ a ∈ (thr Ss h len s1 i F).1.k i, (thr Ss h len s1 i F).1.d 6 a < 14 * st + kk := fun a ha => by rw [t2] at ha; rw [t3]; exact hks a ha
      have hi2 : i < (thr Ss h len s1 i F).1.c := by rw [t4]; exact hi1
      by_cases q : (thr Ss h len s1 i F).2 = true
      · rw [if_pos q] at el ⊢
        refine ⟨fun y => absurd y (by decide), fun _ => ?_⟩
        refine x_layField (e := e) hL hG (by omega) ⟨by omega, by omega⟩ (hE.fr (fτ.trans f8)) T8 t1.1 t1.2.1 hi2 a0 a7 v4.1 hS w.1 rfl k14 ak hgF hfr fw fx hsz hh h20 hR ⟨fun r0 e0 σ' no' f' T' a' => ⟨⟨by omega, by omega⟩, ?_⟩, fun e0 v σ' hv f' T' => ⟨⟨by omega, by omega⟩, ?_⟩⟩
        · rw [e0] at el
          dsimp only at el
          have hno' : ∀ j, j < s.c → no' j = no j := fun j hj => by rw [a' j (by rw [t4]; omega)]; exact hno j hj
          have fA := (fτ.trans f8).trans f'
          rw [show (kk : Int) + 1 = ((kk + 1 : Nat) : Int) by omega, ni]
          by_cases q2 : r0.2 = true
          · rw [if_pos q2] at el ⊢
            obtain ⟨b1, b2, b3⟩ := lyF_ok fw hgF hG t1.1 t1.2.1 hi2 a0 a7 rfl k14 ak e0
            have ex := b1.2.2
            refine ih (kk + 1) σ' no' r0.1 rest (by omega) fA T' b1.1 b1.2.1 (by have := ex.1; rw [t4] at this; omega) (by rw [ex.2.2 0 (by decide) (by decide) (by decide)]; exact a0) (by rw [ex.2.2 7 (by decide) (by decide) (by decide)]; exact a7) (fun x hx => ?_) hno' el
            rw [b2] at hx
            rcases List.mem_append.mp hx with hx | hx
            · have z := ak x hx
              have m := (t1.1.2 i hi2).2.1.2.1 x hx
              have ne : ¬ x = i := fun q => by
                have := (t1.1.2 i hi2).2.1.2.2
                rw [q] at m
                omega
              rw [(ex.2.1 x m.1 ne).1 6]; omega
            · rw [List.mem_singleton.mp hx, b3]; omega
          · rw [if_neg q2] at el ⊢
            exact stop σ' 0 _ (Or.inr (Or.inl rfl)) (ho r0.1 el σ' no' fA T' hno')
        · rw [e0] at el
          rw [ni]
          exact stop σ' v _ (Or.inr (Or.inr (by rw [T'.1]; decide))) (hn el σ' ((fτ.trans f8).trans f') T')
      · rw [if_neg q] at el ⊢
        refine ⟨fun _ => ⟨⟨by omega, by omega⟩, ?_⟩, fun y => absurd rfl y⟩
        rw [show (kk : Int) + 1 = ((kk + 1 : Nat) : Int) by omega, ni]
        exact ih (kk + 1) σ8 no1 _ rest (by omega) (fτ.trans f8) T8 t1.1 t1.2.1 (by rw [t4]; exact hc) a0 a7 (fun a ha => by have := ak a ha; omega) hno el
  refine AC.of mo_X10_layStruct (Nat.le_of_ble_eq_true rfl) (bk_X10_layStruct_0 ⟨ro, rfl, fun _ => ⟨dd, q2, c1.1, ⟨by omega, by omega⟩, ?_⟩, fun y => absurd (by omega) y⟩)
  rw [sh1]
  exact loop S.2.1 0 _ no s (fun j F hF => by rw [Nat.zero_add]; exact hF) (by omega) (Frm.sI (LyF.o ow (by decide) (by decide))).fr hT hI hU (Nat.le_refl _) h0 h7 (fun a ha => by rw [hk] at ha; exact absurd ha (by simp)) (fun _ _ => rfl) rfl
theorem x_layStruct (hW : LW En Ss) (hsz : ∀ x, szS Ss x ≤ 1000000) (hh : ∀ p : Int, 0 ≤ p → p < len → 0 ≤ h p ∧ h p ≤ 255) (hR : H + 400 ≤ gB g + 600000 ∧ Z + 6800 ≤ 7302250) : ∀ r : Nat, r ≤ 20 → LyC g l (8 + 4 * r) tr a dd c rk so fo En Ss len h Own H Z (lyS En Ss h len r) (21 - (r : Int)) := by
  intro r
  induction r with
  | zero => intro _; exact x_layStruct0 (by omega)
  | succ r ih =>
    intro hr
    have := ih (by omega)
    rw [show (21 - (r : Int)) = (21 - ((r + 1 : Nat) : Int)) + 1 by omega] at this
    have k := x_layStruct1 (B := 8 + 4 * r) hW hsz hh hR (by omega) ⟨by omega, by omega⟩ this
    rw [show 8 + 4 * (r + 1) = 8 + 4 * r + 4 by omega]
    exact k
end N8
