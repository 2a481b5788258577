/-! the class lays: wholes, texts, bits, magics -/
section N5
variable {g : GP} {l : Launch} {d : Nat} {σ σ' : St} {tr a dd c rk H Z i k fr : Nat} {no : Nat → Nat} {so : Nat → Nat} {fo : Nat → Nat → Nat} {En : List Enm} {Ss : List Stc} {s : TS} {h : Int → Int} {len fl : Int} {Own : Nat → Prop} {F : Fld}
/-- what is wanted behind a body: res, from s on -/
def PoB (σ : St) (tr rk : Nat) (Own : Nat → Prop) (no : Nat → Nat) (fo : Nat → Nat → Nat) (Ss : List Stc) (H Z : Nat) (s : TS) (res : OTB) (P : Int → St → Prop) : Prop :=
  (∀ r, res = some r → ∀ σ' no', Fr (LyF tr rk Own) σ σ' → TrC σ' tr no' fo Ss Own H Z r.1 → (∀ j, j < s.c → no' j = no j) → P (if r.2 = true then 1 else 0) σ') ∧ (res = none → ∀ v σ', (v = 0 ∨ v = 1) → Fr (LyF tr rk Own) σ σ' → TrG σ' tr Own H Z → P v σ')
theorem PoB.t {s1 : TS} {P : Int → St → Prop} (hP : PoB σ tr rk Own no fo Ss H Z s (some (s1, true)) P) (hF : Fr (LyF tr rk Own) σ σ') (hT : TrC σ' tr no fo Ss Own H Z s1) : P 1 σ' := hP.1 _ rfl σ' no hF hT (fun _ _ => rfl)
theorem PoB.f {s1 : TS} {P : Int → St → Prop} (hP : PoB σ tr rk Own no fo Ss H Z s (some (s1, false)) P) (hF : Fr (LyF tr rk Own) σ σ') (hT : TrC σ' tr no fo Ss Own H Z s1) : P 0 σ' := hP.1 _ rfl σ' no hF hT (fun _ _ => rfl)
theorem x_addN {pa fd : Option Nat} {par what place fld u2 u7 u8 : Int} {nm : Int64} {P : Option Nat → St → Prop} (hpa : pa = oN no par) (hfd : fd = oF fo fld) (hE : EnC σ tr a dd c rk so fo En Ss len h Own) (hT : TrC σ tr no fo Ss Own H Z s) (hK : ∀ i, i < s.c → NdK s i) (hp : -1 ≤ par ∧ par < s.c) (hR : H + 400 ≤ gB g + 600000 ∧ Z + 6800 ≤ 7302250)
    (h0 : ¬ s.c < 400 → P none (sI σ 1005 tr 0 1))
    (h1 : s.c < 400 → ∀ σ' r, Fr (LyF tr rk Own) σ σ' → r < hs σ' → Own r → gI σ' 503 r 0 = place → gI σ' 514 r 0 = -1 → (∀ σ'', Frm (fun f r' => r' = r ∧ (f = 503 ∨ f = 514 ∨ f = 515 ∨ f = 516)) σ' σ'' → gI σ'' 503 r 0 = u2 → gI σ'' 514 r 0 = u7 → (what = 4 → ∀ F e, gF Ss fld = some F → F.es[(u8 - 1).toNat]? = some e → gI σ'' 515 r 0 = e.2.2 ∧ gI σ'' 516 r 0 = e.2.1.toInt) → TrC σ'' tr (noA no s.c r) fo Ss Own H Z (mkM s what par place fld u2 u7 u8 nm)) → P (some r) σ') :
    ACr g l (d + 2) MX10_addNode 5 [vR 10 (some tr), vR 5 pa, vI what, vI place, vJ nm, vR 2 fd] σ P := by
  rw [hpa, hfd]
  exact x_addNode hE hT hK hp hR h0 h1
theorem oN_at {j : Nat} : oN no (j : Int) = some (no j) := by unfold oN; rw [if_neg (by omega), Int.toNat_natCast]
theorem oF_at (h0 : 0 ≤ fl) (hfr : fr = fo (fl / 14).toNat (fl % 14).toNat) : oF fo fl = some fr := by unfold oF; rw [if_neg (by omega), hfr]
theorem cov_in {n : Int} (hT : TI Ss len s) (hX : TX Ss len s k) (hk : k < s.c) (hn : 0 ≤ n) (hu : ∀ F, gF Ss (s.d 6 k) = some F → (isNu (s.d 0 k) → tw F.ty ≤ n) ∧ (s.d 0 k = 5 → F.e1 = none → 1 ≤ n)) (q : n ≤ len - s.d 1 k) : TI Ss len (s.w 2 k (s.d 1 k + n)) ∧ TU Ss len (s.w 2 k (s.d 1 k + n)) := by
  obtain ⟨⟨v1, _⟩, _⟩ := hT.2 k hk
  refine ⟨hT.w2 (by omega) (by omega), TX.all (k := k) (fun i hi hn => (hX i hi hn).cg (fun f => w_nk hn)) (fun F hF => ?_)⟩
  rw [w_ne (by decide)] at hF
  obtain ⟨u1, u2⟩ := hu F hF
  rw [w_ne (f' := 0) (by decide), w_ne (f' := 1) (by decide), w_at]
  exact ⟨fun nn _ => by have := u1 nn; omega, fun z z1 _ => by have := u2 z z1; omega⟩
theorem x_entryWith {a n : Int} {es : List Ent} {v : Int64} {P : Int → St → Prop} (hL : LC 1 σ dd) (h3 : gI σ 109 dd 0 ≤ 3000) (hec : EC σ dd a n es) (h1 : es.find? (fun e => e.2.1 == v) = none → P (-1) σ) (h2 : ∀ (e : Ent) (q : Int), es.find? (fun e => e.2.1 == v) = some e → 0 ≤ q → q < 3000 → gI σ 108 dd q.toNat = e.2.2 → P q σ) : ACi g l d MX1_entryWith [vR 1 (some dd), vI a, vI n, vJ v] σ P := by
  obtain ⟨b0, ea, en, hb, he⟩ := hec
  have loop : ∀ (E : List Ent) (p : Nat), (∀ j e, E[j]? = some e → es[p + j]? = some e) → p + E.length = es.length → es.find? (fun e => e.2.1 == v) = E.find? (fun e => e.2.1 == v) → AW g l d MX1_entryWith 3 [some (vR 1 (some dd)), some (vI a), some (vI n), some (vJ v), none, some (vI ((b0 + p : Nat) : Int))] [] σ (fun v σ' => ∃ r, v = some (vI r) ∧ P r σ') := by
    intro E
    induction E with
    | nil =>
      intro p _ hp ef
      have hp : p + 0 = es.length := hp
      exact bk_X1_entryWith_3 ⟨⟨by omega, by omega⟩, fun _ => ⟨_, rfl, h1 ef⟩, fun w => absurd (by omega) w⟩
    | cons x E ih =>
      intro p hE hp ef
      have hp : p + (E.length + 1) = es.length := hp
      have x0 := hE 0 x rfl
      rw [Nat.add_zero] at x0
      obtain ⟨_, y2, y3⟩ := he p x x0
      rw [List.find?_cons] at ef
      refine bk_X1_entryWith_3 ⟨⟨by omega, by omega⟩, fun w => absurd w (by omega), fun _ => ⟨fun w => absurd w (by omega), fun _ => ⟨hL, ⟨by omega, by omega⟩, ?_⟩⟩⟩
      rw [Int.toNat_natCast, y2]
      refine ⟨fun w => ⟨⟨by omega, by omega⟩, ?_⟩, fun w => ⟨_, rfl, ?_⟩⟩
      · rw [show (x.2.1 == v) = false by simp [w]] at ef
        rw [show ((b0 + p : Nat) : Int) + 1 = ((b0 + (p + 1) : Nat) : Int) by omega]
        exact ih (p + 1) (fun j e hj => by rw [show p + 1 + j = p + (j + 1) by omega]; exact hE (j + 1) e hj) (by omega) ef
      · rw [show (x.2.1 == v) = true by simp [w]] at ef
        exact h2 x _ ef (by omega) (by omega) (by rw [Int.toNat_natCast]; exact y3)
  refine AC.of mo_X1_entryWith (Nat.le_of_ble_eq_true rfl) (bk_X1_entryWith_0 ?_)
  have := loop es 0 (fun j e hj => by rw [Nat.zero_add]; exact hj) (by omega) rfl
  rw [Nat.add_zero, ← ea] at this
  exact this
theorem x_pairWith {pr : Int} {v : Int64} {P : Int → St → Prop} (hE : EnC σ tr a dd c rk so fo En Ss len h Own) (hp : 0 ≤ pr ∧ pr < En.length) (h1 : prW En pr v = false → P (-1) σ) (h2 : ∀ q : Int, prW En pr v = true → ¬ q = -1 → P q σ) : ACi g l (d + 1) MX1_pairWith [vR 1 (some dd), vI pr, vJ v] σ P := by
  obtain ⟨_, _, c1, ⟨d1, d2, d3⟩, _⟩ := hE
  obtain ⟨_, _, e3, e4, e5, _⟩ := d1
  have lt : pr.toNat < En.length := by omega
  have hget : En[pr.toNat]? = some En[pr.toNat] := List.getElem?_eq_getElem lt
  obtain ⟨_, nc⟩ := e5 _ _ hget
  unfold prW at h1 h2
  rw [hget] at h1 h2
  dsimp only at h1 h2
  refine AC.of mo_X1_pairWith (Nat.le_of_ble_eq_true rfl) (bk_X1_pairWith_0 ⟨fun w => absurd w (by omega), fun _ => ⟨fun _ => ⟨c1.1, ⟨by omega, by omega⟩, x_entryWith c1.1 d3 nc (fun q => ⟨_, rfl, h1 ?_⟩) (fun e q ef q0 _ _ => ⟨_, rfl, h2 q ?_ (by omega)⟩)⟩, fun w => absurd (by omega) w⟩⟩)
  · rw [Bool.eq_false_iff]
    intro z
    rw [List.any_eq_true] at z
    obtain ⟨x, xm, xv⟩ := z
    exact absurd xv (List.find?_eq_none.mp q x xm)
  · rw [List.any_eq_true]
    have hs := List.find?_some ef
    exact ⟨e, List.mem_of_find?_eq_some ef, hs⟩
theorem x_read' {P : Int64 → St → Prop} (hE : EnC σ tr a dd c rk so fo En Ss len h Own) (hT : TrC σ tr no fo Ss Own H Z s) (hI : TI Ss len s) (hU : TU Ss len s) (hk : k < s.c) (hP : P (vlN Ss h s k) σ) : ACj g l (d + 1) MX5_reading [vR 5 (some (no k)), vR 3 (some a)] σ P := by
  obtain ⟨_, ⟨b1, b2, b3, b4, _⟩, _⟩ := id hE
  exact x_reading b1 b2 b3.2 b4 (hT.2.2.2.1 k hk).1 (hI.ndw hU hk) (hE.fdc _) hP
theorem x_layWhole {P : Int → St → Prop} (hE : EnC σ tr a dd c rk so fo En Ss len h Own) (hT : TrC σ tr no fo Ss Own H Z s) (hI : TI Ss len s) (hX : TX Ss len s k) (hk : k < s.c) (hF : gF Ss fl = some F) (h6 : s.d 6 k = fl) (h0 : s.d 0 k = 1) (hfr : fr = fo (fl / 14).toNat (fl % 14).toNat) (ty : TyR F.ty) (hpr : -1 ≤ F.pr ∧ F.pr < En.length)
    (hP : PoB σ tr rk Own no fo Ss H Z s (covB len s k (tw F.ty) (fun s => some (if 0 ≤ F.pr ∧ prW En F.pr (vlN Ss h s k) = false then s.w 3 k 4 else s, true))) P) : ACi g l (d + 2) MX10_layWhole [vR 10 (some tr), vR 5 (some (no k)), vR 2 (some fr)] σ P := by
  obtain ⟨⟨v1, _⟩, _⟩ := hI.2 k hk
  have fc : FC σ dd c fr F := by rw [hfr]; exact hE.fdc fl F hF
  have t1 := ty.1
  unfold covB at hP
  refine AC.of mo_X10_layWhole (Nat.le_of_ble_eq_true rfl) (bk_X10_layWhole_0 ⟨fr, rfl, ?_⟩)
  rw [fc.xtw]
  refine x_cover hE hT hk ⟨by omega, by omega⟩ (by omega) (fun q σ3 f3 T3 => ⟨fun _ => ?_, fun w => absurd w (by decide)⟩) (fun q σ3 f3 T3 => ⟨fun w => absurd rfl w, fun _ => ⟨_, rfl, ?_⟩⟩)
  · rw [if_pos q] at hP
    dsimp only at hP
    have E3 := hE.fr f3
    have fc3 : FC σ3 dd c fr F := by rw [hfr]; exact E3.fdc fl F hF
    obtain ⟨I3, U3⟩ := cov_in hI hX hk (by omega) (fun F' hF' => by
      rw [h6, hF] at hF'
      cases hF'
      exact ⟨fun _ => Int.le_refl _, fun z => by omega⟩) q
    rw [fc3.pr]
    refine ⟨fun w => ⟨_, rfl, ?_⟩, fun w => ⟨no k, rfl, ?_⟩⟩
    · rw [if_neg (by omega)] at hP; exact hP.t f3 T3
    · rw [E3.1.1]
      refine x_read' E3 T3 I3 U3 hk ⟨dd, E3.1.2.1, x_pairWith E3 ⟨by omega, by omega⟩ (fun z => ⟨fun w => absurd rfl w, fun _ => ⟨_, rfl, ?_⟩⟩) (fun q1 z q2 => ⟨fun _ => ⟨_, rfl, ?_⟩, fun w => absurd w q2⟩)⟩
      · rw [if_pos ⟨by omega, z⟩] at hP
        exact hP.t (f3.trans (T3.fw hk (by decide) (by decide))) (T3.w (f := 3) hk (by omega))
      · rw [if_neg (fun u => by rw [z] at u; exact absurd u.2 (by decide))] at hP
        exact hP.t f3 T3
  · rw [if_neg q] at hP
    exact hP.f f3 T3
theorem x_layText {N : List Nd} {P : Int → St → Prop} (hE : EnC σ tr a dd c rk so fo En Ss len h Own) (hT : TrC σ tr no fo Ss Own H Z s) (hI : TI Ss len s) (hU : TU Ss len s) (hi : i < s.c) (h0' : s.d 0 i = 0) (hk : k < s.c) (h5 : s.d 5 k = (i : Int)) (hF : gF Ss fl = some F) (hfr : fr = fo (fl / 14).toNat (fl % 14).toNat) (e1 : F.e1 = some N) (hw : WFx F.e1) (hx : ∀ x ∈ N, x.o = 2 → NmO Ss s i x.v.toInt) (h20 : Ss.length ≤ 20)
    (hP : PoB σ tr rk Own no fo Ss H Z s (amtB Ss h len s i k N 2000 (fun n => covB len s k n (fun s => some (s, true)))) P) : ACi g l (d + 6) MX10_layText [vR 10 (some tr), vR 5 (some (no k)), vR 2 (some fr)] σ P := by
  obtain ⟨⟨v1, _⟩, _⟩ := hI.2 k hk
  have fc : FC σ dd c fr F := by rw [hfr]; exact hE.fdc fl F hF
  unfold amtB at hP
  refine AC.of mo_X10_layText (Nat.le_of_ble_eq_true rfl) (bk_X10_layText_0 (x_amount hE hT hI hU hi h0' hk h5 fc e1 hw hx h20 ⟨by omega, by omega⟩ (fun ev σ1 f1 T1 => ⟨fun _ => ⟨_, rfl, ?_⟩, fun w => absurd rfl w⟩) (fun v ev q σ1 f1 T1 => ⟨fun _ => ⟨_, rfl, ?_⟩, fun w => absurd rfl w⟩) (fun v ev q σ1 f1 T1 => ⟨fun w => by omega, fun _ => x_cover (hE.fr f1) T1 hk ⟨by omega, by omega⟩ (by omega) (fun q2 σ2 f2 T2 => ⟨fun w => absurd w (by decide), fun _ => ⟨_, rfl, ?_⟩⟩) (fun q2 σ2 f2 T2 => ⟨fun _ => ⟨_, rfl, ?_⟩, fun w => absurd rfl w⟩)⟩)))
  · rw [ev] at hP; exact hP.t f1 T1
  · rw [ev] at hP; dsimp only at hP; rw [if_pos q] at hP; exact hP.t f1 T1
  · rw [ev] at hP; dsimp only at hP; rw [if_neg q] at hP; unfold covB at hP; rw [if_pos q2] at hP; exact hP.t (f1.trans f2) T2
  · rw [ev] at hP; dsimp only at hP; rw [if_neg q] at hP; unfold covB at hP; rw [if_neg q2] at hP; exact hP.f (f1.trans f2) T2
theorem x_layUntil {P : Int → St → Prop} (hE : EnC σ tr a dd c rk so fo En Ss len h Own) (hT : TrC σ tr no fo Ss Own H Z s) (hI : TI Ss len s) (hk : k < s.c) (hF : gF Ss fl = some F) (hfr : fr = fo (fl / 14).toNat (fl % 14).toNat) (hnu : 0 ≤ F.nu.toInt ∧ F.nu.toInt ≤ 255) (hh : ∀ p : Int, 0 ≤ p → p < len → 0 ≤ h p ∧ h p ≤ 255)
    (hP : PoB σ tr rk Own no fo Ss H Z s (covB len s k (utl h len F.nu.toInt (len - s.d 1 k).toNat (s.d 1 k) + 1 - s.d 1 k) (fun s => some (s, true))) P) : ACi g l (d + 1) MX10_layUntil [vR 10 (some tr), vR 5 (some (no k)), vR 2 (some fr)] σ P := by
  obtain ⟨⟨v1, _⟩, _⟩ := hI.2 k hk
  obtain ⟨⟨q1, _⟩, ⟨b1, b2, b3, b4, _⟩, _⟩ := id hE
  have fc : FC σ dd c fr F := by rw [hfr]; exact hE.fdc fl F hF
  have n2 := (hT.2.2.2.1 k hk).1.2.1
  unfold covB at hP
  have s40 : ∀ p : Int, s.d 1 k ≤ p → p ≤ len → utl h len F.nu.toInt (len - s.d 1 k).toNat (s.d 1 k) = p → AW g l (d + 1) MX10_layUntil 40 [some (vR 10 (some tr)), some (vR 5 (some (no k))), none, some (vI p)] [] σ (fun v σ' => ∃ r, v = some (vI r) ∧ P r σ') := fun p p0 p1 ep => by
    rw [ep] at hP
    refine bk_X10_layUntil_40 ⟨⟨by omega, by omega⟩, no k, rfl, ?_⟩
    rw [n2]
    refine ⟨⟨by omega, by omega⟩, x_cover hE hT hk ⟨by omega, by omega⟩ (by omega) (fun q σ2 f2 T2 => ⟨Or.inr rfl, _, rfl, ?_⟩) (fun q σ2 f2 T2 => ⟨Or.inl rfl, _, rfl, ?_⟩)⟩
    · rw [if_pos q] at hP; exact hP.t f2 T2
    · rw [if_neg q] at hP; exact hP.f f2 T2
  have loop : ∀ (j : Nat) (p : Int), s.d 1 k ≤ p → p = len - j → utl h len F.nu.toInt (len - s.d 1 k).toNat (s.d 1 k) = utl h len F.nu.toInt j p → AW g l (d + 1) MX10_layUntil 5 [some (vR 10 (some tr)), some (vR 5 (some (no k))), some (vR 2 (some fr)), some (vI p)] [] σ (fun v σ' => ∃ r, v = some (vI r) ∧ P r σ') := by
    intro j
    induction j with
    | zero =>
      intro p p0 p1 ep
      refine bk_X10_layUntil_5 ⟨a, q1, ?_⟩
      rw [b2]
      exact ⟨fun _ => s40 p p0 (by omega) ep, fun w => absurd (by omega) w⟩
    | succ j ih =>
      intro p p0 p1 ep
      rw [utl] at ep
      have hb := b4 p (by omega) (by omega)
      have hr := hh p (by omega) (by omega)
      have ei : i2j (gI σ 301 a p.toNat) = gJ σ 211 fr 0 ↔ h p = F.nu.toInt := by
        rw [hb, fc.nu]
        constructor
        · intro q
          rw [← q, i2j_toInt, w32_id (by omega) (by omega)]
        · intro q
          refine Int64.toInt_inj.mp ?_
          rw [i2j_toInt, w32_id (by omega) (by omega)]; exact q
      refine bk_X10_layUntil_5 ⟨a, q1, ?_⟩
      rw [b2]
      refine ⟨fun w => absurd w (by omega), fun _ => ⟨b1, ⟨by omega, by omega⟩, fr, rfl, fun w => s40 p p0 (by omega) ?_, fun w => ⟨⟨by omega, by omega⟩, ih (p + 1) (by omega) (by omega) ?_⟩⟩⟩
      · rw [if_neg (fun q => q.2 (ei.mp w))] at ep; exact ep
      · rw [if_pos ⟨by omega, fun q => w (ei.mpr q)⟩] at ep; exact ep
  refine AC.of mo_X10_layUntil (Nat.le_of_ble_eq_true rfl) (bk_X10_layUntil_0 ⟨no k, rfl, ?_⟩)
  rw [n2]
  exact loop (len - s.d 1 k).toNat (s.d 1 k) (Int.le_refl _) (by omega) rfl
theorem w_w {f : Nat} {v : Int} : (s.w f k v).w f k v = s.w f k v := by
  have : upN (upN s.d f k v) f k v = upN s.d f k v := by
    funext f' i'
    unfold upN
    by_cases q : f' = f ∧ i' = k
    · rw [if_pos q, if_pos q]
    · rw [if_neg q]
  show (s.c, upN (upN s.d f k v) f k v, s.k) = _
  rw [this]
theorem x_layMagic {P : Int → St → Prop} (hE : EnC σ tr a dd c rk so fo En Ss len h Own) (hT : TrC σ tr no fo Ss Own H Z s) (hI : TI Ss len s) (hk : k < s.c) (hF : gF Ss fl = some F) (hfr : fr = fo (fl / 14).toNat (fl % 14).toNat) (hes : ∀ e ∈ F.es, -1 ≤ e.2.1.toInt ∧ e.2.1.toInt ≤ 255)
    (hP : PoB σ tr rk Own no fo Ss H Z s (covB len s k F.es.length (fun s => some (if 0 ≤ al (me F.es h (s.d 1 k)) F.es.length then s else s.w 3 k 2, true))) P) : ACi g l (d + 1) MX10_layMagic [vR 10 (some tr), vR 5 (some (no k)), vR 2 (some fr)] σ P := by
  obtain ⟨⟨v1, _⟩, _⟩ := hI.2 k hk
  have fc : FC σ dd c fr F := by rw [hfr]; exact hE.fdc fl F hF
  unfold covB at hP
  obtain ⟨b0, _, en, _⟩ := fc.es
  refine AC.of mo_X10_layMagic (Nat.le_of_ble_eq_true rfl) (bk_X10_layMagic_0 ⟨fr, rfl, ?_⟩)
  rw [en]
  refine x_cover hE hT hk ⟨by omega, by omega⟩ (by omega) (fun q σ3 f3 T3 => ⟨fun _ => ?_, fun w => absurd w (by decide)⟩) (fun q σ3 f3 T3 => ⟨fun w => absurd rfl w, fun _ => ⟨_, rfl, ?_⟩⟩)
  · rw [if_pos q] at hP
    dsimp only at hP
    have d1e : (s.w 2 k (s.d 1 k + (F.es.length : Int))).d 1 k = s.d 1 k := w_ne (by decide)
    rw [d1e] at hP
    have loop : ∀ (j : Nat) (p : Nat) (τ : St), p + j = F.es.length → Fr (LyF tr rk Own) σ τ → TrC τ tr no fo Ss Own H Z (if 0 ≤ al (me F.es h (s.d 1 k)) p then s.w 2 k (s.d 1 k + (F.es.length : Int)) else (s.w 2 k (s.d 1 k + (F.es.length : Int))).w 3 k 2) → AW g l (d + 1) MX10_layMagic 16 [some (vR 10 (some tr)), some (vR 5 (some (no k))), some (vR 2 (some fr)), some (vI (p : Int)), none, none] [] τ (fun v σ' => ∃ r, v = some (vI r) ∧ P r σ') := by
      intro j
      induction j with
      | zero =>
        intro p τ hp fτ Tτ
        have Eτ := hE.fr fτ
        have fcτ : FC τ dd c fr F := by rw [hfr]; exact Eτ.fdc fl F hF
        obtain ⟨b0, x1, x2, x3, x4⟩ := fcτ.es
        refine bk_X10_layMagic_16 ⟨fr, rfl, ?_⟩
        rw [x2]
        refine ⟨fun _ => ⟨_, rfl, ?_⟩, fun w => absurd (by omega) w⟩
        rw [show p = F.es.length by omega] at Tτ
        exact hP.t fτ Tτ
      | succ j ih =>
        intro p τ hp fτ Tτ
        have Eτ := hE.fr fτ
        have fcτ : FC τ dd c fr F := by rw [hfr]; exact Eτ.fdc fl F hF
        obtain ⟨b0, x1, x2, x3, x4⟩ := fcτ.es
        obtain ⟨⟨q1, q2, _⟩, ⟨b1, b2, b3, b4, _⟩, c1, ⟨_, _, d3⟩, _⟩ := id Eτ
        have lt : p < F.es.length := by omega
        have hget : F.es[p]? = some F.es[p] := List.getElem?_eq_getElem lt
        obtain ⟨_, y2, _⟩ := x4 p _ hget
        have eb := hes _ (List.getElem_mem lt)
        have ht : ∀ t : TS, t = (if 0 ≤ al (me F.es h (s.d 1 k)) p then s.w 2 k (s.d 1 k + (F.es.length : Int)) else (s.w 2 k (s.d 1 k + (F.es.length : Int))).w 3 k 2) → t.d 1 k = s.d 1 k := fun t et => by
          rw [et]
          by_cases z : 0 ≤ al (me F.es h (s.d 1 k)) p
          · rw [if_pos z]; exact w_ne (by decide)
          · rw [if_neg z, w_ne (by decide)]; exact w_ne (by decide)
        have n2 := (Tτ.2.2.2.1 k (by
          by_cases z : 0 ≤ al (me F.es h (s.d 1 k)) p
          · rw [if_pos z]; exact hk
          · rw [if_neg z]; exact hk)).1.2.1
        rw [ht _ rfl] at n2
        have step : me F.es h (s.d 1 k) (p : Int) = 0 → TrC τ tr no fo Ss Own H Z (if 0 ≤ al (me F.es h (s.d 1 k)) (p + 1) then s.w 2 k (s.d 1 k + (F.es.length : Int)) else (s.w 2 k (s.d 1 k + (F.es.length : Int))).w 3 k 2) := fun z => by
          rw [show al (me F.es h (s.d 1 k)) (p + 1) = al (me F.es h (s.d 1 k)) p by rw [al, if_pos z]]; exact Tτ
        have mev : me F.es h (s.d 1 k) (p : Int) = if F.es[p].2.1.toInt < 0 ∨ F.es[p].2.1 = i2j (h (s.d 1 k + (p : Int))) then 0 else 1 := by
          unfold me
          rw [Int.toNat_natCast, hget]
        refine bk_X10_layMagic_16 ⟨fr, rfl, ?_⟩
        rw [x2, x1]
        refine ⟨fun w => absurd w (by omega), fun _ => ⟨dd, q2, c1.1, ⟨by omega, by omega⟩, ⟨by omega, by omega⟩, ?_⟩⟩
        rw [show ((b0 : Int) + (p : Int)).toNat = b0 + p by omega, y2]
        refine ⟨fun w => ⟨⟨by omega, by omega⟩, ?_⟩, fun w => ⟨no k, rfl, ?_⟩⟩
        · rw [show (p : Int) + 1 = ((p + 1 : Nat) : Int) by omega]
          exact ih (p + 1) τ (by omega) fτ (step (by rw [mev, if_pos (Or.inl (by rw [w]; decide))]))
        · rw [n2]
          refine ⟨⟨by omega, by omega⟩, a, q1, x_has b1 (by omega) (fun u => absurd ⟨by omega, by rw [b2]; omega⟩ u) (fun u0 u1 => ?_)⟩
          rw [b4 _ (by omega) (by omega)]
          refine ⟨fun z => ⟨⟨by omega, by omega⟩, ?_⟩, fun z => ⟨⟨by omega, by omega⟩, ?_⟩⟩
          · rw [show (p : Int) + 1 = ((p + 1 : Nat) : Int) by omega]
            exact ih (p + 1) τ (by omega) fτ (step (by rw [mev, if_pos (Or.inr z)]))
          · rw [show (p : Int) + 1 = ((p + 1 : Nat) : Int) by omega]
            have nn : ¬ (F.es[p].2.1.toInt < 0 ∨ F.es[p].2.1 = i2j (h (s.d 1 k + (p : Int)))) := fun u => by
              rcases u with u | u
              · exact w (Int64.toInt_inj.mp (show F.es[p].2.1.toInt = (-1 : Int64).toInt by rw [show (-1 : Int64).toInt = -1 by decide]; omega))
              · exact z u
            have z1 : ¬ 0 ≤ al (me F.es h (s.d 1 k)) (p + 1) := by
              rw [al, if_neg (by rw [mev, if_neg nn]; decide)]; decide
            refine ih (p + 1) _ (by omega) (fτ.trans ((Frm.sI (LyF.o (hT.own hk) (by decide) (by decide))).fr)) ?_
            rw [if_neg z1]
            by_cases z2 : 0 ≤ al (me F.es h (s.d 1 k)) p
            · rw [if_pos z2] at Tτ; exact Tτ.w (f := 3) hk (by omega)
            · rw [if_neg z2] at Tτ
              have := Tτ.w (k := k) (f := 3) (v := 2) hk (by omega)
              rw [w_w] at this
              exact this
    exact loop F.es.length 0 σ3 (by omega) f3 (by rw [if_pos (by show (0 : Int) ≤ 0; omega)]; exact T3)
  · rw [if_neg q] at hP
    exact hP.f f3 T3
end N5
