/-! laying, without a store; none: more nodes are wanted than there may be -/
abbrev LY := TS → Nat → Int → Option TS
abbrev OTB := Option (TS × Bool)
def mkM (s : TS) (what par place fld u2 u7 u8 : Int) (nm : Int64) : TS :=
  (s.c + 1,
   fun f i => if i = s.c then (if f = 0 then what else if f = 1 then place else if f = 2 then u2 else if f = 5 then par else if f = 6 then fld else if f = 7 then u7 else if f = 8 then u8 else if f = 9 then (if par < 0 then 0 else s.d 9 par.toNat + 1) else if f = 10 then nm.toInt else 0) else s.d f i,
   fun i => if i = s.c then [] else if par = (i : Int) then s.k i ++ [s.c] else s.k i)
def mkO (s : TS) (what par place fld u2 u7 u8 : Int) (nm : Int64) : Option TS := if s.c < 400 then some (mkM s what par place fld u2 u7 u8 nm) else none
def nmS (Ss : List Stc) (st : Int) : Int64 := match Ss[st.toNat]? with
  | some S => S.1
  | none => 0
/-- a struct that is no field -/
def addS (L : LY) (Ss : List Stc) (s : TS) (par st place : Int) : Option TS := match mkO s 0 par place (-1) place st 0 (nmS Ss st) with
  | none => none
  | some s1 => L s1 s.c st
/-- n bytes given to node k -/
def covB (len : Int) (s : TS) (k : Nat) (n : Int) (f : TS → OTB) : OTB := if n ≤ len - s.d 1 k then f (s.w 2 k (s.d 1 k + n)) else some (s.w 3 k 1, false)
def arS (L : LY) (Ss : List Stc) (k : Nat) (st : Int) : Nat → TS → Option TS
  | 0, s => some s
  | n + 1, s => match addS L Ss s k st (s.d 2 k) with
    | none => none
    | some s1 => arS L Ss k st n (s1.w 2 k (s1.d 2 s.c))
def arW (len : Int) (k : Nat) (w fl : Int) : Nat → TS → OTB
  | 0, s => some (s, true)
  | n + 1, s => match mkO s 1 k (s.d 2 k) fl (s.d 2 k) (-1) 0 0 with
    | none => none
    | some s1 => if w ≤ len - s.d 2 k then arW len k w fl n ((s1.w 2 s.c (s.d 2 k + w)).w 2 k (s.d 2 k + w)) else some (s1.w 3 s.c 1, false)
/-- parts from p on -/
def btO (k : Nat) (fl : Int) : List Ent → Nat → TS → Option TS
  | [], _, s => some s
  | e :: es, p, s => match mkO s 4 k (s.d 1 k) fl (s.d 2 k) (-1) ((p : Int) + 1) e.1 with
    | none => none
    | some s1 => btO k fl es (p + 1) s1
/-- the first place from p on where n is, or the end -/
def utl (h : Int → Int) (len n : Int) : Nat → Int → Int
  | 0, p => p
  | j + 1, p => if p < len ∧ ¬ h p = n then utl h len n j (p + 1) else p
def prW (En : List Enm) (pr : Int) (v : Int64) : Bool := match En[pr.toNat]? with
  | none => false
  | some E => E.2.any (fun e => e.2.1 == v)
/-- is a struct st from place a above -/
def abv (s : TS) (st a : Int) : Nat → Int → Bool
  | 0, _ => false
  | n + 1, p => if p < 0 then false else if s.d 0 p.toNat = 0 ∧ s.d 7 p.toNat = st ∧ s.d 1 p.toNat = a then true else abv s st a n (s.d 5 p.toNat)
def stp (way : Int) (v : Int64) (b : Int) : Int64 := if way = 218 then v ^^^ i2j b else if way = 220 then v * 31 + i2j b else v + i2j b
/-- the bytes of n places from p on, but for those of x to y -/
def dueL (h : Int → Int) (way x y : Int) : Nat → Int → Int64 → Int64
  | 0, _, v => v
  | n + 1, p, v => dueL h way x y n (p + 1) (if x ≤ p ∧ p < y then v else stp way v (h p))
def dueV (h : Int → Int) (way x y a b : Int) : Int64 := if way = 219 then -1 - dueL h way x y (b - a).toNat a 0 else dueL h way x y (b - a).toNat a 0
section LY
variable (En : List Enm) (Ss : List Stc) (h : Int → Int) (len : Int)
def amtB (s : TS) (i k : Nat) (N : List Nd) (most : Int) (f : Int → OTB) : OTB := match evE (s.d 1 k) len (s.d 1 i) (nmV Ss h s i) N with
  | none => some (s.w 3 k 6, true)
  | some v => if v.toInt < 0 ∨ most < v.toInt then some (s.w 3 k 5, true) else f v.toInt
def eachN (F : Fld) : Int := if F.st = -1 then tw F.ty else szS Ss F.st
def filN (s : TS) (k : Nat) (F : Fld) : Int := if 0 < eachN Ss F then min 200 ((len - s.d 1 k) / eachN Ss F) else 0
def arB (L : LY) (k : Nat) (fl : Int) (F : Fld) (n : Nat) (s : TS) : OTB := if F.st = -1 then arW len k (tw F.ty) fl n s else (arS L Ss k F.st n s).map (fun s => (s, true))
def lyAr (L : LY) (s : TS) (i k : Nat) (fl : Int) (F : Fld) : OTB := match F.e1 with
  | none => arB Ss len L k fl F (filN Ss len s k F).toNat s
  | some N => amtB Ss h len s i k N 200 (fun n => arB Ss len L k fl F n.toNat s)
def lyTx (s : TS) (i k : Nat) (F : Fld) : OTB := match F.e1 with
  | none => covB len s k (utl h len F.nu.toInt (len - s.d 1 k).toNat (s.d 1 k) + 1 - s.d 1 k) (fun s => some (s, true))
  | some N => amtB Ss h len s i k N 2000 (fun n => covB len s k n (fun s => some (s, true)))
def tgt (F : Fld) (v : Int64) : Int := match F.es.find? (fun e => e.2.1 == v) with
  | some e => e.2.2
  | none => F.ot
def lyUn (L : LY) (s : TS) (i k : Nat) (F : Fld) : OTB := match F.e1 with
  | none => some (s, true)
  | some N => match evE (s.d 1 k) len (s.d 1 i) (nmV Ss h s i) N with
    | none => some (s.w 3 k 6, true)
    | some v => if tgt F v = -1 then some (s.w 3 k 7, true) else match addS L Ss s k (tgt F v) (s.d 1 k) with
      | none => none
      | some s1 => some (s1.w 2 k (s1.d 2 s.c), true)
def lyPa (L : LY) (s : TS) (k : Nat) (F : Fld) (v : Int64) : OTB :=
  if v.toInt < 0 ∨ len ≤ v.toInt then some (s.w 3 k 8, true) else if abv s F.st v.toInt s.c (s.d 5 k) = true then some (s.w 4 k 1, true) else match addS L Ss s k F.st v.toInt with
    | none => none
    | some s1 => some (s1, true)
def lyPt (L : LY) (s : TS) (i k : Nat) (F : Fld) : OTB := match F.e1 with
  | none => lyPa Ss len L s k F (vlN Ss h s k * F.nu)
  | some N => match evE (s.d 1 k) len (s.d 1 i) (nmV Ss h s i) N with
    | none => some (s.w 3 k 6, true)
    | some v => lyPa Ss len L s k F (vlN Ss h s k * F.nu + v)
/-- the places of a sum, or its fault -/
def sumB (s : TS) (i k : Nat) (F : Fld) : Except Int (Int × Int) := match F.e1, F.e2 with
  | some N, some M => (match evE (s.d 1 k) len (s.d 1 i) (nmV Ss h s i) N, evE (s.d 1 k) len (s.d 1 i) (nmV Ss h s i) M with
    | some a, some b => if a.toInt < 0 ∨ b.toInt < a.toInt ∨ len - s.d 1 i < b.toInt then .error 5 else .ok (a.toInt, b.toInt)
    | _, _ => .error 6)
  | _, _ => .error 6
def lySm (s : TS) (i k : Nat) (F : Fld) : TS := match sumB Ss h len s i k F with
  | .error e => s.w 3 k e
  | .ok r => if rdP h F.ty (s.d 1 k) = dueV h F.nu.toInt (s.d 1 k) (s.d 2 k) (s.d 1 i + r.1) (s.d 1 i + r.2) &&& mkv (8 * tw F.ty) then s else s.w 3 k 3
def bdF (L : LY) (s : TS) (i k : Nat) (fl : Int) (F : Fld) : OTB :=
  if F.ki = 0 then (L s k F.st).map (fun s => (s, true))
  else if F.ki = 1 then covB len s k (tw F.ty) (fun s => some (if 0 ≤ F.pr ∧ prW En F.pr (vlN Ss h s k) = false then s.w 3 k 4 else s, true))
  else if F.ki = 2 then lyAr Ss h len L s i k fl F
  else if F.ki = 3 then covB len s k (tw F.ty) (fun s => (btO k fl F.es 0 s).map (fun s => (s, true)))
  else if F.ki = 5 then lyTx Ss h len s i k F
  else if F.ki = 6 then lyUn Ss h len L s i k F
  else if F.ki = 7 then covB len s k (tw F.ty) (fun s => lyPt Ss h len L s i k F)
  else if F.ki = 8 then covB len s k ((F.nu.toInt - (s.d 1 k - s.d 1 i) % F.nu.toInt) % F.nu.toInt) (fun s => some (s, true))
  else if F.ki = 9 then covB len s k F.es.length (fun s => some (if 0 ≤ al (me F.es h (s.d 1 k)) F.es.length then s else s.w 3 k 2, true))
  else covB len s k (tw F.ty) (fun s => some (lySm Ss h len s i k F, true))
def lyF (L : LY) (s : TS) (i : Nat) (fl : Int) (F : Fld) : OTB := match mkO s F.ki i (s.d 2 i) fl (s.d 2 i) (if F.ki = 0 then F.st else -1) 0 F.nm with
  | none => none
  | some s1 => match bdF En Ss h len L s1 i s.c fl F with
    | none => none
    | some r => some (r.1.w 2 i (r.1.d 2 s.c), r.2)
/-- is a field there -/
def thr (s : TS) (i : Nat) (F : Fld) : TS × Bool := match F.ec with
  | none => (s, true)
  | some N => match evE (s.d 2 i) len (s.d 1 i) (nmV Ss h s i) N with
    | none => (if s.d 3 i = 0 then s.w 3 i 6 else s, false)
    | some v => (s, decide (¬ v = 0))
def lyFs (L : LY) (i : Nat) (st : Int) : List Fld → Nat → TS → Option TS
  | [], _, s => some s
  | F :: Fs, k, s => if (thr Ss h len s i F).2 = true then
      match lyF En Ss h len L (thr Ss h len s i F).1 i (14 * st + k) F with
      | none => none
      | some r => if r.2 = true then lyFs L i st Fs (k + 1) r.1 else some r.1
    else lyFs L i st Fs (k + 1) (thr Ss h len s i F).1
def lyS : Nat → LY
  | 0 => fun s i _ => some (s.w 3 i 9)
  | r + 1 => fun s i st => match Ss[st.toNat]? with
    | none => some s
    | some S => lyFs En Ss h len (lyS r) i st S.2.1 0 s
def lyT (st place : Int) : Option TS := addS (lyS En Ss h len 20) Ss (0, fun _ _ => 0, fun _ => []) (-1) st place
end LY
/-! what is kept -/
def NdV (Ss : List Stc) (len : Int) (s : TS) (i : Nat) : Prop :=
  (0 ≤ s.d 1 i ∧ s.d 1 i ≤ s.d 2 i ∧ s.d 2 i ≤ len) ∧ (0 ≤ s.d 0 i ∧ s.d 0 i ≤ 10) ∧
  (s.d 6 i = -1 ∧ s.d 0 i = 0 ∨ 0 ≤ s.d 6 i ∧ ∃ F, gF Ss (s.d 6 i) = some F ∧ (s.d 0 i = F.ki ∧ ¬ F.ki = 4 ∨ s.d 0 i = 4 ∧ F.ki = 3 ∧ 1 ≤ s.d 8 i ∧ s.d 8 i ≤ F.es.length ∨ s.d 0 i = 1 ∧ F.ki = 2 ∧ F.st = -1) ∧ (isNu (s.d 0 i) → TyR F.ty)) ∧
  (s.d 0 i = 0 → 0 ≤ s.d 7 i ∧ s.d 7 i < Ss.length) ∧ s.d 10 i = (nmN Ss s i).toInt
def NdU (Ss : List Stc) (len : Int) (s : TS) (i : Nat) : Prop := ∀ F, gF Ss (s.d 6 i) = some F → (isNu (s.d 0 i) → ¬ s.d 3 i = 1 → s.d 1 i + tw F.ty ≤ len) ∧ (s.d 0 i = 5 → F.e1 = none → ¬ s.d 3 i = 1 → s.d 1 i + 1 ≤ s.d 2 i)
def NdK (s : TS) (i : Nat) : Prop := (s.k i).Pairwise (fun a b => a < b) ∧ (∀ x ∈ s.k i, x < s.c ∧ s.d 5 x = (i : Int)) ∧ -1 ≤ s.d 5 i ∧ s.d 5 i < i
def NdB (Ss : List Stc) (s : TS) (i : Nat) : Prop := (s.d 0 i = 0 → StK Ss s i) ∧ (s.d 0 i = 3 → BiK s i ∧ ∀ x ∈ s.k i, s.d 0 x = 4)
def TI (Ss : List Stc) (len : Int) (s : TS) : Prop := s.c ≤ 400 ∧ ∀ i, i < s.c → NdV Ss len s i ∧ NdK s i ∧ NdB Ss s i
def TU (Ss : List Stc) (len : Int) (s : TS) : Prop := ∀ i, i < s.c → NdU Ss len s i
theorem inc_len : ∀ (A : List Nat) (n : Nat), A.Pairwise (fun a b => a < b) → (∀ x ∈ A, x < n) → A.length ≤ n
  | [], _, _, _ => Nat.zero_le _
  | a :: A, n, hp, hl => by
    obtain ⟨p1, p2⟩ := List.pairwise_cons.mp hp
    have ha := hl a (List.mem_cons_self ..)
    have key : ∀ (B : List Nat) (lo hi : Nat), B.Pairwise (fun a b => a < b) → (∀ x ∈ B, lo < x ∧ x < hi) → lo < hi → B.length + lo < hi := by
      intro B
      induction B with
      | nil => intro lo hi _ _ hlt; show 0 + lo < hi; omega
      | cons b B ih =>
        intro lo hi hp hb hlt
        obtain ⟨q1, q2⟩ := List.pairwise_cons.mp hp
        have hb0 := hb b (List.mem_cons_self ..)
        have := ih b hi q2 (fun x hx => ⟨q1 x hx, (hb x (List.mem_cons_of_mem _ hx)).2⟩) hb0.2
        show B.length + 1 + lo < hi
        omega
    have := key A a n p2 (fun x hx => ⟨p1 x hx, hl x (List.mem_cons_of_mem _ hx)⟩) ha
    show A.length + 1 ≤ n
    omega
section LT
variable {En : List Enm} {Ss : List Stc} {h : Int → Int} {len : Int} {s : TS} {i k : Nat}
theorem w_ne {f' f j : Nat} {v : Int} (hn : ¬ f' = f) : (s.w f k v).d f' j = s.d f' j := if_neg (fun q => hn q.1)
theorem w_nk {f' f j : Nat} {v : Int} (hn : ¬ j = k) : (s.w f k v).d f' j = s.d f' j := if_neg (fun q => hn q.2)
theorem w_at {f : Nat} {v : Int} : (s.w f k v).d f k = v := if_pos ⟨rfl, rfl⟩
/-- what is told of a node by its own -/
theorem TI.ndw (hT : TI Ss len s) (hU : TU Ss len s) (hi : i < s.c) : NdW Ss len s i := by
  obtain ⟨⟨v1, v2, v3, v4, _⟩, ⟨k1, k2, _⟩, _⟩ := hT.2 i hi
  refine ⟨v1, v2, ?_, Nat.le_trans (inc_len _ s.c k1 (fun x hx => (k2 x hx).1)) hT.1, v4⟩
  rcases v3 with v3 | ⟨q0, F, q1, q2, q3⟩
  · exact Or.inl v3
  · obtain ⟨u1, u2⟩ := hU i hi F q1
    exact Or.inr ⟨q0, F, q1, q2, fun nn => ⟨q3 nn, u1 nn⟩, u2⟩
end LT
