/-! descriptions: what is told, and how it is read -/
abbrev Ent := Int64 × Int64 × Int
abbrev Exr := Option (List Nd)
/-- a field: kind, name, type, what it is of, its pairs, if, first, second, number, else, entries, aim -/
abbrev Fld := Int × Int64 × Int64 × Int × Int × Exr × Exr × Exr × Int64 × Int × List Ent × Int64 × Int
abbrev Fld.ki (F : Fld) : Int := F.1
abbrev Fld.nm (F : Fld) : Int64 := F.2.1
abbrev Fld.ty (F : Fld) : Int64 := F.2.2.1
abbrev Fld.st (F : Fld) : Int := F.2.2.2.1
abbrev Fld.pr (F : Fld) : Int := F.2.2.2.2.1
abbrev Fld.ec (F : Fld) : Exr := F.2.2.2.2.2.1
abbrev Fld.e1 (F : Fld) : Exr := F.2.2.2.2.2.2.1
abbrev Fld.e2 (F : Fld) : Exr := F.2.2.2.2.2.2.2.1
abbrev Fld.nu (F : Fld) : Int64 := F.2.2.2.2.2.2.2.2.1
abbrev Fld.ot (F : Fld) : Int := F.2.2.2.2.2.2.2.2.2.1
abbrev Fld.es (F : Fld) : List Ent := F.2.2.2.2.2.2.2.2.2.2.1
abbrev Fld.an (F : Fld) : Int64 := F.2.2.2.2.2.2.2.2.2.2.2.1
abbrev Fld.ap (F : Fld) : Int := F.2.2.2.2.2.2.2.2.2.2.2.2
def fld0 : Fld := (-1, 0, 0, -1, -1, none, none, none, 0, -1, [], 0, 0)
abbrev Fld.wKi (F : Fld) (v : Int) : Fld := (v, F.nm, F.ty, F.st, F.pr, F.ec, F.e1, F.e2, F.nu, F.ot, F.es, F.an, F.ap)
abbrev Fld.wNm (F : Fld) (v : Int64) : Fld := (F.ki, v, F.ty, F.st, F.pr, F.ec, F.e1, F.e2, F.nu, F.ot, F.es, F.an, F.ap)
abbrev Fld.wTy (F : Fld) (v : Int64) : Fld := (F.ki, F.nm, v, F.st, F.pr, F.ec, F.e1, F.e2, F.nu, F.ot, F.es, F.an, F.ap)
abbrev Fld.wSt (F : Fld) (v : Int) : Fld := (F.ki, F.nm, F.ty, v, F.pr, F.ec, F.e1, F.e2, F.nu, F.ot, F.es, F.an, F.ap)
abbrev Fld.wPr (F : Fld) (v : Int) : Fld := (F.ki, F.nm, F.ty, F.st, v, F.ec, F.e1, F.e2, F.nu, F.ot, F.es, F.an, F.ap)
abbrev Fld.wEc (F : Fld) (v : Exr) : Fld := (F.ki, F.nm, F.ty, F.st, F.pr, v, F.e1, F.e2, F.nu, F.ot, F.es, F.an, F.ap)
abbrev Fld.wE1 (F : Fld) (v : Exr) : Fld := (F.ki, F.nm, F.ty, F.st, F.pr, F.ec, v, F.e2, F.nu, F.ot, F.es, F.an, F.ap)
abbrev Fld.wE2 (F : Fld) (v : Exr) : Fld := (F.ki, F.nm, F.ty, F.st, F.pr, F.ec, F.e1, v, F.nu, F.ot, F.es, F.an, F.ap)
abbrev Fld.wNu (F : Fld) (v : Int64) : Fld := (F.ki, F.nm, F.ty, F.st, F.pr, F.ec, F.e1, F.e2, v, F.ot, F.es, F.an, F.ap)
abbrev Fld.wOt (F : Fld) (v : Int) : Fld := (F.ki, F.nm, F.ty, F.st, F.pr, F.ec, F.e1, F.e2, F.nu, v, F.es, F.an, F.ap)
abbrev Fld.wEs (F : Fld) (v : List Ent) : Fld := (F.ki, F.nm, F.ty, F.st, F.pr, F.ec, F.e1, F.e2, F.nu, F.ot, v, F.an, F.ap)
abbrev Fld.wAm (F : Fld) (v : Int64) (w : Int) : Fld := (F.ki, F.nm, F.ty, F.st, F.pr, F.ec, F.e1, F.e2, F.nu, F.ot, F.es, v, w)
/-- a struct: name, fields, size (-1: none) -/
abbrev Stc := Int64 × List Fld × Int
/-- an enum: name, pairs -/
abbrev Enm := Int64 × List Ent
def idx : List Int64 → Int64 → Int → Int
  | [], _, _ => -1
  | a :: L, w, j => if a = w then j else idx L w (j + 1)
abbrev Rd (α : Type) := Except (Int × Int) α
def bx {α β : Type} (r : Rd α) (k : α → Rd β) : Rd β :=
  match r with
  | .error e => .error e
  | .ok a => k a
theorem bx_ok {α β : Type} {a : α} {k : α → Rd β} : bx (.ok a) k = k a := rfl
theorem bx_er {α β : Type} {e : Int × Int} {k : α → Rd β} : bx (.error e) k = .error e := rfl
/-- the width, whether with sign, whether highest first -/
def tw (t : Int64) : Int := t.toInt % 16
def tsg (t : Int64) : Int := if t.toInt / 16 % 2 = 0 then 0 else 1
def tbg (t : Int64) : Int := if t.toInt / 32 % 2 = 0 then 0 else 1
section RD
variable (X : Txt)
def tk (i : Nat) (w : Int) : Rd Nat := if X.k i = w then .ok (X.nx i) else .error (ck X i 2)
def tN (i : Nat) (lo hi : Int) : Rd (Nat × Int64) := if X.k i = 3 then (if lo ≤ (X.v i).toInt ∧ (X.v i).toInt ≤ hi then .ok (X.nx i, X.v i) else .error (ck X i 5)) else .error (ck X i 2)
def tS (i : Nat) : Rd (Nat × Int64) :=
  if X.k i = 45 then (if X.k (X.nx i) = 3 then .ok (X.nx (X.nx i), -(X.v (X.nx i))) else .error (ck X (X.nx i) 2))
  else (if X.k i = 3 then .ok (X.nx i, X.v i) else .error (ck X i 2))
def tT (i : Nat) : Rd (Nat × Int64) := if X.k i = 4 then .ok (X.nx i, X.v i) else .error (ck X i 2)
/-- a name that was told before -/
def tI (L : List Int64) (i : Nat) : Rd (Nat × Int) := if X.k i = 2 then (if idx L (X.v i) 0 = -1 then .error (ck X i 4) else .ok (X.nx i, idx L (X.v i) 0)) else .error (ck X i 2)
def tf (w : Int64) (F : Fld) : Bool := (F.nm == w) || (F.ki == 3 && F.es.any (fun e => e.1 == w))
/-- a new name -/
def tO (Fs : List Fld) (F : Fld) (i : Nat) : Rd (Nat × Int64) := if X.k i = 2 then (if (Fs ++ [F]).any (tf (X.v i)) = true then .error (ck X i 3) else .ok (X.nx i, X.v i)) else .error (ck X i 2)
def opn : List Fld → Int64 → Int → Int
  | [], _, _ => -1
  | F :: Fs, w, f => if (F.ki = 1 ∨ F.ki = 10 ∨ F.ki = 7) ∧ F.nm = w then 13 * f else if F.ki = 3 ∧ ¬ idx (F.es.map (fun e => e.1)) w 0 = -1 then 13 * f + 1 + idx (F.es.map (fun e => e.1)) w 0 else opn Fs w (f + 1)
def rx (Fs : List Fld) (i : Nat) : Rd (Nat × List Nd) :=
  match rl X (fun w => opn Fs w 0) (7 * (X.K - i) + 8) none 0 0 i [] with
  | some r => r
  | none => .error (0, 0)
variable (En : List Enm) (Ss : List Stc) (Fs : List Fld)
/-- may a core begin here -/
def tC (i : Nat) : Rd Unit :=
  if X.k i = 4 ∨ X.k i = 204 ∨ X.k i = 205 ∨ X.k i = 207 ∨ X.k i = 210 ∨ X.k i = 214 ∨ X.k i = 215 ∨ X.k i = 216 then .ok ()
  else if X.k i = 2 then (if idx (Ss.map (fun s => s.1)) (X.v i) 0 = -1 then .error (ck X i 4) else .ok ()) else .error (ck X i 2)
def szS (s : Int) : Int := if s < 0 then -1 else match Ss[s.toNat]? with
  | some a => a.2.2
  | none => -1
def rTail (F : Fld) (i : Nat) : Rd (Nat × Fld) :=
  if F.ki = 1 ∧ X.k i = 203 then bx (tI X (En.map (fun e => e.1)) (X.nx i)) (fun r => .ok (r.1, F.wPr r.2))
  else if X.k i = 91 then
    (if X.k (X.nx i) = 93 then (if F.st = -1 ∨ 0 < szS Ss F.st then .ok (X.nx (X.nx i), F.wKi 2) else .error (ck X (X.nx i) 6))
    else bx (rx X Fs (X.nx i)) (fun r => bx (tk X r.1 93) (fun j => .ok (j, (F.wKi 2).wE1 (some r.2)))))
  else .ok (i, F)
def rWhole (F : Fld) (i : Nat) : Rd (Nat × Fld) := bx (tT X i) (fun r => bx (tO X Fs ((F.wKi 1).wTy r.2) r.1) (fun q => rTail X En Ss Fs (((F.wKi 1).wTy r.2).wNm q.2) q.1))
def rStruct (F : Fld) (i : Nat) : Rd (Nat × Fld) := bx (tI X (Ss.map (fun s => s.1)) i) (fun r => bx (tO X Fs ((F.wKi 0).wSt r.2) r.1) (fun q => rTail X En Ss Fs (((F.wKi 0).wSt r.2).wNm q.2) q.1))
def rPart (F : Fld) (bit : Int) (i : Nat) : Rd (Nat × Fld × Int) :=
  bx (tO X Fs F i) (fun q => if F.es.length < 12 then bx (tk X q.1 58) (fun j => bx (tN X j 1 (if 64 ≤ 8 * tw F.ty - bit then 64 else 8 * tw F.ty - bit)) (fun r => .ok (r.1, F.wEs (F.es ++ [(q.2, r.2, bit)]), bit + r.2.toInt))) else .error (ck X i 5))
def rParts : Nat → Fld → Int → Nat → Rd (Nat × Fld)
  | 0, _, _, _ => .error (0, 0)
  | f + 1, F, bit, i => bx (rPart X Fs F bit i) (fun r => if X.k r.1 = 44 then rParts f r.2.1 r.2.2 (X.nx r.1) else .ok (r.1, r.2.1))
def rBits (F : Fld) (i : Nat) : Rd (Nat × Fld) :=
  bx (tT X (X.nx i)) (fun r => bx (tO X Fs ((F.wKi 3).wTy r.2) r.1) (fun q => bx (tk X q.1 123) (fun j => bx (rParts X Fs 13 (((F.wKi 3).wTy r.2).wNm q.2) 0 j) (fun r2 => bx (tk X r2.1 125) (fun j2 => .ok (j2, r2.2))))))
def rText (F : Fld) (i : Nat) : Rd (Nat × Fld) :=
  bx (tO X Fs (F.wKi 5) (X.nx i)) (fun q => if X.k q.1 = 91 then bx (rx X Fs (X.nx q.1)) (fun r => bx (tk X r.1 93) (fun j => .ok (j, ((F.wKi 5).wNm q.2).wE1 (some r.2))))
    else bx (tk X q.1 206) (fun j => bx (tN X j 0 255) (fun r => .ok (r.1, ((F.wKi 5).wNm q.2).wNu r.2))))
def rCase (F : Fld) (i : Nat) : Rd (Nat × Fld) :=
  if X.k i = 3 ∨ X.k i = 45 then (if F.es.length < 8 then bx (tS X i) (fun r => bx (tk X r.1 58) (fun j => bx (tI X (Ss.map (fun s => s.1)) j) (fun q => bx (tk X q.1 59) (fun j2 => .ok (j2, F.wEs (F.es ++ [(0, r.2, q.2)])))))) else .error (ck X i 5)) else .error (ck X i 2)
def rCases : Nat → Fld → Nat → Rd (Nat × Fld)
  | 0, _, _ => .error (0, 0)
  | f + 1, F, i => bx (rCase X Ss F i) (fun r => if X.k r.1 = 3 ∨ X.k r.1 = 45 then rCases f r.2 r.1 else .ok r)
def rUnion (F : Fld) (i : Nat) : Rd (Nat × Fld) :=
  bx (tO X Fs (F.wKi 6) (X.nx i)) (fun q => bx (tk X q.1 208) (fun j => bx (rx X Fs j) (fun e => bx (tk X e.1 123) (fun j2 => bx (rCases X Ss 9 (((F.wKi 6).wNm q.2).wE1 (some e.2)) j2) (fun r =>
    if X.k r.1 = 209 then bx (tI X (Ss.map (fun s => s.1)) (X.nx r.1)) (fun o => bx (tk X o.1 59) (fun j3 => bx (tk X j3 125) (fun j4 => .ok (j4, r.2.wOt o.2))))
    else bx (tk X r.1 125) (fun j4 => .ok (j4, r.2)))))))
def rPtr (F : Fld) (i : Nat) : Rd (Nat × Fld) :=
  bx (tk X (X.nx i) 2) (fun j => bx (tO X Fs (((F.wKi 7).wNu 1).wAm (X.v (X.nx i)) (X.q (X.nx i))) j) (fun q => bx (tk X q.1 208) (fun j2 => bx (tT X j2) (fun r =>
    bx (if X.k r.1 = 211 then bx (rx X Fs (X.nx r.1)) (fun e => .ok (e.1, some e.2)) else (.ok (r.1, none) : Rd (Nat × Exr))) (fun e =>
      if X.k e.1 = 213 then bx (tN X (X.nx e.1) 1 4096) (fun n => .ok (n.1, ((((((F.wKi 7).wNu 1).wAm (X.v (X.nx i)) (X.q (X.nx i))).wNm q.2).wTy r.2).wE1 e.2).wNu n.2))
      else .ok (e.1, (((((F.wKi 7).wNu 1).wAm (X.v (X.nx i)) (X.q (X.nx i))).wNm q.2).wTy r.2).wE1 e.2))))))
def rPad (F : Fld) (i : Nat) : Rd (Nat × Fld) := bx (tN X (X.nx i) 1 64) (fun n => .ok (n.1, (F.wKi 8).wNu n.2))
def rByte (F : Fld) (i : Nat) : Rd (Nat × Fld) :=
  if X.k i = 3 ∨ X.k i = 42 then (if F.es.length < 16 then (if X.k i = 42 then .ok (X.nx i, F.wEs (F.es ++ [(0, -1, 0)])) else bx (tN X i 0 255) (fun n => .ok (n.1, F.wEs (F.es ++ [(0, n.2, 0)])))) else .error (ck X i 5)) else .error (ck X i 2)
def rBytes : Nat → Fld → Nat → Rd (Nat × Fld)
  | 0, _, _ => .error (0, 0)
  | f + 1, F, i => bx (rByte X F i) (fun r => if X.k r.1 = 3 ∨ X.k r.1 = 42 then rBytes f r.2 r.1 else .ok r)
def rMagic (F : Fld) (i : Nat) : Rd (Nat × Fld) := bx (tO X Fs (F.wKi 9) (X.nx i)) (fun q => bx (tk X q.1 61) (fun j => rBytes X 17 ((F.wKi 9).wNm q.2) j))
def rSum (F : Fld) (i : Nat) : Rd (Nat × Fld) :=
  if 217 ≤ X.k (X.nx i) ∧ X.k (X.nx i) ≤ 220 then
    bx (tT X (X.nx (X.nx i))) (fun r => bx (tO X Fs (((F.wKi 10).wNu (i2j (X.k (X.nx i)))).wTy r.2) r.1) (fun q => bx (tk X q.1 221) (fun j => bx (rx X Fs j) (fun a => bx (tk X a.1 44) (fun j2 => bx (rx X Fs j2) (fun b =>
      .ok (b.1, (((((F.wKi 10).wNu (i2j (X.k (X.nx i)))).wTy r.2).wNm q.2).wE1 (some a.2)).wE2 (some b.2))))))))
  else .error (ck X (X.nx i) 2)
def rCore (F : Fld) (i : Nat) : Rd (Nat × Fld) :=
  if X.k i = 4 then rWhole X En Ss Fs F i else if X.k i = 2 then rStruct X En Ss Fs F i else if X.k i = 204 then rBits X Fs F i else if X.k i = 205 then rText X Fs F i else if X.k i = 207 then rUnion X Ss Fs F i
  else if X.k i = 210 then rPtr X Fs F i else if X.k i = 214 then rPad X F i else if X.k i = 215 then rMagic X Fs F i else rSum X Fs F i
def rField (i : Nat) : Rd (Nat × Fld) :=
  bx (if X.k i = 202 then .ok () else tC X Ss i) (fun _ => if Fs.length < 14 then
    bx (if X.k i = 202 then bx (rx X Fs (X.nx i)) (fun e => bx (tk X e.1 58) (fun j => bx (tC X Ss j) (fun _ => .ok (j, fld0.wEc (some e.2))))) else (.ok (i, fld0) : Rd (Nat × Fld)))
      (fun r => bx (rCore X En Ss Fs r.2 r.1) (fun q => bx (tk X q.1 59) (fun j => .ok (j, q.2)))) else .error (ck X i 5))
end RD
def rFields (X : Txt) (En : List Enm) (Ss : List Stc) : Nat → List Fld → Nat → Rd (Nat × List Fld)
  | 0, _, _ => .error (0, 0)
  | f + 1, Fs, i => if X.k i = 125 then .ok (i, Fs) else bx (rField X En Ss Fs i) (fun r => rFields X En Ss f (Fs ++ [r.2]) r.1)
/-! sizes -/
def alone (e : Exr) (most : Int) : Int :=
  match e with
  | some [x] => if x.o = 3 ∧ x.v.toInt ≤ most then x.v.toInt else -1
  | _ => -1
def szF (Ss : List Stc) (F : Fld) (before : Int) : Int :=
  if ¬ F.ec = none then -1
  else if F.ki = 0 then szS Ss F.st
  else if F.ki = 2 then (if alone F.e1 200 = -1 ∨ (if F.st = -1 then tw F.ty else szS Ss F.st) = -1 then -1 else alone F.e1 200 * (if F.st = -1 then tw F.ty else szS Ss F.st))
  else if F.ki = 5 then alone F.e1 2000
  else if F.ki = 6 then (if F.es.all (fun e => szS Ss e.2.2 == szS Ss F.ot) = true then szS Ss F.ot else -1)
  else if F.ki = 8 then (if F.nu.toInt < 1 then 0 else (-before) % F.nu.toInt)
  else if F.ki = 9 then F.es.length
  else tw F.ty
def szA (Ss : List Stc) : List Fld → Int → Int
  | [], a => if 1000000 < a then -1 else a
  | F :: Fs, a => if szF Ss F a < 0 then -1 else szA Ss Fs (a + szF Ss F a)
/-! items -/
section RD2
variable (X : Txt)
def tW (En : List Enm) (Ss : List Stc) (i : Nat) : Rd (Nat × Int64) :=
  if X.k i = 2 then (if idx (En.map (fun e => e.1)) (X.v i) 0 = -1 ∧ idx (Ss.map (fun e => e.1)) (X.v i) 0 = -1 then .ok (X.nx i, X.v i) else .error (ck X i 3)) else .error (ck X i 2)
def rStr (En : List Enm) (Ss : List Stc) (i : Nat) : Rd (Nat × Stc) :=
  if Ss.length < 20 then bx (tW X En Ss (X.nx i)) (fun q => bx (tk X q.1 123) (fun j => bx (rFields X En Ss 15 [] j) (fun r => .ok (X.nx r.1, (q.2, r.2, szA Ss r.2 0))))) else .error (ck X i 5)
def rPair (Ps : List Ent) (i : Nat) : Rd (Nat × List Ent) :=
  if X.k i = 2 then (if idx (Ps.map (fun e => e.1)) (X.v i) 0 = -1 then (if Ps.length < 10 then bx (tk X (X.nx i) 61) (fun j => bx (tS X j) (fun r => .ok (r.1, Ps ++ [(X.v i, r.2, 0)]))) else .error (ck X i 5)) else .error (ck X i 3)) else .error (ck X i 2)
def rPairs : Nat → List Ent → Nat → Rd (Nat × List Ent)
  | 0, _, _ => .error (0, 0)
  | f + 1, Ps, i => bx (rPair X Ps i) (fun r => if X.k r.1 = 44 then rPairs f r.2 (X.nx r.1) else .ok r)
def rEnm (En : List Enm) (Ss : List Stc) (i : Nat) : Rd (Nat × Enm) :=
  if En.length < 8 then bx (tW X En Ss (X.nx i)) (fun q => bx (tk X q.1 123) (fun j => bx (rPairs X 11 [] j) (fun r => bx (tk X r.1 125) (fun j2 => .ok (j2, (q.2, r.2)))))) else .error (ck X i 5)
def rItems : Nat → List Enm → List Stc → Nat → Rd (List Enm × List Stc)
  | 0, _, _, _ => .error (0, 0)
  | f + 1, En, Ss, i => if X.k i = 200 then bx (rEnm X En Ss i) (fun r => if X.k r.1 = 0 then .ok (En ++ [r.2], Ss) else rItems f (En ++ [r.2]) Ss r.1)
    else if X.k i = 201 then bx (rStr X En Ss i) (fun r => if X.k r.1 = 0 then .ok (En, Ss ++ [r.2]) else rItems f En (Ss ++ [r.2]) r.1)
    else .error (ck X i 2)
end RD2
/-- the aims are looked for behind all -/
def aim (Ns : List Int64) (F : Fld) : Rd Fld := if F.ki = 7 then (if idx Ns F.an 0 = -1 then .error (4, F.ap) else .ok (F.wSt (idx Ns F.an 0))) else .ok F
def aimF (Ns : List Int64) : List Fld → Rd (List Fld)
  | [] => .ok []
  | F :: Fs => bx (aim Ns F) (fun a => bx (aimF Ns Fs) (fun b => .ok (a :: b)))
def aimS (Ns : List Int64) : List Stc → Rd (List Stc)
  | [] => .ok []
  | s :: Ss => bx (aimF Ns s.2.1) (fun a => bx (aimS Ns Ss) (fun b => .ok ((s.1, a, s.2.2) :: b)))
def rDesc (X : Txt) : Rd (List Enm × List Stc) := bx (rItems X (X.K + 1) [] [] 0) (fun r => bx (aimS (r.2.map (fun s => s.1)) r.2) (fun s => .ok (r.1, s)))
