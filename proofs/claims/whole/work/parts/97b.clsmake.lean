/-! the class makes a node -/
section N2
variable {g : GP} {l : Launch} {d : Nat} {σ σ' : St} {tr a dd c rk H Z i k : Nat} {no : Nat → Nat} {so : Nat → Nat} {fo : Nat → Nat → Nat} {En : List Enm} {Ss : List Stc} {s : TS} {h : Int → Int} {len : Int} {Own : Nat → Prop}
theorem LyF.t {f : Nat} (hf : f = 1003 ∨ f = 1004 ∨ f = 1005 ∨ f = 1008 ∨ f = 1009) : LyF tr rk Own f tr := Or.inl ⟨rfl, hf⟩
theorem LyF.o {f r : Nat} (hr : Own r) (h0 : 501 ≤ f) (h1 : f ≤ 516) : LyF tr rk Own f r := Or.inr (Or.inr ⟨hr, h0, h1⟩)
/-- the objects of nodes, one more -/
def noA (no : Nat → Nat) (n r : Nat) (j : Nat) : Nat := if j = n then r else no j
theorem noA_o {n r j : Nat} (hj : ¬ j = n) : noA no n r j = no j := if_neg hj
theorem noA_n {n r : Nat} : noA no n r n = r := if_pos rfl
theorem map_no {n r : Nat} {o : Option Nat} (ho : ∀ a, o = some a → a < n) : o.map (noA no n r) = o.map no := by
  cases o with
  | none => rfl
  | some a => show some (noA no n r a) = some (no a); rw [noA_o (by have := ho a rfl; omega)]
theorem oN_no {n r : Nat} {v : Int} (hv : v < n) : oN (noA no n r) v = oN no v := by
  unfold oN
  by_cases q : v < 0
  · rw [if_pos q, if_pos q]
  · rw [if_neg q, if_neg q, noA_o (by omega)]
theorem NdC.agn (hN : NdC σ no fo Ss s i) (hi : i < s.c) (hk : ∀ x ∈ s.k i, x < s.c) (hA : ∀ f j, 501 ≤ f → f ≤ 516 → j < s.c → Agr σ σ' f (no j) 0) : NdC σ' no fo Ss s i := by
  obtain ⟨n1, n2, n3, n4, n5, n6, n7, n8, n9, n10, n11, n12, n13, n14⟩ := hN
  have I : ∀ f, 501 ≤ f → f ≤ 516 → gI σ' f (no i) 0 = gI σ f (no i) 0 := fun f z0 z1 => (hA f i z0 z1 hi).1
  have R : ∀ f, 501 ≤ f → f ≤ 516 → gR σ' f (no i) 0 = gR σ f (no i) 0 := fun f z0 z1 => (hA f i z0 z1 hi).2.2
  refine ⟨by rw [I 501 (by decide) (by decide)]; exact n1, by rw [I 502 (by decide) (by decide)]; exact n2, by rw [I 503 (by decide) (by decide)]; exact n3, by rw [I 504 (by decide) (by decide)]; exact n4, by rw [I 505 (by decide) (by decide)]; exact n5, by rw [R 507 (by decide) (by decide)]; exact n6, by rw [R 513 (by decide) (by decide)]; exact n7, by rw [I 514 (by decide) (by decide)]; exact n8, by rw [I 511 (by decide) (by decide)]; exact n9, by rw [R 508 (by decide) (by decide)]; exact n10, by rw [R 509 (by decide) (by decide)]; exact n11, fun j a ha => by rw [(hA 510 a (by decide) (by decide) (hk a (List.mem_of_getElem? ha))).2.2]; exact n12 j a ha, by rw [I 512 (by decide) (by decide)]; exact n13, fun q F e hF he => by rw [I 515 (by decide) (by decide), I 516 (by decide) (by decide)]; exact n14 q F e hF he⟩
/-- what a node that is made adds: σ holds s, r is the new object, υ reads as σ but where told -/
theorem tr_mk {υ : St} {r : Nat} {what par place fld u2 u7 u8 : Int} {nm : Int64} (hK : ∀ i, i < s.c → NdK s i) (hN : ∀ i, i < s.c → NdC σ no fo Ss s i ∧ gJ σ 506 (no i) 0 = Int64.ofInt (s.d 10 i)) (hin : ∀ j j', j < s.c → j' < s.c → no j = no j' → j = j') (hr : ∀ j, j < s.c → ¬ no j = r) (hp : -1 ≤ par ∧ par < s.c)
    (hold : ∀ f r', 501 ≤ f → f ≤ 516 → ¬ r' = r → (∀ p : Nat, par = (p : Int) → r' = no p → ¬ (f = 508 ∨ f = 509 ∨ f = 511)) → (∀ p : Nat, par = (p : Int) → (s.k p).getLast?.map no = some r' → ¬ f = 510) → Agr σ υ f r' 0)
    (hpar : ∀ p : Nat, par = (p : Int) → gI υ 511 (no p) 0 = ((s.k p).length : Int) + 1 ∧ gR υ 509 (no p) 0 = some r ∧ (s.k p = [] → gR υ 508 (no p) 0 = some r) ∧ (¬ s.k p = [] → gR υ 508 (no p) 0 = gR σ 508 (no p) 0) ∧ ∀ q, (s.k p).getLast? = some q → gR υ 510 (no q) 0 = some r)
    (r1 : gI υ 501 r 0 = what) (r2 : gI υ 502 r 0 = place) (r3 : gI υ 503 r 0 = u2) (r4 : gI υ 504 r 0 = 0) (r5 : gI υ 505 r 0 = 0) (r6 : gJ υ 506 r 0 = nm) (r7 : gR υ 507 r 0 = oN no par) (r8 : gR υ 508 r 0 = none) (r9 : gR υ 509 r 0 = none) (r10 : gR υ 510 r 0 = none) (r11 : gI υ 511 r 0 = 0) (r12 : gI υ 512 r 0 = if par < 0 then 0 else s.d 9 par.toNat + 1) (r13 : gR υ 513 r 0 = oF fo fld) (r14 : gI υ 514 r 0 = u7) (r15 : what = 4 → ∀ F e, gF Ss fld = some F → F.es[(u8 - 1).toNat]? = some e → gI υ 515 r 0 = e.2.2 ∧ gI υ 516 r 0 = e.2.1.toInt) :
    ∀ i, i < s.c + 1 → NdC υ (noA no s.c r) fo Ss (mkM s what par place fld u2 u7 u8 nm) i ∧ gJ υ 506 (noA no s.c r i) 0 = Int64.ofInt ((mkM s what par place fld u2 u7 u8 nm).d 10 i) := by
  intro i hi
  by_cases e : i = s.c
  · subst e
    have n0 : (mkM s what par place fld u2 u7 u8 nm).d 0 s.c = what := mk_n
    have n1 : (mkM s what par place fld u2 u7 u8 nm).d 1 s.c = place := mk_n
    have n2 : (mkM s what par place fld u2 u7 u8 nm).d 2 s.c = u2 := mk_n
    have n3 : (mkM s what par place fld u2 u7 u8 nm).d 3 s.c = 0 := mk_n
    have n4 : (mkM s what par place fld u2 u7 u8 nm).d 4 s.c = 0 := mk_n
    have n5 : (mkM s what par place fld u2 u7 u8 nm).d 5 s.c = par := mk_n
    have n6 : (mkM s what par place fld u2 u7 u8 nm).d 6 s.c = fld := mk_n
    have n7 : (mkM s what par place fld u2 u7 u8 nm).d 7 s.c = u7 := mk_n
    have n8 : (mkM s what par place fld u2 u7 u8 nm).d 8 s.c = u8 := mk_n
    have n9 : (mkM s what par place fld u2 u7 u8 nm).d 9 s.c = if par < 0 then 0 else s.d 9 par.toNat + 1 := mk_n
    have n10 : (mkM s what par place fld u2 u7 u8 nm).d 10 s.c = nm.toInt := mk_n
    unfold NdC
    rw [noA_n, n0, n1, n2, n3, n4, n5, n6, n7, n8, n9, n10, mk_kn, oN_no hp.2]
    exact ⟨⟨r1, r2, r3, r4, r5, r7, r13, r14, r11, r8, r9, fun j a ha => absurd ha (by simp), r12, r15⟩, by rw [r6, Int64.ofInt_toInt]⟩
  · have hi' : i < s.c := by omega
    obtain ⟨⟨n1, n2, n3, n4, n5, n6, n7, n8, n9, n10, n11, n12, n13, n14⟩, nn⟩ := hN i hi'
    obtain ⟨k1, k2, k3, k4⟩ := hK i hi'
    have od : ∀ f, (mkM s what par place fld u2 u7 u8 nm).d f i = s.d f i := fun f => mk_o e
    -- rows that no one touches
    have I : ∀ f, 501 ≤ f → f ≤ 516 → ¬ (f = 508 ∨ f = 509 ∨ f = 510 ∨ f = 511) → Agr σ υ f (no i) 0 := fun f h0 h1 hn => hold f (no i) h0 h1 (hr i hi') (fun p _ _ => by omega) (fun p _ _ => by omega)
    unfold NdC
    rw [noA_o e, od, od, od, od, od, od, od, od, od, od, od, oN_no (by omega)]
    have nm' : gJ υ 506 (no i) 0 = Int64.ofInt (s.d 10 i) := by rw [(I 506 (by decide) (by decide) (by decide)).2.1]; exact nn
    have p14 : s.d 0 i = 4 → ∀ F e, gF Ss (s.d 6 i) = some F → F.es[(s.d 8 i - 1).toNat]? = some e → gI υ 515 (no i) 0 = e.2.2 ∧ gI υ 516 (no i) 0 = e.2.1.toInt := fun z F e' hF he => by
      rw [(I 515 (by decide) (by decide) (by decide)).1, (I 516 (by decide) (by decide) (by decide)).1]; exact n14 z F e' hF he
    refine ⟨⟨by rw [(I 501 (by decide) (by decide) (by decide)).1]; exact n1, by rw [(I 502 (by decide) (by decide) (by decide)).1]; exact n2, by rw [(I 503 (by decide) (by decide) (by decide)).1]; exact n3, by rw [(I 504 (by decide) (by decide) (by decide)).1]; exact n4, by rw [(I 505 (by decide) (by decide) (by decide)).1]; exact n5, by rw [(I 507 (by decide) (by decide) (by decide)).2.2]; exact n6, by rw [(I 513 (by decide) (by decide) (by decide)).2.2]; exact n7, by rw [(I 514 (by decide) (by decide) (by decide)).1]; exact n8, ?_, ?_, ?_, ?_, by rw [(I 512 (by decide) (by decide) (by decide)).1]; exact n13, p14⟩, nm'⟩
    all_goals by_cases ep : par = (i : Int)
    · rw [mk_kp e ep, app_l, (hpar i ep).1]; omega
    · rw [mk_ko e ep, (hold 511 (no i) (by decide) (by decide) (hr i hi') (fun p z z1 => by have := hin i p hi' (by omega) z1; omega) (fun p _ _ => by decide)).1]; exact n9
    · rw [mk_kp e ep]
      obtain ⟨_, _, q3, q4, _⟩ := hpar i ep
      by_cases z : s.k i = []
      · rw [q3 z, z]
        show some r = some (noA no s.c r s.c)
        rw [noA_n]
      · have : 0 < (s.k i).length := by
          cases hz : s.k i with
          | nil => exact absurd hz z
          | cons x X => show 0 < X.length + 1; omega
        rw [q4 z, n10, List.getElem?_append_left this, map_no (fun a ha => (k2 a (List.mem_of_getElem? ha)).1)]
    · rw [mk_ko e ep, (hold 508 (no i) (by decide) (by decide) (hr i hi') (fun p z z1 => by have := hin i p hi' (by omega) z1; omega) (fun p _ _ => by decide)).2.2, map_no (fun a ha => (k2 a (List.mem_of_getElem? ha)).1)]; exact n10
    · rw [mk_kp e ep, (hpar i ep).2.1, List.getLast?_append]
      show some r = some (noA no s.c r s.c)
      rw [noA_n]
    · rw [mk_ko e ep, (hold 509 (no i) (by decide) (by decide) (hr i hi') (fun p z z1 => by have := hin i p hi' (by omega) z1; omega) (fun p _ _ => by decide)).2.2, map_no (fun a ha => (k2 a (List.mem_of_getLast? ha)).1)]; exact n11
    · rw [mk_kp e ep]
      intro j x hx
      rcases app_q hx with ⟨lt, hx⟩ | ⟨ej, ex⟩
      · have xm := List.mem_of_getElem? hx
        have xc := (k2 x xm).1
        rw [noA_o (show ¬ x = s.c by omega)]
        by_cases lj : j + 1 < (s.k i).length
        · -- not the last
          rw [(hold 510 (no x) (by decide) (by decide) (hr x xc) (fun p _ _ => by decide) (fun p z z1 => ?_)).2.2, n12 j x hx, List.getElem?_append_left lj, map_no (fun a ha => (k2 a (List.mem_of_getElem? ha)).1)]
          intro _
          rw [show p = i by omega] at z1
          cases hl : (s.k i).getLast? with
          | none => rw [hl] at z1; cases z1
          | some y =>
            rw [hl] at z1
            have z1 : some (no y) = some (no x) := z1
            have ym := List.mem_of_getLast? hl
            have exy := hin y x (k2 y ym).1 xc (Option.some.inj z1)
            rw [List.getLast?_eq_getElem?] at hl
            have := List.pairwise_iff_getElem.mp k1 j ((s.k i).length - 1) lt (by omega) (by omega)
            rw [(List.getElem?_eq_some_iff.mp hx).2, (List.getElem?_eq_some_iff.mp hl).2] at this
            omega
        · have hl : (s.k i).getLast? = some x := by rw [List.getLast?_eq_getElem?, show (s.k i).length - 1 = j by omega]; exact hx
          rw [(hpar i ep).2.2.2.2 x hl, show j + 1 = (s.k i).length by omega, List.getElem?_append_right (Nat.le_refl _), Nat.sub_self]
          show some r = some (noA no s.c r s.c)
          rw [noA_n]
      · rw [ex, noA_n, r10, ej, List.getElem?_eq_none (by rw [app_l]; omega)]; rfl
    · rw [mk_ko e ep]
      intro j x hx
      have xm := List.mem_of_getElem? hx
      have xc := (k2 x xm).1
      rw [noA_o (show ¬ x = s.c by omega), (hold 510 (no x) (by decide) (by decide) (hr x xc) (fun p _ _ => by decide) (fun p z z1 => ?_)).2.2, n12 j x hx, map_no (fun a ha => (k2 a (List.mem_of_getElem? ha)).1)]
      intro _
      have pc : p < s.c := by omega
      cases hl : (s.k p).getLast? with
      | none => rw [hl] at z1; cases z1
      | some y =>
        rw [hl] at z1
        have z1 : some (no y) = some (no x) := z1
        have ym := List.mem_of_getLast? hl
        have q := (hK p pc).2.1 y ym
        have exy := hin y x q.1 xc (Option.some.inj z1)
        have := (k2 x xm).2
        rw [← exy, q.2] at this
        omega
end N2
