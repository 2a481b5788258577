/-! what holds when both are new -/
section Y5
variable {g : GP} {l : Launch} {d : Nat} {φ ψ : St} {x k0 z0 : Nat}
theorem dn_co {h : Nat} (hD : Dn φ h) : DCo φ h (h + 8) (fun s => h + 11 + 16 * s) (fun s k => h + 11 + 16 * s + 2 + k) [] [] := ⟨hD.2.1 _ _, Nat.zero_le _, hD.2.1 _ _, Nat.zero_le _, (fun e E z => nomatch z), (fun s S z => nomatch z)⟩
theorem cls_inv (hC : Cls φ x) (hF : Fr Fn φ ψ) (V : XB φ ψ (hs φ) 1291 0 0 k0 z0) : Inv ψ x (hs φ) k0 z0 := by
  obtain ⟨⟨c1, c2, c3, c4, c5⟩, ⟨tp, t1, t2, t3, t4, t5⟩, ⟨p, p1, p2⟩, ⟨rk, r1, r2, r3⟩, ⟨a, b, q, d1, d2, d3, dA, dB, ⟨q1, q2, q3, q4⟩, d4⟩, sp, u1, u2, u3, u4⟩ := hC
  have hx : x < hs ψ := Nat.lt_of_lt_of_le c2 hF.1
  have L12 : LC 12 ψ (hs φ) := V.lc
  obtain ⟨⟨m1, m2, m3, _⟩, _, _, m4, m5⟩ := V
  have L11 : LC 11 ψ x := hF.lc c2 c1
  have ix : ∀ f i, gI ψ f x i = 0 := fun f i => (hF.I c2 (fun q => q) i).trans (c3 f i)
  have jx : ∀ f i, gJ ψ f x i = 0 := fun f i => (hF.J c2 (fun q => q) i).trans (c4 f i)
  have rx : ∀ f i, gR ψ f x i = gR φ f x i := fun f i => hF.R c2 (fun q => q) i
  have KK : KeO x φ ψ := KeO.fr hF
  have eA := dA.ke KK q1
  have eB := dB.ke KK (by omega)
  have et : tpe ψ x = tp := by unfold tpe; rw [rx, t1]; rfl
  have tl : tp < hs ψ := Nat.lt_of_lt_of_le t3 hF.1
  have ql : q < hs ψ := Nat.lt_of_lt_of_le q4 hF.1
  have spn : ∀ j, gR ψ 1003 sp j = none := fun j => (hF.R u3 (fun q => q) j).trans (u4 j)
  refine ⟨⟨by omega, by omega, by omega⟩, ⟨L11, L12, hx, m1, ⟨by rw [ix]; decide, by rw [ix]; decide⟩, by rw [ix, m2], fun im z0 z1 => ?_, fun i j z0 z1 => ?_, fun i j z0 z1 => ?_⟩, ⟨by rw [et, rx]; exact t1, by rw [et]; exact hF.lc t3 t2, by rw [et]; exact tl, hx, m1, L12, ?_, ⟨by rw [m2]; decide, by rw [m2]; decide⟩, fun k z0 z1 => ?_⟩, fun i => ?_, ?_, ?_⟩
  · rw [ix] at z1; omega
  · rw [ix] at z1; omega
  · rw [ix] at z1; omega
  · rw [et, m2, hF.I t3 (fun q => q)]; exact t4
  · rw [m2] at z1; omega
  · rw [et, hF.J t3 (fun q => q)]; exact t5 i
  · refine ⟨p, (a, a + 8, fun s => a + 11 + 16 * s, fun s k => a + 11 + 16 * s + 2 + k), (b, b + 8, fun s => b + 11 + 16 * s, fun s k => b + 11 + 16 * s + 2 + k), [], [], 0, fun _ => ⟨0, fun _ _ => 0, fun _ => []⟩, fun _ => 0, ⟨⟨by rw [rx]; exact d1, by rw [rx]; exact d2, by rw [rx]; exact p1, Nat.lt_of_lt_of_le p2 hF.1, hx, m1, L12⟩, ⟨eA.1, eB.1⟩, ⟨?_, ?_, fun s s' z z' => ?_, fun s k s' k' z z' z2 z3 => ?_⟩, ⟨dn_co eA, (fun s z => absurd z (Nat.not_lt_zero _)), ?_, ?_⟩, ⟨m2 _ _, by decide, ⟨m2 _ _, Nat.zero_le _, m2 _ _, Nat.zero_le _, (fun e E z => nomatch z), (fun s S z => nomatch z)⟩⟩, ⟨(fun e E z => nomatch z), [], (fun s S z => nomatch z), rfl⟩, by rw [ix, m2], (fun S z => nomatch z)⟩, ⟨q, by rw [rx]; exact d3, hF.lc q4 d4, ql, ?_, ?_⟩, ⟨⟨by rw [ix]; decide, by rw [ix]; decide, by rw [ix, m2]⟩, ⟨sp, by rw [rx]; exact u1, ⟨hF.lc u3 u2, Nat.lt_of_lt_of_le u3 hF.1, fun j r hj hr => ?_⟩, fun t ht tr htr => ?_⟩, fun t ht tr htr => ?_, fun t t' ht ht' hne tr tr' htr _ => ?_, ⟨rk, by rw [rx]; exact r1, hF.lc r3 r2, Nat.lt_of_lt_of_le r3 hF.1⟩, fun t ht => ?_⟩⟩
    · show ¬ a = b; omega
    · show ¬ a + 8 = b + 8; omega
    · show ¬ a + 11 + 16 * s = b + 11 + 16 * s'; omega
    · show ¬ a + 11 + 16 * s + 2 + k = b + 11 + 16 * s' + 2 + k'; omega
    · show gI ψ 2 (a + 8) 0 ≤ 3001
      rw [eA.2.2]; decide
    · show gI ψ 109 a 0 ≤ 3000
      rw [eA.2.1]; decide
    · show ¬ q = a + 8; omega
    · show ¬ q = b + 8; omega
    · rw [spn] at hr; cases hr
    · rw [rx, c5] at htr; cases htr
    · rw [rx, c5] at htr; cases htr
    · rw [rx, c5] at htr; cases htr
    · rw [ix] at ht; omega
  · rw [jx, m3]
/-- both made, then the loop -/
theorem law_all {σ : St} (hS : SOK g) (hX : va_X g.2.2.2.1 g.2.2.2.2.1 g.2.2.2.2.2 (gS g) (gS g).heap) (hb : g.2.2.2.1 < gB g) (hn : g.2.2.2.2.1 ≤ 3584) (hh : hs σ = gB g) (hz : sl σ = 0) : AW g l 1300 ML_law 0 [some (vA 9999 0), none, none, none] [] σ (fun v _ => v = some (vI 1)) := by
  have hn' : g.2.2.2.2.1 < 2147483648 := Nat.lt_of_le_of_lt hn (by decide)
  have k1 : gB g + 2000 ≤ gB g + 600000 := Nat.add_le_add_left (by decide) _
  refine bk_L_law_0 (d := 1299) hX hb hn' ⟨⟨by omega, by omega⟩, x_new0 (d := 1294) hS XS.new (by rw [hs_sNew]; omega) (by rw [sl_sNew]; omega) (fun φ hC h1 h2 => ?_)⟩
  rw [hs_sNew] at h1
  rw [sl_sNew] at h2
  refine ⟨⟨by omega, by omega⟩, nx12 (d := 1298) (k0 := gB g + 2000) (z0 := 400000) (by omega) (by omega) k1 (by decide) (fun ψ hF V => ?_)⟩
  exact law_loop (K1 := gB g + 600000) (K2 := 7302250) hS hX hb hn (Nat.le_refl _) (Nat.le_refl _) 513 0 ψ (gB g + 2000) 400000 (by decide) (by omega) (cls_inv hC hF V) (by rw [Nat.add_assoc]; exact Nat.add_le_add_left (by decide) _) (by decide)
end Y5
