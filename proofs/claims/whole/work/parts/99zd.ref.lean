/-! the reference that is new -/
def XM (σ : St) (m K : Nat) : Prop := m < hs σ ∧ (∀ f i, gI σ f m i = 0) ∧ (∀ f i, gJ σ f m i = 0) ∧ ∀ f, f / 100 = 12 → gL σ f m = if f < K then LM f else 0
def XB (ρ σ : St) (m K a b k0 z0 : Nat) : Prop := XM σ m K ∧ Fr Fn ρ σ ∧ hs ρ ≤ m ∧ hs σ + a ≤ k0 ∧ sl σ + b ≤ z0
section Y3
variable {g : GP} {l : Launch} {d : Nat} {ρ σ : St} {m f a b k0 z0 : Nat} {Q : Option AV → St → Prop}
theorem XB.z (V : XB ρ σ m f a b k0 z0) (e : LM f = 0) : XB ρ (sI σ f m 0 0) m (f + 1) a b k0 z0 := by
  obtain ⟨⟨a1, a2, a3, a4⟩, v2, v3, v4, v5⟩ := V
  refine ⟨⟨a1, fun u i => by rw [gI_sI, a2]; split <;> rfl, a3, fun u hu => ?_⟩, v2.frm (Frm.sI (P := fun _ r => hs ρ ≤ r) v3) (fun f r q => q), v3, v4, v5⟩
  rw [gL_sI, a4 u hu]
  by_cases q : u = f
  · rw [if_neg (by omega), q, e]; split <;> rfl
  · by_cases w : u < f
    · rw [if_pos w, if_pos (by omega)]
    · rw [if_neg w, if_neg (by omega)]
theorem XB.zJ (V : XB ρ σ m f a b k0 z0) (e : LM f = 0) : XB ρ (sJ σ f m 0 0) m (f + 1) a b k0 z0 := by
  obtain ⟨⟨a1, a2, a3, a4⟩, v2, v3, v4, v5⟩ := V
  refine ⟨⟨a1, a2, fun u i => by rw [gJ_sJ, a3]; split <;> rfl, fun u hu => ?_⟩, v2.frm (Frm.sJ (P := fun _ r => hs ρ ≤ r) v3) (fun f r q => q), v3, v4, v5⟩
  rw [gL_sJ, a4 u hu]
  by_cases q : u = f
  · rw [if_neg (by omega), q, e]; split <;> rfl
  · by_cases w : u < f
    · rw [if_pos w, if_pos (by omega)]
    · rw [if_neg w, if_neg (by omega)]
theorem XB.skip (V : XB ρ σ m f a b k0 z0) (e : LM f = 0) : XB ρ σ m (f + 1) a b k0 z0 := by
  obtain ⟨⟨a1, a2, a3, a4⟩, v2, v3, v4, v5⟩ := V
  refine ⟨⟨a1, a2, a3, fun u hu => ?_⟩, v2, v3, v4, v5⟩
  rw [a4 u hu]
  by_cases q : u = f
  · rw [if_neg (by omega), q, e]; split <;> rfl
  · by_cases w : u < f
    · rw [if_pos w, if_pos (by omega)]
    · rw [if_neg w, if_neg (by omega)]
theorem XB.arr {n : Nat} (V : XB ρ σ m f (a + 1) (b + n) k0 z0) (e : LM f = n) : XB ρ (sArr σ f m n) m (f + 1) a b k0 z0 := by
  obtain ⟨⟨a1, a2, a3, a4⟩, v2, v3, v4, v5⟩ := V
  refine ⟨⟨Nat.lt_succ_of_lt a1, fun u i => by rw [gI_sArr, a2]; split <;> rfl, fun u i => by rw [gJ_sArr, a3]; split <;> rfl, fun u hu => ?_⟩, v2.sArr v3, v3, by rw [hs_sArr]; omega, by rw [sl_sArr]; omega⟩
  rw [gL_sArr, a4 u hu]
  by_cases q : u = f
  · rw [if_pos ⟨q, rfl⟩, if_pos (by omega), q, e]
  · rw [if_neg (fun w => q w.1)]
    by_cases w : u < f
    · rw [if_pos w, if_pos (by omega)]
    · rw [if_neg w, if_neg (by omega)]
theorem XB.c {n : Nat} (V : XB ρ σ m f (a + 1) (b + n) k0 z0) (hk : k0 ≤ gB g + 600000) (hz : z0 ≤ 7302250) (h : f / 100 = 12) : gL σ f m = 0 ∧ hs σ + 1 ≤ gB g + 600000 ∧ sl σ + n ≤ 7302250 := by
  obtain ⟨⟨a1, a2, a3, a4⟩, v2, v3, v4, v5⟩ := V
  exact ⟨by rw [a4 f h, if_neg (by omega)], by omega, by omega⟩
theorem mx_0 (V0 : XB ρ σ m 1200 62 196506 k0 z0) (hk : k0 ≤ gB g + 600000) (hz : z0 ≤ 7302250) (h : ∀ τ, XB ρ τ m 1219 52 125302 k0 z0 → AW g l (d + 1) MX12_init 134 [some (vR 12 (some m))] [] τ Q) : AW g l (d + 1) MX12_init 0 [some (vR 12 (some m))] [] σ Q := by
  have V1 := V0.z rfl
  have V2 := V1.arr (a := 61) (b := 196500) (n := 6) rfl
  have V3 := V2.arr (a := 60) (b := 196494) (n := 6) rfl
  have V4 := V3.arr (a := 59) (b := 184494) (n := 12000) rfl
  have V5 := V4.arr (a := 58) (b := 136494) (n := 48000) rfl
  have V6 := V5.arr (a := 57) (b := 136470) (n := 24) rfl
  have V7 := V6.arr (a := 56) (b := 135990) (n := 480) rfl
  have V8 := V7.arr (a := 55) (b := 132150) (n := 3840) rfl
  have V9 := V8.arr (a := 54) (b := 128310) (n := 3840) rfl
  have V10 := V9.arr (a := 53) (b := 128302) (n := 8) rfl
  have V11 := V10.arr (a := 52) (b := 125302) (n := 3000) rfl
  have V12 := V11.z rfl
  have V13 := V12.z rfl
  have V14 := V13.z rfl
  have V15 := V14.z rfl
  have V16 := V15.z rfl
  have V17 := V16.zJ rfl
  have V18 := V17.zJ rfl
  have V19 := V18.z rfl
  exact bk_X12_init_0 ⟨V1.c (a := 61) (b := 196500) hk hz rfl, V2.c (a := 60) (b := 196494) hk hz rfl, V3.c (a := 59) (b := 184494) hk hz rfl, V4.c (a := 58) (b := 136494) hk hz rfl, V5.c (a := 57) (b := 136470) hk hz rfl, V6.c (a := 56) (b := 135990) hk hz rfl, V7.c (a := 55) (b := 132150) hk hz rfl, V8.c (a := 54) (b := 128310) hk hz rfl, V9.c (a := 53) (b := 128302) hk hz rfl, V10.c (a := 52) (b := 125302) hk hz rfl, h _ V19⟩
theorem mx_134 (V0 : XB ρ σ m 1219 52 125302 k0 z0) (hk : k0 ≤ gB g + 600000) (hz : z0 ≤ 7302250) (h : ∀ τ, XB ρ τ m 1237 34 119786 k0 z0 → AW g l (d + 1) MX12_init 287 [some (vR 12 (some m))] [] τ Q) : AW g l (d + 1) MX12_init 134 [some (vR 12 (some m))] [] σ Q := by
  have V1 := V0.arr (a := 51) (b := 125300) (n := 2) rfl
  have V2 := V1.arr (a := 50) (b := 125298) (n := 2) rfl
  have V3 := V2.arr (a := 49) (b := 125258) (n := 40) rfl
  have V4 := V3.arr (a := 48) (b := 125218) (n := 40) rfl
  have V5 := V4.arr (a := 47) (b := 125178) (n := 40) rfl
  have V6 := V5.arr (a := 46) (b := 125162) (n := 16) rfl
  have V7 := V6.arr (a := 45) (b := 125146) (n := 16) rfl
  have V8 := V7.arr (a := 44) (b := 124986) (n := 160) rfl
  have V9 := V8.arr (a := 43) (b := 124826) (n := 160) rfl
  have V10 := V9.arr (a := 42) (b := 124266) (n := 560) rfl
  have V11 := V10.arr (a := 41) (b := 123706) (n := 560) rfl
  have V12 := V11.arr (a := 40) (b := 123146) (n := 560) rfl
  have V13 := V12.arr (a := 39) (b := 122586) (n := 560) rfl
  have V14 := V13.arr (a := 38) (b := 122026) (n := 560) rfl
  have V15 := V14.arr (a := 37) (b := 121466) (n := 560) rfl
  have V16 := V15.arr (a := 36) (b := 120906) (n := 560) rfl
  have V17 := V16.arr (a := 35) (b := 120346) (n := 560) rfl
  have V18 := V17.arr (a := 34) (b := 119786) (n := 560) rfl
  exact bk_X12_init_134 ⟨V0.c (a := 51) (b := 125300) hk hz rfl, V1.c (a := 50) (b := 125298) hk hz rfl, V2.c (a := 49) (b := 125258) hk hz rfl, V3.c (a := 48) (b := 125218) hk hz rfl, V4.c (a := 47) (b := 125178) hk hz rfl, V5.c (a := 46) (b := 125162) hk hz rfl, V6.c (a := 45) (b := 125146) hk hz rfl, V7.c (a := 44) (b := 124986) hk hz rfl, V8.c (a := 43) (b := 124826) hk hz rfl, V9.c (a := 42) (b := 124266) hk hz rfl, V10.c (a := 41) (b := 123706) hk hz rfl, V11.c (a := 40) (b := 123146) hk hz rfl, V12.c (a := 39) (b := 122586) hk hz rfl, V13.c (a := 38) (b := 122026) hk hz rfl, V14.c (a := 37) (b := 121466) hk hz rfl, V15.c (a := 36) (b := 120906) hk hz rfl, V16.c (a := 35) (b := 120346) hk hz rfl, V17.c (a := 34) (b := 119786) hk hz rfl, h _ V18⟩
theorem mx_287 (V0 : XB ρ σ m 1237 34 119786 k0 z0) (hk : k0 ≤ gB g + 600000) (hz : z0 ≤ 7302250) (h : ∀ τ, XB ρ τ m 1255 22 54946 k0 z0 → AW g l (d + 1) MX12_init 425 [some (vR 12 (some m))] [] τ Q) : AW g l (d + 1) MX12_init 287 [some (vR 12 (some m))] [] σ Q := by
  have V1 := V0.arr (a := 33) (b := 119226) (n := 560) rfl
  have V2 := V1.arr (a := 32) (b := 118666) (n := 560) rfl
  have V3 := V2.arr (a := 31) (b := 109706) (n := 8960) rfl
  have V4 := V3.arr (a := 30) (b := 100746) (n := 8960) rfl
  have V5 := V4.arr (a := 29) (b := 91786) (n := 8960) rfl
  have V6 := V5.arr (a := 28) (b := 82786) (n := 9000) rfl
  have V7 := V6.arr (a := 27) (b := 73786) (n := 9000) rfl
  have V8 := V7.arr (a := 26) (b := 64786) (n := 9000) rfl
  have V9 := V8.arr (a := 25) (b := 55786) (n := 9000) rfl
  have V10 := V9.z rfl
  have V11 := V10.arr (a := 24) (b := 55506) (n := 280) rfl
  have V12 := V11.arr (a := 23) (b := 55226) (n := 280) rfl
  have V13 := V12.arr (a := 22) (b := 54946) (n := 280) rfl
  have V14 := V13.z rfl
  have V15 := V14.z rfl
  have V16 := V15.z rfl
  have V17 := V16.z rfl
  have V18 := V17.z rfl
  exact bk_X12_init_287 ⟨V0.c (a := 33) (b := 119226) hk hz rfl, V1.c (a := 32) (b := 118666) hk hz rfl, V2.c (a := 31) (b := 109706) hk hz rfl, V3.c (a := 30) (b := 100746) hk hz rfl, V4.c (a := 29) (b := 91786) hk hz rfl, V5.c (a := 28) (b := 82786) hk hz rfl, V6.c (a := 27) (b := 73786) hk hz rfl, V7.c (a := 26) (b := 64786) hk hz rfl, V8.c (a := 25) (b := 55786) hk hz rfl, V10.c (a := 24) (b := 55506) hk hz rfl, V11.c (a := 23) (b := 55226) hk hz rfl, V12.c (a := 22) (b := 54946) hk hz rfl, h _ V18⟩
theorem mx_425 (V0 : XB ρ σ m 1255 22 54946 k0 z0) (hk : k0 ≤ gB g + 600000) (hz : z0 ≤ 7302250) (h : ∀ τ, XB ρ τ m 1273 10 28856 k0 z0 → AW g l (d + 1) MX12_init 560 [some (vR 12 (some m))] [] τ Q) : AW g l (d + 1) MX12_init 425 [some (vR 12 (some m))] [] σ Q := by
  have V1 := V0.z rfl
  have V2 := V1.z rfl
  have V3 := V2.z rfl
  have V4 := V3.arr (a := 21) (b := 54818) (n := 128) rfl
  have V5 := V4.arr (a := 20) (b := 54690) (n := 128) rfl
  have V6 := V5.z rfl
  have V7 := V6.z rfl
  have V8 := V7.arr (a := 19) (b := 45690) (n := 9000) rfl
  have V9 := V8.arr (a := 18) (b := 45670) (n := 20) rfl
  have V10 := V9.z rfl
  have V11 := V10.arr (a := 17) (b := 45663) (n := 7) rfl
  have V12 := V11.arr (a := 16) (b := 45656) (n := 7) rfl
  have V13 := V12.arr (a := 15) (b := 42856) (n := 2800) rfl
  have V14 := V13.arr (a := 14) (b := 40056) (n := 2800) rfl
  have V15 := V14.arr (a := 13) (b := 37256) (n := 2800) rfl
  have V16 := V15.arr (a := 12) (b := 34456) (n := 2800) rfl
  have V17 := V16.arr (a := 11) (b := 31656) (n := 2800) rfl
  have V18 := V17.arr (a := 10) (b := 28856) (n := 2800) rfl
  exact bk_X12_init_425 ⟨V3.c (a := 21) (b := 54818) hk hz rfl, V4.c (a := 20) (b := 54690) hk hz rfl, V7.c (a := 19) (b := 45690) hk hz rfl, V8.c (a := 18) (b := 45670) hk hz rfl, V10.c (a := 17) (b := 45663) hk hz rfl, V11.c (a := 16) (b := 45656) hk hz rfl, V12.c (a := 15) (b := 42856) hk hz rfl, V13.c (a := 14) (b := 40056) hk hz rfl, V14.c (a := 13) (b := 37256) hk hz rfl, V15.c (a := 12) (b := 34456) hk hz rfl, V16.c (a := 11) (b := 31656) hk hz rfl, V17.c (a := 10) (b := 28856) hk hz rfl, h _ V18⟩
theorem mx_560 (V0 : XB ρ σ m 1273 10 28856 k0 z0) (hk : k0 ≤ gB g + 600000) (hz : z0 ≤ 7302250) (h : ∀ τ, XB ρ τ m 1291 0 0 k0 z0 → Q none τ) : AW g l (d + 1) MX12_init 560 [some (vR 12 (some m))] [] σ Q := by
  have V1 := V0.arr (a := 9) (b := 26056) (n := 2800) rfl
  have V2 := V1.arr (a := 8) (b := 23256) (n := 2800) rfl
  have V3 := V2.arr (a := 7) (b := 20456) (n := 2800) rfl
  have V4 := V3.arr (a := 6) (b := 17656) (n := 2800) rfl
  have V5 := V4.arr (a := 5) (b := 14856) (n := 2800) rfl
  have V6 := V5.arr (a := 4) (b := 12056) (n := 2800) rfl
  have V7 := V6.arr (a := 3) (b := 9256) (n := 2800) rfl
  have V8 := V7.z rfl
  have V9 := V8.z rfl
  have V10 := V9.z rfl
  have V11 := V10.arr (a := 2) (b := 9128) (n := 128) rfl
  have V12 := V11.arr (a := 1) (b := 9000) (n := 128) rfl
  have V13 := V12.z rfl
  have V14 := V13.z rfl
  have V15 := V14.arr (a := 0) (b := 0) (n := 9000) rfl
  have V16 := V15.zJ rfl
  have V17 := V16.zJ rfl
  have V18 := V17.zJ rfl
  exact bk_X12_init_560 ⟨V0.c (a := 9) (b := 26056) hk hz rfl, V1.c (a := 8) (b := 23256) hk hz rfl, V2.c (a := 7) (b := 20456) hk hz rfl, V3.c (a := 6) (b := 17656) hk hz rfl, V4.c (a := 5) (b := 14856) hk hz rfl, V5.c (a := 4) (b := 12056) hk hz rfl, V6.c (a := 3) (b := 9256) hk hz rfl, V10.c (a := 2) (b := 9128) hk hz rfl, V11.c (a := 1) (b := 9000) hk hz rfl, V14.c (a := 0) (b := 0) hk hz rfl, h _ V18⟩
theorem nx12 {P : St → Prop} (h1 : hs σ + 1 + 62 ≤ k0) (h2 : sl σ + 91 + 196506 ≤ z0) (hk : k0 ≤ gB g + 600000) (hz : z0 ≤ 7302250) (h : ∀ τ, Fr Fn σ τ → XB σ τ (hs σ) 1291 0 0 k0 z0 → P τ) : ACv g l (d + 1) MX12_init [vR 12 (some (hs σ))] (sNew σ 91) P := by
  have V : XB σ (sNew σ 91) (hs σ) 1200 62 196506 k0 z0 := ⟨⟨Nat.lt_succ_self _, fun f i => by rw [gI_sNew, if_pos rfl], fun f i => by rw [gJ_sNew, if_pos rfl], fun f hf => by rw [gL_sNew, if_pos rfl, if_neg (by omega)]⟩, Fr.sNew, Nat.le_refl _, by rw [hs_sNew]; exact h1, by rw [sl_sNew]; exact h2⟩
  exact AC.of mo_X12_init (Nat.le_of_ble_eq_true rfl) (mx_0 V hk hz (fun _ V1 => mx_134 V1 hk hz (fun _ V2 => mx_287 V2 hk hz (fun _ V3 => mx_425 V3 hk hz (fun _ V4 => mx_560 V4 hk hz (fun τ V5 => ⟨rfl, h τ V5.2.1 V5⟩))))))
theorem XB.lc (V : XB ρ σ m 1291 a b k0 z0) : LC 12 σ m := fun f hf => by
  rw [V.1.2.2.2 f hf]
  by_cases q : f < 1291
  · rw [if_pos q]
  · rw [if_neg q]
    have k : ∀ j : Fin 9, LM (1291 + j) = 0 := by decide
    have := k ⟨f - 1291, by omega⟩
    simp only at this
    rw [show 1291 + (f - 1291) = f by omega] at this
    exact this.symm
end Y3
