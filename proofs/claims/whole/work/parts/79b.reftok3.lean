/-! the reference's next token -/
/-- a word, its first letter highest -/
def wdR (T : Int → Int) (q : Int) : Nat → Int64
  | 0 => 0
  | k + 1 => j_shl (wdR T q k) 8 ||| i2j (T (q + k))
/-- END 0, word 1, number 2, sign 3, bad 4 -/
def srt (T : Int → Int) (n q : Int) : Int :=
  if n ≤ q then 0 else if 97 ≤ T q ∧ T q ≤ 122 then (if re T n q - q ≤ 8 then 1 else 4)
  else if 48 ≤ T q ∧ T q ≤ 57 then (if numV T q (re T n q) = -1 then 4 else 2)
  else if 0 ≤ ixN SGB (if T q < 128 then T q else T q - 256) 18 0 then 3 else 4
def NXT (σ σ' : St) (m : Nat) (T : Int → Int) (n q : Int) : Prop :=
  Frm (fun f r => r = m ∧ (1213 ≤ f ∧ f ≤ 1217)) σ σ' ∧ gI σ' 1214 m 0 = q ∧ gI σ' 1215 m 0 = (if q < n then nxt T n q else q) ∧ gI σ' 1213 m 0 = srt T n q ∧ (srt T n q = 1 → gJ σ' 1216 m 0 = wdR T q (re T n q - q).toNat) ∧ (srt T n q = 2 → gJ σ' 1217 m 0 = numV T q (re T n q)) ∧ (srt T n q = 3 → gJ σ' 1217 m 0 = i2j (T q))
section M12
variable {g : GP} {l : Launch} {d : Nat} {σ : St} {m : Nat}
theorem m_next {n t : Int} {T : Int → Int} {P : St → Prop} (hL : LC 12 σ m) (ht : gI σ 1215 m 0 = t) (hN : gI σ 1211 m 0 = n) (hT : ∀ i : Int, gI σ 1210 m i.toNat = T i) (hn : n ≤ 3000) (h0 : 0 ≤ t) (h1 : t ≤ n)
    (hb : ∀ i : Int, 0 ≤ i → i < n → 0 ≤ T i ∧ T i ≤ 255) (h : ∀ σ', NXT σ σ' m T n (sk T n t) → P σ') : ACv g l (d + 2) MX12_next [vR 12 (some m)] σ P := by
  have hsk := sk_le (T := T) (n := n) (n - t).toNat t (by omega)
  generalize hq : sk T n t = q at *
  have hre : q ≤ n → q ≤ re T n q ∧ re T n q ≤ n ∧ ∀ i : Int, q ≤ i → i < re T n q → (97 ≤ T i ∧ T i ≤ 122) ∨ (48 ≤ T i ∧ T i ≤ 57) := fun z => re_le (n - q).toNat q (by omega)
  have eN : ∀ τ, Frm (fun f r => r = m ∧ (1213 ≤ f ∧ f ≤ 1217)) σ τ → gI τ 1211 m 0 = n := fun τ hF => by rw [hF.I (by simp)]; exact hN
  have eT : ∀ τ, Frm (fun f r => r = m ∧ (1213 ≤ f ∧ f ≤ 1217)) σ τ → ∀ i : Int, gI τ 1210 m i.toNat = T i := fun τ hF i => by rw [hF.I (by simp)]; exact hT i
  -- the word
  have wl : (97 ≤ T q ∧ T q ≤ 122) → q < n → re T n q - q ≤ 8 → ∀ (j : Nat) (i : Int) (τ : St), i = re T n q - j → q ≤ i → Frm (fun f r => r = m ∧ (1213 ≤ f ∧ f ≤ 1217)) σ τ → gI τ 1214 m 0 = q → gI τ 1215 m 0 = re T n q → gI τ 1213 m 0 = 1 → gJ τ 1216 m 0 = wdR T q (i - q).toNat →
      AW g l (d + 2) MX12_next 215 [some (vR 12 (some m)), none, some (vI i)] [] τ (fun v σ' => v = none ∧ P σ') := by
    intro zl zn z8 j
    have es : srt T n q = 1 := by unfold srt; rw [if_neg (by omega), if_pos zl, if_pos z8]
    have ex : nxt T n q = re T n q := if_pos (Or.inl zl)
    induction j with
    | zero =>
      intro i τ hi hi0 hF a1 a2 a3 a4
      refine bk_X12_next_215 ⟨fun _ => ⟨rfl, h τ ⟨hF, a1, by rw [if_pos zn, ex]; exact a2, by rw [es]; exact a3, fun _ => ?_, fun c => absurd c (by omega), fun c => absurd c (by omega)⟩⟩, fun c => absurd (by omega) c⟩
      rw [a4, show i = re T n q by omega]
    | succ j ih =>
      intro i τ hi hi0 hF a1 a2 a3 a4
      have := hre (by omega)
      refine bk_X12_next_215 ⟨fun c => absurd c (by omega), fun _ => ⟨fun c => absurd a3 c, fun _ => ⟨hF.lc hL, ⟨by omega, by omega⟩, ⟨by omega, by omega⟩, ih _ _ (by omega) (by omega) (hF.trans (Frm.sJ (by simp))) ?_ ?_ ?_ ?_⟩⟩⟩
      · rw [gI_sJ]; exact a1
      · rw [gI_sJ]; exact a2
      · rw [gI_sJ]; exact a3
      · rw [gJ_slf, a4, eT τ hF, show (i + 1 - q).toNat = (i - q).toNat + 1 by omega, wdR, show q + ((i - q).toNat : Int) = i by omega]
  -- the row
  have rl : ((97 ≤ T q ∧ T q ≤ 122) ∨ (48 ≤ T q ∧ T q ≤ 57)) → q < n → ∀ (j : Nat) (e : Int) (τ : St), e = n - j → q ≤ e → Frm (fun f r => r = m ∧ (1213 ≤ f ∧ f ≤ 1217)) σ τ → gI τ 1214 m 0 = q → gI τ 1215 m 0 = e → re T n e = re T n q →
      AW g l (d + 2) MX12_next 112 [some (vR 12 (some m)), some (vI (T q)), none] [] τ (fun v σ' => v = none ∧ P σ') := by
    intro zl zn j
    have hr := hre (by omega)
    have r0 : re T n q = re T n (q + 1) := re_in zn zl
    have r1 := re_le (T := T) (n := n) (n - (q + 1)).toNat (q + 1) (by omega)
    have ex : nxt T n q = re T n q := if_pos zl
    have fin : ∀ τ : St, Frm (fun f r => r = m ∧ (1213 ≤ f ∧ f ≤ 1217)) σ τ → gI τ 1214 m 0 = q → gI τ 1215 m 0 = re T n q → ACi g l (d + 1) MX12_letter [vR 12 (some m), vI (T q)] τ (fun v13 σ12 => ((v13 = 0 → ACi g l (d + 1) MX12_numeral [vR 12 (some m)] σ12 (fun v16 σ15 => ((v16 = 0 → AW g l (d + 2) MX12_next 215 [some (vR 12 (some m)), none, some (vI (gI σ15 1214 m 0))] [] (sJ (sI σ15 1213 m 0 4) 1216 m 0 0) (fun v σ' => v = none ∧ P σ')) ∧ (¬ v16 = 0 → AW g l (d + 2) MX12_next 215 [some (vR 12 (some m)), none, some (vI (gI σ15 1214 m 0))] [] (sJ (sI σ15 1213 m 0 2) 1216 m 0 0) (fun v σ' => v = none ∧ P σ'))))) ∧ (¬ v13 = 0 → R32 ((gI σ12 1215 m 0) - (gI σ12 1214 m 0)) ∧ ((((gI σ12 1215 m 0) - (gI σ12 1214 m 0)) ≤ 8 → AW g l (d + 2) MX12_next 215 [some (vR 12 (some m)), none, some (vI (gI σ12 1214 m 0))] [] (sJ (sI σ12 1213 m 0 1) 1216 m 0 0) (fun v σ' => v = none ∧ P σ')) ∧ (¬ ((gI σ12 1215 m 0) - (gI σ12 1214 m 0)) ≤ 8 → AW g l (d + 2) MX12_next 215 [some (vR 12 (some m)), none, some (vI (gI σ12 1214 m 0))] [] (sJ (sI σ12 1213 m 0 4) 1216 m 0 0) (fun v σ' => v = none ∧ P σ')))))) := by
      intro τ hF a1 a2
      refine m_letter ?_
      by_cases sm : 97 ≤ T q ∧ T q ≤ 122
      · rw [if_pos sm, a1, a2]
        refine ⟨fun c => absurd c (by decide), fun _ => ⟨⟨by omega, by omega⟩, fun z8 => ?_, fun z8 => ?_⟩⟩
        · refine wl sm zn z8 (re T n q - q).toNat q _ (by omega) (by omega) (hF.trans ((Frm.sI (by simp)).trans (Frm.sJ (by simp)))) ?_ ?_ ?_ ?_
          · rw [gI_sJ, gI_sI, if_neg (by simp)]; exact a1
          · rw [gI_sJ, gI_sI, if_neg (by simp)]; exact a2
          · rw [gI_sJ, gI_slf]
          · rw [gJ_slf, show (q - q).toNat = 0 by omega]; rfl
        · have es : srt T n q = 4 := by unfold srt; rw [if_neg (by omega), if_pos sm, if_neg z8]
          refine bk_X12_next_215 ⟨fun c => absurd c ?_, fun _ => ⟨fun _ => ⟨rfl, h _ ⟨hF.trans ((Frm.sI (by simp)).trans (Frm.sJ (by simp))), ?_, ?_, ?_, fun c => absurd c (by omega), fun c => absurd c (by omega), fun c => absurd c (by omega)⟩⟩, fun c => absurd c ?_⟩⟩
          · rw [gI_sJ, gI_sI, if_neg (by simp)]; omega
          · rw [gI_sJ, gI_sI, if_neg (by simp)]; exact a1
          · rw [gI_sJ, gI_sI, if_neg (by simp), if_pos zn, ex]; exact a2
          · rw [gI_sJ, gI_slf, es]
          · rw [gI_sJ, gI_slf]; decide
      · rw [if_neg sm]
        have sd : 48 ≤ T q ∧ T q ≤ 57 := zl.resolve_left sm
        refine ⟨fun _ => m_numeral (hF.lc hL) a1 a2 (eN τ hF) (eT τ hF) hn (by omega) (by omega) hr.2.1 hr.2.2 (fun σ' b hF' hbv hval => ?_), fun c => absurd rfl c⟩
        have b1 : gI σ' 1214 m 0 = q := by rw [hF'.I (by simp)]; exact a1
        have b2 : gI σ' 1215 m 0 = re T n q := by rw [hF'.I (by simp)]; exact a2
        have hFF : Frm (fun f r => r = m ∧ (1213 ≤ f ∧ f ≤ 1217)) σ σ' := hF.trans (hF'.mono (fun f r z => ⟨z.1, by have := z.2; omega⟩))
        rw [b1]
        have both : ∀ s : Int, ¬ s = 1 → s = srt T n q → (s = 2 → ¬ numV T q (re T n q) = -1) → ¬ s = 3 → AW g l (d + 2) MX12_next 215 [some (vR 12 (some m)), none, some (vI q)] [] (sJ (sI σ' 1213 m 0 s) 1216 m 0 0) (fun v σ' => v = none ∧ P σ') := by
          intro s s1 es s2 s3
          refine bk_X12_next_215 ⟨fun c => absurd c ?_, fun _ => ⟨fun _ => ⟨rfl, h _ ⟨hFF.trans ((Frm.sI (by simp)).trans (Frm.sJ (by simp))), ?_, ?_, ?_, fun c => absurd c (by omega), fun c => ?_, fun c => absurd c (by omega)⟩⟩, fun c => absurd c ?_⟩⟩
          · rw [gI_sJ, gI_sI, if_neg (by simp)]; omega
          · rw [gI_sJ, gI_sI, if_neg (by simp)]; exact b1
          · rw [gI_sJ, gI_sI, if_neg (by simp), if_pos zn, ex]; exact b2
          · rw [gI_sJ, gI_slf, es]
          · rw [gJ_sJ, if_neg (by simp), gJ_sI]
            exact hval (s2 (by omega))
          · rw [gI_sJ, gI_slf]; exact s1
        refine ⟨fun c => both 4 (by decide) ?_ (fun c => absurd c (by decide)) (by decide), fun c => both 2 (by decide) ?_ (fun _ c2 => c ?_) (by decide)⟩
        · unfold srt; rw [if_neg (by omega), if_neg sm, if_pos sd, if_pos (Decidable.byContradiction (fun w => by rw [if_neg w] at hbv; omega))]
        · unfold srt; rw [if_neg (by omega), if_neg sm, if_pos sd, if_neg (fun w => c (by rw [hbv, if_pos w]))]
        · rw [hbv, if_pos c2]
    induction j with
    | zero =>
      intro e τ hej he0 hF a1 a2 hr2
      rw [re_end (by omega)] at hr2
      refine bk_X12_next_112 (m_tapeAt (hF.lc hL) (by omega) (by rw [eN τ hF]; omega) ?_)
      rw [eN τ hF, a2, if_neg (by omega)]
      refine m_letter ?_
      rw [if_neg (by omega)]
      refine ⟨fun c => absurd rfl c, fun _ => m_tapeAt (hF.lc hL) (by omega) (by rw [eN τ hF]; omega) ?_⟩
      rw [eN τ hF, a2, if_neg (by omega)]
      refine m_digit ?_
      rw [if_neg (by omega)]
      exact ⟨fun _ => fin τ hF a1 (by omega), fun c => absurd rfl c⟩
    | succ j ih =>
      intro e τ hej he0 hF a1 a2 hr2
      have up : ((97 ≤ T e ∧ T e ≤ 122) ∨ (48 ≤ T e ∧ T e ≤ 57)) → R32 (gI τ 1215 m 0 + 1) ∧ AW g l (d + 2) MX12_next 112 [some (vR 12 (some m)), some (vI (T q)), none] [] (sI τ 1215 m 0 (gI τ 1215 m 0 + 1)) (fun v σ' => v = none ∧ P σ') := fun c => by
        refine ⟨⟨by omega, by omega⟩, ih (e + 1) _ (by omega) (by omega) (hF.trans (Frm.sI (by simp))) ?_ (by rw [gI_slf, a2]) (by rw [← re_in (by omega) c]; exact hr2)⟩
        rw [gI_sI, if_neg (by simp)]; exact a1
      refine bk_X12_next_112 (m_tapeAt (hF.lc hL) (by omega) (by rw [eN τ hF]; omega) ?_)
      rw [eN τ hF, eT τ hF, a2, if_pos (by omega)]
      rw [a2] at up
      refine m_letter ?_
      by_cases sm : 97 ≤ T e ∧ T e ≤ 122
      · rw [if_pos sm, a2]
        exact ⟨fun _ => up (Or.inl sm), fun c => absurd c (by decide)⟩
      · rw [if_neg sm]
        refine ⟨fun c => absurd rfl c, fun _ => m_tapeAt (hF.lc hL) (by omega) (by rw [eN τ hF]; omega) ?_⟩
        rw [eN τ hF, eT τ hF, a2, if_pos (by omega)]
        refine m_digit ?_
        by_cases sd : 48 ≤ T e ∧ T e ≤ 57
        · rw [if_pos sd, a2]
          exact ⟨fun c => absurd c (by decide), fun _ => up (Or.inr sd)⟩
        · rw [if_neg sd]
          rw [re_out (by omega) (fun c => c.elim sm sd)] at hr2
          exact ⟨fun _ => fin τ hF a1 (by omega), fun c => absurd rfl c⟩
  have at60 : ∀ τ : St, Frm (fun f r => r = m ∧ (1213 ≤ f ∧ f ≤ 1217)) σ τ → gI τ 1214 m 0 = q → AW g l (d + 2) MX12_next 60 [some (vR 12 (some m)), none, none] [] τ (fun v σ' => v = none ∧ P σ') := by
    intro τ0 hF0 a0
    refine bk_X12_next_60 ?_
    rw [a0]
    have hF : Frm (fun f r => r = m ∧ (1213 ≤ f ∧ f ≤ 1217)) σ (sI τ0 1215 m 0 q) := hF0.trans (Frm.sI (by simp))
    have a1 : gI (sI τ0 1215 m 0 q) 1214 m 0 = q := by rw [gI_sI, if_neg (by simp)]; exact a0
    have a2 : gI (sI τ0 1215 m 0 q) 1215 m 0 = q := gI_slf _ _ _ _ _
    generalize sI τ0 1215 m 0 q = τ at *
    refine m_tapeAt (hF.lc hL) (by omega) (by rw [eN τ hF]; omega) ?_
    rw [eN τ hF, eT τ hF, a1]
    refine ⟨fun zn => ?_, fun zn => ⟨rfl, h _ ⟨hF.trans (Frm.sI (by simp)), ?_, ?_, ?_, ?_⟩⟩⟩
    · rw [if_pos zn]
      have hbq := hb q (by omega) zn
      refine m_letter ?_
      by_cases sm : 97 ≤ T q ∧ T q ≤ 122
      · rw [if_pos sm]
        exact ⟨fun _ => rl (Or.inl sm) zn (n - q).toNat q τ (by omega) (by omega) hF a1 a2 rfl, fun c => absurd c (by decide)⟩
      · rw [if_neg sm]
        refine ⟨fun c => absurd rfl c, fun _ => m_digit ?_⟩
        by_cases sd : 48 ≤ T q ∧ T q ≤ 57
        · rw [if_pos sd]
          exact ⟨fun c => absurd c (by decide), fun _ => rl (Or.inr sd) zn (n - q).toNat q τ (by omega) (by omega) hF a1 a2 rfl⟩
        · rw [if_neg sd, a2]
          have ex : nxt T n q = q + 1 := if_neg (by omega)
          have fin : ∀ s : Int, s = srt T n q → (¬ s = 1 ∧ ¬ s = 2) → P (sJ (sI (sI τ 1215 m 0 (q + 1)) 1213 m 0 s) 1217 m 0 (i2j (T q))) := by
            intro s es hs
            refine h _ ⟨hF.trans ((Frm.sI (by simp)).trans ((Frm.sI (by simp)).trans (Frm.sJ (by simp)))), ?_, ?_, ?_, fun c => absurd c (by omega), fun c => absurd c (by omega), fun c => ?_⟩
            · simp only [gI_sI, gI_sJ, true_and, false_and, if_false, Nat.reduceEqDiff]; exact a1
            · rw [gI_sJ, gI_sI, if_neg (by simp), gI_slf, if_pos zn, ex]
            · rw [gI_sJ, gI_slf, es]
            · rw [gJ_slf]
          refine ⟨fun _ => ⟨⟨by omega, by omega⟩, m_sign hbq.1 hbq.2 ?_⟩, fun c => absurd rfl c⟩
          have sE : srt T n q = if 0 ≤ ixN SGB (if T q < 128 then T q else T q - 256) 18 0 then 3 else 4 := by unfold srt; rw [if_neg (by omega), if_neg sm, if_neg sd]
          by_cases sg : 0 ≤ ixN SGB (if T q < 128 then T q else T q - 256) 18 0
          · rw [if_pos sg] at sE ⊢
            exact ⟨fun c => absurd c (by decide), fun _ => ⟨rfl, fin 3 sE.symm (by decide)⟩⟩
          · rw [if_neg sg] at sE ⊢
            exact ⟨fun _ => ⟨rfl, fin 4 sE.symm (by decide)⟩, fun c => absurd rfl c⟩
    · rw [gI_sI, if_neg (by simp)]; exact a1
    · rw [gI_sI, if_neg (by simp), if_neg zn]; exact a2
    · rw [gI_slf]; unfold srt; rw [if_pos (by omega)]
    · have es : srt T n q = 0 := by unfold srt; rw [if_pos (by omega)]
      exact ⟨fun c => absurd c (by omega), fun c => absurd c (by omega), fun c => absurd c (by omega)⟩
  have loop : ∀ (j : Nat) (p : Int) (τ : St), p = n - j → 0 ≤ p → Frm (fun f r => r = m ∧ (1213 ≤ f ∧ f ≤ 1217)) σ τ → gI τ 1214 m 0 = p → sk T n p = q →
      AW g l (d + 2) MX12_next 8 [some (vR 12 (some m)), none, none] [] τ (fun v σ' => v = none ∧ P σ') := by
    intro j
    induction j with
    | zero =>
      intro p τ hp hp0 hF a1 hs
      rw [sk_end (by omega)] at hs
      refine bk_X12_next_8 ⟨fun _ => at60 τ hF (by omega), fun c => absurd (by rw [eN τ hF]; omega) c⟩
    | succ j ih =>
      intro p τ hp hp0 hF a1 hs
      refine bk_X12_next_8 ⟨fun c => absurd c (by rw [eN τ hF]; omega), fun _ => ⟨hF.lc hL, ⟨by omega, by omega⟩, ?_⟩⟩
      rw [a1, eT τ hF]
      have up : (T p = 32 ∨ T p = 10) → R32 (p + 1) ∧ AW g l (d + 2) MX12_next 8 [some (vR 12 (some m)), none, none] [] (sI τ 1214 m 0 (p + 1)) (fun v σ' => v = none ∧ P σ') := fun c =>
        ⟨⟨by omega, by omega⟩, ih (p + 1) _ (by omega) (by omega) (hF.trans (Frm.sI (by simp))) (gI_slf _ _ _ _ _) (by rw [← sk_blank (by omega) c]; exact hs)⟩
      refine ⟨fun c => up (Or.inl c), fun c => ⟨fun c2 => at60 τ hF ?_, fun c2 => up (Or.inr c2)⟩⟩
      rw [sk_non (by omega) (by omega)] at hs
      omega
  refine AC.of mo_X12_next (Nat.le_of_ble_eq_true rfl) (bk_X12_next_0 (loop (n - t).toNat t _ (by omega) h0 (Frm.sI (by simp)) ?_ hq))
  rw [gI_slf, ht]
end M12
