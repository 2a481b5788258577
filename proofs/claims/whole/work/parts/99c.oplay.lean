/-! lay -/
abbrev LayF (f _r : Nat) : Prop := f / 100 = 5 ∨ f / 100 = 7 ∨ f / 100 = 10 ∨ f = 1108 ∨ f = 1109 ∨ f = 1110 ∨ f = 1253 ∨ (1264 ≤ f ∧ f ≤ 1289)
section S2
variable {g : GP} {l : Launch} {d e : Nat} {σ σ' : St} {x m p b : Nat} {A B : DPa} {En : List Enm} {Ss : List Stc} {T : Nat → TS} {I : Nat → Int} {st im place : Int}
/-- the nodes of the spare tree -/
def OwnO (σ : St) (sp : Nat) (r : Nat) : Prop := (∃ j, j < 400 ∧ gR σ 1003 sp j = some r) ∨ hs σ ≤ r
theorem TI.d50 {Ss : List Stc} {len : Int} {s : TS} (hI : TI Ss len s) (hc : 0 < s.c) : s.d 5 0 = -1 := by
  have := (hI.2 0 hc).2.1.2.2
  omega
/-- the reference lays tree t -/
theorem m_laidAt {P : Int → St → Prop} {t : Nat} {h : Int → Int} {len : Int} (hI : ImgI σ x m) (hm12 : LC 12 σ m) (hD : gI σ 1218 m 0 = (b : Int) ∧ b < 2 ∧ DR σ m b (3000 * b + 3000) En Ss) (hW : LW En Ss) (hB : ∀ fl F, gF Ss fl = some F → F.ki = 3 → BiO F.es 0 (8 * tw F.ty) ∧ F.es.length ≤ 12) (hsz : ∀ x, szS Ss x ≤ 1000000) (him : 0 ≤ im ∧ im < gI σ 1101 x 0) (hlen : len = gI σ 1201 m im.toNat) (hh : h = fun q => hasM σ m im q) (ht : t < 7) (h1 : 0 ≤ place ∧ place ≤ len) (hst : 0 ≤ st ∧ st < Ss.length)
    (ho : ∀ s', lyT En Ss h len st place = some s' → ∀ σ', Frm (fun f r => r = m ∧ (f = 1253 ∨ f = 1265 ∨ f = 1266 ∨ (1267 ≤ f ∧ f ≤ 1289))) σ σ' → OtT m t σ σ' → (∀ j, ¬ j = t → gI σ' 1265 m j = gI σ 1265 m j) → gI σ' 1265 m t = im → gI σ' 1266 m t = (s'.c : Int) → (∀ i, i < s'.c → NdR σ' m t b s' i) → P 1 σ')
    (hn : lyT En Ss h len st place = none → ∀ σ', Frm (fun f r => r = m ∧ (f = 1253 ∨ f = 1265 ∨ f = 1266 ∨ (1267 ≤ f ∧ f ≤ 1289))) σ σ' → OtT m t σ σ' → (∀ j, ¬ j = t → gI σ' 1265 m j = gI σ 1265 m j) → P 0 σ') : ACi g l (e + 14) MX12_laidAt [vR 12 (some m), vI (t : Int), vI im, vI st, vI place] σ P := by
  obtain ⟨i1, i2, i3, i4, i5, i6, i7, i8, i9⟩ := id hI
  obtain ⟨q1, q2, q3⟩ := i7 im him.1 him.2
  generalize hσ1 : (sI (sI (sI (sI (sI (sI σ 1253 m 0 (gI σ 1218 m 0)) 1280 m 0 (t : Int)) 1281 m 0 im) 1265 m t im) 1266 m t 0) 1282 m 0 0) = σ1
  have F1 : Frm (fun f r => r = m ∧ (f = 1253 ∨ f = 1265 ∨ f = 1266 ∨ (1267 ≤ f ∧ f ≤ 1289))) σ σ1 := by
    rw [← hσ1]
    exact (Frm.sI ⟨rfl, by omega⟩).trans ((Frm.sI ⟨rfl, by omega⟩).trans ((Frm.sI ⟨rfl, by omega⟩).trans ((Frm.sI ⟨rfl, by omega⟩).trans ((Frm.sI ⟨rfl, by omega⟩).trans (Frm.sI ⟨rfl, by omega⟩)))))
  have v53 : gI σ1 1253 m 0 = gI σ 1218 m 0 := by rw [← hσ1]; simp only [gI_sI, true_and, and_true, false_and, if_false, if_true, Nat.reduceEqDiff]
  have v80 : gI σ1 1280 m 0 = (t : Int) := by rw [← hσ1]; simp only [gI_sI, true_and, and_true, false_and, if_false, if_true, Nat.reduceEqDiff]
  have v81 : gI σ1 1281 m 0 = im := by rw [← hσ1]; simp only [gI_sI, true_and, and_true, false_and, if_false, if_true, Nat.reduceEqDiff]
  have v65 : gI σ1 1265 m t = im := by rw [← hσ1]; simp only [gI_sI, true_and, and_true, false_and, if_false, if_true, Nat.reduceEqDiff]
  have v66 : gI σ1 1266 m t = 0 := by rw [← hσ1]; simp only [gI_sI, true_and, and_true, false_and, if_false, if_true, Nat.reduceEqDiff]
  have v82 : gI σ1 1282 m 0 = 0 := by rw [← hσ1]; simp only [gI_sI, true_and, and_true, false_and, if_false, if_true, Nat.reduceEqDiff]
  have ot1 : OtT m t σ σ1 := fun f j z => by
    rw [← hσ1, gI_sI, if_neg (by omega), gI_sI, if_neg (by omega), gI_sI, if_neg (by omega), gI_sI, if_neg (by omega), gI_sI, if_neg (by omega), gI_sI, if_neg (by omega)]
  have o65 : ∀ j, ¬ j = t → gI σ1 1265 m j = gI σ 1265 m j := fun j z => by
    rw [← hσ1, gI_sI, if_neg (by simp), gI_sI, if_neg (by simp), gI_sI, if_neg (by omega), gI_sI, if_neg (by simp), gI_sI, if_neg (by simp), gI_sI, if_neg (by simp)]
  have n : ∀ f, f < 1253 ∨ (1254 ≤ f ∧ f ≤ 1264) → ¬ (m = m ∧ (f = 1253 ∨ f = 1265 ∨ f = 1266 ∨ (1267 ≤ f ∧ f ≤ 1289))) := fun f z q => by omega
  have rel := q3
  have eh : ∀ p : Int, hasM σ1 m im p = hasM σ m im p := fun p => by unfold hasM; rw [F1.I (n 1203 (by omega)), F1.I (n 1202 (by omega))]; exact hv_congr (fun i _ => F1.I (n 1204 (by omega)) _) rfl
  have l304 : gI σ 304 (img σ x im) 0 = gI σ 1201 m im.toNat := rel.1
  have l303 : gI σ 303 (img σ x im) 0 = gI σ 1202 m im.toNat := rel.2.1
  have c304 := q2.2.1
  have c303 := q2.2.2.1
  have E1 : EnR σ1 m t b En Ss im len h := by
    refine ⟨⟨F1.lc hm12, v81, him.1, by omega, by rw [F1.I (n 1201 (by omega)), hlen], by omega, by omega, by rw [F1.I (n 1202 (by omega))]; omega, fun p p0 p1 => ?_⟩, ⟨hD.2.1, hD.2.2.ag (fun f i z => ⟨F1.I (n f (by omega)) i, F1.J (n f (by omega)) i⟩)⟩, by rw [v53]; exact hD.1, by rw [F1.I (n 1218 (by omega))]; exact hD.1, v80, ht⟩
    have hb := q2.now p0 (by omega)
    have hr := rel.has q2 p0 (by omega)
    rw [eh, hh]
    exact ⟨rfl, by show 0 ≤ hasM σ m im p; omega, by show hasM σ m im p ≤ 255; omega⟩
  have T1 : TrR σ1 m t b TS0 := ⟨⟨v66, v82, by show 0 ≤ 400; omega⟩, fun i hi => absurd hi (Nat.not_lt_zero _)⟩
  have keep : ∀ σ2, RyO m t σ1 σ2 → Frm (fun f r => r = m ∧ (f = 1253 ∨ f = 1265 ∨ f = 1266 ∨ (1267 ≤ f ∧ f ≤ 1289))) σ σ2 ∧ OtT m t σ σ2 ∧ (∀ j, ¬ j = t → gI σ2 1265 m j = gI σ 1265 m j) ∧ gI σ2 1265 m t = im := fun σ2 o2 => by
    have k65 : ∀ j, gI σ2 1265 m j = gI σ1 1265 m j := fun j => o2.1.I (fun q => by
      rcases q with q | q
      · have := q.2; omega
      · omega) j
    exact ⟨F1.trans (o2.1.mono (fun f r q => by
      rcases q with q | q
      · exact ⟨q.1, by have := q.2; omega⟩
      · exact ⟨q.1, by omega⟩)), ot1.trans o2.2, fun j z => by rw [k65]; exact o65 j z, by rw [k65]; exact v65⟩
  refine AC.of mo_X12_laidAt (Nat.le_of_ble_eq_true rfl) (bk_X12_laidAt_0 ⟨hm12, ⟨by omega, by omega⟩, ?_⟩)
  rw [Int.toNat_natCast, hσ1]
  refine m_laid E1 T1 hW hB hsz h1 hst (fun s' es σ2 o2 T2 => ?_) (fun en σ2 o2 mm => ?_)
  · obtain ⟨k1, k2, k3, k4⟩ := keep σ2 o2
    exact ⟨fun w => absurd T2.1.2.1 w, fun _ => ⟨_, rfl, ho s' es σ2 k1 k2 k3 k4 T2.1.1 T2.2⟩⟩
  · obtain ⟨k1, k2, k3, k4⟩ := keep σ2 o2
    exact ⟨fun _ => ⟨_, rfl, hn en σ2 k1 k2 k3⟩, fun w => by omega⟩
end S2
