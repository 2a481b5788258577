/-! the class lays: where, and a node made -/
def LyF (tr rk : Nat) (Own : Nat → Prop) (f r : Nat) : Prop := (r = tr ∧ (f = 1003 ∨ f = 1004 ∨ f = 1005 ∨ f = 1008 ∨ f = 1009)) ∨ (r = rk ∧ 700 ≤ f ∧ f ≤ 702) ∨ (Own r ∧ 501 ≤ f ∧ f ≤ 516)
def EnC (σ : St) (tr a dd c rk : Nat) (so : Nat → Nat) (fo : Nat → Nat → Nat) (En : List Enm) (Ss : List Stc) (len : Int) (h : Int → Int) (Own : Nat → Prop) : Prop :=
  (gR σ 1000 tr 0 = some a ∧ gR σ 1006 tr 0 = some dd ∧ gR σ 1007 tr 0 = some rk ∧ LC 10 σ tr ∧ tr < hs σ ∧ LC 7 σ rk ∧ rk < hs σ) ∧
  (LC 3 σ a ∧ gI σ 304 a 0 = len ∧ (0 ≤ len ∧ len ≤ 2000) ∧ (∀ p : Int, 0 ≤ p → p < len → gI σ 301 a p.toNat = h p) ∧ a < hs σ) ∧
  DSi σ dd c so fo ∧ (DCo σ dd c so fo En Ss ∧ gI σ 2 c 0 ≤ 3001 ∧ gI σ 109 dd 0 ≤ 3000) ∧ ∀ r, hs σ ≤ r → Own r
/-- the row of nodes -/
def NA (σ : St) (tr : Nat) (Own : Nat → Prop) : Prop := ∀ (j r : Nat), j < 400 → gR σ 1003 tr j = some r → r < hs σ ∧ Own r ∧ gI σ 500 r 0 = (j : Int)
def TrC (σ : St) (tr : Nat) (no : Nat → Nat) (fo : Nat → Nat → Nat) (Ss : List Stc) (Own : Nat → Prop) (H Z : Nat) (s : TS) : Prop :=
  (gI σ 1004 tr 0 = (s.c : Int) ∧ gI σ 1005 tr 0 = 0 ∧ s.c ≤ 400) ∧ (∀ j, j < s.c → gR σ 1003 tr j = some (no j)) ∧ NA σ tr Own ∧ (∀ i, i < s.c → NdC σ no fo Ss s i ∧ gJ σ 506 (no i) 0 = Int64.ofInt (s.d 10 i)) ∧ (∀ i : Nat, i < s.c → 0 ≤ s.d 9 i ∧ s.d 9 i ≤ i) ∧ hs σ ≤ H + s.c ∧ sl σ ≤ Z + 17 * s.c
/-- too many nodes were wanted -/
def TrG (σ : St) (tr : Nat) (Own : Nat → Prop) (H Z : Nat) : Prop := gI σ 1005 tr 0 = 1 ∧ NA σ tr Own ∧ hs σ ≤ H + 400 ∧ sl σ ≤ Z + 6800
section N1
variable {g : GP} {l : Launch} {d : Nat} {σ σ' : St} {tr a dd c rk H Z i k : Nat} {no : Nat → Nat} {so : Nat → Nat} {fo : Nat → Nat → Nat} {En : List Enm} {Ss : List Stc} {s : TS} {h : Int → Int} {len : Int} {Own : Nat → Prop}
theorem EnC.fr (hE : EnC σ tr a dd c rk so fo En Ss len h Own) (hF : Fr (LyF tr rk Own) σ σ') : EnC σ' tr a dd c rk so fo En Ss len h Own := by
  obtain ⟨⟨a1, a2, a3, a4, a5, a6, a7⟩, ⟨b1, b2, b3, b4, b5⟩, c1, ⟨d1, d2, d3⟩, e1⟩ := hE
  have n : ∀ f r, f < 500 ∨ (800 ≤ f ∧ f ≤ 1002) ∨ f = 1006 ∨ f = 1007 → ¬ LyF tr rk Own f r := fun f r z q => by
    rcases q with q | q | q
    · have := q.2; omega
    · have := q.2; omega
    · have := q.2; omega
  obtain ⟨f1, g1⟩ := c1.fr hF (fun f r z => n f r (by omega))
  refine ⟨⟨by rw [hF.R a5 (n _ _ (by omega))]; exact a1, by rw [hF.R a5 (n _ _ (by omega))]; exact a2, by rw [hF.R a5 (n _ _ (by omega))]; exact a3, hF.lc a5 a4, Nat.lt_of_lt_of_le a5 hF.1, hF.lc a7 a6, Nat.lt_of_lt_of_le a7 hF.1⟩, ⟨hF.lc b5 b1, by rw [hF.I b5 (n _ _ (by omega))]; exact b2, b3, fun p p0 p1 => by rw [hF.I b5 (n _ _ (by omega))]; exact b4 p p0 p1, Nat.lt_of_lt_of_le b5 hF.1⟩, f1, ⟨d1.ag g1, by rw [g1.1.I (by decide) (by decide)]; exact d2, by rw [g1.2.1.I (by decide) (by decide)]; exact d3⟩, fun r hr => e1 r (Nat.le_trans hF.1 hr)⟩
theorem TrC.inj (hT : TrC σ tr no fo Ss Own H Z s) {j j' : Nat} (hj : j < s.c) (hj' : j' < s.c) (e : no j = no j') : j = j' := by
  obtain ⟨⟨_, _, a3⟩, b, c, _⟩ := hT
  have x := (c j (no j) (by omega) (b j hj)).2.2
  have y := (c j' (no j') (by omega) (b j' hj')).2.2
  rw [e, y] at x
  omega
def awO (σ : St) (pa : Option Nat) : Int := match pa with
  | none => 0
  | some r => gI σ 512 r 0 + 1
theorem x_begin {n : Nat} {pa fd : Option Nat} {what place : Int} {nm : Int64} {P : St → Prop} (hr : ∀ r, pa = some r → R32 (gI σ 512 r 0 + 1))
    (hP : ∀ σ', Frm (fun f r => r = n ∧ 501 ≤ f ∧ f ≤ 516) σ σ' → gI σ' 501 n 0 = what → gI σ' 502 n 0 = place → gI σ' 503 n 0 = place → gI σ' 504 n 0 = 0 → gI σ' 505 n 0 = 0 → gJ σ' 506 n 0 = nm → gR σ' 507 n 0 = pa → gR σ' 508 n 0 = none → gR σ' 509 n 0 = none → gR σ' 510 n 0 = none → gI σ' 511 n 0 = 0 → gI σ' 512 n 0 = awO σ pa → gR σ' 513 n 0 = fd → gI σ' 514 n 0 = -1 → P σ') : ACv g l d MX5_begin [vR 5 (some n), vR 5 pa, vI what, vI place, vJ nm, vR 2 fd] σ P := by
  have hF : ∀ v12 : Int, Frm (fun f r => r = n ∧ 501 ≤ f ∧ f ≤ 516) σ (sI (sI (sI (sR (sI (sI (sR (sR (sR (sR (sJ (sI (sI (sI (sI (sI σ 501 n 0 what) 502 n 0 place) 503 n 0 place) 504 n 0 0) 505 n 0 0) 506 n 0 nm) 507 n 0 pa) 508 n 0 none) 509 n 0 none) 510 n 0 none) 511 n 0 0) 512 n 0 v12) 513 n 0 fd) 514 n 0 (-1)) 515 n 0 0) 516 n 0 0) := fun v12 =>
    (Frm.sI ⟨rfl, by omega⟩).trans ((Frm.sI ⟨rfl, by omega⟩).trans ((Frm.sI ⟨rfl, by omega⟩).trans ((Frm.sI ⟨rfl, by omega⟩).trans ((Frm.sI ⟨rfl, by omega⟩).trans ((Frm.sJ ⟨rfl, by omega⟩).trans ((Frm.sR ⟨rfl, by omega⟩).trans ((Frm.sR ⟨rfl, by omega⟩).trans ((Frm.sR ⟨rfl, by omega⟩).trans ((Frm.sR ⟨rfl, by omega⟩).trans ((Frm.sI ⟨rfl, by omega⟩).trans ((Frm.sI ⟨rfl, by omega⟩).trans ((Frm.sR ⟨rfl, by omega⟩).trans ((Frm.sI ⟨rfl, by omega⟩).trans ((Frm.sI ⟨rfl, by omega⟩).trans (Frm.sI ⟨rfl, by omega⟩)))))))))))))))
  have fin : ∀ v12 : Int, v12 = awO σ pa → P (sI (sI (sI (sR (sI (sI (sR (sR (sR (sR (sJ (sI (sI (sI (sI (sI σ 501 n 0 what) 502 n 0 place) 503 n 0 place) 504 n 0 0) 505 n 0 0) 506 n 0 nm) 507 n 0 pa) 508 n 0 none) 509 n 0 none) 510 n 0 none) 511 n 0 0) 512 n 0 v12) 513 n 0 fd) 514 n 0 (-1)) 515 n 0 0) 516 n 0 0) := fun v12 e12 => by
    refine hP _ (hF v12) ?_ ?_ ?_ ?_ ?_ ?_ ?_ ?_ ?_ ?_ ?_ ?_ ?_ ?_
    all_goals simp only [gI_sI, gI_sJ, gI_sR, gJ_sI, gJ_sJ, gJ_sR, gR_sI, gR_sJ, gR_sR, true_and, and_true, false_and, and_false, if_false, if_true, Nat.reduceEqDiff]
    all_goals first | rfl | exact e12
  refine AC.of mo_X5_begin (Nat.le_of_ble_eq_true rfl) (bk_X5_begin_0 ⟨fun z => ⟨rfl, fin 0 (by rw [z]; rfl)⟩, fun r z => ⟨hr r z, rfl, fin _ (by rw [z]; rfl)⟩⟩)
theorem x_addKid {p n : Nat} {P : St → Prop} (hr : R32 (gI σ 511 p 0 + 1)) (hP : ∀ σ', Frm (fun f r => (r = p ∧ (f = 508 ∨ f = 509 ∨ f = 511)) ∨ (gR σ 509 p 0 = some r ∧ f = 510)) σ σ' → gI σ' 511 p 0 = gI σ 511 p 0 + 1 → gR σ' 509 p 0 = some n → (gR σ 509 p 0 = none → gR σ' 508 p 0 = some n) → (∀ r, gR σ 509 p 0 = some r → gR σ' 508 p 0 = gR σ 508 p 0 ∧ gR σ' 510 r 0 = some n) → P σ') : ACv g l d MX5_addKid [vR 5 (some p), vR 5 (some n)] σ P := by
  refine AC.of mo_X5_addKid (Nat.le_of_ble_eq_true rfl) (bk_X5_addKid_0 ⟨fun z => ⟨hr, rfl, hP _ ?_ ?_ ?_ ?_ ?_⟩, fun r z => ⟨hr, rfl, hP _ ?_ ?_ ?_ ?_ ?_⟩⟩)
  · exact (Frm.sR (Or.inl ⟨rfl, by omega⟩)).trans ((Frm.sR (Or.inl ⟨rfl, by omega⟩)).trans (Frm.sI (Or.inl ⟨rfl, by omega⟩)))
  · exact gI_slf _ _ _ _ _
  · show gR (sR (sR σ 508 p 0 (some n)) 509 p 0 (some n)) 509 p 0 = some n
    exact gR_slf _ _ _ _ _
  · intro _
    show gR (sR (sR σ 508 p 0 (some n)) 509 p 0 (some n)) 508 p 0 = some n
    rw [gR_sR, if_neg (by simp), gR_slf]
  · intro r q; rw [z] at q; cases q
  · exact (Frm.sR (Or.inr ⟨z, rfl⟩)).trans ((Frm.sR (Or.inl ⟨rfl, by omega⟩)).trans (Frm.sI (Or.inl ⟨rfl, by omega⟩)))
  · exact gI_slf _ _ _ _ _
  · show gR (sR (sR σ 510 r 0 (some n)) 509 p 0 (some n)) 509 p 0 = some n
    exact gR_slf _ _ _ _ _
  · intro q; rw [z] at q; cases q
  · intro r' q
    rw [z] at q
    cases q
    refine ⟨?_, ?_⟩
    · show gR (sR (sR σ 510 r 0 (some n)) 509 p 0 (some n)) 508 p 0 = gR σ 508 p 0
      rw [gR_sR, if_neg (by simp), gR_sR, if_neg (by simp)]
    · show gR (sR (sR σ 510 r 0 (some n)) 509 p 0 (some n)) 510 r 0 = some n
      rw [gR_sR, if_neg (by simp), gR_slf]
end N1
