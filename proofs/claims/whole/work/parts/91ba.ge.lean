/-! what is read goes on -/
section GE
variable {X : Txt} {En : List Enm} {Ss : List Stc} {Fs : List Fld} {i : Nat}
theorem tk_ge {w : Int} {j : Nat} (h : tk X i w = .ok j) : i ≤ j := by rw [(tk_ok h).2]; exact nx_ge
theorem tT_ge {q : Nat × Int64} (h : tT X i = .ok q) : i ≤ q.1 := by rw [(tT_ok h).2]; exact nx_ge
theorem tO_ge {F : Fld} {q : Nat × Int64} (h : tO X Fs F i = .ok q) : i ≤ q.1 := by rw [(tO_ok h).2]; exact nx_ge
theorem tI_ge {L : List Int64} {q : Nat × Int} (h : tI X L i = .ok q) : i ≤ q.1 := by rw [(tI_ok h).2.1]; exact nx_ge
theorem tN_ge {lo hi : Int} {q : Nat × Int64} (h : tN X i lo hi = .ok q) : i ≤ q.1 := by rw [(tN_ok h).2.1]; exact nx_ge
theorem nx_ge2 : i ≤ X.nx (X.nx i) := Nat.le_trans nx_ge nx_ge
theorem tS_ge {q : Nat × Int64} (h : tS X i = .ok q) : i ≤ q.1 := by
  unfold tS at h
  split at h
  · split at h
    · cases h; exact nx_ge2
    · exact absurd h (by simp)
  · split at h
    · cases h; exact nx_ge
    · exact absurd h (by simp)
theorem rx_ge (hX : X.OK) {r : Nat × List Nd} (hi : i ≤ X.K) (h : rx X Fs i = .ok r) : i ≤ r.1 ∧ r.1 ≤ X.K := by
  have := rx_wf hX hX.num hi h
  exact ⟨by omega, this.2.2⟩
theorem rTail_ge (hX : X.OK) {F : Fld} {q : Nat × Fld} (hi : i ≤ X.K) (h : rTail X En Ss Fs F i = .ok q) : i ≤ q.1 := by
  unfold rTail at h
  have n1 : i ≤ X.nx i := nx_ge
  split at h
  · obtain ⟨a, a1, a2⟩ := bx_inv h
    have := tI_ge a1
    cases a2
    show i ≤ a.1
    omega
  · split at h
    · split at h
      · split at h
        · cases h; exact nx_ge2
        · exact absurd h (by simp)
      · obtain ⟨a, a1, a2⟩ := bx_inv h
        obtain ⟨j, a3, a4⟩ := bx_inv a2
        have := rx_ge hX (nx_le hi) a1
        have := tk_ge a3
        cases a4
        show i ≤ j
        omega
    · cases h; exact Nat.le_refl _
theorem rPart_ge {F : Fld} {bit : Int} {q : Nat × Fld × Int} (h : rPart X Fs F bit i = .ok q) : i ≤ q.1 := by
  unfold rPart at h
  obtain ⟨a, a1, a2⟩ := bx_inv h
  have := tO_ge a1
  split at a2
  · obtain ⟨j, a3, a4⟩ := bx_inv a2
    obtain ⟨r, a5, a6⟩ := bx_inv a4
    have := tk_ge a3
    have := tN_ge a5
    cases a6
    show i ≤ r.1
    omega
  · exact absurd a2 (by simp)
theorem rParts_ge : ∀ (f : Nat) (F : Fld) (bit : Int) (i : Nat) (q : Nat × Fld), rParts X Fs f F bit i = .ok q → i ≤ q.1
  | 0, F, bit, i, q, h => absurd h (by simp [rParts])
  | f + 1, F, bit, i, q, h => by
    rw [rParts] at h
    obtain ⟨a, a1, a2⟩ := bx_inv h
    have := rPart_ge a1
    have n1 : a.1 ≤ X.nx a.1 := nx_ge
    split at a2
    · have := rParts_ge f _ _ _ _ a2; omega
    · cases a2; exact this
theorem rCase_ge {F : Fld} {q : Nat × Fld} (h : rCase X Ss F i = .ok q) : i ≤ q.1 := by
  unfold rCase at h
  split at h
  · split at h
    · obtain ⟨a, a1, a2⟩ := bx_inv h
      obtain ⟨j, a3, a4⟩ := bx_inv a2
      obtain ⟨r, a5, a6⟩ := bx_inv a4
      obtain ⟨j2, a7, a8⟩ := bx_inv a6
      have := tS_ge a1
      have := tk_ge a3
      have := tI_ge a5
      have := tk_ge a7
      cases a8
      show i ≤ j2
      omega
    · exact absurd h (by simp)
  · exact absurd h (by simp)
theorem rCases_ge : ∀ (f : Nat) (F : Fld) (i : Nat) (q : Nat × Fld), rCases X Ss f F i = .ok q → i ≤ q.1
  | 0, F, i, q, h => absurd h (by simp [rCases])
  | f + 1, F, i, q, h => by
    rw [rCases] at h
    obtain ⟨a, a1, a2⟩ := bx_inv h
    have := rCase_ge a1
    split at a2
    · have := rCases_ge f _ _ _ a2; omega
    · cases a2; exact this
theorem rByte_ge {F : Fld} {q : Nat × Fld} (h : rByte X F i = .ok q) : i ≤ q.1 := by
  unfold rByte at h
  split at h
  · split at h
    · split at h
      · cases h; exact nx_ge
      · obtain ⟨a, a1, a2⟩ := bx_inv h
        have := tN_ge a1
        cases a2; exact this
    · exact absurd h (by simp)
  · exact absurd h (by simp)
theorem rBytes_ge : ∀ (f : Nat) (F : Fld) (i : Nat) (q : Nat × Fld), rBytes X f F i = .ok q → i ≤ q.1
  | 0, F, i, q, h => absurd h (by simp [rBytes])
  | f + 1, F, i, q, h => by
    rw [rBytes] at h
    obtain ⟨a, a1, a2⟩ := bx_inv h
    have := rByte_ge a1
    split at a2
    · have := rBytes_ge f _ _ _ a2; omega
    · cases a2; exact this
theorem rCore_ge (hX : X.OK) {F : Fld} {q : Nat × Fld} (hi : i ≤ X.K) (h : rCore X En Ss Fs F i = .ok q) : i ≤ q.1 := by
  have n1 : i ≤ X.nx i := nx_ge
  unfold rCore at h
  split at h
  · obtain ⟨a, a1, a2⟩ := bx_inv h
    obtain ⟨b, b1, b2⟩ := bx_inv a2
    have x1 := tT_ge a1
    have x2 := tO_ge b1
    obtain ⟨_, c2⟩ := tT_ok a1
    obtain ⟨_, d2⟩ := tO_ok b1
    have aK : a.1 ≤ X.K := by rw [c2]; exact nx_le hi
    have := rTail_ge hX (by rw [d2]; exact nx_le aK) b2
    omega
  split at h
  · obtain ⟨a, a1, a2⟩ := bx_inv h
    obtain ⟨b, b1, b2⟩ := bx_inv a2
    have x1 := tI_ge a1
    have x2 := tO_ge b1
    obtain ⟨_, c2, _⟩ := tI_ok a1
    obtain ⟨_, d2⟩ := tO_ok b1
    have aK : a.1 ≤ X.K := by rw [c2]; exact nx_le hi
    have := rTail_ge hX (by rw [d2]; exact nx_le aK) b2
    omega
  split at h
  · obtain ⟨a, a1, a2⟩ := bx_inv h
    obtain ⟨b, b1, b2⟩ := bx_inv a2
    obtain ⟨j, e1, e2⟩ := bx_inv b2
    obtain ⟨r, f1, f2⟩ := bx_inv e2
    obtain ⟨j2, g1, g2⟩ := bx_inv f2
    have := tT_ge a1
    have := tO_ge b1
    have := tk_ge e1
    have := rParts_ge _ _ _ _ _ f1
    have := tk_ge g1
    cases g2
    show i ≤ j2
    omega
  split at h
  · obtain ⟨a, a1, a2⟩ := bx_inv h
    have := tO_ge a1
    obtain ⟨_, d2⟩ := tO_ok a1
    have aK : a.1 ≤ X.K := by rw [d2]; exact nx_le (nx_le hi)
    have n2 : a.1 ≤ X.nx a.1 := nx_ge
    split at a2
    · obtain ⟨r, f1, f2⟩ := bx_inv a2
      obtain ⟨j2, g1, g2⟩ := bx_inv f2
      have := rx_ge hX (nx_le aK) f1
      have := tk_ge g1
      cases g2
      show i ≤ j2
      omega
    · obtain ⟨j, e1, e2⟩ := bx_inv a2
      obtain ⟨r, f1, f2⟩ := bx_inv e2
      have := tk_ge e1
      have := tN_ge f1
      cases f2
      show i ≤ r.1
      omega
  split at h
  · obtain ⟨a, a1, a2⟩ := bx_inv h
    obtain ⟨j, e1, e2⟩ := bx_inv a2
    obtain ⟨r, f1, f2⟩ := bx_inv e2
    obtain ⟨j2, g1, g2⟩ := bx_inv f2
    obtain ⟨u, u1, u2⟩ := bx_inv g2
    obtain ⟨_, d2⟩ := tO_ok a1
    obtain ⟨_, e4⟩ := tk_ok e1
    have aK : a.1 ≤ X.K := by rw [d2]; exact nx_le (nx_le hi)
    have jK : j ≤ X.K := by rw [e4]; exact nx_le aK
    have := tO_ge a1
    have := tk_ge e1
    have := rx_ge hX jK f1
    have := tk_ge g1
    have := rCases_ge _ _ _ _ u1
    have n2 : u.1 ≤ X.nx u.1 := nx_ge
    split at u2
    · obtain ⟨o, o1, o2⟩ := bx_inv u2
      obtain ⟨j3, p1, p2⟩ := bx_inv o2
      obtain ⟨j4, q1, q2⟩ := bx_inv p2
      have := tI_ge o1
      have := tk_ge p1
      have := tk_ge q1
      cases q2
      show i ≤ j4
      omega
    · obtain ⟨j4, q1, q2⟩ := bx_inv u2
      have := tk_ge q1
      cases q2
      show i ≤ j4
      omega
  split at h
  · obtain ⟨j, e1, e2⟩ := bx_inv h
    obtain ⟨a, a1, a2⟩ := bx_inv e2
    obtain ⟨j2, g1, g2⟩ := bx_inv a2
    obtain ⟨r, f1, f2⟩ := bx_inv g2
    obtain ⟨x, x1, x2⟩ := bx_inv f2
    obtain ⟨_, e4⟩ := tk_ok e1
    obtain ⟨_, d2⟩ := tO_ok a1
    obtain ⟨_, g4⟩ := tk_ok g1
    obtain ⟨_, c2⟩ := tT_ok f1
    have jK : j ≤ X.K := by rw [e4]; exact nx_le (nx_le hi)
    have aK : a.1 ≤ X.K := by rw [d2]; exact nx_le jK
    have j2K : j2 ≤ X.K := by rw [g4]; exact nx_le aK
    have rK : r.1 ≤ X.K := by rw [c2]; exact nx_le j2K
    have := tk_ge e1
    have := tO_ge a1
    have := tk_ge g1
    have := tT_ge f1
    have n2 : r.1 ≤ X.nx r.1 := nx_ge
    have n3 : x.1 ≤ X.nx x.1 := nx_ge
    have hx : r.1 ≤ x.1 := by
      split at x1
      · obtain ⟨y, y1, y2⟩ := bx_inv x1
        have := rx_ge hX (nx_le rK) y1
        cases y2
        show r.1 ≤ y.1
        omega
      · cases x1
        exact Nat.le_refl _
    split at x2
    · obtain ⟨n, m1, m2⟩ := bx_inv x2
      have := tN_ge m1
      cases m2
      show i ≤ n.1
      omega
    · cases x2
      show i ≤ x.1
      omega
  split at h
  · obtain ⟨n, m1, m2⟩ := bx_inv h
    have := tN_ge m1
    cases m2
    show i ≤ n.1
    omega
  split at h
  · obtain ⟨a, a1, a2⟩ := bx_inv h
    obtain ⟨j, e1, e2⟩ := bx_inv a2
    have := tO_ge a1
    have := tk_ge e1
    have := rBytes_ge _ _ _ _ e2
    omega
  · unfold rSum at h
    have n2 : i ≤ X.nx (X.nx i) := nx_ge2
    split at h
    · obtain ⟨r, f1, f2⟩ := bx_inv h
      obtain ⟨a, a1, a2⟩ := bx_inv f2
      obtain ⟨j, e1, e2⟩ := bx_inv a2
      obtain ⟨x, x1, x2⟩ := bx_inv e2
      obtain ⟨j2, g1, g2⟩ := bx_inv x2
      obtain ⟨y, y1, y2⟩ := bx_inv g2
      obtain ⟨_, c2⟩ := tT_ok f1
      obtain ⟨_, d2⟩ := tO_ok a1
      obtain ⟨_, e4⟩ := tk_ok e1
      obtain ⟨_, g4⟩ := tk_ok g1
      have rK : r.1 ≤ X.K := by rw [c2]; exact nx_le (nx_le (nx_le hi))
      have aK : a.1 ≤ X.K := by rw [d2]; exact nx_le rK
      have := tT_ge f1
      have := tO_ge a1
      have := tk_ge e1
      have z1 := rx_ge hX (by rw [e4]; exact nx_le aK) x1
      have := tk_ge g1
      have := rx_ge hX (by rw [g4]; exact nx_le z1.2) y1
      cases y2
      show i ≤ y.1
      omega
    · exact absurd h (by simp)
end GE
