/-! what is read is well made: the fields -/
section WF2
variable {X : Txt} {En : List Enm} {Ss : List Stc} {Fs : List Fld} {i : Nat}
theorem Txt.OK.num (hX : X.OK) : NumB X := fun i hi k3 => by
  have hq := qs_ge (T := X.T) hX.h0 i
  change 0 ≤ X.q i ∧ X.q i ≤ X.n at hq
  rcases tk_or hX hi with ⟨_, _, _, a⟩ | ⟨hlt, _, ⟨_, a⟩ | ⟨b1, b2, b3⟩ | ⟨_, _, a, _⟩ | ⟨_, _, a, _⟩ | ⟨_, _, _, _, _, a⟩⟩
  · omega
  · omega
  · have hr := re_le (T := X.T) (n := X.n) (X.n - X.q i).toNat (X.q i) (by omega)
    rw [b3]
    have ne : ¬ numV X.T (X.q i) (re X.T X.n (X.q i)) = -1 := by
      unfold srt at b1
      rw [if_neg (by omega)] at b1
      by_cases c : 97 ≤ X.T (X.q i) ∧ X.T (X.q i) ≤ 122
      · rw [if_pos c] at b1
        split at b1 <;> omega
      · rw [if_neg c] at b1
        by_cases c2 : 48 ≤ X.T (X.q i) ∧ X.T (X.q i) ≤ 57
        · rw [if_pos c2] at b1
          by_cases c3 : numV X.T (X.q i) (re X.T X.n (X.q i)) = -1
          · rw [if_pos c3] at b1; omega
          · exact c3
        · rw [if_neg c2] at b1
          split at b1 <;> omega
    generalize X.q i = q at *
    generalize re X.T X.n q = e at *
    have go : ∀ (b : Int) (k : Nat) (j : Int), (b = 10 ∨ b = 16) → k ≤ 9 → q ≤ j → j + k ≤ e → ¬ nvF X.T b k j 0 = -1 → 0 ≤ (nvF X.T b k j 0).toInt := fun b k j hb hk hj he hn => by
      refine nv_ok hb k j 0 0 (by omega) (by decide) (by decide) (fun z z0 z1 => ?_)
      have hz := hr.2.2 z (by omega) (by omega)
      refine ⟨by unfold dg; split <;> omega, ?_⟩
      exact Decidable.byContradiction (fun c => hn (nv_bad k j 0 z z0 z1 c))
    unfold numV at ne ⊢
    split at ne
    · split at ne
      · rename_i c1 c2
        rw [if_pos c1, if_pos c2]
        exact go 16 _ _ (Or.inr rfl) (by omega) (by omega) (by omega) ne
      · exact absurd rfl ne
    · split at ne
      · rename_i c1 c2
        rw [if_neg c1, if_pos c2]
        exact go 10 _ _ (Or.inl rfl) (by omega) (by omega) (by omega) ne
      · exact absurd rfl ne
  · omega
  · omega
  · rcases a with a | ⟨j, _, a⟩ <;> omega
theorem Txt.tyr (hX : X.OK) (hi : i ≤ X.K) (h : X.k i = 4) : TyR (X.v i) := by
  rcases tk_or hX hi with ⟨_, _, _, a⟩ | ⟨_, _, ⟨_, a⟩ | ⟨_, a, _⟩ | ⟨_, _, a, _⟩ | ⟨_, b2, _, b5, _⟩ | ⟨_, _, _, _, _, a⟩⟩
  · omega
  · omega
  · omega
  · omega
  · unfold TyR tw
    have t1 := ty_pos b2
    rw [b5, i2j_toInt]
    unfold tyV at b2 t1 ⊢
    by_cases c : (X.T (X.q i) = 117 ∨ X.T (X.q i) = 115) ∧ (re X.T X.n (X.q i) - X.q i = 2 ∨ (re X.T X.n (X.q i) - X.q i = 3 ∧ X.T (re X.T X.n (X.q i) - 1) = 98)) ∧ 1 ≤ X.T (X.q i + 1) - 48 ∧ X.T (X.q i + 1) - 48 ≤ 8
    · simp only [if_pos c] at *
      have := c.2.2
      rw [w32_id (by split <;> split <;> omega) (by split <;> split <;> omega)]
      split <;> split <;> omega
    · rw [if_neg c] at b2
      exact absurd rfl b2
  · rcases a with a | ⟨j, _, a⟩ <;> omega
theorem nx_le (hi : i ≤ X.K) : X.nx i ≤ X.K := by unfold Txt.nx; split <;> omega
theorem tk_ok {w : Int} {j : Nat} (h : tk X i w = .ok j) : X.k i = w ∧ j = X.nx i := by
  unfold tk at h
  split at h
  · rename_i c; cases h; exact ⟨c, rfl⟩
  · exact absurd h (by simp)
theorem tT_ok {q : Nat × Int64} (h : tT X i = .ok q) : X.k i = 4 ∧ q = (X.nx i, X.v i) := by
  unfold tT at h
  split at h
  · rename_i c; cases h; exact ⟨c, rfl⟩
  · exact absurd h (by simp)
theorem tO_ok {F : Fld} {q : Nat × Int64} (h : tO X Fs F i = .ok q) : X.k i = 2 ∧ q = (X.nx i, X.v i) := by
  unfold tO at h
  split at h
  · rename_i c
    split at h
    · exact absurd h (by simp)
    · cases h; exact ⟨c, rfl⟩
  · exact absurd h (by simp)
theorem tI_ok {L : List Int64} {q : Nat × Int} (h : tI X L i = .ok q) : X.k i = 2 ∧ q.1 = X.nx i ∧ 0 ≤ q.2 ∧ q.2 < L.length := by
  unfold tI at h
  split at h
  · rename_i c
    split at h
    · exact absurd h (by simp)
    · rename_i c2
      cases h
      have := idx_ge (w := X.v i) L 0 (by decide)
      exact ⟨c, rfl, by show 0 ≤ idx L (X.v i) 0; omega, by show idx L (X.v i) 0 < L.length; omega⟩
  · exact absurd h (by simp)
theorem tN_ok {lo hi : Int} {q : Nat × Int64} (h : tN X i lo hi = .ok q) : X.k i = 3 ∧ q = (X.nx i, X.v i) ∧ lo ≤ (X.v i).toInt ∧ (X.v i).toInt ≤ hi := by
  unfold tN at h
  split at h
  · rename_i c
    split at h
    · rename_i c2; cases h; exact ⟨c, rfl, c2.1, c2.2⟩
    · exact absurd h (by simp)
  · exact absurd h (by simp)
theorem tS_ok {q : Nat × Int64} (hi : i ≤ X.K) (h : tS X i = .ok q) : q.1 ≤ X.K := by
  unfold tS at h
  split at h
  · split at h
    · cases h; exact nx_le (nx_le hi)
    · exact absurd h (by simp)
  · split at h
    · cases h; exact nx_le hi
    · exact absurd h (by simp)
theorem bx_inv {α β : Type} {r : Rd α} {k : α → Rd β} {b : β} (h : bx r k = .ok b) : ∃ a, r = .ok a ∧ k a = .ok b := by
  cases r with
  | error e => exact absurd h (by simp [bx])
  | ok a => exact ⟨a, rfl, h⟩
theorem rTail_wf (hX : X.OK) {F : Fld} {q : Nat × Fld} (hi : i ≤ X.K) (h : rTail X En Ss Fs F i = .ok q) (hc : WFx F.ec) (h1 : F.e1 = none) (h2 : F.e2 = none) (he : F.es = []) (hp : F.pr = -1) (hn : IsN F.nm) (hk : F.ki = 1 ∧ F.st = -1 ∧ TyR F.ty ∨ F.ki = 0 ∧ 0 ≤ F.st ∧ F.st < Ss.length) : WFf En.length Ss q.2 ∧ q.1 ≤ X.K := by
  unfold rTail at h
  split at h
  · rename_i c
    obtain ⟨a, a1, a2⟩ := bx_inv h
    obtain ⟨b1, b2, b3, b4⟩ := tI_ok a1
    cases a2
    rw [List.length_map] at b4
    refine ⟨⟨hc, by show WFx F.e1; rw [h1]; exact WFx_none, by show WFx F.e2; rw [h2]; exact WFx_none, by show F.es.length ≤ 16; rw [he]; exact Nat.zero_le _, Or.inr (Or.inl ?_)⟩, by show a.1 ≤ X.K; rw [b2]; exact nx_le (nx_le hi)⟩
    rcases hk with hk | hk
    · exact ⟨hk.1, hn, hk.2.2, hk.2.1, by show -1 ≤ a.2; omega, by show a.2 < _; omega⟩
    · omega
  · split at h
    · split at h
      · split at h
        · rename_i c1 c2 c3 c4
          cases h
          refine ⟨⟨hc, by show WFx F.e1; rw [h1]; exact WFx_none, by show WFx F.e2; rw [h2]; exact WFx_none, by show F.es.length ≤ 16; rw [he]; exact Nat.zero_le _, Or.inr (Or.inr (Or.inl ⟨rfl, hn, hp, ?_⟩))⟩, nx_le (nx_le hi)⟩
          rcases hk with hk | hk
          · exact Or.inl ⟨hk.2.1, hk.2.2⟩
          · refine Or.inr ⟨hk.2.1, hk.2.2, fun _ => ?_⟩
            rcases c4 with c4 | c4
            · exact absurd c4 (by omega)
            · exact c4
        · exact absurd h (by simp)
      · obtain ⟨a, a1, a2⟩ := bx_inv h
        obtain ⟨j, a3, a4⟩ := bx_inv a2
        obtain ⟨w1, w2, w3⟩ := rx_wf hX hX.num (nx_le hi) a1
        obtain ⟨b1, b2⟩ := tk_ok a3
        cases a4
        refine ⟨⟨hc, w1, by show WFx F.e2; rw [h2]; exact WFx_none, by show F.es.length ≤ 16; rw [he]; exact Nat.zero_le _, Or.inr (Or.inr (Or.inl ⟨rfl, hn, hp, ?_⟩))⟩, by show j ≤ X.K; rw [b2]; exact nx_le w3⟩
        rcases hk with hk | hk
        · exact Or.inl ⟨hk.2.1, hk.2.2⟩
        · exact Or.inr ⟨hk.2.1, hk.2.2, fun e => absurd e (by simp)⟩
    · cases h
      refine ⟨⟨hc, by show WFx F.e1; rw [h1]; exact WFx_none, by show WFx F.e2; rw [h2]; exact WFx_none, by show F.es.length ≤ 16; rw [he]; exact Nat.zero_le _, ?_⟩, hi⟩
      rcases hk with hk | hk
      · exact Or.inr (Or.inl ⟨hk.1, hn, hk.2.2, hk.2.1, by show -1 ≤ F.pr; omega, by show F.pr < _; omega⟩)
      · exact Or.inl ⟨hk.1, hn, hk.2.1, hk.2.2, hp⟩
theorem rPart_wf (hX : X.OK) {F : Fld} {bit : Int} {q : Nat × Fld × Int} (hi : i ≤ X.K) (h : rPart X Fs F bit i = .ok q) : ∃ nm v, q.2.1 = F.wEs (F.es ++ [(nm, v, bit)]) ∧ IsN nm ∧ 1 ≤ v.toInt ∧ v.toInt ≤ 64 ∧ bit + v.toInt ≤ 8 * tw F.ty ∧ q.2.2 = bit + v.toInt ∧ F.es.length < 12 ∧ q.1 ≤ X.K := by
  unfold rPart at h
  obtain ⟨a, a1, a2⟩ := bx_inv h
  obtain ⟨b1, b2⟩ := tO_ok a1
  split at a2
  · rename_i c
    obtain ⟨j, a3, a4⟩ := bx_inv a2
    obtain ⟨r, a5, a6⟩ := bx_inv a4
    obtain ⟨c1, c2⟩ := tk_ok a3
    obtain ⟨d1, d2, d3, d4⟩ := tN_ok a5
    cases a6
    rw [b2] at c2
    have jK : j ≤ X.K := by rw [c2]; exact nx_le (nx_le hi)
    refine ⟨a.2, r.2, rfl, by rw [b2]; exact (Txt.nm hX hi b1).1, ?_, ?_, ?_, rfl, c, by show r.1 ≤ X.K; rw [d2]; exact nx_le jK⟩
    · rw [d2]; exact d3
    · rw [d2]; show (X.v j).toInt ≤ 64; split at d4 <;> omega
    · rw [d2]; show bit + (X.v j).toInt ≤ _; split at d4 <;> omega
  · exact absurd a2 (by simp)
theorem BiO_app {e : Ent} {w : Int} : ∀ (es : List Ent) (at_ b : Int), BiO es at_ w → (∀ w', BiO es at_ w' → b ≤ w') → IsN e.1 → 1 ≤ e.2.1.toInt → e.2.1.toInt ≤ 64 → e.2.2 = b → b + e.2.1.toInt ≤ w → (∀ w', w' < b → ¬ BiO es at_ w') → BiO es at_ b → BiO (es ++ [e]) at_ w ∧ BiO (es ++ [e]) at_ (b + e.2.1.toInt) ∧ ∀ w', w' < b + e.2.1.toInt → ¬ BiO (es ++ [e]) at_ w'
  | [], at_, b, h, hb, h1, h2, h3, h4, h5, h6, h7 => by
    have e1 : b ≤ at_ := hb at_ (Int.le_refl _)
    have e2 : at_ ≤ b := h7
    have e3 : at_ = b := by omega
    refine ⟨⟨h1, h2, h3, by rw [h4, e3], by show at_ + _ ≤ w; omega⟩, ⟨h1, h2, h3, by rw [h4, e3], by show at_ + _ ≤ b + _; omega⟩, fun w' hw q => ?_⟩
    have : at_ + e.2.1.toInt ≤ w' := q.2.2.2.2
    omega
  | f :: es, at_, b, h, hb, h1, h2, h3, h4, h5, h6, h7 => by
    obtain ⟨a1, a2, a3, a4, a5⟩ := h
    obtain ⟨_, _, _, _, b5⟩ := h7
    have := BiO_app es (at_ + f.2.1.toInt) b a5 (fun w' q => hb w' ⟨a1, a2, a3, a4, q⟩) h1 h2 h3 h4 h5 (fun w' hw q => h6 w' hw ⟨a1, a2, a3, a4, q⟩) b5
    exact ⟨⟨a1, a2, a3, a4, this.1⟩, ⟨a1, a2, a3, a4, this.2.1⟩, fun w' hw q => this.2.2 w' hw q.2.2.2.2⟩
theorem rParts_wf (hX : X.OK) : ∀ (f : Nat) (F : Fld) (bit : Int) (i : Nat) (q : Nat × Fld), i ≤ X.K → rParts X Fs f F bit i = .ok q → BiO F.es 0 bit → (∀ w', w' < bit → ¬ BiO F.es 0 w') → (F.es = [] ∨ BiO F.es 0 (8 * tw F.ty)) → 0 ≤ bit → ∃ es, q.2 = F.wEs es ∧ BiO es 0 (8 * tw F.ty) ∧ es.length ≤ 12 ∧ q.1 ≤ X.K
  | 0, F, bit, i, q, _, h, _, _, _, _ => absurd h (by simp [rParts])
  | f + 1, F, bit, i, q, hi, h, hb, hb2, hb3, h0 => by
    rw [rParts] at h
    obtain ⟨a, a1, a2⟩ := bx_inv h
    obtain ⟨nm, v, b1, b2, b3, b4, b5, b6, b7, b8⟩ := rPart_wf hX hi a1
    have hBw : BiO F.es 0 (8 * tw F.ty) := by
      rcases hb3 with e | e
      · rw [e]; show 0 ≤ 8 * tw F.ty; omega
      · exact e
    have mono : ∀ w', BiO F.es 0 w' → bit ≤ w' := fun w' q => Decidable.byContradiction (fun c => hb2 w' (by omega) q)
    obtain ⟨c1, c2, c3⟩ := BiO_app (e := (nm, v, bit)) F.es 0 bit hBw mono b2 b3 b4 rfl b5 hb2 hb
    split at a2
    · obtain ⟨es, d1, d2, d3, d4⟩ := rParts_wf hX f a.2.1 a.2.2 (X.nx a.1) q (nx_le b8) a2 (by rw [b1, b6]; exact c2) (by rw [b1, b6]; exact c3) (Or.inr (by rw [b1]; exact c1)) (by omega)
      rw [b1] at d1 d2
      exact ⟨es, d1, d2, d3, d4⟩
    · cases a2
      refine ⟨F.es ++ [(nm, v, bit)], b1, c1, by rw [app_l]; omega, b8⟩
theorem rCase_wf (hX : X.OK) {F : Fld} {q : Nat × Fld} (hi : i ≤ X.K) (h : rCase X Ss F i = .ok q) : ∃ (v : Int64) (s : Int), q.2 = F.wEs (F.es ++ [(0, v, s)]) ∧ 0 ≤ s ∧ s < Ss.length ∧ F.es.length < 8 ∧ q.1 ≤ X.K := by
  unfold rCase at h
  split at h
  · split at h
    · rename_i c
      obtain ⟨a, a1, a2⟩ := bx_inv h
      obtain ⟨j, a3, a4⟩ := bx_inv a2
      obtain ⟨r, a5, a6⟩ := bx_inv a4
      obtain ⟨j2, a7, a8⟩ := bx_inv a6
      obtain ⟨_, c2⟩ := tk_ok a3
      obtain ⟨_, d2, d3, d4⟩ := tI_ok a5
      obtain ⟨_, e2⟩ := tk_ok a7
      cases a8
      rw [List.length_map] at d4
      refine ⟨a.2, r.2, rfl, d3, d4, c, ?_⟩
      show j2 ≤ X.K
      rw [e2, d2, c2]
      exact nx_le (nx_le (nx_le (tS_ok hi a1)))
    · exact absurd h (by simp)
  · exact absurd h (by simp)
theorem rCases_wf (hX : X.OK) : ∀ (f : Nat) (F : Fld) (i : Nat) (q : Nat × Fld), i ≤ X.K → rCases X Ss f F i = .ok q → (∀ e ∈ F.es, 0 ≤ e.2.2 ∧ e.2.2 < Ss.length) → ∃ es, q.2 = F.wEs es ∧ (∀ e ∈ es, 0 ≤ e.2.2 ∧ e.2.2 < Ss.length) ∧ es.length ≤ 8 ∧ q.1 ≤ X.K
  | 0, F, i, q, _, h, _ => absurd h (by simp [rCases])
  | f + 1, F, i, q, hi, h, hb => by
    rw [rCases] at h
    obtain ⟨a, a1, a2⟩ := bx_inv h
    obtain ⟨v, s, b1, b2, b3, b4, b5⟩ := rCase_wf hX hi a1
    have hb' : ∀ e ∈ F.es ++ [((0 : Int64), v, s)], 0 ≤ e.2.2 ∧ e.2.2 < Ss.length := fun e he => by
      rcases List.mem_append.mp he with he | he
      · exact hb e he
      · rw [List.mem_singleton.mp he]; exact ⟨b2, b3⟩
    split at a2
    · obtain ⟨es, d1, d2, d3, d4⟩ := rCases_wf hX f a.2 a.1 q b5 a2 (by rw [b1]; exact hb')
      rw [b1] at d1
      exact ⟨es, d1, d2, d3, d4⟩
    · cases a2
      exact ⟨_, b1, hb', by rw [app_l]; omega, b5⟩
theorem rByte_wf (hX : X.OK) {F : Fld} {q : Nat × Fld} (hi : i ≤ X.K) (h : rByte X F i = .ok q) : ∃ v : Int64, q.2 = F.wEs (F.es ++ [(0, v, 0)]) ∧ -1 ≤ v.toInt ∧ v.toInt ≤ 255 ∧ F.es.length < 16 ∧ q.1 ≤ X.K := by
  unfold rByte at h
  split at h
  · split at h
    · rename_i c
      split at h
      · cases h
        exact ⟨-1, rfl, by decide, by decide, c, nx_le hi⟩
      · obtain ⟨a, a1, a2⟩ := bx_inv h
        obtain ⟨d1, d2, d3, d4⟩ := tN_ok a1
        cases a2
        refine ⟨a.2, rfl, by rw [d2]; show -1 ≤ (X.v i).toInt; omega, by rw [d2]; exact d4, c, by show a.1 ≤ X.K; rw [d2]; exact nx_le hi⟩
    · exact absurd h (by simp)
  · exact absurd h (by simp)
theorem rBytes_wf (hX : X.OK) : ∀ (f : Nat) (F : Fld) (i : Nat) (q : Nat × Fld), i ≤ X.K → rBytes X f F i = .ok q → (∀ e ∈ F.es, -1 ≤ e.2.1.toInt ∧ e.2.1.toInt ≤ 255) → ∃ es, q.2 = F.wEs es ∧ (∀ e ∈ es, -1 ≤ e.2.1.toInt ∧ e.2.1.toInt ≤ 255) ∧ es.length ≤ 16 ∧ q.1 ≤ X.K
  | 0, F, i, q, _, h, _ => absurd h (by simp [rBytes])
  | f + 1, F, i, q, hi, h, hb => by
    rw [rBytes] at h
    obtain ⟨a, a1, a2⟩ := bx_inv h
    obtain ⟨v, b1, b2, b3, b4, b5⟩ := rByte_wf hX hi a1
    have hb' : ∀ e ∈ F.es ++ [((0 : Int64), v, (0 : Int))], -1 ≤ e.2.1.toInt ∧ e.2.1.toInt ≤ 255 := fun e he => by
      rcases List.mem_append.mp he with he | he
      · exact hb e he
      · rw [List.mem_singleton.mp he]; exact ⟨b2, b3⟩
    split at a2
    · obtain ⟨es, d1, d2, d3, d4⟩ := rBytes_wf hX f a.2 a.1 q b5 a2 (by rw [b1]; exact hb')
      rw [b1] at d1
      exact ⟨es, d1, d2, d3, d4⟩
    · cases a2
      exact ⟨_, b1, hb', by rw [app_l]; omega, b5⟩
end WF2
