/-! a description is fit for laying -/
theorem sz_map {f : List Fld → List Fld} : ∀ (Ss : List Stc) (x : Int), szS (Ss.map (fun S => (S.1, f S.2.1, S.2.2))) x = szS Ss x := by
  intro Ss x
  unfold szS
  rw [List.getElem?_map]
  cases Ss[x.toNat]? with
  | none => rfl
  | some S => rfl
theorem sz_take {Ss : List Stc} {n : Nat} {x : Int} (h0 : 0 ≤ x) (h1 : x < (Ss.take n).length) : szS (Ss.take n) x = szS Ss x := by
  rw [List.length_take] at h1
  unfold szS
  rw [if_neg (show ¬ x < 0 by omega), if_neg (show ¬ x < 0 by omega), List.getElem?_take, if_pos (show x.toNat < n by omega)]
theorem lw_of {En : List Enm} {Ss Ss0 : List Stc} (h20 : Ss.length ≤ 20) (hW : WFs En.length Ss0) (ha : aimS (Ss0.map (fun s => s.1)) Ss0 = .ok Ss) (hN : WNs Ss) : LW En Ss ∧ (∀ x, szS Ss x ≤ 1000000) ∧ ∀ fl F, gF Ss fl = some F → F.ki = 3 → BiO F.es 0 (8 * tw F.ty) ∧ F.es.length ≤ 12 := by
  obtain ⟨c1, c2⟩ := aimS_ok _ _ ha
  have ll : Ss.length = Ss0.length := by rw [c1, List.length_map]
  have sz : ∀ x, szS Ss x = szS Ss0 x := fun x => by rw [c1]; exact sz_map (f := fun Fs => Fs.map (aimO (Ss0.map (fun s => s.1)))) Ss0 x
  have lw : LW En Ss := by
    refine ⟨h20, fun n S hS => ?_⟩
    have hSm := List.mem_of_getElem? hS
    have nlt := (List.getElem?_eq_some_iff.mp hS).1
    have wn := hN S hSm
    rw [c1, List.getElem?_map] at hS
    cases e : Ss0[n]? with
    | none => rw [e] at hS; exact absurd hS (by simp)
    | some T =>
      rw [e] at hS
      have hS : (T.1, T.2.1.map (aimO (Ss0.map (fun s => s.1))), T.2.2) = S := Option.some.inj hS
      have w := hW n T e
      rw [← hS] at wn ⊢
      refine ⟨by show (T.2.1.map _).length ≤ 14; rw [List.length_map]; exact w.2.1, fun k F hF => ⟨?_, wn k F hF⟩⟩
      have hF : (T.2.1.map (aimO (Ss0.map (fun s => s.1))))[k]? = some F := hF
      rw [List.getElem?_map] at hF
      cases eg : T.2.1[k]? with
      | none => rw [eg] at hF; exact absurd hF (by simp)
      | some G =>
        rw [eg] at hF
        have hF : aimO (Ss0.map (fun s => s.1)) G = F := Option.some.inj hF
        have gm := List.mem_of_getElem? eg
        obtain ⟨w1, w2, w3, w4, wk⟩ := w.2.2.2.2 G gm
        have lt : (Ss0.take n).length ≤ n := by rw [List.length_take]; omega
        have ig := idx_ge (w := G.an) (Ss0.map (fun s => s.1)) 0 (by decide)
        rw [List.length_map] at ig
        rw [← hF]
        unfold aimO
        by_cases k7 : G.ki = 7
        · rw [if_pos k7]
          have nn := c2 T (List.mem_of_getElem? e) G gm k7
          refine ⟨w1, w2, w3, w4, Or.inr (Or.inr (Or.inr (Or.inr (Or.inr (Or.inr (Or.inl ⟨k7, ?_⟩))))))⟩
          rcases wk with q | q | q | q | q | q | q | q | q | q
          · exact absurd q.1 (by omega)
          · exact absurd q.1 (by omega)
          · exact absurd q.1 (by omega)
          · exact absurd q.1 (by omega)
          · exact absurd q.1 (by omega)
          · exact absurd q.1 (by omega)
          · exact ⟨q.2.2.2.1, by show 0 ≤ idx _ _ _; omega, by show idx _ _ _ < _; omega, q.2.2.2.2.2.1, q.2.2.2.2.2.2.1⟩
          · exact absurd q.1 (by omega)
          · exact absurd q.1 (by omega)
          · exact absurd q.1 (by omega)
        · rw [if_neg k7]
          refine ⟨w1, w2, w3, w4, ?_⟩
          rcases wk with q | q | q | q | q | q | q | q | q | q
          · exact Or.inl ⟨q.1, q.2.2.1, by have := q.2.2.2.1; omega⟩
          · exact Or.inr (Or.inl ⟨q.1, q.2.2.1, q.2.2.2.1, q.2.2.2.2.1, q.2.2.2.2.2⟩)
          · refine Or.inr (Or.inr (Or.inl ⟨q.1, ?_⟩))
            rcases q.2.2.2 with u | u
            · exact Or.inl u
            · exact Or.inr ⟨u.1, by have := u.2.1; omega, fun z => by rw [sz, ← sz_take u.1 u.2.1]; exact u.2.2 z⟩
          · exact Or.inr (Or.inr (Or.inr (Or.inl ⟨q.1, q.2.2.2.1, q.2.2.2.2.2.1, q.2.2.2.2.2.2⟩)))
          · exact Or.inr (Or.inr (Or.inr (Or.inr (Or.inl ⟨q.1, q.2.2.2.2⟩))))
          · refine Or.inr (Or.inr (Or.inr (Or.inr (Or.inr (Or.inl ⟨q.1, q.2.2.2.2.1, q.2.2.2.2.2.1, by have := q.2.2.2.2.2.2.1; omega, fun x hx => ⟨(q.2.2.2.2.2.2.2 x hx).1, ?_⟩⟩)))))
            have := (q.2.2.2.2.2.2.2 x hx).2
            omega
          · exact absurd q.1 k7
          · exact Or.inr (Or.inr (Or.inr (Or.inr (Or.inr (Or.inr (Or.inr (Or.inl ⟨q.1, q.2.2.2.2.1, q.2.2.2.2.2⟩)))))))
          · exact Or.inr (Or.inr (Or.inr (Or.inr (Or.inr (Or.inr (Or.inr (Or.inr (Or.inl ⟨q.1, q.2.2.2.2⟩))))))))
          · exact Or.inr (Or.inr (Or.inr (Or.inr (Or.inr (Or.inr (Or.inr (Or.inr (Or.inr ⟨q.1, q.2.2.2.1, q.2.2.2.2.2.1, q.2.2.2.2.2.2.1, q.2.2.2.2.2.2.2⟩))))))))
  refine ⟨lw, fun x => ?_, fun fl F hF k3 => ?_⟩
  · rw [sz]
    unfold szS
    by_cases q : x < 0
    · rw [if_pos q]; decide
    · rw [if_neg q]
      cases e : Ss0[x.toNat]? with
      | none => show (-1 : Int) ≤ 1000000; decide
      | some T => exact (hW _ T e).2.2.2.1
  · obtain ⟨_, S, hS, hk⟩ := gF_some hF
    exact ⟨((lw.2 _ S hS).2 _ F hk).1.k3 k3 |>.2.1, ((lw.2 _ S hS).2 _ F hk).1.k3 k3 |>.2.2⟩
theorem DsI.lw {σ : St} {x m p b : Nat} {A B : DPa} {En : List Enm} {Ss : List Stc} (hD : DsI σ x m p A B En Ss b) : LW En Ss ∧ (∀ x, szS Ss x ≤ 1000000) ∧ ∀ fl F, gF Ss fl = some F → F.ki = 3 → BiO F.es 0 (8 * tw F.ty) ∧ F.es.length ≤ 12 := by
  obtain ⟨_, _, _, ⟨d1, _⟩, _, ⟨_, Ss0, w2, w3⟩, _, v⟩ := hD
  exact lw_of d1.2.1 w2 w3 v
