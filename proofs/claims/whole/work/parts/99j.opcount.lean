/-! count -/
def suN (f : Nat → Int) : Nat → Int
  | 0 => 0
  | n + 1 => suN f n + f n
theorem suN_le {f : Nat → Int} {B : Int} (hB : 0 ≤ B) : ∀ n : Nat, (∀ j, j < n → 0 ≤ f j ∧ f j ≤ B) → 0 ≤ suN f n ∧ suN f n ≤ B * n
  | 0, _ => ⟨Int.le_refl _, by show (0 : Int) ≤ B * 0; omega⟩
  | n + 1, h => by
    have a := suN_le hB n (fun j hj => h j (by omega))
    have b := h n (by omega)
    have e : B * ((n + 1 : Nat) : Int) = B * (n : Int) + B := by rw [show ((n + 1 : Nat) : Int) = (n : Int) + 1 by omega, Int.mul_add, Int.mul_one]
    rw [suN, e]
    omega
section S9
variable {g : GP} {l : Launch} {d e : Nat} {σ : St} {x m p b n i : Nat} {A B : DPa} {En : List Enm} {Ss : List Stc} {T : Nat → TS} {I : Nat → Int} {w : Int}
theorem op_count (hI : ImgI σ x m) (hTp : TapI σ x m) (hD : DsI σ x m p A B En Ss b) (hT : TreI σ x m A.2.2.2 Ss b T I) : ACi g l (d + 1) MX11_count [vR 11 (some x), vI w] σ (fun a σ1 => ACi g l (d + 1) MX12_count [vR 12 (some m), vI w] σ1 (fun r σ2 => a = r ∧ σ2 = σ)) := by
  obtain ⟨i1, i2, i3, i4, i5, i6, i7, i8, i9⟩ := id hI
  obtain ⟨⟨x1, _⟩, _, _, ⟨d1, _⟩, ⟨y1, y2, y3⟩, _⟩ := id hD
  obtain ⟨z1, z2, z3⟩ := hT.1
  have ref : ∀ a : Int, (w = 0 → gI σ 1200 m 0 = a) → (w = 1 → gI σ 1211 m 0 = a) → (w = 2 → gI σ 1219 m b = a) → (w = 3 → gI σ 1220 m b = a) → (w = 4 → gI σ 1264 m 0 = a) → (w = 5 → AW g l (d + 1) MX12_count 85 [some (vR 12 (some m)), none, some (vI 0), some (vI 0), none] [] σ (fun v σ2 => ∃ r, v = some (vI r) ∧ (a = r ∧ σ2 = σ))) → (w = 6 → AW g l (d + 1) MX12_count 112 [some (vR 12 (some m)), none, some (vI 0), some (vI 0), none] [] σ (fun v σ2 => ∃ r, v = some (vI r) ∧ (a = r ∧ σ2 = σ))) → (w = 7 → AW g l (d + 1) MX12_count 139 [some (vR 12 (some m)), none, some (vI 0), some (vI 0), none] [] σ (fun v σ2 => ∃ r, v = some (vI r) ∧ (a = r ∧ σ2 = σ))) → (w < 0 ∨ 7 < w → -1 = a) → ACi g l (d + 1) MX12_count [vR 12 (some m), vI w] σ (fun r σ2 => a = r ∧ σ2 = σ) := fun a h0 h1 h2 h3 h4 h5 h6 h7 h8 => by
    refine AC.of mo_X12_count (Nat.le_of_ble_eq_true rfl) (bk_X12_count_0 ?_)
    rw [y1, Int.toNat_natCast]
    exact ⟨fun z => ⟨_, rfl, (h0 z).symm, rfl⟩, fun z => ⟨_, rfl, (h1 z).symm, rfl⟩, fun z => ⟨i2, ⟨by omega, by omega⟩, _, rfl, (h2 z).symm, rfl⟩, fun z => ⟨i2, ⟨by omega, by omega⟩, _, rfl, (h3 z).symm, rfl⟩, fun z => ⟨_, rfl, (h4 z).symm, rfl⟩, h5, h6, h7, fun z => ⟨_, rfl, (h8 z).symm, rfl⟩⟩
  obtain ⟨c, hc⟩ : ∃ c : Nat, gI σ 1101 x 0 = (c : Int) := ⟨(gI σ 1101 x 0).toNat, by omega⟩
  obtain ⟨nt, hnt⟩ : ∃ c : Nat, gI σ 1110 x 0 = (c : Int) := ⟨(gI σ 1110 x 0).toNat, by omega⟩
  have im' : ∀ j : Nat, j < c → gR σ 1100 x j = some (img σ x (j : Int)) ∧ gI σ 303 (img σ x (j : Int)) 0 = gI σ 1202 m j ∧ (0 ≤ gI σ 1202 m j ∧ gI σ 1202 m j ≤ 4) ∧ LC 3 σ (img σ x (j : Int)) ∧ ∀ q : Nat, (q : Int) < gI σ 1202 m j → gR σ 302 (img σ x (j : Int)) q = some (lay σ (img σ x (j : Int)) (q : Int)) ∧ gI σ 405 (lay σ (img σ x (j : Int)) (q : Int)) 0 = gI σ 1205 m (4 * j + q) ∧ 0 ≤ gI σ 1205 m (4 * j + q) ∧ gI σ 1205 m (4 * j + q) ≤ 20 := fun j hj => by
    obtain ⟨q1, q2, q3⟩ := i7 (j : Int) (by omega) (by omega)
    rw [Int.toNat_natCast] at q1
    have r2 := q3.2.1
    rw [Int.toNat_natCast] at r2
    have c3 := q2.2.2.1
    refine ⟨q1, r2, by omega, q2.1, fun q hq => ?_⟩
    obtain ⟨u1, u2⟩ := q2.2.2.2.1 (q : Int) (by omega) (by omega)
    have r5 := q3.2.2.2.2.1 (q : Int) (by omega) (by omega)
    rw [Int.toNat_natCast] at u1
    rw [show (4 * (j : Int) + (q : Int)).toNat = 4 * j + q by omega] at r5
    exact ⟨u1, r5, by rw [← r5]; exact u2.2.2.2.1, by rw [← r5]; exact u2.2.2.2.2.1⟩
  have tr' : ∀ j : Nat, j < nt → ∃ tr, gR σ 1108 x j = some tr ∧ gI σ 1004 tr 0 = ((T j).c : Int) ∧ gI σ 1266 m j = ((T j).c : Int) ∧ (T j).c ≤ 400 := fun j hj => by
    obtain ⟨tr, f1, v1⟩ := hT.2.2.2.2.2 j (by omega)
    exact ⟨tr, f1, v1.2.1.2.2.2.2.1, v1.2.1.2.2.2.2.2, v1.2.1.2.2.2.1⟩
  have b5 : ∀ j, j ≤ nt → 0 ≤ suN (fun j => ((T j).c : Int)) j ∧ suN (fun j => ((T j).c : Int)) j ≤ 400 * j := fun j hj => suN_le (by omega) j (fun q hq => by obtain ⟨_, _, _, _, u⟩ := tr' q (by omega); show 0 ≤ ((T q).c : Int) ∧ ((T q).c : Int) ≤ 400; omega)
  have b6 : ∀ j, j ≤ c → 0 ≤ suN (fun j => gI σ 1202 m j) j ∧ suN (fun j => gI σ 1202 m j) j ≤ 4 * j := fun j hj => suN_le (by omega) j (fun q hq => (im' q (by omega)).2.2.1)
  have b7i : ∀ j, j < c → ∀ q : Nat, (q : Int) ≤ gI σ 1202 m j → 0 ≤ suN (fun q => gI σ 1205 m (4 * j + q)) q ∧ suN (fun q => gI σ 1205 m (4 * j + q)) q ≤ 20 * q := fun j hj q hq => suN_le (by omega) q (fun u hu => ((im' j hj).2.2.2.2 u (by omega)).2.2)
  have b7 : ∀ j, j ≤ c → 0 ≤ suN (fun j => suN (fun q => gI σ 1205 m (4 * j + q)) (gI σ 1202 m j).toNat) j ∧ suN (fun j => suN (fun q => gI σ 1205 m (4 * j + q)) (gI σ 1202 m j).toNat) j ≤ 80 * j := fun j hj => suN_le (by omega) j (fun q hq => by
    have u := (im' q (by omega)).2.2.1
    have v := b7i q (by omega) (gI σ 1202 m q).toNat (by omega)
    exact ⟨v.1, by omega⟩)
  refine AC.of mo_X11_count (Nat.le_of_ble_eq_true rfl) (bk_X11_count_0 ⟨fun z => ⟨_, rfl, ref _ (fun _ => i6.symm) (fun y => by omega) (fun y => by omega) (fun y => by omega) (fun y => by omega) (fun y => by omega) (fun y => by omega) (fun y => by omega) (fun y => by omega)⟩, fun z => ⟨tpe σ x, hTp.1, _, rfl, ref _ (fun y => by omega) (fun _ => hTp.2.2.2.2.2.2.1.symm) (fun y => by omega) (fun y => by omega) (fun y => by omega) (fun y => by omega) (fun y => by omega) (fun y => by omega) (fun y => by omega)⟩, fun z => ⟨A.1, x1, _, rfl, ref _ (fun y => by omega) (fun y => by omega) (fun _ => by rw [d1.1]; exact y3.1) (fun y => by omega) (fun y => by omega) (fun y => by omega) (fun y => by omega) (fun y => by omega) (fun y => by omega)⟩, fun z => ⟨A.1, x1, _, rfl, ref _ (fun y => by omega) (fun y => by omega) (fun y => by omega) (fun _ => by rw [d1.2.2.1]; exact y3.2.2.1) (fun y => by omega) (fun y => by omega) (fun y => by omega) (fun y => by omega) (fun y => by omega)⟩, fun z => ⟨_, rfl, ref _ (fun y => by omega) (fun y => by omega) (fun y => by omega) (fun y => by omega) (fun _ => z3) (fun y => by omega) (fun y => by omega) (fun y => by omega) (fun y => by omega)⟩, fun z => ?_, fun z => ?_, fun z => ?_, fun z => ⟨_, rfl, ref _ (fun y => by omega) (fun y => by omega) (fun y => by omega) (fun y => by omega) (fun y => by omega) (fun y => by omega) (fun y => by omega) (fun y => by omega) (fun _ => rfl)⟩⟩)
  · -- nodes
    have rl : ∀ (k j : Nat), j + k = nt → AW g l (d + 1) MX12_count 85 [some (vR 12 (some m)), none, some (vI (suN (fun j => ((T j).c : Int)) j)), some (vI (j : Int)), none] [] σ (fun v σ2 => ∃ r, v = some (vI r) ∧ (suN (fun j => ((T j).c : Int)) nt = r ∧ σ2 = σ)) := by
      intro k
      induction k with
      | zero =>
        intro j hj
        refine bk_X12_count_85 ?_
        rw [z3, hnt]
        exact ⟨fun _ => ⟨_, rfl, by rw [show nt = j by omega], rfl⟩, fun u => absurd (by omega) u⟩
      | succ k ih =>
        intro j hj
        obtain ⟨tr, t1, t2, t3, t4⟩ := tr' j (by omega)
        have bj := b5 j (by omega)
        refine bk_X12_count_85 ?_
        rw [z3, hnt, Int.toNat_natCast, t3]
        refine ⟨fun u => by omega, fun _ => ⟨i2, ⟨by omega, by omega⟩, ⟨by omega, by omega⟩, fun z5 hz => ⟨⟨by omega, by omega⟩, ?_⟩⟩⟩
        have s := ih (j + 1) (by omega)
        rw [suN, show ((j + 1 : Nat) : Int) = (j : Int) + 1 by omega] at s
        rw [hz]; exact s
    have cl : ∀ (k j : Nat), j + k = nt → AW g l d MX11_nodeTotal 4 [some (vR 11 (some x)), some (vI (suN (fun j => ((T j).c : Int)) j)), some (vI (j : Int))] [] σ (fun v σ1 => ∃ a, v = some (vI a) ∧ ∃ a', some (vI a) = some (vI a') ∧ ACi g l (d + 1) MX12_count [vR 12 (some m), vI w] σ1 (fun r σ2 => a' = r ∧ σ2 = σ)) := by
      intro k
      induction k with
      | zero =>
        intro j hj
        refine bk_X11_nodeTotal_4 ?_
        rw [hnt]
        refine ⟨fun _ => ⟨_, rfl, _, rfl, ref _ (fun y => by omega) (fun y => by omega) (fun y => by omega) (fun y => by omega) (fun y => by omega) (fun _ => ?_) (fun y => by omega) (fun y => by omega) (fun y => by omega)⟩, fun u => absurd (by omega) u⟩
        rw [show j = nt by omega]
        exact rl nt 0 (by omega)
      | succ k ih =>
        intro j hj
        obtain ⟨tr, t1, t2, t3, t4⟩ := tr' j (by omega)
        have bj := b5 j (by omega)
        refine bk_X11_nodeTotal_4 ?_
        rw [hnt]
        refine ⟨fun u => by omega, fun _ => ⟨i1, ⟨by omega, by omega⟩, tr, by rw [Int.toNat_natCast]; exact t1, ?_⟩⟩
        rw [t2]
        have s := ih (j + 1) (by omega)
        rw [suN, show ((j + 1 : Nat) : Int) = (j : Int) + 1 by omega] at s
        exact ⟨⟨by omega, by omega⟩, ⟨by omega, by omega⟩, s⟩
    exact AC.of mo_X11_nodeTotal (Nat.le_of_ble_eq_true rfl) (bk_X11_nodeTotal_0 (cl nt 0 (by omega)))
  · -- layers
    have rl : ∀ (k j : Nat), j + k = c → AW g l (d + 1) MX12_count 112 [some (vR 12 (some m)), none, some (vI (suN (fun j => gI σ 1202 m j) j)), some (vI (j : Int)), none] [] σ (fun v σ2 => ∃ r, v = some (vI r) ∧ (suN (fun j => gI σ 1202 m j) c = r ∧ σ2 = σ)) := by
      intro k
      induction k with
      | zero =>
        intro j hj
        refine bk_X12_count_112 ?_
        rw [← i6, hc]
        exact ⟨fun _ => ⟨_, rfl, by rw [show c = j by omega], rfl⟩, fun u => absurd (by omega) u⟩
      | succ k ih =>
        intro j hj
        obtain ⟨t1, t2, t3, _⟩ := im' j (by omega)
        have bj := b6 j (by omega)
        refine bk_X12_count_112 ?_
        rw [← i6, hc, Int.toNat_natCast]
        refine ⟨fun u => by omega, fun _ => ⟨i2, ⟨by omega, by omega⟩, ⟨by omega, by omega⟩, fun z5 hz => ⟨⟨by omega, by omega⟩, ?_⟩⟩⟩
        have s := ih (j + 1) (by omega)
        rw [suN, show ((j + 1 : Nat) : Int) = (j : Int) + 1 by omega] at s
        rw [hz]; exact s
    have cl : ∀ (k j : Nat), j + k = c → AW g l d MX11_layerTotal 4 [some (vR 11 (some x)), some (vI (suN (fun j => gI σ 1202 m j) j)), some (vI (j : Int))] [] σ (fun v σ1 => ∃ a, v = some (vI a) ∧ ∃ a', some (vI a) = some (vI a') ∧ ACi g l (d + 1) MX12_count [vR 12 (some m), vI w] σ1 (fun r σ2 => a' = r ∧ σ2 = σ)) := by
      intro k
      induction k with
      | zero =>
        intro j hj
        refine bk_X11_layerTotal_4 ?_
        rw [hc]
        refine ⟨fun _ => ⟨_, rfl, _, rfl, ref _ (fun y => by omega) (fun y => by omega) (fun y => by omega) (fun y => by omega) (fun y => by omega) (fun y => by omega) (fun _ => ?_) (fun y => by omega) (fun y => by omega)⟩, fun u => absurd (by omega) u⟩
        rw [show j = c by omega]
        exact rl c 0 (by omega)
      | succ k ih =>
        intro j hj
        obtain ⟨t1, t2, t3, _⟩ := im' j (by omega)
        have bj := b6 j (by omega)
        refine bk_X11_layerTotal_4 ?_
        rw [hc]
        refine ⟨fun u => by omega, fun _ => ⟨i1, ⟨by omega, by omega⟩, img σ x (j : Int), by rw [Int.toNat_natCast]; exact t1, ?_⟩⟩
        rw [t2]
        have s := ih (j + 1) (by omega)
        rw [suN, show ((j + 1 : Nat) : Int) = (j : Int) + 1 by omega] at s
        exact ⟨⟨by omega, by omega⟩, ⟨by omega, by omega⟩, s⟩
    exact AC.of mo_X11_layerTotal (Nat.le_of_ble_eq_true rfl) (bk_X11_layerTotal_0 (cl c 0 (by omega)))
  · -- writes
    have rl : ∀ (k j : Nat), j + k = c → AW g l (d + 1) MX12_count 139 [some (vR 12 (some m)), none, some (vI (suN (fun j => suN (fun q => gI σ 1205 m (4 * j + q)) (gI σ 1202 m j).toNat) j)), some (vI (j : Int)), none] [] σ (fun v σ2 => ∃ r, v = some (vI r) ∧ (suN (fun j => suN (fun q => gI σ 1205 m (4 * j + q)) (gI σ 1202 m j).toNat) c = r ∧ σ2 = σ)) := by
      intro k
      induction k with
      | zero =>
        intro j hj
        refine bk_X12_count_139 ?_
        rw [← i6, hc]
        exact ⟨fun _ => ⟨_, rfl, by rw [show c = j by omega], rfl⟩, fun u => absurd (by omega) u⟩
      | succ k ih =>
        intro j hj
        obtain ⟨t1, t2, t3, _, t5⟩ := im' j (by omega)
        have bj := b7 j (by omega)
        have s := ih (j + 1) (by omega)
        rw [suN, show ((j + 1 : Nat) : Int) = (j : Int) + 1 by omega] at s
        have inner : ∀ (k q : Nat), (q : Int) + k = gI σ 1202 m j → AW g l (d + 1) MX12_count 150 [some (vR 12 (some m)), none, some (vI (suN (fun j => suN (fun q => gI σ 1205 m (4 * j + q)) (gI σ 1202 m j).toNat) j + suN (fun q => gI σ 1205 m (4 * j + q)) q)), some (vI (j : Int)), some (vI (q : Int))] [] σ (fun v σ2 => ∃ r, v = some (vI r) ∧ (suN (fun j => suN (fun q => gI σ 1205 m (4 * j + q)) (gI σ 1202 m j).toNat) c = r ∧ σ2 = σ)) := by
          intro k
          induction k with
          | zero =>
            intro q hq
            refine bk_X12_count_150 ⟨i2, ⟨by omega, by omega⟩, ?_⟩
            rw [Int.toNat_natCast]
            refine ⟨fun _ => ⟨⟨by omega, by omega⟩, ?_⟩, fun u => absurd (by omega) u⟩
            rw [show (gI σ 1202 m j).toNat = q by omega] at s
            exact s
          | succ k ih2 =>
            intro q hq
            obtain ⟨u1, u2, u3⟩ := t5 q (by omega)
            have bi := b7i j (by omega) q (by omega)
            refine bk_X12_count_150 ⟨i2, ⟨by omega, by omega⟩, ?_⟩
            rw [Int.toNat_natCast, show (4 * (j : Int) + (q : Int)).toNat = 4 * j + q by omega]
            refine ⟨fun u => by omega, fun _ => ⟨⟨by omega, by omega⟩, ⟨by omega, by omega⟩, ⟨by omega, by omega⟩, ⟨by omega, by omega⟩, fun z9 hz => ⟨⟨by omega, by omega⟩, ?_⟩⟩⟩
            have s2 := ih2 (q + 1) (by omega)
            rw [suN, show ((q + 1 : Nat) : Int) = (q : Int) + 1 by omega, ← Int.add_assoc] at s2
            rw [hz]; exact s2
        refine bk_X12_count_139 ?_
        rw [← i6, hc]
        refine ⟨fun u => by omega, fun _ => ?_⟩
        have s3 := inner (gI σ 1202 m j).toNat 0 (by omega)
        rw [suN, Int.add_zero] at s3
        exact s3
    have cl : ∀ (k j : Nat), j + k = c → AW g l d MX11_writeTotal 4 [some (vR 11 (some x)), some (vI (suN (fun j => suN (fun q => gI σ 1205 m (4 * j + q)) (gI σ 1202 m j).toNat) j)), some (vI (j : Int)), none] [] σ (fun v σ1 => ∃ a, v = some (vI a) ∧ ∃ a', some (vI a) = some (vI a') ∧ ACi g l (d + 1) MX12_count [vR 12 (some m), vI w] σ1 (fun r σ2 => a' = r ∧ σ2 = σ)) := by
      intro k
      induction k with
      | zero =>
        intro j hj
        refine bk_X11_writeTotal_4 ?_
        rw [hc]
        refine ⟨fun _ => ⟨_, rfl, _, rfl, ref _ (fun y => by omega) (fun y => by omega) (fun y => by omega) (fun y => by omega) (fun y => by omega) (fun y => by omega) (fun y => by omega) (fun _ => ?_) (fun y => by omega)⟩, fun u => absurd (by omega) u⟩
        rw [show j = c by omega]
        exact rl c 0 (by omega)
      | succ k ih =>
        intro j hj
        obtain ⟨t1, t2, t3, t4, t5⟩ := im' j (by omega)
        have bj := b7 j (by omega)
        have s := ih (j + 1) (by omega)
        rw [suN, show ((j + 1 : Nat) : Int) = (j : Int) + 1 by omega] at s
        have inner : ∀ (k q : Nat), (q : Int) + k = gI σ 1202 m j → AW g l d MX11_writeTotal 14 [some (vR 11 (some x)), some (vI (suN (fun j => suN (fun q => gI σ 1205 m (4 * j + q)) (gI σ 1202 m j).toNat) j + suN (fun q => gI σ 1205 m (4 * j + q)) q)), some (vI (j : Int)), some (vI (q : Int))] [] σ (fun v σ1 => ∃ a, v = some (vI a) ∧ ∃ a', some (vI a) = some (vI a') ∧ ACi g l (d + 1) MX12_count [vR 12 (some m), vI w] σ1 (fun r σ2 => a' = r ∧ σ2 = σ)) := by
          intro k
          induction k with
          | zero =>
            intro q hq
            refine bk_X11_writeTotal_14 ⟨i1, ⟨by omega, by omega⟩, img σ x (j : Int), by rw [Int.toNat_natCast]; exact t1, ?_⟩
            rw [t2]
            refine ⟨fun _ => ⟨⟨by omega, by omega⟩, ?_⟩, fun u => absurd (by omega) u⟩
            rw [show (gI σ 1202 m j).toNat = q by omega] at s
            exact s
          | succ k ih2 =>
            intro q hq
            obtain ⟨u1, u2, u3⟩ := t5 q (by omega)
            have bi := b7i j (by omega) q (by omega)
            refine bk_X11_writeTotal_14 ⟨i1, ⟨by omega, by omega⟩, img σ x (j : Int), by rw [Int.toNat_natCast]; exact t1, ?_⟩
            rw [t2]
            refine ⟨fun u => by omega, fun _ => ⟨t4, ⟨by omega, by omega⟩, lay σ (img σ x (j : Int)) (q : Int), by rw [Int.toNat_natCast]; exact u1, ?_⟩⟩
            rw [u2]
            have s2 := ih2 (q + 1) (by omega)
            rw [suN, show ((q + 1 : Nat) : Int) = (q : Int) + 1 by omega, ← Int.add_assoc] at s2
            exact ⟨⟨by omega, by omega⟩, ⟨by omega, by omega⟩, s2⟩
        refine bk_X11_writeTotal_4 ?_
        rw [hc]
        refine ⟨fun u => by omega, fun _ => ?_⟩
        have s3 := inner (gI σ 1202 m j).toNat 0 (by omega)
        rw [suN, Int.add_zero] at s3
        exact s3
    exact AC.of mo_X11_writeTotal (Nat.le_of_ble_eq_true rfl) (bk_X11_writeTotal_0 (cl c 0 (by omega)))
end S9
