/-! magic -/
def me (es : List Ent) (h : Int → Int) (p i : Int) : Int := match es[i.toNat]? with
  | some e => if e.2.1.toInt < 0 ∨ e.2.1 = i2j (h (p + i)) then 0 else 1
  | none => 0
section O4
variable {g : GP} {l : Launch} {d : Nat} {σ : St} {x m p b : Nat} {A B : DPa} {En : List Enm} {Ss : List Stc}
theorem m_magicAt {τ : St} {fx : Nat} {G : Fld} {q im : Int} {P : Int → St → Prop} (hm : LC 12 τ m) (h1 : 0 ≤ im) (h2 : im < 6) (h3 : 0 ≤ gI τ 1202 m im.toNat) (h4 : gI τ 1202 m im.toNat ≤ 4) (hi : gI τ 1281 m 0 = im) (hf : fx < 560) (hG : FR τ m b fx G) (h16 : G.es.length ≤ 16) (hq : 0 ≤ q) (hq2 : q + G.es.length ≤ 2000) (h : P (if 0 ≤ al (me G.es (hasM τ m im) q) G.es.length then 1 else 0) τ) : ACi g l (d + 2) MX12_magicAt [vR 12 (some m), vI (fx : Int), vI q] τ P := by
  obtain ⟨⟨_, _, _, _, _, _, q7, _, _, q10⟩, _⟩ := hG
  have fn : ((fx : Int)).toNat = fx := by omega
  have loop : ∀ (k : Nat) (i : Nat), k + i = G.es.length → (∀ z : Int, 0 ≤ z → z < i → me G.es (hasM τ m im) q z = 0) → AW g l (d + 2) MX12_magicAt 2 [some (vR 12 (some m)), some (vI (fx : Int)), some (vI q), some (vI (i : Int))] [] τ (fun v σ' => ∃ r, v = some (vI r) ∧ P r σ') := by
    intro k
    induction k with
    | zero =>
      intro i hi hz
      refine bk_X12_magicAt_2 ⟨hm, ⟨by omega, by omega⟩, ?_⟩
      rw [fn, q7]
      refine ⟨fun _ => ⟨_, rfl, ?_⟩, fun w => absurd (by omega) w⟩
      rw [if_pos (al_iff.mpr (fun z z0 z1 => hz z z0 (by omega)))] at h
      exact h
    | succ k ih =>
      intro i hi' hz
      have lt : i < G.es.length := by omega
      have ge : G.es[i]? = some G.es[i] := List.getElem?_eq_getElem lt
      have pv := (q10 i _ ge).2.1
      have em : me G.es (hasM τ m im) q (i : Int) = if G.es[i].2.1.toInt < 0 ∨ G.es[i].2.1 = i2j (hasM τ m im (q + i)) then 0 else 1 := by unfold me; rw [Int.toNat_natCast, ge]
      generalize G.es[i] = e at *
      have nx : me G.es (hasM τ m im) q (i : Int) = 0 → R32 ((i : Int) + 1) ∧ AW g l (d + 2) MX12_magicAt 2 [some (vR 12 (some m)), some (vI (fx : Int)), some (vI q), some (vI ((i : Int) + 1))] [] τ (fun v σ' => ∃ r, v = some (vI r) ∧ P r σ') := fun z0 => ⟨⟨by omega, by omega⟩, ih (i + 1) (by omega) (fun z zz z1 => by
        by_cases c : z = i
        · rw [c]; exact z0
        · exact hz z zz (by omega))⟩
      refine bk_X12_magicAt_2 ⟨hm, ⟨by omega, by omega⟩, ?_⟩
      rw [fn, q7, show (16 * (fx : Int) + (i : Int)).toNat = 16 * fx + i by omega, pv, hi]
      have z0 : (0 : Int64).toInt = 0 := rfl
      refine ⟨fun w => absurd w (by omega), fun _ => ⟨⟨by omega, by omega⟩, ⟨by omega, by omega⟩, ⟨by omega, by omega⟩, fun w => nx (by rw [em, if_pos (Or.inl (by omega))]), fun w => ⟨⟨by omega, by omega⟩, m_has hm h1 h2 h3 h4 (by omega) (by omega) ⟨fun w2 => nx (by rw [em, if_pos (Or.inr w2)]), fun w2 => ⟨_, rfl, ?_⟩⟩⟩⟩⟩
      rw [if_neg (fun w3 => ?_)] at h
      · exact h
      · have := al_iff.mp w3 i (by omega) (by omega)
        rw [em, if_neg (fun w4 => w4.elim (fun u => w (by omega)) w2)] at this
        exact absurd this (by decide)
  exact AC.of mo_X12_magicAt (Nat.le_of_ble_eq_true rfl) (bk_X12_magicAt_0 (loop G.es.length 0 (by omega) (fun z z0 z1 => by omega)))
theorem i_and_0 (a : Int) : i_and a 0 = 0 := by
  unfold i_and
  rw [show Int32.ofInt 0 = 0 from rfl, Int32.and_zero]; rfl
theorem kR_is9 {G : Fld} : kR G = 10 ↔ G.ki = 9 := by
  constructor
  · intro h
    unfold kR at h
    by_cases c0 : G.ki = 0
    · rw [if_pos c0] at h; omega
    by_cases c1 : G.ki = 1
    · rw [if_neg c0, if_pos c1] at h; omega
    by_cases c2 : G.ki = 2
    · rw [if_neg c0, if_neg c1, if_pos c2] at h; split at h <;> omega
    by_cases c3 : G.ki = 3
    · rw [if_neg c0, if_neg c1, if_neg c2, if_pos c3] at h; omega
    by_cases c5 : G.ki = 5
    · rw [if_neg c0, if_neg c1, if_neg c2, if_neg c3, if_pos c5] at h; split at h <;> omega
    by_cases c6 : G.ki = 6
    · rw [if_neg c0, if_neg c1, if_neg c2, if_neg c3, if_neg c5, if_pos c6] at h; omega
    by_cases c7 : G.ki = 7
    · rw [if_neg c0, if_neg c1, if_neg c2, if_neg c3, if_neg c5, if_neg c6, if_pos c7] at h; omega
    by_cases c8 : G.ki = 8
    · rw [if_neg c0, if_neg c1, if_neg c2, if_neg c3, if_neg c5, if_neg c6, if_neg c7, if_pos c8] at h; omega
    by_cases c9 : G.ki = 9
    · exact c9
    rw [if_neg c0, if_neg c1, if_neg c2, if_neg c3, if_neg c5, if_neg c6, if_neg c7, if_neg c8, if_neg c9] at h
    omega
  · exact kR_9
theorem XC.neg {c : Nat} {a : Int} {e : Exr} (h : XC σ c a e) : (a = -1 ↔ e = none) := by
  match e, h with
  | none, h => exact ⟨fun _ => rfl, fun _ => h⟩
  | some N, h =>
    obtain ⟨nb, h1, _⟩ := h
    exact ⟨fun q => by omega, fun q => absurd q (by simp)⟩
theorem op_magic {im s k : Int} (hI : ImgI σ x m) (hD : DsI σ x m p A B En Ss b) (hk2 : k < 2147483648) : ACi g l (d + 6) MX11_magic [vR 11 (some x), vI im, vI s, vI k] σ (fun a σ1 => ACi g l (d + 6) MX12_magic [vR 12 (some m), vI im, vI s, vI k] σ1 (fun r σ2 => a = r ∧ ScFr σ σ2)) := by
  have h6 := hI.2.2.2.2.1
  have he := hI.2.2.2.2.2.1
  obtain ⟨⟨a1, a2, a3, a4, a5, a6, a7⟩, ⟨b1, b2⟩, c, ⟨d1, d2, d3, d4⟩, ⟨e1, e2, e3⟩, ⟨w1, Ss00, w2, w3⟩, v⟩ := id hD
  have l20 := d1.2.1
  refine AC.of mo_X11_magic (Nat.le_of_ble_eq_true rfl) (bk_X11_magic_0 (x_imageOf hI.1 h6.2 (fun hn => ⟨fun _ => ⟨_, rfl, ?_⟩, (fun _ q => nomatch q)⟩) (fun h0 h1 => ?_)))
  · refine AC.of mo_X12_magic (Nat.le_of_ble_eq_true rfl) (bk_X12_magic_0 (m_isImage ?_))
    rw [if_neg (by omega)]
    exact ⟨fun _ => ⟨_, rfl, rfl, Frm.rfl⟩, fun q => absurd rfl q⟩
  obtain ⟨i1, hc, hr, hi6, hi2⟩ := hI.im h0 h1
  have hlen := hc.2.1
  have hlc := hc.2.2.1
  have r1 := hr.1
  have r2 := hr.2.1
  rw [i1]
  refine ⟨(fun q => nomatch q), fun r q => x_isStructure hD ?_⟩
  obtain rfl : img σ x im = r := by simpa using q
  generalize ha : img σ x im = a at *
  -- the reference
  have ref : ∀ (v : Int) (τ : St), Frm (fun f r => r = x ∧ (f = 1113 ∨ f = 1114)) σ τ → ((¬ ∃ S G, (0 ≤ s ∧ s < Ss.length) ∧ Ss[s.toNat]? = some S ∧ S.2.1[0]? = some G ∧ G.ki = 9 ∧ G.ec = none) ∨ k < 0 → v = -1) → (∀ S G, 0 ≤ s → s < Ss.length → Ss[s.toNat]? = some S → S.2.1[0]? = some G → G.ki = 9 → G.ec = none → 0 ≤ k → v = kth (fun p => al (me G.es (hasM σ m im) p) G.es.length) (gI σ 304 a 0 - G.es.length + 1).toNat 0 k) → ACi g l (d + 6) MX12_magic [vR 12 (some m), vI im, vI s, vI k] τ (fun b σ2 => v = b ∧ ScFr σ σ2) := by
    intro v τ hF hA hB
    have hS : ScFr σ τ := hF.mono (fun f r z => by have := z.2; omega)
    have et : ∀ f i, 1200 ≤ f → gI τ f m i = gI σ f m i ∧ gJ τ f m i = gJ σ f m i := fun f i z => ⟨hF.I (by omega) i, hF.J (by omega) i⟩
    refine AC.of mo_X12_magic (Nat.le_of_ble_eq_true rfl) (bk_X12_magic_0 (m_isImage ?_))
    rw [(et 1200 0 (by decide)).1, if_pos ⟨h0, hi2⟩]
    refine ⟨fun q => absurd q (by decide), fun _ => m_isStruct (b := b) (Ss := Ss) (hF.lc a7) (by rw [(et 1218 0 (by decide)).1]; exact e1) e2 (by rw [(et 1219 b (by decide)).1]; exact e3.1) ?_⟩
    by_cases c1 : 0 ≤ s ∧ s < Ss.length
    · rw [if_pos c1]
      obtain ⟨S, hSS⟩ := at_q c1.1 c1.2
      refine ⟨fun q => absurd q (by decide), fun _ => ⟨fun q3 => ?_, fun q3 => ⟨_, rfl, hA (Or.inr (by omega)), hS⟩⟩⟩
      rw [(et 1218 0 (by decide)).1, e1]
      have F2 : Frm (fun f r => r = m ∧ (f = 1253 ∨ f = 1281)) τ (sI (sI τ 1253 m 0 (b : Int)) 1281 m 0 im) := (Frm.sI (by simp)).trans (Frm.sI (by simp))
      have v53 : gI (sI (sI τ 1253 m 0 (b : Int)) 1281 m 0 im) 1253 m 0 = (b : Int) := by rw [gI_sI, if_neg (by simp), gI_slf]
      have v81 : gI (sI (sI τ 1253 m 0 (b : Int)) 1281 m 0 im) 1281 m 0 = im := gI_slf _ _ _ _ _
      generalize sI (sI τ 1253 m 0 (b : Int)) 1281 m 0 im = τ2 at *
      have et2 : ∀ f i, 1200 ≤ f → ¬ f = 1253 → ¬ f = 1281 → gI τ2 f m i = gI σ f m i ∧ gJ τ2 f m i = gJ σ f m i := fun f i z z1 z2 => ⟨by rw [F2.I (fun q => by omega)]; exact (et f i z).1, by rw [F2.J (fun q => by omega)]; exact (et f i z).2⟩
      have hS2 : ScFr σ τ2 := hS.trans (F2.mono (fun f r z => by have := z.2; omega))
      have dr2 : DR τ2 m b (3000 * b + 3000) En Ss := e3.ag (fun f i z => et2 f i (by omega) (by omega) (by omega))
      have lc2 : LC 12 τ2 m := F2.lc (hF.lc a7)
      obtain ⟨s1, s2, s3, s4, s5⟩ := dr2.2.2.2.2.2 _ S hSS
      refine m_field v53 e2 (by omega) (by omega) ?_
      rw [(et2 1218 0 (by decide) (by decide) (by decide)).1, e1, show (20 * (b : Int) + s).toNat = 20 * b + s.toNat by omega, s2, show 14 * (20 * (b : Int) + s) + 0 = ((14 * (20 * b + s.toNat) + 0 : Nat) : Int) by omega, Int.toNat_natCast]
      refine ⟨lc2, ⟨by omega, by omega⟩, ⟨by omega, by omega⟩, ⟨by omega, by omega⟩, fun q4 => ⟨_, rfl, hA (Or.inl (fun ⟨S', G, _, hS', hG, _⟩ => ?_)), hS2⟩, fun q4 => ⟨⟨by omega, by omega⟩, ?_⟩⟩
      · rw [hSS] at hS'; cases hS'
        have := (List.getElem?_eq_some_iff.mp hG).1
        omega
      have l0 : 0 < S.2.1.length := by omega
      have hG0 : S.2.1[0]? = some S.2.1[0] := List.getElem?_eq_getElem l0
      generalize S.2.1[0] = G at *
      obtain ⟨f1, f2⟩ := s5 0 G hG0
      obtain ⟨g1, g2, g3, g4, g5, g6⟩ := gf_st ((gf_of w2 w3 hSS).2 G (List.mem_of_getElem? hG0))
      have ng := f1.1.1.neg
      generalize hfx : 14 * (20 * b + s.toNat) + 0 = fx at *
      rw [f1.2.1]
      refine ⟨fun q5 => ⟨_, rfl, hA (Or.inl (fun ⟨S', G', _, hS', hG', k9, _⟩ => ?_)), hS2⟩, fun q5 => ⟨fun q6 => ?_, fun q6 => ⟨_, rfl, hA (Or.inl (fun ⟨S', G', _, hS', hG', k9, ec⟩ => ?_)), hS2⟩⟩⟩
      · rw [hSS] at hS'; cases hS'
        rw [hG0] at hG'; cases hG'
        exact q5 (kR_is9.mpr k9)
      · have hB := hB S G c1.1 c1.2 hSS hG0 (kR_is9.mp q5) (ng.1.mp q6) q3
        have ehas : ∀ p, hasM τ2 m im p = hasM σ m im p := fun p => by unfold hasM; rw [(et2 1203 _ (by decide) (by decide) (by decide)).1, (et2 1202 _ (by decide) (by decide) (by decide)).1]; exact hv_congr (fun i _ => (et2 1204 _ (by decide) (by decide) (by decide)).1) rfl
        have q7 := f1.1.2.2.2.2.2.2.1
        have l01 : gI τ2 1201 m im.toNat = gI σ 304 a 0 := by rw [(et2 1201 _ (by decide) (by decide) (by decide)).1]; exact r1.symm
        have l02 : gI τ2 1202 m im.toNat = gI σ 303 a 0 := by rw [(et2 1202 _ (by decide) (by decide) (by decide)).1]; exact r2.symm
        have loop : ∀ (j : Nat) (p t : Int), (j : Int) = max 0 (gI σ 304 a 0 - G.es.length + 1 - p) → 0 ≤ p → p ≤ 2001 → 0 ≤ t → t ≤ k → v = kth (fun p => al (me G.es (hasM σ m im) p) G.es.length) j p t → AW g l (d + 6) MX12_magic 90 [some (vR 12 (some m)), none, none, none, some (vI (fx : Int)), some (vI t), some (vI p)] [] τ2 (fun w σ' => ∃ r, w = some (vI r) ∧ v = r ∧ ScFr σ σ') := by
          intro j
          induction j with
          | zero =>
            intro p t hj hp hp2 ht htk hP
            refine bk_X12_magic_90 ⟨lc2, ⟨by omega, by omega⟩, ?_⟩
            rw [Int.toNat_natCast, q7, v81, l01]
            exact ⟨⟨by omega, by omega⟩, ⟨by omega, by omega⟩, fun _ => ⟨_, rfl, hP, hS2⟩, fun z => absurd (by omega) z⟩
          | succ j ih =>
            intro p t hj hp hp2 ht htk hP
            refine bk_X12_magic_90 ⟨lc2, ⟨by omega, by omega⟩, ?_⟩
            rw [Int.toNat_natCast, q7, v81, l01]
            refine ⟨⟨by omega, by omega⟩, ⟨by omega, by omega⟩, fun z => absurd z (by omega), fun z => m_magicAt lc2 h0 hi6 (by omega) (by omega) v81 (by omega) f1 g5 hp (by omega) ?_⟩
            have eme : me G.es (hasM τ2 m im) p = me G.es (hasM σ m im) p := by funext i; unfold me; rw [ehas]
            rw [eme]
            by_cases hit : 0 ≤ al (me G.es (hasM σ m im) p) G.es.length
            · rw [if_pos hit]
              refine ⟨fun _ => ⟨fun qt => ?_, fun qt => ?_⟩, fun z => absurd z (by decide)⟩
              · rw [kth_hit hit qt] at hP
                exact ⟨⟨by omega, by omega⟩, ⟨by omega, by omega⟩, ih _ _ (by omega) (by omega) (by omega) (by omega) (by omega) hP⟩
              · rw [kth_hit0 hit qt] at hP
                exact ⟨_, rfl, hP, hS2⟩
            · rw [if_neg hit]
              rw [kth_miss hit] at hP
              exact ⟨fun z => absurd rfl z, fun _ => ⟨⟨by omega, by omega⟩, ih _ _ (by omega) (by omega) (by omega) ht htk hP⟩⟩
        exact loop _ 0 k (by omega) (by omega) (by omega) q3 (by omega) hB
      · rw [hSS] at hS'; cases hS'
        rw [hG0] at hG'; cases hG'
        exact q6 (ng.1.mpr ec)
    · rw [if_neg c1]
      exact ⟨fun _ => ⟨_, rfl, hA (Or.inl (fun ⟨_, _, z, _⟩ => c1 z)), hS⟩, fun q => absurd rfl q⟩
  by_cases c1 : 0 ≤ s ∧ s < Ss.length
  · rw [if_pos c1]
    obtain ⟨S, hSS⟩ := at_q c1.1 c1.2
    obtain ⟨y1, y2, y3⟩ := b1.2.2.2.1.1 s.toNat (by omega)
    obtain ⟨s1, s2, s3, s4, s5⟩ := d1.2.2.2.2.2 _ S hSS
    refine ⟨fun q => absurd q (by decide), fun _ => ⟨A.1, a1, b1.1, ⟨by omega, by omega⟩, A.2.2.1 s.toNat, y1, fun q4 => ⟨y2, A.2.2.2 s.toNat 0, (y3 0 (by omega)).1, ?_⟩, fun q4 => ⟨_, rfl, ref _ σ Frm.rfl (fun _ => rfl) (fun S' G _ _ hS' hG => ?_)⟩⟩⟩
    · rw [s2] at q4
      have l0 : 0 < S.2.1.length := by omega
      have hG0 : S.2.1[0]? = some S.2.1[0] := List.getElem?_eq_getElem l0
      generalize S.2.1[0] = G at *
      have fc := s5 0 G hG0
      have gf := (gf_of w2 w3 hSS).2 G (List.mem_of_getElem? hG0)
      obtain ⟨g1, g2, g3, g4, g5, g6⟩ := gf_st gf
      have ng := fc.ec.neg
      rw [fc.ki]
      have same : ∀ S' G', Ss[s.toNat]? = some S' → S'.2.1[0]? = some G' → G' = G := fun S' G' hS' hG' => by
        rw [hSS] at hS'; cases hS'
        rw [hG0] at hG'; cases hG'; rfl
      refine ⟨fun q5 => ⟨_, rfl, ref _ σ Frm.rfl (fun _ => rfl) (fun S' G' _ _ hS' hG' k9 => absurd (by rw [← same S' G' hS' hG']; exact k9) q5)⟩, fun q5 => ⟨fun q6 => ?_, fun q6 => ⟨_, rfl, ref _ σ Frm.rfl (fun _ => rfl) (fun S' G' _ _ hS' hG' _ ec => absurd (ng.mpr (by rw [← same S' G' hS' hG']; exact ec)) q6)⟩⟩⟩
      obtain ⟨b0, u1, u2, u3, u4⟩ := fc.es
      rw [(y3 0 (by omega)).1]
      -- what the entries are
      have ev : ∀ e ∈ G.es, -1 ≤ e.2.1.toInt ∧ e.2.1.toInt ≤ 255 := by
        obtain ⟨S0, F, w, rfl, _⟩ := gf
        obtain ⟨k1, _, k3, _⟩ := aimO_k (Ns := S0.map (fun s => s.1)) (F := F)
        rw [k3]
        rw [k1] at q5
        rcases w.2.2.2.2 with q | q | q | q | q | q | q | q | q | q
        · omega
        · omega
        · omega
        · omega
        · omega
        · omega
        · omega
        · omega
        · exact q.2.2.2.2
        · omega
      have loop : ∀ (j : Nat) (i : Nat) (τ : St), j + i = G.es.length → Frm (fun f r => r = x ∧ (f = 1113 ∨ f = 1114)) σ τ → (∀ n : Nat, n < i → ∀ e, G.es[n]? = some e → gI τ 1113 x n = e.2.1.toInt ∧ gI τ 1114 x n = if e.2.1.toInt = -1 then 0 else 255) →
          AW g l (d + 6) MX11_magic 77 [some (vR 11 (some x)), none, none, some (vI k), some (vR 3 (some a)), some (vR 2 (some (A.2.2.2 s.toNat 0))), some (vI (i : Int)), none, none] [] τ (fun v' σ' => ∃ r, v' = some (vI r) ∧ ACi g l (d + 6) MX12_magic [vR 12 (some m), vI im, vI s, vI k] σ' (fun b σ2 => r = b ∧ ScFr σ σ2)) := by
        intro j
        induction j with
        | zero =>
          intro i τ hi hF hpat
          have t4' : gI τ 304 a 0 = gI σ 304 a 0 := hF.I (by simp) 0
          have t1' : ∀ i, gI τ 301 a i = gI σ 301 a i := hF.I (by simp)
          have q14 : gI τ 214 (A.2.2.2 s.toNat 0) 0 = (G.es.length : Int) := by rw [hF.I (by simp)]; exact u2
          refine bk_X11_magic_77 ⟨_, rfl, fun _ => ?_, fun q => absurd (by omega) q⟩
          rw [q14]
          refine x_matchOf (hF.lc hI.1) (hF.lc hc.1) (by omega) (by omega) (by omega) hk2 ⟨_, rfl, ref _ τ hF (fun q3 => ?_) (fun S' G' _ _ hS' hG' _ _ q3 => ?_)⟩
          · rcases q3 with q3 | q3
            · exact absurd ⟨S, G, c1, hSS, hG0, q5, ng.mp q6⟩ q3
            · exact if_pos q3
          · rw [same S' G' hS' hG', if_neg (by omega), t4', Int.toNat_natCast]
            refine kth_sign _ _ _ (fun p p0 p1 => ?_)
            rw [al_iff, al_iff]
            refine forall_congr' (fun n => forall_congr' (fun n0 => forall_congr' (fun n1 => ?_)))
            have lt : n.toNat < G.es.length := by omega
            have ge : G.es[n.toNat]? = some G.es[n.toNat] := List.getElem?_eq_getElem lt
            have pt := hpat n.toNat (by omega) _ ge
            have vr := ev _ (List.mem_of_getElem? ge)
            have hb : 0 ≤ hasM σ m im (p + n) ∧ hasM σ m im (p + n) ≤ 255 := by
              rw [← hr.has hc (by omega) (by omega)]
              exact hc.now (by omega) (by omega)
            unfold me
            rw [ge]
            generalize G.es[n.toNat] = e at *
            rw [pt.1, pt.2, t1', hr.has hc (by omega) (by omega)]
            by_cases z : e.2.1.toInt = -1
            · show i_and _ (if e.2.1.toInt = -1 then 0 else 255) = 0 ↔ (if e.2.1.toInt < 0 ∨ e.2.1 = i2j (hasM σ m im (p + n)) then (0 : Int) else 1) = 0
              rw [if_pos z, i_and_0, if_pos (Or.inl (by omega))]
            · show i_and _ (if e.2.1.toInt = -1 then 0 else 255) = 0 ↔ (if e.2.1.toInt < 0 ∨ e.2.1 = i2j (hasM σ m im (p + n)) then (0 : Int) else 1) = 0
              rw [if_neg z, i_xor_and hb.1 hb.2 (by omega) (by omega)]
              constructor
              · intro e1
                rw [if_pos (Or.inr (Int64.toInt_inj.mp (by rw [i2j_toInt, w32_id (by omega) (by omega)]; exact e1.symm)))]
              · intro e1
                by_cases w : e.2.1.toInt < 0 ∨ e.2.1 = i2j (hasM σ m im (p + n))
                · rcases w with w | w
                  · omega
                  · rw [w, i2j_toInt, w32_id (by omega) (by omega)]
                · rw [if_neg w] at e1; exact absurd e1 (by decide)
        | succ j ih =>
          intro i τ hi hF hpat
          have lt : i < G.es.length := by omega
          have ge : G.es[i]? = some G.es[i] := List.getElem?_eq_getElem lt
          have vr := ev _ (List.mem_of_getElem? ge)
          have u4' := (u4 i _ ge).2.1
          generalize G.es[i] = e at *
          have q14 : gI τ 214 (A.2.2.2 s.toNat 0) 0 = (G.es.length : Int) := by rw [hF.I (by simp)]; exact u2
          have q13 : gI τ 213 (A.2.2.2 s.toNat 0) 0 = (b0 : Int) := by rw [hF.I (by simp)]; exact u1
          have q07 : gJ τ 107 A.1 (b0 + i) = e.2.1 := by rw [hF.J (by simp)]; exact u4'
          refine bk_X11_magic_77 ⟨_, rfl, fun q => absurd q (by omega), fun _ => ⟨A.1, by rw [hF.R (by simp)]; exact a1, hF.lc b1.1, ?_⟩⟩
          rw [q13, show ((b0 : Int) + (i : Int)).toNat = b0 + i by omega, q07, Int.toNat_natCast, j2i_eq, w32_id (by omega) (by omega)]
          have go : ∀ mk : Int, (mk = if e.2.1.toInt = -1 then 0 else 255) → R32 ((i : Int) + 1) ∧ AW g l (d + 6) MX11_magic 77 [some (vR 11 (some x)), none, none, some (vI k), some (vR 3 (some a)), some (vR 2 (some (A.2.2.2 s.toNat 0))), some (vI ((i : Int) + 1)), none, none] [] (sI (sI τ 1113 x i e.2.1.toInt) 1114 x i mk) (fun v' σ' => ∃ r, v' = some (vI r) ∧ ACi g l (d + 6) MX12_magic [vR 12 (some m), vI im, vI s, vI k] σ' (fun b σ2 => r = b ∧ ScFr σ σ2)) := fun mk hmk => by
            refine ⟨⟨by omega, by omega⟩, ih (i + 1) _ (by omega) (hF.trans ((Frm.sI (by simp)).trans (Frm.sI (by simp)))) (fun n hn e' he' => ?_)⟩
            simp only [gI_sI, false_and, true_and, if_false, Nat.reduceEqDiff]
            by_cases z : n = i
            · rw [if_pos z, if_pos z]
              rw [z, ge] at he'
              cases he'
              exact ⟨rfl, hmk⟩
            · rw [if_neg z, if_neg z]
              exact hpat n (by omega) e' he'
          refine ⟨⟨by omega, by omega⟩, ⟨by omega, by omega⟩, hF.lc hI.1, ⟨by omega, by omega⟩, fun z => go 255 ?_, fun z => go 0 ?_⟩
          · rw [if_neg (fun w => z (Int64.toInt_inj.mp (by rw [w]; rfl)))]
          · rw [z]; rfl
      exact loop G.es.length 0 σ (by omega) Frm.rfl (fun n hn => by omega)
    · rw [s2] at q4
      rw [hSS] at hS'; cases hS'
      have := (List.getElem?_eq_some_iff.mp hG).1
      omega
  · rw [if_neg c1]
    exact ⟨fun _ => ⟨_, rfl, ref _ σ Frm.rfl (fun _ => rfl) (fun _ _ z0 z1 => absurd ⟨z0, z1⟩ c1)⟩, fun q => absurd rfl q⟩
end O4
