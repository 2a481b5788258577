/-! the reference's BITS -/
def smE : List Ent → Int
  | [] => 0
  | e :: es => e.2.1.toInt + smE es
theorem smE_app {e : Ent} : ∀ es : List Ent, smE (es ++ [e]) = smE es + e.2.1.toInt
  | [] => by show e.2.1.toInt + 0 = 0 + e.2.1.toInt; omega
  | f :: es => by show f.2.1.toInt + smE (es ++ [e]) = f.2.1.toInt + smE es + e.2.1.toInt; rw [smE_app es]; omega
theorem smE_nn : ∀ es : List Ent, (∀ e ∈ es, 1 ≤ e.2.1.toInt) → 0 ≤ smE es
  | [], _ => by show (0 : Int) ≤ 0; decide
  | f :: es, h => by
    have := smE_nn es (fun e he => h e (List.mem_cons_of_mem _ he))
    have := h f List.mem_cons_self
    show 0 ≤ f.2.1.toInt + smE es; omega
section M24
variable {g : GP} {l : Launch} {D : Nat} {σ0 σ : St} {m b fd lo la i nn : Nat} {X : Txt} {L : List (Nat × Int64 × Int)} {F : Fld} {bg : Int × Int × Int} {En : List Enm} {Ss : List Stc} {Fs : List Fld}
theorem g_bits {P : St → Prop} (hD : 8 ≤ D) (hX : X.OK) (hE : E0 σ0 m b lo En Ss Fs) (hfd : fd = fdx b Ss Fs) (h14 : Fs.length < 14) (h : GS σ0 σ m X b fd lo la i nn L F bg) (hn : F.nm = 0) (hb : bg.1 = 0) (he : F.es = [])
    (hp : ∀ σ', GR σ0 m X b fd lo la L (rBits X Fs F i) σ' → P σ') : ACv g l D MX12_readBits [vR 12 (some m), vI (fd : Int)] σ P := by
  obtain ⟨d, rfl⟩ : ∃ d, D = d + 1 := ⟨D - 1, by omega⟩
  have fdv : fd = 14 * (20 * b + Ss.length) + Fs.length := hfd
  have e3 := hE.2.2.1
  have e6 := hE.2.2.2.2.2.1
  have tn : ((fd : Int)).toNat = fd := by omega
  have dead : ∀ (τ : St) (e : Int × Int), GE σ0 τ m b fd lo la e → (∀ σ', GE σ0 σ' m b fd lo la e → P σ') → AW g l (d + 1) MX12_readBits 48 [some (vR 12 (some m)), some (vI (fd : Int)), none, none] [] τ (fun v σ' => v = none ∧ P σ') := fun τ e ge hP =>
    bk_X12_readBits_48 ⟨fun _ => d_take (by omega) ge.wB.bd ⟨rfl, hP _ ge.wB⟩, fun q => absurd q (by have := ge.bd; omega)⟩
  have loop : ∀ (f : Nat) (F : Fld) (bit : Int) (i : Nat) (τ : St) (n : Int), GS σ0 τ m X b fd lo la i nn L F (1, 4, n) → F.ki = 3 → IsN F.nm → (∀ e ∈ F.es, IsN e.1) → (∀ e ∈ F.es, 1 ≤ e.2.1.toInt ∧ e.2.1.toInt ≤ 64) → F.es.length ≤ 12 → TyR F.ty → smE F.es = bit → bit ≤ 64 → F.es.length + f = 13 →
      (∀ σ', GR σ0 m X b fd lo la L (bx (rParts X Fs f F bit i) (fun r2 => bx (tk X r2.1 125) (fun j2 => .ok (j2, r2.2)))) σ' → P σ') → ACv g l d MX12_part [vR 12 (some m), vI (fd : Int), vI bit] τ (fun σ8 => AW g l (d + 1) MX12_readBits 48 [some (vR 12 (some m)), some (vI (fd : Int)), none, none] [] σ8 (fun v σ' => v = none ∧ P σ')) := by
    intro f
    induction f with
    | zero => intro F bit i τ n s _ _ _ _ h12 _ _ _ hf _; omega
    | succ f ih =>
      intro F bit i τ n s hk hN hes hev h12 hT hsm hb64 hf hp
      have b0 := smE_nn F.es (fun e he => (hev e he).1)
      rw [rParts] at hp
      refine g_part (by omega) hX hE hfd h14 s rfl hk hN hes h12 hT ⟨by omega, hb64⟩ (fun q eq σ1 s1 => ?_) (fun e ee σ1 ge => dead σ1 e ge (fun σ' ge' => hp σ' (GR.err (by rw [ee, bx_er, bx_er]) ge')))
      obtain ⟨nm, v, q1, q2, q3, q4, q5, q6, q7, q8⟩ := rPart_wf hX s.iK eq
      rw [eq, bx_ok] at hp
      rw [q1] at s1 hp
      have tw8 := hT.2.1
      refine bk_X12_readBits_48 ⟨fun z => absurd s1.bd z, fun _ => r_isSign hX s1.2.1 (by decide) (by decide) ?_⟩
      by_cases k44 : X.k q.1 = 44
      · rw [if_pos k44] at hp
        rw [if_pos k44]
        refine ⟨fun z => absurd z (by decide), fun _ => g_next (by omega) hX s1 (fun σ2 s2 => ?_)⟩
        have el : (F.es ++ [(nm, v, bit)]).length = F.es.length + 1 := app_l
        have hev' : ∀ e ∈ F.es ++ [(nm, v, bit)], 1 ≤ e.2.1.toInt ∧ e.2.1.toInt ≤ 64 := fun e he => by
          rcases List.mem_append.mp he with he | he
          · exact hev e he
          · rw [List.mem_singleton] at he; rw [he]; exact ⟨q3, q4⟩
        have sm' : smE (F.es ++ [(nm, v, bit)]) = q.2.2 := by rw [smE_app, hsm]; exact q6.symm
        have go := ih (F.wEs (F.es ++ [(nm, v, bit)])) q.2.2 (X.nx q.1) σ2 n s2 hk hN (fun e he => by
          have he : e ∈ F.es ++ [(nm, v, bit)] := he
          rcases List.mem_append.mp he with he | he
          · exact hes e he
          · rw [List.mem_singleton] at he; rw [he]; exact q2) hev' (by show (F.es ++ [(nm, v, bit)]).length ≤ 12; omega) hT sm' (by omega) (by show (F.es ++ [(nm, v, bit)]).length + f = 13; omega) hp
        have sum : ∀ (A : List Ent) (j : Nat) (acc : Int), (∀ k e, A[k]? = some e → (F.es ++ [(nm, v, bit)])[j + k]? = some e) → j + A.length = F.es.length + 1 → acc + smE A = q.2.2 → 0 ≤ acc → (∀ e ∈ A, 1 ≤ e.2.1.toInt ∧ e.2.1.toInt ≤ 64) → AW g l (d + 1) MX12_readBits 72 [some (vR 12 (some m)), some (vI (fd : Int)), some (vI acc), some (vI (j : Int))] [] σ2 (fun v σ' => v = none ∧ P σ') := by
          intro A
          induction A with
          | nil =>
            intro j acc _ hj ha _ _
            have hj : j + 0 = F.es.length + 1 := hj
            have ha : acc + 0 = q.2.2 := ha
            refine bk_X12_readBits_72 ⟨s2.lc, ⟨by omega, by omega⟩, fun _ => ?_, fun z => absurd ?_ z⟩
            · rw [show acc = q.2.2 by omega]; exact go
            · rw [tn, s2.pr.2.2.2.2.2.2.1]; show ((F.es ++ [(nm, v, bit)]).length : Int) ≤ (j : Int); omega
          | cons e A ihA =>
            intro j acc hA hj ha h0 hA2
            have hj : j + (A.length + 1) = F.es.length + 1 := hj
            have ha : acc + (e.2.1.toInt + smE A) = q.2.2 := ha
            have e64 := hA2 e List.mem_cons_self
            have nnA := smE_nn A (fun x hx => (hA2 x (List.mem_cons_of_mem _ hx)).1)
            have c0 := hA 0 e rfl
            rw [Nat.add_zero] at c0
            have pv := (s2.pr.2.2.2.2.2.2.2.2.2 j e c0).2.1
            refine bk_X12_readBits_72 ⟨s2.lc, ⟨by omega, by omega⟩, fun z => absurd z ?_, fun _ => ?_⟩
            · rw [tn, s2.pr.2.2.2.2.2.2.1]; show ¬ ((F.es ++ [(nm, v, bit)]).length : Int) ≤ (j : Int); omega
            · rw [show (16 * (fd : Int) + (j : Int)).toNat = 16 * fd + j by omega, pv, j2i_eq, w32_id (by omega) (by omega)]
              refine ⟨⟨by omega, by omega⟩, ⟨by omega, by omega⟩, ⟨by omega, by omega⟩, ⟨by omega, by omega⟩, fun z hz => ⟨⟨by omega, by omega⟩, ?_⟩⟩
              exact ihA (j + 1) z (fun k x hx => by rw [show j + 1 + k = j + (k + 1) by omega]; exact hA (k + 1) x hx) (by omega) (by omega) (by omega) (fun x hx => hA2 x (List.mem_cons_of_mem _ hx))
        exact sum (F.es ++ [(nm, v, bit)]) 0 0 (fun k e he => by rw [Nat.zero_add]; exact he) (by omega) (by omega) (by decide) hev'
      · rw [if_neg k44, bx_ok] at hp
        rw [if_neg k44]
        exact ⟨fun _ => g_take (by omega) hX s1.wB (by decide) (fun et σ2 s2 => ⟨rfl, hp σ2 (GR.okk (by show bx (tk X q.1 125) _ = _; rw [et, bx_ok]) (by show ¬ F.ki = 7; omega) s2 (GK.of rfl (kR_3 (F := F.wEs (F.es ++ [(nm, v, bit)])) hk).symm ⟨by show ¬ F.ki = 7; omega, by show ¬ F.ki = 8; omega, by show ¬ F.ki = 10; omega, fun z => by have z : F.ki = 5 := z; omega⟩))⟩) (fun et σ2 ge => ⟨rfl, hp σ2 (GR.err (by show bx (tk X q.1 125) _ = _; rw [et, bx_er]) ge)⟩), fun z => absurd rfl z⟩
  unfold rBits at hp
  have stop : ∀ (τ : St) (e : Int × Int), GE σ0 τ m b fd lo la e → P τ → ((gI τ 1251 m 0 ≤ 0 → False) ∧ (¬ gI τ 1251 m 0 ≤ 0 → P τ)) := fun τ e ge hP => ⟨fun q => by have := ge.bd; omega, fun _ => hP⟩
  refine AC.of mo_X12_readBits (Nat.le_of_ble_eq_true rfl) (bk_X12_readBits_0 (g_next (by omega) hX h (fun σ1 s1 => g_whole (by omega) hX hE hfd h14 (s1.f (F' := F.wKi 3) (s1.pr.k0 he)) (fun et σ2 s2 => ?_) (fun et σ2 ge => d_named (by omega) ge.bd (d_take (by omega) ge.bd ⟨fun q => absurd q (by have := ge.bd; omega), fun _ => ⟨rfl, hp σ2 (GR.err (by rw [et, bx_er]) ge)⟩⟩)))))
  rw [et, bx_ok] at hp
  have k4 := (tT_ok et).1
  have ty := Txt.tyr hX s1.iK k4
  refine g_named (by omega) hX hE hfd h14 s2 hb hn he (fun eo σ3 s3 => ?_) (fun e eo σ3 ge => d_take (by omega) ge.bd ⟨fun q => absurd q (by have := ge.bd; omega), fun _ => ⟨rfl, hp σ3 (GR.err (by show bx (tO X Fs _ (X.nx (X.nx i))) _ = _; rw [show tO X Fs ((F.wKi 3).wTy (X.v (X.nx i))) (X.nx (X.nx i)) = _ from eo, bx_er]) ge)⟩⟩)
  have k2 := (tO_ok eo).1
  have iw := ((s2.2.1.sort hX).2.2.2.2.1 k2).2
  dsimp only at hp
  rw [show tO X Fs ((F.wKi 3).wTy (X.v (X.nx i))) (X.nx (X.nx i)) = _ from eo, bx_ok] at hp
  refine g_take (by omega) hX s3 (by decide) (fun et σ4 s4 => ⟨fun _ => ⟨s4.lc, ⟨by omega, by omega⟩, ?_⟩, fun q => absurd (by rw [s4.bd]; decide) q⟩) (fun et σ4 ge => ⟨fun q => absurd q (by have := ge.bd; omega), fun _ => ⟨rfl, hp σ4 (GR.err (by rw [et, bx_er]) ge)⟩⟩)
  dsimp only at hp
  rw [et, bx_ok] at hp
  rw [tn]
  have s5 := (s4.wK (v := 4) (s4.pr.k (k := 3) he)).wB (v := 1)
  exact loop 13 _ 0 _ _ _ s5 rfl iw (fun e z => absurd (show e ∈ F.es from z) (by rw [he]; simp)) (fun e z => absurd (show e ∈ F.es from z) (by rw [he]; simp)) (by show F.es.length ≤ 12; rw [he]; decide) ty (by show smE F.es = 0; rw [he]; rfl) (by decide) (by show F.es.length + 13 = 13; rw [he]; rfl) hp
end M24
