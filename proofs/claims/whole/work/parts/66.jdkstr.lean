/-! the JDK's methods over a string that is a constant -/
theorem i_shr0 {x : Int} (h0 : -2147483648 ≤ x) (h1 : x < 2147483648) : i_shr x 0 = x := by
  have h : i_shr x 0 = ((Int32.ofInt x).toBitVec.sshiftRight' ((Int32.ofInt 0 &&& 31).toBitVec.smod 32)).toInt := rfl
  rw [h, BitVec.toInt_sshiftRight', Int.shiftRight_eq_div_pow, show ((Int32.ofInt 0 &&& 31).toBitVec.smod 32).toNat = 0 by decide]
  show (Int32.ofInt x).toInt / 1 = x
  rw [toInt_ofInt, w32_id h0 h1]
  omega
theorem i_2c_id {x : Int} (h0 : 0 ≤ x) (h1 : x < 65536) : i_2c x = x := by
  unfold i_2c
  have e1 : ((Int32.ofInt x).toUInt32 % 65536).toInt32.toBitVec.toNat = (Int32.ofInt x).toBitVec.toNat % 65536 := rfl
  have e2 : (Int32.ofInt x).toInt = (((Int32.ofInt x).toBitVec.toNat : Nat) : Int).bmod (2 ^ 32) := BitVec.toInt_eq_toNat_bmod _
  have e3 : ((Int32.ofInt x).toUInt32 % 65536).toInt32.toInt = ((((Int32.ofInt x).toUInt32 % 65536).toInt32.toBitVec.toNat : Nat) : Int).bmod (2 ^ 32) := BitVec.toInt_eq_toNat_bmod _
  rw [toInt_ofInt, w32_id (by omega) (by omega), w32_bmod] at e2
  rw [e3, e1, w32_bmod]
  have := (Int32.ofInt x).toBitVec.isLt
  unfold w32 at *
  omega
/-- the first place from i on, of n, with the byte c -/
def ixN (bs : List Int32) (c : Int) : Nat → Int → Int
  | 0, _ => -1
  | n + 1, i => if (bs.getD i.toNat 0).toInt = c then i else ixN bs c n (i + 1)
section RJ
variable {g : GP} {l : Launch} {d : Nat} {σ : St} {e : Nat} {tx : String} {bs : List Int32}
theorem j_coder {P : Int → St → Prop} (he : e < 300) (hF : SFk g e tx bs) (hZ : SZk g) (h : P 0 σ) : ACi g l d MJ0_coder_7d493 [vA (9000 + e) 0] σ P := by
  refine AC.of mo_J0_coder_7d493 (Nat.le_of_ble_eq_true rfl) ?_
  refine aw_compact hZ lf_J0_38 dJ0_coder_7d493_0 ?_
  refine aw_if_eq (tgt := 13) dJ0_coder_7d493_3 (by decide) (fun hc => absurd hc (by decide)) (fun _ => ?_)
  refine aw_aload_n dJ0_coder_7d493_6 rfl rfl ?_
  refine aw_strCod he hF lf_J0_15 dJ0_coder_7d493_7 ?_
  refine aw_goto (tgt := 14) dJ0_coder_7d493_10 (by decide) ?_
  exact aw_breturn dJ0_coder_7d493_14 rfl (by decide) ⟨_, rfl, h⟩
theorem j_latin {P : Int → St → Prop} (he : e < 300) (hF : SFk g e tx bs) (hZ : SZk g) (h : P 1 σ) : ACi g l d MJ0_isLatin1_aae02 [vA (9000 + e) 0] σ P := by
  refine AC.of mo_J0_isLatin1_aae02 (Nat.le_of_ble_eq_true rfl) ?_
  refine aw_compact hZ lf_J0_38 dJ0_isLatin1_aae02_0 ?_
  refine aw_if_eq (tgt := 17) dJ0_isLatin1_aae02_3 (by decide) (fun hc => absurd hc (by decide)) (fun _ => ?_)
  refine aw_aload_n dJ0_isLatin1_aae02_6 rfl rfl ?_
  refine aw_strCod he hF lf_J0_15 dJ0_isLatin1_aae02_7 ?_
  refine aw_if_ne (tgt := 17) dJ0_isLatin1_aae02_10 (by decide) (fun hc => absurd rfl hc) (fun _ => ?_)
  refine aw_iconst (x := 1) dJ0_isLatin1_aae02_13 rfl ?_
  refine aw_goto (tgt := 18) dJ0_isLatin1_aae02_14 (by decide) ?_
  exact aw_zreturn dJ0_isLatin1_aae02_18 rfl (Or.inr rfl) ⟨_, rfl, h⟩
theorem j_length {P : Int → St → Prop} (he : e < 300) (hF : SFk g e tx bs) (hZ : SZk g) (hn : bs.length < 2147483648) (h : P bs.length σ) : ACi g l (d + 1) MJ0_length_8abf5 [vA (9000 + e) 0] σ P := by
  refine AC.of mo_J0_length_8abf5 (Nat.le_of_ble_eq_true rfl) ?_
  refine aw_aload_n dJ0_length_8abf5_0 rfl rfl ?_
  refine aw_strVal he hF lf_J0_9 dJ0_length_8abf5_1 ?_
  refine aw_blen he hF hn dJ0_length_8abf5_4 ?_
  refine aw_aload_n dJ0_length_8abf5_5 rfl rfl ?_
  refine aw_strV (M := MJ0_length_8abf5) [] he hF mo_J0_coder_7d493 rfl lm_J0_335 li_J0_coder_7d493 ls_J0_coder_7d493 rfl dJ0_length_8abf5_6 rfl (Nat.le_of_ble_eq_true rfl) (j_coder he hF hZ ?_)
  refine aw_ishr dJ0_length_8abf5_9 ?_
  rw [i_shr0 (by omega) (by omega)]
  exact aw_ireturn dJ0_length_8abf5_10 rfl ⟨_, rfl, h⟩
theorem j_checkIndex {i n : Int} {P : St → Prop} (hZ : SZk g) (h0 : 0 ≤ i) (h1 : i < n) (h : P σ) : ACv g l (d + 1) MJ0_checkIndex_df160 [vI i, vI n] σ P := by
  obtain ⟨-, hz⟩ := hZ
  rcases hz with hq | ⟨q, hq⟩
  · refine AC.of mo_J0_checkIndex_df160 (Nat.le_of_ble_eq_true rfl) ?_
    refine aw_iload_n dJ0_checkIndex_df160_0 rfl rfl ?_
    refine aw_iload_n dJ0_checkIndex_df160_1 rfl rfl ?_
    refine aw_fmtN hq lf_J0_1053 dJ0_checkIndex_df160_2 ?_
    refine aw_invSi (M := MJ0_checkIndex_df160) [vI i, vI n, vR 0 none] mo_J3_checkIndex_8e157 rfl lm_J0_1059 lt_J3_checkIndex_8e157 dJ0_checkIndex_df160_5 rfl (Nat.le_of_ble_eq_true rfl) ?_
    refine AC.of mo_J3_checkIndex_8e157 (Nat.le_of_ble_eq_true rfl) ?_
    refine aw_iload_n dJ3_checkIndex_8e157_0 rfl rfl ?_
    refine aw_if_lt (tgt := 9) dJ3_checkIndex_8e157_1 (by decide) (fun hc => absurd hc (by omega)) (fun _ => ?_)
    refine aw_iload_n dJ3_checkIndex_8e157_4 rfl rfl ?_
    refine aw_iload_n dJ3_checkIndex_8e157_5 rfl rfl ?_
    refine aw_icmp_lt (tgt := 16) dJ3_checkIndex_8e157_6 (by decide) (fun _ => ?_) (fun hc => absurd h1 hc)
    refine aw_iload_n dJ3_checkIndex_8e157_16 rfl rfl ?_
    refine aw_ireturn dJ3_checkIndex_8e157_17 rfl ⟨_, rfl, ?_⟩
    refine aw_pop dJ0_checkIndex_df160_8 rfl ?_
    exact aw_ret ⟨rfl, h⟩ rfl dJ0_checkIndex_df160_9
  have hx : ACv ((g.1, g.2.1, g.2.2.1, q, 0, fun _ => 0) : GP) l (d + 1) MJ0_checkIndex_df160 [vI i, vI n] σ P := by
    refine AC.of mo_J0_checkIndex_df160 (Nat.le_of_ble_eq_true rfl) ?_
    refine aw_iload_n dJ0_checkIndex_df160_0 rfl rfl ?_
    refine aw_iload_n dJ0_checkIndex_df160_1 rfl rfl ?_
    refine aw_fmt hq lf_J0_1053 dJ0_checkIndex_df160_2 ?_
    refine aw_invSi (M := MJ0_checkIndex_df160) [vI i, vI n, vA 9999 0] mo_J3_checkIndex_8e157 rfl lm_J0_1059 lt_J3_checkIndex_8e157 dJ0_checkIndex_df160_5 rfl (Nat.le_of_ble_eq_true rfl) ?_
    refine AC.of mo_J3_checkIndex_8e157 (Nat.le_of_ble_eq_true rfl) ?_
    refine aw_iload_n dJ3_checkIndex_8e157_0 rfl rfl ?_
    refine aw_if_lt (tgt := 9) dJ3_checkIndex_8e157_1 (by decide) (fun hc => absurd hc (by omega)) (fun _ => ?_)
    refine aw_iload_n dJ3_checkIndex_8e157_4 rfl rfl ?_
    refine aw_iload_n dJ3_checkIndex_8e157_5 rfl rfl ?_
    refine aw_icmp_lt (tgt := 16) dJ3_checkIndex_8e157_6 (by decide) (fun _ => ?_) (fun hc => absurd h1 hc)
    refine aw_iload_n dJ3_checkIndex_8e157_16 rfl rfl ?_
    refine aw_ireturn dJ3_checkIndex_8e157_17 rfl ⟨_, rfl, ?_⟩
    refine aw_pop dJ0_checkIndex_df160_8 rfl ?_
    exact aw_ret ⟨rfl, h⟩ rfl dJ0_checkIndex_df160_9
  intro K vals hv p ev ha hc hk s m args below hf happ hP hT
  have hv' : SV ((g.1, g.2.1, g.2.2.1, q, 0, fun _ => 0) : GP) K [vI i, vI n] vals := by
    obtain ⟨v1, v2, st, rfl, a1, a2, a3⟩ := SV.cons2 hv
    have a4 := SV.nil a3
    subst a4
    exact ⟨a1, a2, trivial⟩
  obtain ⟨nn, o, h1, h2, h3, ⟨⟨v, σ', K', rv, q1, q2, q3, q4, q5, q6⟩, q7⟩, hL⟩ := hx K vals hv' p ev ha hc hk s m args below hf happ hP hT
  subst q5
  exact ⟨nn, o, h1, h2, h3, ⟨⟨none, σ', K', rv, q1, q2, q3, q4, rfl, q6⟩, q7⟩, hL⟩
theorem j_lcharAt {i : Int} {P : Int → St → Prop} (he : e < 300) (hF : SFk g e tx bs) (hZ : SZk g) (hn : bs.length < 2147483648) (h0 : 0 ≤ i) (h1 : i < bs.length) (h : P ((bs.getD i.toNat 0).toInt % 256) σ) : ACi g l (d + 2) MJ1_charAt_3b067 [vA (9300 + e) 0, vI i] σ P := by
  refine AC.of mo_J1_charAt_3b067 (Nat.le_of_ble_eq_true rfl) ?_
  refine aw_iload_n dJ1_charAt_3b067_0 rfl rfl ?_
  refine aw_aload_n dJ1_charAt_3b067_1 rfl rfl ?_
  refine aw_blen he hF hn dJ1_charAt_3b067_2 ?_
  refine aw_invSv (M := MJ1_charAt_3b067) [vI i, vI (bs.length : Int)] mo_J0_checkIndex_df160 rfl lm_J1_9 lt_J0_checkIndex_df160 dJ1_charAt_3b067_3 rfl (Nat.le_of_ble_eq_true rfl) (j_checkIndex hZ h0 h1 ?_)
  refine aw_aload_n dJ1_charAt_3b067_6 rfl rfl ?_
  refine aw_iload_n dJ1_charAt_3b067_7 rfl rfl ?_
  refine aw_bbload he hF dJ1_charAt_3b067_8 h0 h1 ?_
  refine aw_sipush (x := 255) dJ1_charAt_3b067_9 rfl ?_
  refine aw_iand dJ1_charAt_3b067_12 ?_
  refine aw_i2c dJ1_charAt_3b067_13 ?_
  rw [i_and255, i_2c_id (Int.emod_nonneg _ (by decide)) (by have := Int.emod_lt_of_pos ((bs.getD i.toNat 0).toInt) (b := 256) (by decide); omega)]
  exact aw_creturn dJ1_charAt_3b067_14 rfl ⟨Int.emod_nonneg _ (by decide), by have := Int.emod_lt_of_pos ((bs.getD i.toNat 0).toInt) (b := 256) (by decide); omega⟩ ⟨_, rfl, h⟩
theorem j_charAt {i : Int} {P : Int → St → Prop} (he : e < 300) (hF : SFk g e tx bs) (hZ : SZk g) (hn : bs.length < 2147483648) (h0 : 0 ≤ i) (h1 : i < bs.length) (h : P ((bs.getD i.toNat 0).toInt % 256) σ) : ACi g l (d + 3) MJ0_charAt_5068e [vA (9000 + e) 0, vI i] σ P := by
  refine AC.of mo_J0_charAt_5068e (Nat.le_of_ble_eq_true rfl) ?_
  refine aw_aload_n dJ0_charAt_5068e_0 rfl rfl ?_
  refine aw_strV (M := MJ0_charAt_5068e) [] he hF mo_J0_isLatin1_aae02 rfl lm_J0_492 li_J0_isLatin1_aae02 ls_J0_isLatin1_aae02 rfl dJ0_charAt_5068e_1 rfl (Nat.le_of_ble_eq_true rfl) (j_latin he hF hZ ?_)
  refine aw_if_eq (tgt := 16) dJ0_charAt_5068e_4 (by decide) (fun hc => absurd hc (by decide)) (fun _ => ?_)
  refine aw_aload_n dJ0_charAt_5068e_7 rfl rfl ?_
  refine aw_strVal he hF lf_J0_9 dJ0_charAt_5068e_8 ?_
  refine aw_iload_n dJ0_charAt_5068e_11 rfl rfl ?_
  refine aw_invSi (M := MJ0_charAt_5068e) [vA (9300 + e) 0, vI i] mo_J1_charAt_3b067 rfl lm_J0_495 lt_J1_charAt_3b067 dJ0_charAt_5068e_12 rfl (Nat.le_of_ble_eq_true rfl) (j_lcharAt he hF hZ hn h0 h1 ?_)
  exact aw_creturn dJ0_charAt_5068e_15 rfl ⟨Int.emod_nonneg _ (by decide), by have := Int.emod_lt_of_pos ((bs.getD i.toNat 0).toInt) (b := 256) (by decide); omega⟩ ⟨_, rfl, h⟩
theorem j_canEncode {c : Int} {P : Int → St → Prop} (h0 : 0 ≤ c) (h1 : c ≤ 255) (h : P 1 σ) : ACi g l d MJ1_canEncode_9a6ad [vI c] σ P := by
  refine AC.of mo_J1_canEncode_9a6ad (Nat.le_of_ble_eq_true rfl) ?_
  refine aw_iload_n dJ1_canEncode_9a6ad_0 rfl rfl ?_
  refine aw_if_lt (tgt := 15) dJ1_canEncode_9a6ad_1 (by decide) (fun hc => absurd hc (by omega)) (fun _ => ?_)
  refine aw_iload_n dJ1_canEncode_9a6ad_4 rfl rfl ?_
  refine aw_sipush (x := 255) dJ1_canEncode_9a6ad_5 rfl ?_
  refine aw_icmp_gt (tgt := 15) dJ1_canEncode_9a6ad_8 (by decide) (fun hc => absurd hc (by omega)) (fun _ => ?_)
  refine aw_iconst (x := 1) dJ1_canEncode_9a6ad_11 rfl ?_
  refine aw_goto (tgt := 16) dJ1_canEncode_9a6ad_12 (by decide) ?_
  exact aw_zreturn dJ1_canEncode_9a6ad_16 rfl (Or.inr rfl) ⟨_, rfl, h⟩
theorem j_indexOfChar {c : Int} {P : Int → St → Prop} (he : e < 300) (hF : SFk g e tx bs) (hn : bs.length < 2147483647) (h0 : 0 ≤ c) (h1 : c ≤ 255) (h : P (ixN bs (if c < 128 then c else c - 256) bs.length 0) σ) : ACi g l d MJ1_indexOfChar_4cfef [vA (9300 + e) 0, vI c, vI 0, vI (bs.length : Int)] σ P := by
  have loop : ∀ (j : Nat) (i : Int), i = bs.length - j → 0 ≤ i → P (ixN bs (if c < 128 then c else c - 256) j i) σ →
      AW g l d MJ1_indexOfChar_4cfef 7 [some (vA (9300 + e) 0), some (vI c), some (vI 0), some (vI (bs.length : Int)), some (vI (if c < 128 then c else c - 256)), some (vI i)] [] σ (fun v σ' => ∃ r, v = some (vI r) ∧ P r σ') := by
    intro j
    induction j with
    | zero =>
      intro i hi hi0 hP
      refine aw_iload dJ1_indexOfChar_4cfef_7 rfl ?_
      refine aw_iload_n dJ1_indexOfChar_4cfef_9 rfl rfl ?_
      refine aw_icmp_ge (tgt := 31) dJ1_indexOfChar_4cfef_10 (by decide) (fun _ => ?_) (fun hc => absurd (by omega) hc)
      refine aw_iconst (x := -1) dJ1_indexOfChar_4cfef_31 rfl ?_
      exact aw_ireturn dJ1_indexOfChar_4cfef_32 rfl ⟨_, rfl, hP⟩
    | succ j ih =>
      intro i hi hi0 hP
      refine aw_iload dJ1_indexOfChar_4cfef_7 rfl ?_
      refine aw_iload_n dJ1_indexOfChar_4cfef_9 rfl rfl ?_
      refine aw_icmp_ge (tgt := 31) dJ1_indexOfChar_4cfef_10 (by decide) (fun hc => absurd hc (by omega)) (fun _ => ?_)
      refine aw_aload_n dJ1_indexOfChar_4cfef_13 rfl rfl ?_
      refine aw_iload dJ1_indexOfChar_4cfef_14 rfl ?_
      refine aw_bbload he hF dJ1_indexOfChar_4cfef_16 hi0 (by omega) ?_
      refine aw_iload dJ1_indexOfChar_4cfef_17 rfl ?_
      simp only [ixN] at hP
      refine aw_icmp_ne (tgt := 25) dJ1_indexOfChar_4cfef_19 (by decide) (fun hc => ?_) (fun hc => ?_)
      · rw [if_neg hc] at hP
        refine aw_iincc (L' := [some (vA (9300 + e) 0), some (vI c), some (vI 0), some (vI (bs.length : Int)), some (vI (if c < 128 then c else c - 256)), some (vI (i + 1))]) dJ1_indexOfChar_4cfef_25 rfl (by decide) rfl (by omega) (by omega) rfl ?_
        refine aw_goto (tgt := 7) dJ1_indexOfChar_4cfef_28 (by decide) ?_
        exact ih _ (by omega) (by omega) hP
      · rw [if_pos hc] at hP
        refine aw_iload dJ1_indexOfChar_4cfef_22 rfl ?_
        exact aw_ireturn dJ1_indexOfChar_4cfef_24 rfl ⟨_, rfl, hP⟩
  refine AC.of mo_J1_indexOfChar_4cfef (Nat.le_of_ble_eq_true rfl) ?_
  refine aw_iload_n dJ1_indexOfChar_4cfef_0 rfl rfl ?_
  refine aw_i2b h0 h1 dJ1_indexOfChar_4cfef_1 ?_
  refine aw_istore (L' := [some (vA (9300 + e) 0), some (vI c), some (vI 0), some (vI (bs.length : Int)), some (vI (if c < 128 then c else c - 256)), none]) dJ1_indexOfChar_4cfef_2 (by decide) rfl ?_
  refine aw_iload_n dJ1_indexOfChar_4cfef_4 rfl rfl ?_
  refine aw_istore (L' := [some (vA (9300 + e) 0), some (vI c), some (vI 0), some (vI (bs.length : Int)), some (vI (if c < 128 then c else c - 256)), some (vI 0)]) dJ1_indexOfChar_4cfef_5 (by decide) rfl ?_
  exact loop bs.length 0 (by omega) (by omega) h
theorem j_lindexOf {c : Int} {P : Int → St → Prop} (he : e < 300) (hF : SFk g e tx bs) (hn : bs.length < 2147483647) (hp : 0 < bs.length) (h0 : 0 ≤ c) (h1 : c ≤ 255) (h : P (ixN bs (if c < 128 then c else c - 256) bs.length 0) σ) : ACi g l (d + 1) MJ1_indexOf_4cfef [vA (9300 + e) 0, vI c, vI 0, vI (bs.length : Int)] σ P := by
  refine AC.of mo_J1_indexOf_4cfef (Nat.le_of_ble_eq_true rfl) ?_
  refine aw_iload_n dJ1_indexOf_4cfef_0 rfl rfl ?_
  refine aw_invSi (M := MJ1_indexOf_4cfef) [vI c] mo_J1_canEncode_9a6ad rfl lm_J1_88 lt_J1_canEncode_9a6ad dJ1_indexOf_4cfef_1 rfl (Nat.le_of_ble_eq_true rfl) (j_canEncode h0 h1 ?_)
  refine aw_if_ne (tgt := 9) dJ1_indexOf_4cfef_4 (by decide) (fun _ => ?_) (fun hc => absurd hc (by decide))
  refine aw_iload_n dJ1_indexOf_4cfef_9 rfl rfl ?_
  refine aw_iconst (x := 0) dJ1_indexOf_4cfef_10 rfl ?_
  refine aw_invSi (M := MJ1_indexOf_4cfef) [vI 0, vI 0] mo_J9_max_7cf53 rfl lm_J1_92 lt_J9_max_7cf53 dJ1_indexOf_4cfef_11 rfl (Nat.le_of_ble_eq_true rfl) (AC.of mo_J9_max_7cf53 (Nat.le_of_ble_eq_true rfl) (bk_J9_max_7cf53_0 ⟨fun hc => absurd hc (by decide), fun _ => ⟨_, rfl, ?_⟩⟩))
  refine aw_istore_n (L' := [some (vA (9300 + e) 0), some (vI c), some (vI 0), some (vI (bs.length : Int))]) dJ1_indexOf_4cfef_14 rfl (by decide) rfl ?_
  refine aw_iload_n dJ1_indexOf_4cfef_15 rfl rfl ?_
  refine aw_aload_n dJ1_indexOf_4cfef_16 rfl rfl ?_
  refine aw_blen he hF (by omega) dJ1_indexOf_4cfef_17 ?_
  refine aw_invSi (M := MJ1_indexOf_4cfef) [vI (bs.length : Int), vI (bs.length : Int)] mo_J9_min_7cf53 rfl lm_J1_38 lt_J9_min_7cf53 dJ1_indexOf_4cfef_18 rfl (Nat.le_of_ble_eq_true rfl) (AC.of mo_J9_min_7cf53 (Nat.le_of_ble_eq_true rfl) (bk_J9_min_7cf53_0 ⟨fun hc => absurd hc (by omega), fun _ => ⟨_, rfl, ?_⟩⟩))
  refine aw_istore_n (L' := [some (vA (9300 + e) 0), some (vI c), some (vI 0), some (vI (bs.length : Int))]) dJ1_indexOf_4cfef_21 rfl (by decide) rfl ?_
  refine aw_iload_n dJ1_indexOf_4cfef_22 rfl rfl ?_
  refine aw_iload_n dJ1_indexOf_4cfef_23 rfl rfl ?_
  refine aw_icmp_lt (tgt := 29) dJ1_indexOf_4cfef_24 (by decide) (fun _ => ?_) (fun hc => absurd (by omega) hc)
  refine aw_aload_n dJ1_indexOf_4cfef_29 rfl rfl ?_
  refine aw_iload_n dJ1_indexOf_4cfef_30 rfl rfl ?_
  refine aw_iload_n dJ1_indexOf_4cfef_31 rfl rfl ?_
  refine aw_iload_n dJ1_indexOf_4cfef_32 rfl rfl ?_
  refine aw_invSi (M := MJ1_indexOf_4cfef) [vA (9300 + e) 0, vI c, vI 0, vI (bs.length : Int)] mo_J1_indexOfChar_4cfef rfl lm_J1_95 lt_J1_indexOfChar_4cfef dJ1_indexOf_4cfef_33 rfl (Nat.le_of_ble_eq_true rfl) (j_indexOfChar he hF hn h0 h1 ?_)
  exact aw_ireturn dJ1_indexOf_4cfef_36 rfl ⟨_, rfl, h⟩
theorem j_indexOf2 {c : Int} {P : Int → St → Prop} (he : e < 300) (hF : SFk g e tx bs) (hZ : SZk g) (hn : bs.length < 2147483647) (hp : 0 < bs.length) (h0 : 0 ≤ c) (h1 : c ≤ 255) (h : P (ixN bs (if c < 128 then c else c - 256) bs.length 0) σ) : ACi g l (d + 2) MJ0_indexOf_7cf53 [vA (9000 + e) 0, vI c, vI 0] σ P := by
  refine AC.of mo_J0_indexOf_7cf53 (Nat.le_of_ble_eq_true rfl) ?_
  refine aw_aload_n dJ0_indexOf_7cf53_0 rfl rfl ?_
  refine aw_strV (M := MJ0_indexOf_7cf53) [] he hF mo_J0_isLatin1_aae02 rfl lm_J0_492 li_J0_isLatin1_aae02 ls_J0_isLatin1_aae02 rfl dJ0_indexOf_7cf53_1 rfl (Nat.le_of_ble_eq_true rfl) (j_latin he hF hZ ?_)
  refine aw_if_eq (tgt := 23) dJ0_indexOf_7cf53_4 (by decide) (fun hc => absurd hc (by decide)) (fun _ => ?_)
  refine aw_aload_n dJ0_indexOf_7cf53_7 rfl rfl ?_
  refine aw_strVal he hF lf_J0_9 dJ0_indexOf_7cf53_8 ?_
  refine aw_iload_n dJ0_indexOf_7cf53_11 rfl rfl ?_
  refine aw_iload_n dJ0_indexOf_7cf53_12 rfl rfl ?_
  refine aw_aload_n dJ0_indexOf_7cf53_13 rfl rfl ?_
  refine aw_strV (M := MJ0_indexOf_7cf53) [] he hF mo_J0_length_8abf5 rfl lm_J0_505 li_J0_length_8abf5 ls_J0_length_8abf5 rfl dJ0_indexOf_7cf53_14 rfl (Nat.le_of_ble_eq_true rfl) (j_length he hF hZ (by omega) ?_)
  refine aw_invSi (M := MJ0_indexOf_7cf53) [vA (9300 + e) 0, vI c, vI 0, vI (bs.length : Int)] mo_J1_indexOf_4cfef rfl lm_J0_637 lt_J1_indexOf_4cfef dJ0_indexOf_7cf53_17 rfl (Nat.le_of_ble_eq_true rfl) (j_lindexOf he hF hn hp h0 h1 ?_)
  refine aw_goto (tgt := 36) dJ0_indexOf_7cf53_20 (by decide) ?_
  exact aw_ireturn dJ0_indexOf_7cf53_36 rfl ⟨_, rfl, h⟩
theorem j_indexOf {c : Int} {P : Int → St → Prop} (he : e < 300) (hF : SFk g e tx bs) (hZ : SZk g) (hn : bs.length < 2147483647) (hp : 0 < bs.length) (h0 : 0 ≤ c) (h1 : c ≤ 255) (h : P (ixN bs (if c < 128 then c else c - 256) bs.length 0) σ) : ACi g l (d + 3) MJ0_indexOf_0f7a4 [vA (9000 + e) 0, vI c] σ P := by
  refine AC.of mo_J0_indexOf_0f7a4 (Nat.le_of_ble_eq_true rfl) ?_
  refine aw_aload_n dJ0_indexOf_0f7a4_0 rfl rfl ?_
  refine aw_iload_n dJ0_indexOf_0f7a4_1 rfl rfl ?_
  refine aw_iconst (x := 0) dJ0_indexOf_0f7a4_2 rfl ?_
  refine aw_strV (M := MJ0_indexOf_0f7a4) [vI c, vI 0] he hF mo_J0_indexOf_7cf53 rfl lm_J0_633 li_J0_indexOf_7cf53 ls_J0_indexOf_7cf53 rfl dJ0_indexOf_0f7a4_3 rfl (Nat.le_of_ble_eq_true rfl) (j_indexOf2 he hF hZ hn hp h0 h1 ?_)
  exact aw_ireturn dJ0_indexOf_0f7a4_6 rfl ⟨_, rfl, h⟩
end RJ
def KWT : String := "enum struct if is bits text until union by else to from here times pad magic sum add xor ones roll of left begin and or not "
def SGT : String := "{}()[];:,=<>+-*/%&"
def KWB : List Int32 := [101, 110, 117, 109, 32, 115, 116, 114, 117, 99, 116, 32, 105, 102, 32, 105, 115, 32, 98, 105, 116, 115, 32, 116, 101, 120, 116, 32, 117, 110, 116, 105, 108, 32, 117, 110, 105, 111, 110, 32, 98, 121, 32, 101, 108, 115, 101, 32, 116, 111, 32, 102, 114, 111, 109, 32, 104, 101, 114, 101, 32, 116, 105, 109, 101, 115, 32, 112, 97, 100, 32, 109, 97, 103, 105, 99, 32, 115, 117, 109, 32, 97, 100, 100, 32, 120, 111, 114, 32, 111, 110, 101, 115, 32, 114, 111, 108, 108, 32, 111, 102, 32, 108, 101, 102, 116, 32, 98, 101, 103, 105, 110, 32, 97, 110, 100, 32, 111, 114, 32, 110, 111, 116, 32]
def SGB : List Int32 := [123, 125, 40, 41, 91, 93, 59, 58, 44, 61, 60, 62, 43, 45, 42, 47, 37, 38]
def SOK (g : GP) : Prop := SFk g 28 KWT KWB ∧ SFk g 76 SGT SGB ∧ SZk g
