/-! rules for clean rows: no wrap-around, lengths of arrays by the object's class, reads behind writes -/
abbrev R32 (e : Int) : Prop := -2147483648 ≤ e ∧ e < 2147483648
abbrev Bd (e n : Int) : Prop := 0 ≤ e ∧ e < n
/-- the lengths of the arrays that the fields hold -/
def LM (f : Nat) : Nat := match f with
  | 0 => 3002 | 1 => 3002 | 100 => 20 | 102 => 8 | 103 => 8 | 104 => 8 | 106 => 3000 | 107 => 3000 | 108 => 3000
  | 300 => 2000 | 301 => 2000 | 302 => 4 | 400 => 2000 | 402 => 20 | 403 => 20 | 404 => 160 | 701 => 102 | 801 => 14
  | 900 => 3000 | 902 => 3001 | 903 => 3001 | 904 => 3001 | 906 => 27 | 1003 => 400 | 1100 => 6 | 1108 => 6 | 1113 => 3000 | 1114 => 3000 | 1115 => 2001
  | 1201 => 6 | 1202 => 6 | 1203 => 12000 | 1204 => 48000 | 1205 => 24 | 1206 => 480 | 1207 => 3840 | 1208 => 3840 | 1209 => 8 | 1210 => 3000
  | 1219 => 2 | 1220 => 2 | 1221 => 40 | 1222 => 40 | 1223 => 40 | 1224 => 16 | 1225 => 16 | 1226 => 160 | 1227 => 160
  | 1228 => 560 | 1229 => 560 | 1230 => 560 | 1231 => 560 | 1232 => 560 | 1233 => 560 | 1234 => 560 | 1235 => 560 | 1236 => 560 | 1237 => 560 | 1238 => 560
  | 1239 => 8960 | 1240 => 8960 | 1241 => 8960 | 1242 => 9000 | 1243 => 9000 | 1244 => 9000 | 1245 => 9000 | 1247 => 280 | 1248 => 280 | 1249 => 280
  | 1258 => 128 | 1259 => 128 | 1262 => 9000 | 1263 => 20 | 1265 => 7 | 1266 => 7
  | 1267 => 2800 | 1268 => 2800 | 1269 => 2800 | 1270 => 2800 | 1271 => 2800 | 1272 => 2800 | 1273 => 2800 | 1274 => 2800 | 1275 => 2800 | 1276 => 2800 | 1277 => 2800 | 1278 => 2800 | 1279 => 2800
  | 1283 => 128 | 1284 => 128 | 1287 => 9000 | _ => 0
/-- the object a, of the class c, has its arrays -/
def LC (c : Nat) (σ : St) (a : Nat) : Prop := ∀ f, f / 100 = c → gL σ f a = LM f
theorem LC.ne {c f a : Nat} {σ : St} (h : LC c σ a) (e : f / 100 = c) (hn : Nat.beq (LM f) 0 = false) : gL σ f a ≠ 0 := by
  rw [h f e]
  intro q
  rw [q] at hn
  cases hn
theorem LC.lt {c f a : Nat} {σ : St} {i N : Int} (h : LC c σ a) (e : f / 100 = c) (hn : Int.ofNat (LM f) = N) (hi : i < N) : i < (gL σ f a : Int) := by
  rw [h f e]
  subst hn
  exact hi
theorem LC.le {c f a : Nat} {σ : St} {i N : Int} (h : LC c σ a) (e : f / 100 = c) (hn : Int.ofNat (LM f) = N) (hi : i ≤ N) : i ≤ (gL σ f a : Int) := by
  rw [h f e]
  subst hn
  exact hi
theorem gI_slf (σ : St) (f r i : Nat) (v : Int) : gI (sI σ f r i v) f r i = v := if_pos ⟨rfl, rfl, rfl⟩
theorem gJ_slf (σ : St) (f r i : Nat) (v : Int64) : gJ (sJ σ f r i v) f r i = v := if_pos ⟨rfl, rfl, rfl⟩
theorem gR_slf (σ : St) (f r i : Nat) (v : Option Nat) : gR (sR σ f r i v) f r i = v := if_pos ⟨rfl, rfl, rfl⟩
section R9
variable {g : GP} {l : Launch} {d : Nat} {M : MD} {pc : Nat} {L : List (Option AV)} {S : List AV} {σ : St} {Q : Option AV → St → Prop} {f r : Nat}
theorem aw_iaddc {x y : Int} (hd : decode M.2.1 pc = .ok (.iadd, 1)) (h1 : -2147483648 ≤ x + y) (h2 : x + y < 2147483648) (k : AW g l d M (pc + 1) L (vI (x + y) :: S) σ Q) : AW g l d M pc L (vI y :: vI x :: S) σ Q := aw_iadd hd (by rw [w32_id h1 h2]; exact k)
theorem aw_isubc {x y : Int} (hd : decode M.2.1 pc = .ok (.isub, 1)) (h1 : -2147483648 ≤ x - y) (h2 : x - y < 2147483648) (k : AW g l d M (pc + 1) L (vI (x - y) :: S) σ Q) : AW g l d M pc L (vI y :: vI x :: S) σ Q := aw_isub hd (by rw [w32_id h1 h2]; exact k)
theorem aw_imulc {x y : Int} (hd : decode M.2.1 pc = .ok (.imul, 1)) (h1 : -2147483648 ≤ x * y) (h2 : x * y < 2147483648) (k : AW g l d M (pc + 1) L (vI (x * y) :: S) σ Q) : AW g l d M pc L (vI y :: vI x :: S) σ Q := aw_imul hd (by rw [w32_id h1 h2]; exact k)
theorem aw_iincc {i : Nat} {n x : Int} {L' : List (Option AV)} (hd : decode M.2.1 pc = .ok (.iinc i n, 3)) (hx' : L[i]? = some (some (vI x))) (hn : i < M.2.2.1) (hm : (Int32.ofInt n).toInt = n) (h1 : -2147483648 ≤ x + n) (h2 : x + n < 2147483648) (hl : st1 L i (vI (x + n)) = L') (k : AW g l d M (pc + 3) L' S σ Q) : AW g l d M pc L S σ Q := aw_iinc hd hx' hn hm (by rw [w32_id h1 h2]; exact hl) k
theorem aw_getIe {v : Int} {idx : Nat} {q : Option Nat} {C nm ds : String} {fin : Bool} (hq : q = some r) (hF : FOK f .int C nm ds fin) (hlink : Cond.fieldLink M.1.cls idx C nm ds ∈ lw_use) (hd : decode M.2.1 pc = .ok (.getfield idx, 3)) (he : gI σ f r 0 = v) (k : AW g l d M (pc + 3) L (vI v :: S) σ Q) : AW g l d M pc L (vR (f / 100) q :: S) σ Q := aw_getI' hq hF hlink hd (by rw [he]; exact k)
theorem aw_getZe {v : Int} {idx : Nat} {q : Option Nat} {C nm ds : String} {fin : Bool} (hq : q = some r) (hF : FOK f .boolean C nm ds fin) (hlink : Cond.fieldLink M.1.cls idx C nm ds ∈ lw_use) (hd : decode M.2.1 pc = .ok (.getfield idx, 3)) (he : gI σ f r 0 = v) (k : AW g l d M (pc + 3) L (vI v :: S) σ Q) : AW g l d M pc L (vR (f / 100) q :: S) σ Q := aw_getZ' hq hF hlink hd (by rw [he]; exact k)
theorem aw_getJe {v : Int64} {idx : Nat} {q : Option Nat} {C nm ds : String} {fin : Bool} (hq : q = some r) (hF : FOK f .long C nm ds fin) (hlink : Cond.fieldLink M.1.cls idx C nm ds ∈ lw_use) (hd : decode M.2.1 pc = .ok (.getfield idx, 3)) (he : gJ σ f r 0 = v) (k : AW g l d M (pc + 3) L (vJ v :: S) σ Q) : AW g l d M pc L (vR (f / 100) q :: S) σ Q := aw_getJ' hq hF hlink hd (by rw [he]; exact k)
theorem aw_getRe {v : Option Nat} {idx ci : Nat} {q : Option Nat} {C nm ds D : String} {fin : Bool} (hq : q = some r) (hF : FOK f (.object D) C nm ds fin) (hci : CIX D = ci) (hlink : Cond.fieldLink M.1.cls idx C nm ds ∈ lw_use) (hd : decode M.2.1 pc = .ok (.getfield idx, 3)) (he : gR σ f r 0 = v) (k : AW g l d M (pc + 3) L (vR ci v :: S) σ Q) : AW g l d M pc L (vR (f / 100) q :: S) σ Q := aw_getR' hq hF hci hlink hd (by rw [he]; exact k)
theorem aw_ialoade {i v : Int} (hf : f < 9000) (ht : TYF f = .array .int) (hd : decode M.2.1 pc = .ok (.iaload, 1)) (h0 : 0 ≤ i) (h1 : i < gL σ f r) (he : gI σ f r i.toNat = v) (k : AW g l d M (pc + 1) L (vI v :: S) σ Q) : AW g l d M pc L (vI i :: vA f r :: S) σ Q := aw_iaload hf ht hd h0 h1 (by rw [he]; exact k)
theorem aw_baloade {i v : Int} (hf : f < 9000) (ht : TYF f = .array .boolean) (hd : decode M.2.1 pc = .ok (.baload, 1)) (h0 : 0 ≤ i) (h1 : i < gL σ f r) (he : gI σ f r i.toNat = v) (k : AW g l d M (pc + 1) L (vI v :: S) σ Q) : AW g l d M pc L (vI i :: vA f r :: S) σ Q := aw_baload hf ht hd h0 h1 (by rw [he]; exact k)
theorem aw_laloade {i : Int} {v : Int64} (hf : f < 9000) (ht : TYF f = .array .long) (hd : decode M.2.1 pc = .ok (.laload, 1)) (h0 : 0 ≤ i) (h1 : i < gL σ f r) (he : gJ σ f r i.toNat = v) (k : AW g l d M (pc + 1) L (vJ v :: S) σ Q) : AW g l d M pc L (vI i :: vA f r :: S) σ Q := aw_laload hf ht hd h0 h1 (by rw [he]; exact k)
theorem aw_aaloade {i : Int} {v : Option Nat} {ci : Nat} {D : String} (hf : f < 9000) (ht : TYF f = .array (.object D)) (hci : CIX D = ci) (hd : decode M.2.1 pc = .ok (.aaload, 1)) (h0 : 0 ≤ i) (h1 : i < gL σ f r) (he : gR σ f r i.toNat = v) (k : AW g l d M (pc + 1) L (vR ci v :: S) σ Q) : AW g l d M pc L (vI i :: vA f r :: S) σ Q := aw_aaload hf ht hci hd h0 h1 (by rw [he]; exact k)
end R9
