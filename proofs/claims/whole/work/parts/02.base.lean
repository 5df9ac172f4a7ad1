/-! numbers, the cells, the world, the judgement G -/
abbrev Mem : Type := Int → Int → Int
def iI (v : Int) : Int32 := Int32.ofInt v
def iL (v : Int) : Int64 := Int64.ofInt v
abbrev inI (v : Int) : Prop := -2147483648 ≤ v ∧ v < 2147483648
abbrev inL (v : Int) : Prop := -9223372036854775808 ≤ v ∧ v < 9223372036854775808
theorem iI_toInt {v : Int} (h : inI v) : (iI v).toInt = v := by
  unfold iI
  rw [Int32.toInt_ofInt, Int32.size]
  exact Int.bmod_eq_of_le (by omega) (by omega)
theorem iL_toInt {v : Int} (h : inL v) : (iL v).toInt = v := by
  unfold iL
  rw [Int64.toInt_ofInt, Int64.size]
  exact Int.bmod_eq_of_le (by omega) (by omega)
theorem iI_of (x : Int32) : iI x.toInt = x := Int32.ofInt_toInt x
theorem iI_rng (x : Int32) : inI x.toInt := ⟨x.le_toInt, x.toInt_lt⟩
theorem iI_inj {a b : Int} (ha : inI a) (hb : inI b) : iI a = iI b ↔ a = b := by
  rw [← Int32.toInt_inj, iI_toInt ha, iI_toInt hb]
theorem iI_lt {a b : Int} (ha : inI a) (hb : inI b) : iI a < iI b ↔ a < b := by
  rw [Int32.lt_iff_toInt_lt, iI_toInt ha, iI_toInt hb]
theorem iI_le {a b : Int} (ha : inI a) (hb : inI b) : iI a ≤ iI b ↔ a ≤ b := by
  rw [Int32.le_iff_toInt_le, iI_toInt ha, iI_toInt hb]
theorem iL_inj {a b : Int} (ha : inL a) (hb : inL b) : iL a = iL b ↔ a = b := by
  rw [← Int64.toInt_inj, iL_toInt ha, iL_toInt hb]
theorem iL_lt {a b : Int} (ha : inL a) (hb : inL b) : iL a < iL b ↔ a < b := by
  rw [Int64.lt_iff_toInt_lt, iL_toInt ha, iL_toInt hb]
theorem iL_le {a b : Int} (ha : inL a) (hb : inL b) : iL a ≤ iL b ↔ a ≤ b := by
  rw [Int64.le_iff_toInt_le, iL_toInt ha, iL_toInt hb]
theorem iI_0 : iI 0 = 0 := rfl
theorem inI_0 : inI 0 := by decide
theorem iI_add (a b : Int) : iI a + iI b = iI (a + b) := (Int32.ofInt_add a b).symm
theorem iI_sub (a b : Int) : iI a - iI b = iI (a - b) := (Int32.ofInt_sub a b).symm
theorem iI_mul (a b : Int) : iI a * iI b = iI (a * b) := (Int32.ofInt_mul a b).symm
theorem iL_add (a b : Int) : iL a + iL b = iL (a + b) := (Int64.ofInt_add a b).symm
theorem iL_sub (a b : Int) : iL a - iL b = iL (a - b) := (Int64.ofInt_sub a b).symm
theorem iL_mul (a b : Int) : iL a * iL b = iL (a * b) := (Int64.ofInt_mul a b).symm
theorem iI_div {a b : Int} (ha : inI a) (hb : inI b) : iI a / iI b = iI (a.tdiv b) :=
  (Int32.ofInt_tdiv (by show (-2147483648 : Int) ≤ a; exact ha.1) (by show a ≤ (2147483647 : Int); omega) (by show (-2147483648 : Int) ≤ b; exact hb.1) (by show b ≤ (2147483647 : Int); omega)).symm
theorem iL_div {a b : Int} (ha : inL a) (hb : inL b) : iL a / iL b = iL (a.tdiv b) :=
  (Int64.ofInt_tdiv (by show (-9223372036854775808 : Int) ≤ a; exact ha.1) (by show a ≤ (9223372036854775807 : Int); omega) (by show (-9223372036854775808 : Int) ≤ b; exact hb.1) (by show b ≤ (9223372036854775807 : Int); omega)).symm
theorem iI_rem {a b : Int} (ha : inI a) (hb : inI b) : iI a - iI a / iI b * iI b = iI (a.tmod b) := by
  rw [iI_div ha hb, iI_mul, iI_sub, show a - a.tdiv b * b = a.tmod b by have := Int.tdiv_mul_add_tmod a b; omega]
theorem iL_rem {a b : Int} (ha : inL a) (hb : inL b) : iL a - iL a / iL b * iL b = iL (a.tmod b) := by
  rw [iL_div ha hb, iL_mul, iL_sub, show a - a.tdiv b * b = a.tmod b by have := Int.tdiv_mul_add_tmod a b; omega]
def zand (a b : Int) : Int := (iI a &&& iI b).toInt
def zor (a b : Int) : Int := (iI a ||| iI b).toInt
def zxor (a b : Int) : Int := (iI a ^^^ iI b).toInt
def zshl (a b : Int) : Int := (iI a <<< (iI b &&& 31)).toInt
def zshr (a b : Int) : Int := (iI a >>> (iI b &&& 31)).toInt
def zushr (a b : Int) : Int := ((iI a).toUInt32 >>> ((iI b).toUInt32 &&& Int32.toUInt32 31)).toInt32.toInt
def wand (a b : Int) : Int := (iL a &&& iL b).toInt
def wor (a b : Int) : Int := (iL a ||| iL b).toInt
def wxor (a b : Int) : Int := (iL a ^^^ iL b).toInt
def wshl (a b : Int) : Int := (iL a <<< ((iI b).toInt64 &&& 63)).toInt
def wshr (a b : Int) : Int := (iL a >>> ((iI b).toInt64 &&& 63)).toInt
theorem iI_and (a b : Int) : iI a &&& iI b = iI (zand a b) := (iI_of _).symm
theorem iI_or (a b : Int) : iI a ||| iI b = iI (zor a b) := (iI_of _).symm
theorem iI_xor (a b : Int) : iI a ^^^ iI b = iI (zxor a b) := (iI_of _).symm
theorem iI_shl (a b : Int) : iI a <<< (iI b &&& 31) = iI (zshl a b) := (iI_of _).symm
theorem iI_shr (a b : Int) : iI a >>> (iI b &&& 31) = iI (zshr a b) := (iI_of _).symm
theorem iI_ushr (a b : Int) : ((iI a).toUInt32 >>> ((iI b).toUInt32 &&& Int32.toUInt32 31)).toInt32 = iI (zushr a b) := (iI_of _).symm
theorem iL_of (x : Int64) : iL x.toInt = x := Int64.ofInt_toInt x
theorem iL_and (a b : Int) : iL a &&& iL b = iL (wand a b) := (iL_of _).symm
theorem iL_or (a b : Int) : iL a ||| iL b = iL (wor a b) := (iL_of _).symm
theorem iL_xor (a b : Int) : iL a ^^^ iL b = iL (wxor a b) := (iL_of _).symm
theorem iL_shl (a b : Int) : iL a <<< ((iI b).toInt64 &&& 63) = iL (wshl a b) := (iL_of _).symm
theorem iL_shr (a b : Int) : iL a >>> ((iI b).toInt64 &&& 63) = iL (wshr a b) := (iL_of _).symm
theorem iI_l {a : Int} (h : inI a) : (iI a).toInt64 = iL a := by
  rw [← Int64.toInt_inj, Int32.toInt_toInt64, iI_toInt h, iL_toInt (by omega)]
theorem iL_i (a : Int) : (iL a).toInt32 = iI a := Int64.toInt32_ofInt
theorem iI_clamp {v : Int} (h : 0 ≤ v) (h2 : v < 2147483648) : (iI v).toNatClampNeg = v.toNat := by
  show (iI v).toInt.toNat = _
  rw [iI_toInt (by omega)]
theorem iI_in {v : Int} {n : Nat} (h : 0 ≤ v ∧ v < (n : Int)) (hn : n < 2147483648) : vp_in (iI v) n := by
  rw [vp_in_iff, iI_toInt (by omega)]
  exact h

def NT : Nat := 242
def sk : List (Nat × Nat) := [(11, 0), (7, 0), (20, 1600), (20, 24), (9, 0), (2, 0), (8, 0), (20, 7), (20, 7), (20, 49), (20, 6), (20, 6), (20, 6), (5, 0), (20, 9), (20, 9), (20, 9), (1, 0), (20, 1600), (20, 64), (1, 0), (20, 1600), (20, 64), (8, 0), (20, 7), (20, 7), (20, 49), (20, 6), (20, 6), (20, 6), (5, 0), (20, 9), (20, 9), (20, 9), (1, 0), (20, 1600), (20, 64), (1, 0), (20, 1600), (20, 64), (6, 0), (20, 6), (5, 0), (20, 9), (20, 9), (20, 9), (6, 0), (20, 6), (5, 0), (20, 9), (20, 9), (20, 9), (10, 0), (20, 54), (20, 63), (20, 63), (20, 7), (10, 0), (20, 54), (20, 63), (20, 63), (20, 7), (3, 0), (23, 20), (20, 2997), (6, 0), (20, 6), (5, 0), (20, 9), (20, 9), (20, 9), (6, 0), (20, 6), (5, 0), (20, 9), (20, 9), (20, 9), (6, 0), (20, 6), (5, 0), (20, 9), (20, 9), (20, 9), (6, 0), (20, 6), (5, 0), (20, 9), (20, 9), (20, 9), (6, 0), (20, 6), (5, 0), (20, 9), (20, 9), (20, 9), (6, 0), (20, 6), (5, 0), (20, 9), (20, 9), (20, 9), (6, 0), (20, 6), (5, 0), (20, 9), (20, 9), (20, 9), (6, 0), (20, 6), (5, 0), (20, 9), (20, 9), (20, 9), (6, 0), (20, 6), (5, 0), (20, 9), (20, 9), (20, 9), (6, 0), (20, 6), (5, 0), (20, 9), (20, 9), (20, 9), (6, 0), (20, 6), (5, 0), (20, 9), (20, 9), (20, 9), (6, 0), (20, 6), (5, 0), (20, 9), (20, 9), (20, 9), (6, 0), (20, 6), (5, 0), (20, 9), (20, 9), (20, 9), (6, 0), (20, 6), (5, 0), (20, 9), (20, 9), (20, 9), (6, 0), (20, 6), (5, 0), (20, 9), (20, 9), (20, 9), (6, 0), (20, 6), (5, 0), (20, 9), (20, 9), (20, 9), (6, 0), (20, 6), (5, 0), (20, 9), (20, 9), (20, 9), (6, 0), (20, 6), (5, 0), (20, 9), (20, 9), (20, 9), (6, 0), (20, 6), (5, 0), (20, 9), (20, 9), (20, 9), (6, 0), (20, 6), (5, 0), (20, 9), (20, 9), (20, 9), (4, 0), (20, 40), (0, 0), (20, 48), (24, 7), (20, 56), (20, 56), (20, 56), (20, 56), (20, 56), (20, 56), (20, 56), (20, 7), (20, 6), (12, 0), (20, 1800), (20, 2), (20, 2), (20, 98), (20, 98), (20, 2), (20, 12), (20, 12), (20, 2), (20, 2), (20, 16), (20, 16), (20, 16), (20, 2), (20, 4), (20, 4), (20, 3200), (20, 3200), (21, 14), (21, 12), (20, 20), (20, 20), (22, 20), (20, 20), (20, 20), (20, 500), (20, 6), (20, 22), (20, 132), (20, 22), (20, 22), (20, 594), (20, 22), (20, 2640), (21, 500), (20, 12), (20, 54), (20, 16), (20, 16), (20, 16), (20, 441), (20, 60)]
def ft : Nat → List (Nat × Int)
  | 0 => [(4, 1), (0, 0), (4, 2), (4, 10), (0, 0), (0, 0), (0, 0), (0, 0)]
  | 1 => [(4, 1), (4, 2), (0, 0)]
  | 2 => [(4, -4), (3, 0), (2, 0)]
  | 3 => [(4, 1), (0, 0), (0, 0), (4, 2)]
  | 4 => [(4, 1), (0, 0)]
  | 5 => [(0, 0), (4, 1), (4, 2), (4, 3)]
  | 6 => [(0, 0), (4, 1), (0, 0), (4, 2), (0, 0)]
  | 7 => [(4, 1), (0, 0), (0, 0), (0, 0), (0, 0), (0, 0), (0, 0), (0, 0), (4, 2), (0, 0), (0, 0)]
  | 8 => [(0, 0), (4, 1), (0, 0), (4, 2), (4, 3), (0, 0), (4, 4), (4, 5), (4, 6), (0, 0), (4, 7), (0, 0), (4, 11), (4, 14)]
  | 9 => [(4, -3), (4, 1), (3, 0), (0, 0)]
  | 10 => [(4, 1), (4, 2), (4, 3), (4, 4), (3, 0), (3, 0)]
  | 11 => [(4, 1), (4, 4), (3, 0), (3, 0), (4, 40), (4, 46), (4, 52), (4, 57), (2, 0), (4, 62), (4, 185), (4, 187), (4, 198), (0, 0)]
  | 12 => [(4, 1), (0, 0), (0, 0), (0, 0), (0, 0), (0, 0), (0, 0), (1, 0), (0, 0), (0, 0), (0, 0), (0, 0), (0, 0), (0, 0), (4, 2), (4, 3), (4, 4), (4, 5), (4, 6), (4, 7), (4, 8), (4, 9), (4, 10), (4, 11), (4, 12), (4, 13), (4, 14), (4, 15), (4, 16), (4, 17), (4, 18), (4, 19), (4, 20), (0, 0), (0, 0), (2, 0), (4, 21), (4, 22), (4, 23), (4, 24), (4, 25), (0, 0), (0, 0), (4, 26), (0, 0), (2, 0), (4, 27), (4, 28), (4, 29), (4, 30), (4, 31), (4, 32), (4, 33), (4, 34), (0, 0), (0, 0), (1, 0), (4, 35), (4, 36), (4, 37), (0, 0), (4, 38), (4, 39), (4, 40), (4, 41), (4, 42), (0, 0)]
  | _ => []
def kdN (a : Nat) : Nat := (sk.getD a (99, 0)).1
def lnN (a : Nat) : Nat := (sk.getD a (99, 0)).2
/-- the kind of the cell r: a class by its place, or 20 int[], 21 long[], 22 boolean[], 23 Scene[], 24 int[][]; 99 no cell -/
def kd (r : Int) : Nat := if r < 0 then 99 else kdN r.toNat
def ln (r : Int) : Int := (lnN r.toNat : Nat)
theorem sk_len : sk.length = NT := by decide +kernel
theorem lnN_lt (a : Nat) : lnN a < 2147483648 := by
  have h : ∀ q ∈ sk, q.2 < 2147483648 := by decide +kernel
  unfold lnN
  rw [List.getD_eq_getElem?_getD]
  cases e : sk[a]? with
  | none => simp
  | some q => exact h q (List.mem_of_getElem? e)
theorem kd_in {r : Int} {k : Nat} (h : kd r = k) (hk : k < 99) : 0 ≤ r ∧ r.toNat < NT ∧ kdN r.toNat = k := by
  unfold kd at h
  split at h
  · omega
  · refine ⟨by omega, ?_, h⟩
    rw [← sk_len]
    refine Decidable.byContradiction fun hn => ?_
    unfold kdN at h
    rw [List.getD_eq_getElem?_getD, List.getElem?_eq_none (by omega)] at h
    simp at h
    omega
/-- D, the array classes by kind, the cells' addresses, what may be written -/
abbrev YT : Type := va_G × (Nat → ClassId) × (Nat → Nat) × (Nat → Prop)
abbrev vI (v : Int) : Value := .int (iI v)
abbrev vL (v : Int) : Value := .long (iL v)
abbrev vR (Y : YT) (r : Int) : Value := .ref (Y.2.2.1 r.toNat)
def rv (Y : YT) (r : Int) : Value := if r < 0 then .null else vR Y r
theorem rv_pos {Y : YT} {r : Int} (h : 0 ≤ r) : rv Y r = vR Y r := if_neg (by omega)
def vl (Y : YT) (m : Int → Int) (a k : Int) (q : Nat × Int) : Value := if q.1 = 1 then vL (m k) else if q.1 = 3 then rv Y (m k) else if q.1 = 4 then vR Y (a + q.2) else vI (m k)
def fv (Y : YT) (m : Int → Int) (a : Int) : Int → List (Nat × Int) → List Value
  | _, [] => []
  | k, q :: r => vl Y m a k q :: fv Y m a (k + 1) r
def upR (m : Int → Int) (k v : Int) : Int → Int := fun j => if j = k then v else m j
def up (M : Mem) (a k v : Int) : Mem := fun b => if b = a then upR (M a) k v else M b
theorem up_get (M : Mem) (a k v b j : Int) : up M a k v b j = if b = a ∧ j = k then v else M b j := by
  unfold up
  by_cases h : b = a
  · subst h
    simp [upR]
  · simp [h]
theorem up_row (M : Mem) (a k v : Int) : up M a k v a = upR (M a) k v := if_pos rfl
theorem up_ne (M : Mem) {a k v b : Int} (h : b ≠ a) : up M a k v b = M b := if_neg h
def cel (Y : YT) (a : Nat) (m : Int → Int) : va_E :=
  if kdN a < 20 then .inr (kdN a, fv Y m a 0 (ft (kdN a)))
  else if kdN a = 21 then .inl (Y.2.1 21, lnN a, .inr (.inl fun j => iL (m j)))
  else if kdN a = 23 then .inl (Y.2.1 23, lnN a, .inr (.inr (.inr (.inr fun j => some (Y.2.2.1 (a + 2 + 6 * j))))))
  else if kdN a = 24 then .inl (Y.2.1 24, lnN a, .inr (.inr (.inr (.inr fun j => some (Y.2.2.1 (a + 1 + j))))))
  else .inl (Y.2.1 (kdN a), lnN a, .inl fun j => iI (m j))
def wsM (Y : YT) (M : Mem) : va_W := (List.range NT).map fun a => (Y.2.2.1 a, cel Y a (M a))
def YOK (Y : YT) : Prop := (∀ i j, i < NT → j < NT → Y.2.2.1 i = Y.2.2.1 j → i = j) ∧ ∀ i, i < NT → Y.2.2.2 (Y.2.2.1 i)
def tyL (Y : YT) : List (ClassId × FieldType) := [(Y.2.1 20, .int), (Y.2.1 21, .long), (Y.2.1 22, .boolean), (Y.2.1 23, .object RX6), (Y.2.1 24, .array .int)]
theorem ws_get {Y : YT} {M : Mem} {a : Nat} (h : a < NT) : (wsM Y M)[a]? = some (Y.2.2.1 a, cel Y a (M a)) := by
  unfold wsM
  rw [List.getElem?_map, List.getElem?_range h]
  rfl
theorem ws_lt {Y : YT} {M : Mem} {a : Nat} {q : Nat × va_E} (h : (wsM Y M)[a]? = some q) : a < NT := by
  have := (List.getElem?_eq_some_iff.mp h).1
  unfold wsM at this
  simpa using this
theorem ws_set {Y : YT} {M M' : Mem} {a : Nat} {e : va_E} (h : a < NT) (he : cel Y a (M' a) = e) (hne : ∀ b : Nat, b ≠ a → M' b = M b) : (wsM Y M).set a (Y.2.2.1 a, e) = wsM Y M' := by
  apply List.ext_getElem?
  intro b
  by_cases hb : b = a
  · subst hb
    rw [List.getElem?_set_self (by unfold wsM; simpa using h), ws_get h, he]
  · rw [List.getElem?_set_ne (Ne.symm hb)]
    by_cases hl : b < NT
    · rw [ws_get hl, ws_get hl, hne b hb]
    · rw [List.getElem?_eq_none (by unfold wsM; simpa using hl), List.getElem?_eq_none (by unfold wsM; simpa using hl)]
theorem ws_D {Y : YT} {M : Mem} (h : YOK Y) : va_D Y.2.2.2 (wsM Y M) := by
  refine ⟨fun i j p q hi hj e => ?_, fun k q hk => ?_⟩
  · have li := ws_lt hi
    have lj := ws_lt hj
    rw [ws_get li] at hi
    rw [ws_get lj] at hj
    cases hi
    cases hj
    exact h.1 i j li lj e
  · have lk := ws_lt hk
    rw [ws_get lk] at hk
    cases hk
    exact h.2 k lk
theorem fv_get (Y : YT) (m : Int → Int) (a : Int) : ∀ (ts : List (Nat × Int)) (i : Int) (k : Nat) (q : Nat × Int), ts[k]? = some q → (fv Y m a i ts)[k]? = some (vl Y m a (i + k) q)
  | [], i, k, q, h => by simp at h
  | t :: ts, i, 0, q, h => by
    simp at h
    subst h
    simp [fv]
  | t :: ts, i, k + 1, q, h => by
    simp only [List.getElem?_cons_succ] at h
    have := fv_get Y m a ts (i + 1) k q h
    simp only [fv, List.getElem?_cons_succ]
    rw [this]
    congr 2
    omega
theorem fv_len (Y : YT) (m : Int → Int) (a : Int) : ∀ (ts : List (Nat × Int)) (i : Int), (fv Y m a i ts).length = ts.length
  | [], i => rfl
  | t :: ts, i => by simp [fv, fv_len Y m a ts (i + 1)]
theorem fv_congr (Y : YT) {m m' : Int → Int} (a : Int) : ∀ (ts : List (Nat × Int)) (i : Int), (∀ j, i ≤ j → m j = m' j) → fv Y m a i ts = fv Y m' a i ts
  | [], i, h => rfl
  | t :: ts, i, h => by
    simp only [fv, vl]
    rw [h i (by omega), fv_congr Y a ts (i + 1) (fun j hj => h j (by omega))]
theorem fv_set (Y : YT) (m : Int → Int) (a v : Int) : ∀ (ts : List (Nat × Int)) (i : Int) (k : Nat) (q : Nat × Int), ts[k]? = some q → (fv Y m a i ts).set k (vl Y (upR m (i + k) v) a (i + k) q) = fv Y (upR m (i + k) v) a i ts
  | [], i, k, q, h => by simp at h
  | t :: ts, i, 0, q, h => by
    simp at h
    subst h
    simp only [fv, List.set_cons_zero, Int.ofNat_zero, Int.natCast_zero, Int.add_zero]
    congr 1
    exact fv_congr Y a ts (i + 1) (fun j hj => by simp [upR]; omega)
  | t :: ts, i, k + 1, q, h => by
    simp only [List.getElem?_cons_succ] at h
    have := fv_set Y m a v ts (i + 1) k q h
    have e : i + ((k + 1 : Nat) : Int) = (i + 1) + (k : Int) := by omega
    simp only [fv, List.set_cons_succ]
    rw [e, this]
    congr 1
    simp only [vl, upR]
    rw [if_neg (show ¬ i = i + 1 + (k : Int) by omega)]
def GT : List Cond := lw_tbl.filter goodWord
theorem gt_in {w : Cond} (i : Nat) (h : lw_tbl[i]? = some w) (hg : goodWord w = true) : w ∈ GT := List.mem_filter.mpr ⟨List.mem_of_getElem? h, hg⟩
theorem gt_good {w : Cond} (h : w ∈ GT) : (w.onTables && w.keeps) = true ∨ ∃ ty, w = .arrayClass ty := good_of_word (List.mem_filter.mp h).2
/-- the classes, the array classes, and the two calls of a nest mate, as the tables have them -/
def KX (Y : YT) (U : State) : Prop := va_K Y.1 classes (tyL Y) U ∧ va_Nw (.methodLinkNest RX0 32 yX11_isStep RX11) U ∧ va_Nw (.methodLinkNest RX4 83 yX11_isStep RX11) U
theorem KX.same {Y : YT} {u U : State} (h : u.vm = U.vm) (k : KX Y u) : KX Y U := ⟨va_K.moved (by rw [h]; exact Vm.Alike.refl _) k.1, k.2.1.same rfl h, k.2.2.same rfl h⟩
theorem KX.warm {Y : YT} {s U : State} (h : s.WarmedH U.vm) (k : KX Y s) : KX Y U := ⟨va_K.moved h.alike k.1, va_Nw.warmM h k.2.1, va_Nw.warmM h k.2.2⟩
abbrev CX : Type := Program × Launch × Env × Room × State × MethodId × Array Value × List Frame × Method × Code × (State → Prop) × Nat × Nat
def rm (d : Nat) : Room := { frames := d, cells := 0, slots := 0, locals := 64 * d }
def Cx (Y : YT) (X : CX) (cc : ByteArray) (nL : Nat) (own : String) (d : Nat) : Prop := match X with
  | (p, _, _, R, s, m, args, _, meth, c, _, cl, sl) => p.tables.exec = Jvm.exec ∧ c.code = cc ∧ c.maxLocals = nL ∧ s.vm.findClass own = some m.cls ∧ (∀ w ∈ GT, w.before args s = true) ∧ KX Y s ∧ YOK Y ∧ d ≤ R.frames ∧ 64 * d ≤ R.locals ∧ cl ≤ R.cells ∧ sl ≤ R.slots ∧ meth.locks = false
/-- the machine goes on well from pc with these locals, this stack, the cells as M has them -/
def G (Y : YT) (X : CX) (nL pc : Nat) (lv : List (Nat × Value)) (st : List Value) (M : Mem) : Prop := match X with
  | (p, l, e, R, s, m, args, below, meth, c, Q, cl, sl) => ∀ (H : Heap) (locs : List Loc) (ls : Array Slot), lv_has ls nL lv → va_P Y.1 classes (wsM Y M) H → va_S Y.2.2.2 s.heap H locs → W p l e R s m args below meth c H locs cl sl Q (F0 m pc ls st)

