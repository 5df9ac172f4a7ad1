/-! the pure picture: counts, sets, formulas, a day -/
def cntP (f : Int → Int) : Nat → Int → Int
  | 0, _ => 0
  | n + 1, v => cntP f n v + if f n = v then 1 else 0
def whoP (f : Int → Int) : Nat → Int → Nat
  | 0, _ => 0
  | n + 1, v => whoP f n v ||| if f n = v then 2 ^ n else 0
theorem cntP_cong {f g : Int → Int} {v : Int} : ∀ {n : Nat}, (∀ p : Nat, p < n → f p = g p) → cntP f n v = cntP g n v
  | 0, _ => rfl
  | n + 1, h => by
    simp only [cntP]
    rw [cntP_cong (fun p hp => h p (by omega)), h n (by omega)]
theorem whoP_cong {f g : Int → Int} {v : Int} : ∀ {n : Nat}, (∀ p : Nat, p < n → f p = g p) → whoP f n v = whoP g n v
  | 0, _ => rfl
  | n + 1, h => by
    simp only [whoP]
    rw [whoP_cong (fun p hp => h p (by omega)), h n (by omega)]
theorem cntP_rng (f : Int → Int) (v : Int) : ∀ n : Nat, 0 ≤ cntP f n v ∧ cntP f n v ≤ n
  | 0 => by simp [cntP]
  | n + 1 => by
    have := cntP_rng f v n
    simp only [cntP]
    split <;> omega
theorem whoP_lt (f : Int → Int) (v : Int) : ∀ n : Nat, whoP f n v < 2 ^ n
  | 0 => by simp [whoP]
  | n + 1 => by
    have := whoP_lt f v n
    simp only [whoP]
    refine Nat.or_lt_two_pow (Nat.lt_of_lt_of_le this (Nat.pow_le_pow_right (by decide) (by omega))) ?_
    split
    · exact Nat.pow_lt_pow_right (by decide) (by omega)
    · exact Nat.two_pow_pos _
theorem whoP_bit (f : Int → Int) (v : Int) (i : Nat) : ∀ n : Nat, (whoP f n v).testBit i = decide (i < n ∧ f i = v)
  | 0 => by simp [whoP]
  | n + 1 => by
    have := whoP_bit f v i n
    simp only [whoP, Nat.testBit_or, this]
    by_cases e : i = n
    · subst e
      by_cases c : f i = v <;> simp [c]
    · rw [show decide (i < n + 1 ∧ f ↑i = v) = decide (i < n ∧ f ↑i = v) from decide_eq_decide.mpr (by constructor <;> (intro h; exact ⟨by omega, h.2⟩))]
      split
      · rw [Nat.testBit_two_pow_of_ne (by omega)]
        simp
      · simp
/-- how many bits, of a number below 256 -/
def pop (n : Nat) : Nat := ((List.range 8).filter fun i => n.testBit i).length
theorem pop_who (f : Int → Int) (v : Int) (n : Nat) (hn : n ≤ 8) : (pop (whoP f n v) : Int) = cntP f n v := by
  have key : ∀ m : Nat, m ≤ 8 → ((((List.range m).filter fun i => (whoP f n v).testBit i).length : Nat) : Int) = cntP (fun i => if i < n then f i else v - 1) m v := by
    intro m
    induction m with
    | zero => intro _; rfl
    | succ m ih =>
      intro hm
      rw [List.range_succ, List.filter_append, List.length_append, cntP, ← ih (by omega), Int.natCast_add]
      congr 1
      rw [List.filter_cons]
      simp only [whoP_bit, List.filter_nil]
      by_cases c : m < n
      · by_cases e : f m = v <;> simp [c, e]
      · have : ¬ ((m : Int) < n) := by omega
        simp [c, this]
        omega
  have h8 := key 8 (by decide)
  unfold pop
  rw [h8]
  have tail : ∀ k : Nat, n + k ≤ 8 → cntP (fun i => if i < n then f i else v - 1) (n + k) v = cntP f n v := by
    intro k
    induction k with
    | zero =>
      intro _
      exact cntP_cong (fun p hp => if_pos (by omega))
    | succ k ih =>
      intro hk
      rw [← Nat.add_assoc, cntP, ih (by omega)]
      have : ¬ (((n + k : Nat) : Int) < n) := by omega
      simp [this]
      omega
  have := tail (8 - n) (by omega)
  rwa [show n + (8 - n) = 8 by omega] at this
theorem bc_all : ∀ n : Nat, n < 256 → (let a : Int := n; let x1 := a - (zand (zushr a 1) 1431655765); let x2 := (zand x1 858993459) + (zand (zushr x1 2) 858993459); let x3 := zand (x2 + (zushr x2 4)) 252645135; let x4 := (x3 + (zushr x3 8)) + (zushr (x3 + (zushr x3 8)) 16); zand x4 63) = (pop n : Nat) := by decide +kernel
theorem j_bitCount {a : Int} {M : Mem} {Q : Int → Mem → Prop} (ha : 0 ≤ a ∧ a < 256) (h : Q (pop a.toNat : Nat) M) : m_J6_bitCount_0f7a4 a M Q := by
  intro x1 e1 x2 e2 x3 e3 x4 e4
  have := bc_all a.toNat (by omega)
  rw [toNat_i ha.1] at this
  dsimp only at this
  rw [← e1, ← e2, ← e3, ← e4] at this
  rw [this]
  exact h
/-! formulas: a list of codes as the class has them, worked out on a stack (a list, its top first) -/
def clampP (v : Int) : Int := if v < -1000000 then -1000000 else if 1000000 < v then 1000000 else v
def jnP (c a b : Int) : Int :=
  if c = -8 then a + b else if c = -9 then a - b else if c = -10 then a * b else if c = -11 then (if b = 0 then 0 else a.fdiv b) else if c = -12 then (if b = 0 then 0 else a.fmod b)
  else if c = -13 then (if a ≤ b then a else b) else if c = -14 then (if b ≤ a then a else b) else if c = -15 then (if a < b then 1 else 0) else if c = -16 then (if b < a then 1 else 0) else if c = -17 then (if a = b then 1 else 0)
  else if c = -18 then wand a b else if c = -19 then wor a b else 0
def vsP (env : Int → Int) (c : Int) (st : List Int) : List Int :=
  if 0 ≤ c then c :: st
  else if -7 ≤ c then env (-1 - c) :: st
  else match st with
    | [] => []
    | b :: st1 => if c = -20 then (1 - b) :: st1 else match st1 with
      | [] => []
      | a :: st2 => if c = -21 then (match st2 with
        | [] => []
        | t :: st3 => (if t = 1 then a else b) :: st3) else clampP (jnP c a b) :: st2
def evP (env : Int → Int) : List Int → List Int → List Int
  | [], st => st
  | c :: cs, st => evP env cs (vsP env c st)
/-- the codes make sense from a stack on whose values are of the sorts ts (true: 0 or 1), and leave one -/
def wfP : List Int → List Bool → Prop
  | [], ts => ts.length = 1
  | c :: cs, ts => c ≤ 9999 ∧ -21 ≤ c ∧ (0 ≤ c → ts.length < 60 ∧ ∃ b : Bool, (b = true → c ≤ 1) ∧ wfP cs (b :: ts)) ∧ (-7 ≤ c → c < 0 → ts.length < 60 ∧ wfP cs (false :: ts)) ∧ (c = -20 → ∃ r, ts = true :: r ∧ wfP cs (true :: r)) ∧ (c = -21 → ∃ x y z r, ts = x :: y :: z :: r ∧ wfP cs (false :: r)) ∧
    (c = -18 ∨ c = -19 → ∃ r, ts = true :: true :: r ∧ wfP cs (true :: r)) ∧ (-17 ≤ c → c ≤ -15 → ∃ x y r, ts = x :: y :: r ∧ wfP cs (true :: r)) ∧ (-14 ≤ c → c ≤ -8 → ∃ x y r, ts = x :: y :: r ∧ wfP cs (false :: r))
theorem clampP_rng (v : Int) : -1000000 ≤ clampP v ∧ clampP v ≤ 1000000 := by
  unfold clampP
  repeat' split
  all_goals omega
def envB (env : Int → Int) : Prop := ∀ i, -1000000 ≤ env i ∧ env i ≤ 1000000
def stB : List Bool → List Int → Prop
  | [], st => st = []
  | t :: ts, st => ∃ v r, st = v :: r ∧ -1000000 ≤ v ∧ v ≤ 1000000 ∧ (t = true → v = 0 ∨ v = 1) ∧ stB ts r
theorem stB_len : ∀ {ts : List Bool} {st : List Int}, stB ts st → st.length = ts.length
  | [], st, h => by rw [show st = [] from h]; rfl
  | t :: ts, st, h => by
    obtain ⟨v, r, rfl, -, -, -, h⟩ := h
    simp [stB_len h]
/-- a row holds a stack from its first place on -/
def repS (m : Int → Int) : List Int → Prop
  | [] => True
  | v :: st => m (st.length : Nat) = v ∧ repS m st
theorem repS_up {m : Int → Int} {k v : Int} : ∀ {st : List Int}, (st.length : Int) ≤ k → repS m st → repS (upR m k v) st
  | [], _, _ => trivial
  | w :: st, hk, h => by
    simp only [List.length_cons] at hk
    refine ⟨?_, repS_up (by omega) h.2⟩
    rw [upR, if_neg (by omega)]
    exact h.1
