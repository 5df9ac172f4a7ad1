/-! the tape's tokens, pure: a token by the place s at which it starts -/
abbrev isL (c : Int) : Prop := 97 ≤ c ∧ c ≤ 122
abbrev isD (c : Int) : Prop := 48 ≤ c ∧ c ≤ 57
abbrev tc (T : List Int) (k : Nat) : Int := T.getD k 0
abbrev isLt (T : List Int) (n : Nat) : Prop := n < T.length ∧ isL (tc T n)
abbrev isDt (T : List Int) (n : Nat) : Prop := n < T.length ∧ isD (tc T n)
abbrev isB (c : Int) : Prop := c = 32 ∨ c = 10
def skp (T : List Int) : Nat → Nat → Nat
  | 0, n => n
  | f + 1, n => if isB (tc T n) then skp T f (n + 1) else n
def skT (T : List Int) (n : Nat) : Nat := skp T (T.length - n) n
def ltr (T : List Int) : Nat → Nat → List Int
  | 0, _ => []
  | f + 1, n => if isLt T n then (tc T n - 96) :: ltr T f (n + 1) else []
def dgt (T : List Int) : Nat → Nat → List Int
  | 0, _ => []
  | f + 1, n => if isDt T n then (tc T n - 48) :: dgt T f (n + 1) else []
def nv (l : List Int) : Int := l.foldl (fun v d => 10 * v + d) 0
def so (T : List Int) (s : Nat) : Int := if T.length ≤ s then 0 else if isL (tc T s) then 1 else if isD (tc T s) then 2 else 3
def nm (T : List Int) (s : Nat) : List Int := ltr T 6 s
def dg (T : List Int) (s : Nat) : List Int := dgt T 4 s
abbrev isA (c : Int) : Prop := isL c ∨ isD c
abbrev adj (T : List Int) (s : Nat) : Prop := 0 < s ∧ isA (tc T (s - 1))
def bd (T : List Int) (s : Nat) : Int :=
  if so T s = 1 then (if adj T s then (s : Int) else if (nm T s).length = 6 ∧ isLt T (s + 6) then (s : Int) + 6 else -1)
  else if so T s = 2 then (if adj T s then (s : Int) else if (dg T s).length = 4 ∧ isDt T (s + 4) then (s : Int) + 4 else -1) else -1
def en (T : List Int) (s : Nat) : Nat := if so T s = 1 then s + (nm T s).length else if so T s = 2 then s + (dg T s).length else if so T s = 3 then s + 1 else s
def nx (T : List Int) (s : Nat) : Nat := skT T (en T s)
/-- which own word a packed name is: -1 if none -/
def owG : Nat → Int → Int
  | 0, _ => -1
  | k + 1, v => if ownL.getD k 0 = v then (k : Int) else owG k v
def ow (T : List Int) (s : Nat) : Int := owG 24 (pkX (nm T s))
/-- an own word, -1 for a name, -2 for all else -/
def tw (T : List Int) (s : Nat) : Int := if bd T s = -1 ∧ so T s = 1 then ow T s else -2
/-- a sign, -1 for all else -/
def ts (T : List Int) (s : Nat) : Int := if bd T s = -1 ∧ so T s = 3 then tc T s else -1
/-- a number, -1 for all else -/
def tn (T : List Int) (s : Nat) : Int := if bd T s = -1 ∧ so T s = 2 then nv (dg T s) else -1
/-- where a fault is told -/
def wr (T : List Int) (s : Nat) : Int := if bd T s = -1 then (s : Int) else bd T s
def TB (T : List Int) : Prop := T.length ≤ 1600 ∧ ∀ c ∈ T, 0 ≤ c ∧ c < 256
theorem tc_rng {T : List Int} (h : TB T) (n : Nat) : 0 ≤ tc T n ∧ tc T n < 256 := by
  unfold tc
  rw [List.getD_eq_getElem?_getD]
  cases e : T[n]? with
  | none => simp
  | some q => exact h.2 q (List.mem_of_getElem? e)
theorem sk_end {T : List Int} {n : Nat} (h : T.length ≤ n) : skT T n = n := by
  unfold skT
  rw [show T.length - n = 0 by omega]
  rfl
theorem sk_b {T : List Int} {n : Nat} (h : n < T.length) (hb : isB (tc T n)) : skT T n = skT T (n + 1) := by
  unfold skT
  rw [show T.length - n = (T.length - (n + 1)) + 1 by omega]
  simp only [skp]
  rw [if_pos hb]
theorem sk_n {T : List Int} {n : Nat} (h : n < T.length) (hb : ¬ isB (tc T n)) : skT T n = n := by
  unfold skT
  rw [show T.length - n = (T.length - (n + 1)) + 1 by omega]
  simp only [skp]
  rw [if_neg hb]
theorem sk_rng {T : List Int} : ∀ (d n : Nat), n + d = T.length → n ≤ skT T n ∧ skT T n ≤ T.length ∧ (skT T n = n ∨ (n < skT T n ∧ isB (tc T (skT T n - 1))))
  | 0, n, h => by
    rw [sk_end (by omega)]
    omega
  | d + 1, n, h => by
    by_cases hb : isB (tc T n)
    · rw [sk_b (by omega) hb]
      obtain ⟨h1, h2, h3⟩ := sk_rng (T := T) d (n + 1) (by omega)
      refine ⟨by omega, h2, Or.inr ⟨by omega, ?_⟩⟩
      rcases h3 with e | e
      · rw [e]
        exact hb
      · exact e.2
    · rw [sk_n (by omega) hb]
      omega
theorem ltr_len_le {T : List Int} : ∀ (f n : Nat), (ltr T f n).length ≤ f
  | 0, n => by simp [ltr]
  | f + 1, n => by
    unfold ltr
    split
    · have := ltr_len_le (T := T) f (n + 1)
      simp only [List.length_cons]
      omega
    · simp
theorem ltr_get {T : List Int} : ∀ (f n i : Nat), i < (ltr T f n).length → isLt T (n + i) ∧ (ltr T f n).getD i 0 = tc T (n + i) - 96
  | 0, n, i, h => by simp [ltr] at h
  | f + 1, n, i, h => by
    unfold ltr at h ⊢
    by_cases c : isLt T n
    · rw [if_pos c] at h ⊢
      cases i with
      | zero => exact ⟨c, rfl⟩
      | succ i =>
        have := ltr_get f (n + 1) i (by simpa using h)
        rw [show n + (i + 1) = n + 1 + i by omega]
        exact ⟨this.1, by simpa using this.2⟩
    · rw [if_neg c] at h
      simp at h
theorem ltr_end {T : List Int} : ∀ (f n : Nat), (ltr T f n).length < f → ¬ isLt T (n + (ltr T f n).length)
  | 0, n, h => by omega
  | f + 1, n, h => by
    unfold ltr at h ⊢
    by_cases c : isLt T n
    · rw [if_pos c] at h ⊢
      have := ltr_end f (n + 1) (by simpa using h)
      rw [List.length_cons, show n + ((ltr T f (n + 1)).length + 1) = n + 1 + (ltr T f (n + 1)).length by omega]
      exact this
    · rw [if_neg c]
      exact c
theorem ltr_len {T : List Int} {f n i : Nat} (h1 : ∀ j, j < i → isLt T (n + j)) (h2 : i < f → ¬ isLt T (n + i)) : (ltr T f n).length = if i < f then i else f := by
  have a := ltr_len_le (T := T) f n
  have b := ltr_get (T := T) f n
  have c := ltr_end (T := T) f n
  rcases Nat.lt_trichotomy (ltr T f n).length i with q | q | q
  · by_cases z : (ltr T f n).length < f
    · exact absurd (h1 _ q) (c z)
    · split <;> omega
  · split <;> omega
  · have := (b i q).1
    exact absurd this (h2 (by omega))
theorem dgt_len_le {T : List Int} : ∀ (f n : Nat), (dgt T f n).length ≤ f
  | 0, n => by simp [dgt]
  | f + 1, n => by
    unfold dgt
    split
    · have := dgt_len_le (T := T) f (n + 1)
      simp only [List.length_cons]
      omega
    · simp
theorem dgt_get {T : List Int} : ∀ (f n i : Nat), i < (dgt T f n).length → isDt T (n + i) ∧ (dgt T f n).getD i 0 = tc T (n + i) - 48
  | 0, n, i, h => by simp [dgt] at h
  | f + 1, n, i, h => by
    unfold dgt at h ⊢
    by_cases c : isDt T n
    · rw [if_pos c] at h ⊢
      cases i with
      | zero => exact ⟨c, rfl⟩
      | succ i =>
        have := dgt_get f (n + 1) i (by simpa using h)
        rw [show n + (i + 1) = n + 1 + i by omega]
        exact ⟨this.1, by simpa using this.2⟩
    · rw [if_neg c] at h
      simp at h
theorem dgt_end {T : List Int} : ∀ (f n : Nat), (dgt T f n).length < f → ¬ isDt T (n + (dgt T f n).length)
  | 0, n, h => by omega
  | f + 1, n, h => by
    unfold dgt at h ⊢
    by_cases c : isDt T n
    · rw [if_pos c] at h ⊢
      have := dgt_end f (n + 1) (by simpa using h)
      rw [List.length_cons, show n + ((dgt T f (n + 1)).length + 1) = n + 1 + (dgt T f (n + 1)).length by omega]
      exact this
    · rw [if_neg c]
      exact c
theorem dgt_len {T : List Int} {f n i : Nat} (h1 : ∀ j, j < i → isDt T (n + j)) (h2 : i < f → ¬ isDt T (n + i)) : (dgt T f n).length = if i < f then i else f := by
  have a := dgt_len_le (T := T) f n
  have b := dgt_get (T := T) f n
  have c := dgt_end (T := T) f n
  rcases Nat.lt_trichotomy (dgt T f n).length i with q | q | q
  · by_cases z : (dgt T f n).length < f
    · exact absurd (h1 _ q) (c z)
    · split <;> omega
  · split <;> omega
  · have := (b i q).1
    exact absurd this (h2 (by omega))
theorem so_1 {T : List Int} {s : Nat} : so T s = 1 ↔ isLt T s := by
  unfold so
  repeat' split
  all_goals omega
theorem so_2 {T : List Int} {s : Nat} : so T s = 2 ↔ isDt T s := by
  unfold so
  repeat' split
  all_goals omega
theorem so_0 {T : List Int} {s : Nat} : so T s = 0 ↔ T.length ≤ s := by
  unfold so
  repeat' split
  all_goals omega
theorem so_rng (T : List Int) (s : Nat) : 0 ≤ so T s ∧ so T s ≤ 3 := by
  unfold so
  repeat' split
  all_goals omega
theorem nm_pos {T : List Int} {s : Nat} (h : isLt T s) : 1 ≤ (nm T s).length := by
  unfold nm ltr
  rw [if_pos h]
  simp
theorem dg_pos {T : List Int} {s : Nat} (h : isDt T s) : 1 ≤ (dg T s).length := by
  unfold dg dgt
  rw [if_pos h]
  simp
theorem en_rng {T : List Int} {s : Nat} (h : s ≤ T.length) : s ≤ en T s ∧ en T s ≤ T.length ∧ (so T s ≠ 0 → s < en T s) ∧ ((so T s = 1 ∨ so T s = 2) → isA (tc T (en T s - 1))) ∧ (so T s = 3 → ¬ isA (tc T (en T s - 1))) := by
  unfold en
  have r := so_rng T s
  by_cases c1 : so T s = 1
  · have p := nm_pos (so_1.mp c1)
    have g := (ltr_get (T := T) 6 s ((nm T s).length - 1) (by unfold nm at *; omega)).1
    rw [if_pos c1]
    refine ⟨by omega, by omega, by omega, fun _ => ?_, by omega⟩
    rw [show s + (nm T s).length - 1 = s + ((nm T s).length - 1) by omega]
    exact Or.inl g.2
  · by_cases c2 : so T s = 2
    · have p := dg_pos (so_2.mp c2)
      have g := (dgt_get (T := T) 4 s ((dg T s).length - 1) (by unfold dg at *; omega)).1
      rw [if_neg c1, if_pos c2]
      refine ⟨by omega, by omega, by omega, fun _ => ?_, by omega⟩
      rw [show s + (dg T s).length - 1 = s + ((dg T s).length - 1) by omega]
      exact Or.inr g.2
    · rw [if_neg c1, if_neg c2]
      have z := so_0 (T := T) (s := s)
      have z1 := so_1 (T := T) (s := s)
      have z2 := so_2 (T := T) (s := s)
      by_cases c3 : so T s = 3
      · rw [if_pos c3]
        refine ⟨by omega, by omega, by omega, by omega, fun _ => ?_⟩
        rw [show s + 1 - 1 = s by omega]
        omega
      · rw [if_neg c3]
        refine ⟨by omega, by omega, by omega, by omega, by omega⟩
theorem nx_rng {T : List Int} {s : Nat} (h : s ≤ T.length) : s ≤ nx T s ∧ nx T s ≤ T.length ∧ (so T s ≠ 0 → s < nx T s) := by
  have e := en_rng h
  have k := sk_rng (T := T) (T.length - en T s) (en T s) (by omega)
  unfold nx
  refine ⟨by omega, by omega, fun z => ?_⟩
  have := e.2.2.1 z
  omega
theorem nv_step {l : List Int} {m : Nat} (h : m < l.length) : nv (l.take (m + 1)) = 10 * nv (l.take m) + l.getD m 0 := by
  unfold nv
  rw [List.take_succ_eq_append_getElem h, List.foldl_append, List.getD_eq_getElem?_getD, List.getElem?_eq_getElem h]
  rfl
theorem nv_rng {l : List Int} (hb : ∀ i, i < l.length → 0 ≤ l.getD i 0 ∧ l.getD i 0 ≤ 9) : ∀ m : Nat, m ≤ l.length → 0 ≤ nv (l.take m) ∧ nv (l.take m) < ((10 ^ m : Nat) : Int)
  | 0, _ => by simp [nv]
  | m + 1, h => by
    have ih := nv_rng hb m (by omega)
    have := hb m (by omega)
    rw [nv_step (by omega), Nat.pow_succ]
    omega
theorem dg_b {T : List Int} {s i : Nat} (h : i < (dg T s).length) : 0 ≤ (dg T s).getD i 0 ∧ (dg T s).getD i 0 ≤ 9 := by
  have := dgt_get (T := T) 4 s i h
  unfold dg
  rw [this.2]
  have := this.1.2
  omega
theorem nm_b {T : List Int} {s i : Nat} (h : i < (nm T s).length) : 1 ≤ (nm T s).getD i 0 ∧ (nm T s).getD i 0 ≤ 26 := by
  have := ltr_get (T := T) 6 s i h
  unfold nm
  rw [this.2]
  have := this.1.2
  omega
theorem dg_v (T : List Int) (s : Nat) : 0 ≤ nv (dg T s) ∧ nv (dg T s) ≤ 9999 := by
  have l := dgt_len_le (T := T) 4 s
  have := nv_rng (l := dg T s) (fun i hi => dg_b hi) (dg T s).length (Nat.le_refl _)
  rw [List.take_of_length_le (Nat.le_refl _)] at this
  have p : 10 ^ (dg T s).length ≤ 10 ^ 4 := Nat.pow_le_pow_right (by decide) l
  omega
theorem mem_getD {l : List Int} {c : Int} (h : c ∈ l) : ∃ i, i < l.length ∧ l.getD i 0 = c := by
  obtain ⟨i, hi, e⟩ := List.getElem_of_mem h
  exact ⟨i, hi, by rw [List.getD_eq_getElem?_getD, List.getElem?_eq_getElem hi]; exact e⟩
theorem nm_ok {T : List Int} {s : Nat} (h : so T s = 1) : okN (nm T s) := by
  refine ⟨nm_pos (so_1.mp h), ltr_len_le 6 s, fun c hc => ?_⟩
  obtain ⟨i, hi, e⟩ := mem_getD hc
  rw [← e]
  exact nm_b hi
theorem bd_rng {T : List Int} {s : Nat} (h : s ≤ T.length) : bd T s = -1 ∨ (0 ≤ bd T s ∧ bd T s ≤ T.length) := by
  unfold bd
  repeat' split
  all_goals omega
theorem wr_rng {T : List Int} {s : Nat} (h : s ≤ T.length) : 0 ≤ wr T s ∧ wr T s ≤ T.length := by
  have := bd_rng h
  unfold wr
  split <;> omega
theorem bd_so {T : List Int} {s : Nat} (h : bd T s ≠ -1) : so T s = 1 ∨ so T s = 2 := by
  unfold bd at h
  by_cases c1 : so T s = 1
  · exact Or.inl c1
  · by_cases c2 : so T s = 2
    · exact Or.inr c2
    · rw [if_neg c1, if_neg c2] at h
      exact absurd rfl h
theorem owG_rng : ∀ (k : Nat) (v : Int), -1 ≤ owG k v ∧ owG k v < (k : Int)
  | 0, v => by simp [owG]
  | k + 1, v => by
    have := owG_rng k v
    unfold owG
    split <;> omega
theorem ow_rng (T : List Int) (s : Nat) : -1 ≤ ow T s ∧ ow T s ≤ 23 := by
  have := owG_rng 24 (pkX (nm T s))
  unfold ow
  omega
theorem pkX_rng {ns : List Int} (h : okN ns) : 0 ≤ pkX ns ∧ pkX ns < 1073741824 := by
  have g : ∀ i, 0 ≤ ns.getD i 0 ∧ ns.getD i 0 ≤ 26 := by
    intro i
    rw [List.getD_eq_getElem?_getD]
    cases e : ns[i]? with
    | none => simp
    | some q =>
      have := h.2.2 q (List.mem_of_getElem? e)
      simp
      omega
  have g0 := g 0
  have g1 := g 1
  have g2 := g 2
  have g3 := g 3
  have g4 := g 4
  have g5 := g 5
  unfold pkX
  omega
