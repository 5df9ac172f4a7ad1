/-! tests and sums read, pure: the codes and the token behind, or a fault; none: the fuel is too little -/
abbrev PR : Type := Option ((Int × Int) ⊕ (List Int × Nat))
def pre (c : List Int) : PR → PR
  | some (.inr (d, s)) => some (.inr (c ++ d, s))
  | r => r
def bn (r : PR) (k : Nat → PR) : PR := match r with
  | none => none
  | some (.inl e) => some (.inl e)
  | some (.inr (c, s)) => pre c (k s)
abbrev er (k p : Int) : PR := some (.inl (k, p))
abbrev ok1 (s : Nat) : PR := some (.inr ([], s))
abbrev em (c : Int) (s : Nat) : PR := some (.inr ([c], s))
def tks (T : List Int) (c : Int) (s : Nat) (k : Nat → PR) : PR := if ts T s = c then k (nx T s) else er 1 (wr T s)
def opn (T : List Int) (o s : Nat) (k : Nat → PR) : PR := if 7 ≤ o then er 5 s else k (nx T s)
def cmc (T : List Int) (s : Nat) : Int := if ts T s = 60 then -15 else if ts T s = 62 then -16 else if ts T s = 61 then -17 else 0
def prc (T : List Int) (s : Nat) : Int := if ts T s = 42 then -10 else if ts T s = 47 then -11 else if ts T s = 37 then -12 else 0
def smc (T : List Int) (s : Nat) : Int := if ts T s = 43 then -8 else if ts T s = 45 then -9 else 0
/-- what is known, by its word -/
def kwc (T : List Int) (g : Bool) (s : Nat) : Int := if tw T s = 5 then -1 else if tw T s = 11 then -2 else if tw T s = 12 then -3 else if tw T s = 13 then -4 else if tw T s = 14 then -5 else if tw T s = 15 ∧ g = true then -6 else if tw T s = 16 ∧ g = true then -7 else 0
def mmc (T : List Int) (s : Nat) : Int := if tw T s = 22 then -13 else if tw T s = 23 then -14 else 0
/-- 0 test, 1 both, 2 fact, 3 sum, 4 product, 5 part; behind them 8 (or), 9 (and), 10 (+ -), 11 (* / %) -/
def pd (T : List Int) (g : Bool) : Nat → Nat → Nat → Nat → PR
  | 0, _, _, _ => none
  | f + 1, 0, o, s => bn (pd T g f 1 o s) (pd T g f 8 o)
  | f + 1, 1, o, s => bn (pd T g f 2 o s) (pd T g f 9 o)
  | f + 1, 2, o, s => if tw T s = 20 then opn T o s fun s1 => bn (pd T g f 2 (o + 1) s1) (em (-20))
    else if ts T s = 91 then opn T o s fun s1 => bn (pd T g f 0 (o + 1) s1) fun s2 => tks T 93 s2 ok1
    else if tw T s = 21 then em 1 (nx T s)
    else bn (pd T g f 3 o s) fun s1 => if cmc T s1 = 0 then er 1 (wr T s1) else bn (pd T g f 3 o (nx T s1)) (em (cmc T s1))
  | f + 1, 3, o, s => bn (pd T g f 4 o s) (pd T g f 10 o)
  | f + 1, 4, o, s => bn (pd T g f 5 o s) (pd T g f 11 o)
  | f + 1, 5, o, s => if 0 ≤ tn T s then em (tn T s) (nx T s)
    else if ts T s = 40 then opn T o s fun s1 => bn (pd T g f 3 (o + 1) s1) fun s2 => tks T 41 s2 ok1
    else if kwc T g s ≠ 0 then em (kwc T g s) (nx T s)
    else if mmc T s ≠ 0 then (if ts T (nx T s) = 40 then opn T o (nx T s) fun s1 => bn (pd T g f 3 (o + 1) s1) fun s2 => tks T 44 s2 fun s3 => bn (pd T g f 3 (o + 1) s3) fun s4 => tks T 41 s4 (em (mmc T s)) else er 1 (wr T (nx T s)))
    else if tw T s = 17 then (if ts T (nx T s) = 40 then opn T o (nx T s) fun s1 => bn (pd T g f 0 (o + 1) s1) fun s2 => tks T 44 s2 fun s3 => bn (pd T g f 3 (o + 1) s3) fun s4 => tks T 44 s4 fun s5 => bn (pd T g f 3 (o + 1) s5) fun s6 => tks T 41 s6 (em (-21)) else er 1 (wr T (nx T s)))
    else er 1 (wr T s)
  | f + 1, 8, o, s => if tw T s = 18 then bn (pd T g f 1 o (nx T s)) fun s1 => pre [-19] (pd T g f 8 o s1) else ok1 s
  | f + 1, 9, o, s => if tw T s = 19 then bn (pd T g f 2 o (nx T s)) fun s1 => pre [-18] (pd T g f 9 o s1) else ok1 s
  | f + 1, 10, o, s => if smc T s ≠ 0 then bn (pd T g f 4 o (nx T s)) fun s1 => pre [smc T s] (pd T g f 10 o s1) else ok1 s
  | f + 1, 11, o, s => if prc T s ≠ 0 then bn (pd T g f 5 o (nx T s)) fun s1 => pre [prc T s] (pd T g f 11 o s1) else ok1 s
  | _ + 1, _, _, _ => none
theorem pre_i {c d : List Int} {r : PR} {s : Nat} (h : pre c r = some (.inr (d, s))) : ∃ d1, r = some (.inr (d1, s)) ∧ d = c ++ d1 := by
  cases r with
  | none => simp [pre] at h
  | some x =>
    cases x with
    | inl e => simp [pre] at h
    | inr q =>
      obtain ⟨d1, s1⟩ := q
      simp only [pre, Option.some.injEq, Sum.inr.injEq, Prod.mk.injEq] at h
      exact ⟨d1, by rw [h.2], h.1.symm⟩
theorem pre_f {c : List Int} {r : PR} {e : Int × Int} (h : pre c r = some (.inl e)) : r = some (.inl e) := by
  cases r with
  | none => simp [pre] at h
  | some x =>
    cases x with
    | inl e1 => simpa [pre] using h
    | inr q => simp [pre] at h
theorem bn_i {r : PR} {k : Nat → PR} {d : List Int} {s : Nat} (h : bn r k = some (.inr (d, s))) : ∃ c1 s1 d1, r = some (.inr (c1, s1)) ∧ k s1 = some (.inr (d1, s)) ∧ d = c1 ++ d1 := by
  unfold bn at h
  split at h
  · simp at h
  · simp at h
  · next c1 s1 =>
    obtain ⟨d1, e1, e2⟩ := pre_i h
    exact ⟨c1, s1, d1, rfl, e1, e2⟩
theorem bn_f {r : PR} {k : Nat → PR} {e : Int × Int} (h : bn r k = some (.inl e)) : r = some (.inl e) ∨ ∃ c1 s1, r = some (.inr (c1, s1)) ∧ k s1 = some (.inl e) := by
  unfold bn at h
  split at h
  · simp at h
  · exact Or.inl h
  · next c1 s1 => exact Or.inr ⟨c1, s1, rfl, pre_f h⟩
theorem tks_i {T : List Int} {c : Int} {s : Nat} {k : Nat → PR} {x : List Int × Nat} (h : tks T c s k = some (.inr x)) : ts T s = c ∧ k (nx T s) = some (.inr x) := by
  unfold tks at h
  split at h
  · next q => exact ⟨q, h⟩
  · simp at h
theorem opn_i {T : List Int} {o s : Nat} {k : Nat → PR} {x : List Int × Nat} (h : opn T o s k = some (.inr x)) : o < 7 ∧ k (nx T s) = some (.inr x) := by
  unfold opn at h
  split at h
  · simp at h
  · next q => exact ⟨by omega, h⟩
theorem em_i {c : Int} {s t : Nat} {d : List Int} (h : em c s = some (.inr (d, t))) : d = [c] ∧ t = s := by
  simp only [em, Option.some.injEq, Sum.inr.injEq, Prod.mk.injEq] at h
  exact ⟨h.1.symm, h.2.symm⟩
theorem ok_i {s t : Nat} {d : List Int} (h : ok1 s = some (.inr (d, t))) : d = [] ∧ t = s := by
  simp only [ok1, Option.some.injEq, Sum.inr.injEq, Prod.mk.injEq] at h
  exact ⟨h.1.symm, h.2.symm⟩
theorem nx_ts {T : List Int} {s : Nat} (h : s ≤ T.length) (q : ts T s ≠ -1) : s < nx T s ∧ nx T s ≤ T.length := by
  have := nx_rng h
  have b := ts_b q
  exact ⟨this.2.2 (by omega), this.2.1⟩
theorem nx_tw {T : List Int} {s : Nat} (h : s ≤ T.length) (q : tw T s ≠ -2) : s < nx T s ∧ nx T s ≤ T.length := by
  have := nx_rng h
  have b := tw_b q
  exact ⟨this.2.2 (by omega), this.2.1⟩
theorem nx_tn {T : List Int} {s : Nat} (h : s ≤ T.length) (q : tn T s ≠ -1) : s < nx T s ∧ nx T s ≤ T.length := by
  have := nx_rng h
  have b := tn_b q
  exact ⟨this.2.2 (by omega), this.2.1⟩
theorem cmc_ts {T : List Int} {s : Nat} (h : cmc T s ≠ 0) : ts T s ≠ -1 := by
  unfold cmc at h
  omega
theorem prc_ts {T : List Int} {s : Nat} (h : prc T s ≠ 0) : ts T s ≠ -1 := by
  unfold prc at h
  omega
theorem smc_ts {T : List Int} {s : Nat} (h : smc T s ≠ 0) : ts T s ≠ -1 := by
  unfold smc at h
  omega
theorem kwc_tw {T : List Int} {g : Bool} {s : Nat} (h : kwc T g s ≠ 0) : tw T s ≠ -2 := by
  intro q
  apply h
  unfold kwc
  simp [q]
theorem mmc_tw {T : List Int} {s : Nat} (h : mmc T s ≠ 0) : tw T s ≠ -2 := by
  unfold mmc at h
  omega
theorem pd_w {T : List Int} {g : Bool} {f w o s : Nat} {r : (Int × Int) ⊕ (List Int × Nat)} (h : pd T g (f + 1) w o s = some r) : w = 0 ∨ w = 1 ∨ w = 2 ∨ w = 3 ∨ w = 4 ∨ w = 5 ∨ w = 8 ∨ w = 9 ∨ w = 10 ∨ w = 11 := by
  refine Decidable.byContradiction fun c => ?_
  unfold pd at h
  split at h
  all_goals first | omega | (exact absurd h (by simp))
/-- the codes are no more than the bytes they come from -/
theorem pd_len {T : List Int} {g : Bool} : ∀ (f w o s : Nat) (c : List Int) (t : Nat), s ≤ T.length → pd T g f w o s = some (.inr (c, t)) → t ≤ T.length ∧ c.length + s ≤ t ∧ (w < 6 → s < t ∧ 0 < c.length)
  | 0, w, o, s, c, t, hs, h => by simp [pd] at h
  | f + 1, w, o, s, c, t, hs, h => by
    have ih := pd_len (T := T) (g := g) f
    rcases pd_w h with rfl | rfl | rfl | rfl | rfl | rfl | rfl | rfl | rfl | rfl <;> simp only [pd] at h
    · obtain ⟨c1, s1, d1, a, b, e⟩ := bn_i h
      have i1 := ih _ _ _ _ _ hs a
      have i2 := ih _ _ _ _ _ i1.1 b
      rw [e, List.length_append]
      omega
    · obtain ⟨c1, s1, d1, a, b, e⟩ := bn_i h
      have i1 := ih _ _ _ _ _ hs a
      have i2 := ih _ _ _ _ _ i1.1 b
      rw [e, List.length_append]
      omega
    · split at h
      · next q =>
        obtain ⟨-, h⟩ := opn_i h
        have n1 := nx_tw hs (by omega)
        obtain ⟨c1, s1, d1, a, b, e⟩ := bn_i h
        have i1 := ih _ _ _ _ _ n1.2 a
        obtain ⟨rfl, rfl⟩ := em_i b
        rw [e, List.length_append, List.length_singleton]
        omega
      · split at h
        · next q =>
          obtain ⟨-, h⟩ := opn_i h
          have n1 := nx_ts hs (by omega)
          obtain ⟨c1, s1, d1, a, b, e⟩ := bn_i h
          have i1 := ih _ _ _ _ _ n1.2 a
          obtain ⟨b1, b⟩ := tks_i b
          have n2 := nx_ts i1.1 (by omega)
          obtain ⟨rfl, rfl⟩ := ok_i b
          rw [e, List.append_nil]
          omega
        · split at h
          · next q =>
            have n1 := nx_tw hs (by omega)
            obtain ⟨rfl, rfl⟩ := em_i h
            rw [List.length_singleton]
            omega
          · obtain ⟨c1, s1, d1, a, b, e⟩ := bn_i h
            have i1 := ih _ _ _ _ _ hs a
            split at b
            · simp at b
            · next q =>
              have n1 := nx_ts i1.1 (cmc_ts q)
              obtain ⟨c2, s2, d2, a2, b2, e2⟩ := bn_i b
              have i2 := ih _ _ _ _ _ n1.2 a2
              obtain ⟨rfl, rfl⟩ := em_i b2
              rw [e, e2, List.length_append, List.length_append, List.length_singleton]
              omega
    · obtain ⟨c1, s1, d1, a, b, e⟩ := bn_i h
      have i1 := ih _ _ _ _ _ hs a
      have i2 := ih _ _ _ _ _ i1.1 b
      rw [e, List.length_append]
      omega
    · obtain ⟨c1, s1, d1, a, b, e⟩ := bn_i h
      have i1 := ih _ _ _ _ _ hs a
      have i2 := ih _ _ _ _ _ i1.1 b
      rw [e, List.length_append]
      omega
    · split at h
      · next q =>
        have n1 := nx_tn hs (by omega)
        obtain ⟨rfl, rfl⟩ := em_i h
        rw [List.length_singleton]
        omega
      · split at h
        · next q =>
          obtain ⟨-, h⟩ := opn_i h
          have n1 := nx_ts hs (by omega)
          obtain ⟨c1, s1, d1, a, b, e⟩ := bn_i h
          have i1 := ih _ _ _ _ _ n1.2 a
          obtain ⟨b1, b⟩ := tks_i b
          have n2 := nx_ts i1.1 (by omega)
          obtain ⟨rfl, rfl⟩ := ok_i b
          rw [e, List.append_nil]
          omega
        · split at h
          · next q =>
            have n1 := nx_tw hs (kwc_tw q)
            obtain ⟨rfl, rfl⟩ := em_i h
            rw [List.length_singleton]
            omega
          · split at h
            · next q =>
              have n0 := nx_tw hs (mmc_tw q)
              split at h
              · next q1 =>
                obtain ⟨-, h⟩ := opn_i h
                have n1 := nx_ts n0.2 (by omega)
                obtain ⟨c1, s1, d1, a, b, e⟩ := bn_i h
                have i1 := ih _ _ _ _ _ n1.2 a
                obtain ⟨b1, b⟩ := tks_i b
                have n2 := nx_ts i1.1 (by omega)
                obtain ⟨c2, s2, d2, a2, b2, e2⟩ := bn_i b
                have i2 := ih _ _ _ _ _ n2.2 a2
                obtain ⟨b3, b2⟩ := tks_i b2
                have n3 := nx_ts i2.1 (by omega)
                obtain ⟨rfl, rfl⟩ := em_i b2
                rw [e, e2, List.length_append, List.length_append, List.length_singleton]
                omega
              · simp at h
            · split at h
              · next q =>
                have n0 := nx_tw hs (by omega)
                split at h
                · next q1 =>
                  obtain ⟨-, h⟩ := opn_i h
                  have n1 := nx_ts n0.2 (by omega)
                  obtain ⟨c1, s1, d1, a, b, e⟩ := bn_i h
                  have i1 := ih _ _ _ _ _ n1.2 a
                  obtain ⟨b1, b⟩ := tks_i b
                  have n2 := nx_ts i1.1 (by omega)
                  obtain ⟨c2, s2, d2, a2, b2, e2⟩ := bn_i b
                  have i2 := ih _ _ _ _ _ n2.2 a2
                  obtain ⟨b3, b2⟩ := tks_i b2
                  have n3 := nx_ts i2.1 (by omega)
                  obtain ⟨c3, s3, d3, a3, b4, e3⟩ := bn_i b2
                  have i3 := ih _ _ _ _ _ n3.2 a3
                  obtain ⟨b5, b4⟩ := tks_i b4
                  have n4 := nx_ts i3.1 (by omega)
                  obtain ⟨rfl, rfl⟩ := em_i b4
                  rw [e, e2, e3, List.length_append, List.length_append, List.length_append, List.length_singleton]
                  omega
                · simp at h
              · simp at h
    · split at h
      · next q =>
        have n1 := nx_tw hs (by omega)
        obtain ⟨c1, s1, d1, a, b, e⟩ := bn_i h
        have i1 := ih _ _ _ _ _ n1.2 a
        obtain ⟨d2, b2, e2⟩ := pre_i b
        have i2 := ih _ _ _ _ _ i1.1 b2
        rw [e, e2, List.length_append, List.length_append, List.length_singleton]
        omega
      · obtain ⟨rfl, rfl⟩ := ok_i h
        simp
        omega
    · split at h
      · next q =>
        have n1 := nx_tw hs (by omega)
        obtain ⟨c1, s1, d1, a, b, e⟩ := bn_i h
        have i1 := ih _ _ _ _ _ n1.2 a
        obtain ⟨d2, b2, e2⟩ := pre_i b
        have i2 := ih _ _ _ _ _ i1.1 b2
        rw [e, e2, List.length_append, List.length_append, List.length_singleton]
        omega
      · obtain ⟨rfl, rfl⟩ := ok_i h
        simp
        omega
    · split at h
      · next q =>
        have n1 := nx_ts hs (smc_ts q)
        obtain ⟨c1, s1, d1, a, b, e⟩ := bn_i h
        have i1 := ih _ _ _ _ _ n1.2 a
        obtain ⟨d2, b2, e2⟩ := pre_i b
        have i2 := ih _ _ _ _ _ i1.1 b2
        rw [e, e2, List.length_append, List.length_append, List.length_singleton]
        omega
      · obtain ⟨rfl, rfl⟩ := ok_i h
        simp
        omega
    · split at h
      · next q =>
        have n1 := nx_ts hs (prc_ts q)
        obtain ⟨c1, s1, d1, a, b, e⟩ := bn_i h
        have i1 := ih _ _ _ _ _ n1.2 a
        obtain ⟨d2, b2, e2⟩ := pre_i b
        have i2 := ih _ _ _ _ _ i1.1 b2
        rw [e, e2, List.length_append, List.length_append, List.length_singleton]
        omega
      · obtain ⟨rfl, rfl⟩ := ok_i h
        simp
        omega
