/-! statements, pure: a town in the making -/
/-- names of places, of people; who is next to what (itself too); roads; homes; kinds; who watches; frames; rain; stays; goes -/
abbrev TD : Type := List (List Int) × List (List Int) × (Int → Int → Bool) × Nat × (Int → Int) × (Int → Int) × Nat × List (Int × Int × Int) × Int × List Int × List Int
abbrev dNa (D : TD) : List (List Int) := D.1
abbrev dNb (D : TD) : List (List Int) := D.2.1
abbrev dRe (D : TD) : Int → Int → Bool := D.2.2.1
abbrev dRo (D : TD) : Nat := D.2.2.2.1
abbrev dHo (D : TD) : Int → Int := D.2.2.2.2.1
abbrev dKi (D : TD) : Int → Int := D.2.2.2.2.2.1
abbrev dWa (D : TD) : Nat := D.2.2.2.2.2.2.1
abbrev dFr (D : TD) : List (Int × Int × Int) := D.2.2.2.2.2.2.2.1
abbrev dRa (D : TD) : Int := D.2.2.2.2.2.2.2.2.1
abbrev dSt (D : TD) : List Int := D.2.2.2.2.2.2.2.2.2.1
abbrev dGo (D : TD) : List Int := D.2.2.2.2.2.2.2.2.2.2
def D0 : TD := ([], [], fun _ _ => false, 0, fun _ => 0, fun _ => 0, 0, [], 0, [], [])
abbrev SR : Type := (Int × Int) ⊕ (TD × Nat)
def nix : List (List Int) → List Int → Int → Int
  | [], _, _ => -1
  | a :: l, n, k => if a = n then k else nix l n (k + 1)
theorem nix_rng : ∀ {l : List (List Int)} {n : List Int} {k : Int}, nix l n k = -1 ∨ (k ≤ nix l n k ∧ nix l n k < k + l.length)
  | [], _, _ => Or.inl rfl
  | a :: l, n, k => by
    unfold nix
    split
    · right
      simp only [List.length_cons]
      omega
    · rcases nix_rng (l := l) (n := n) (k := k + 1) with h | h
      · exact Or.inl h
      · right
        simp only [List.length_cons]
        omega
def mst (c m s : Nat) (k : SR) : SR := if m ≤ c then .inl (6, (s : Nat)) else k
def fN (T : List Int) (D : TD) (s : Nat) (k : List Int → Nat → SR) : SR := if tw T s ≠ -1 then .inl (1, wr T s) else if nix (dNa D) (nm T s) 0 ≠ -1 ∨ nix (dNb D) (nm T s) 0 ≠ -1 then .inl (2, (s : Nat)) else k (nm T s) (nx T s)
def pN (T : List Int) (D : TD) (s : Nat) (k : Nat → SR) : SR := if tw T s ≠ -1 then .inl (1, wr T s) else if nix (dNa D) (nm T s) 0 = -1 then .inl (3, (s : Nat)) else k (nix (dNa D) (nm T s) 0).toNat
def nmb (T : List Int) (lo hi : Int) (s : Nat) (k : Int → Nat → SR) : SR := if tn T s < 0 then .inl (1, wr T s) else if tn T s < lo ∨ hi < tn T s then .inl (4, (s : Nat)) else k (tn T s) (nx T s)
def tkO (T : List Int) (w : Int) (s : Nat) (k : Nat → SR) : SR := if tw T s = w then k (nx T s) else .inl (1, wr T s)
abbrev fuel (T : List Int) : Nat := 7 + 12 * T.length
def fml (r : PR) (k : List Int → Nat → SR) : SR := match r with
  | none => .inl (0, 0)
  | some (.inl e) => .inl e
  | some (.inr (c, t)) => k c t
def stP (T : List Int) (D : TD) (s : Nat) : SR :=
  if tw T s = 0 then mst (dNa D).length 7 s (fN T D (nx T s) fun n s1 => .inr ((dNa D ++ [n], dNb D, (fun i j => if i = ((dNa D).length : Nat) then decide (j = i) else dRe D i j), D.2.2.2), s1))
  else if tw T s = 1 then mst (dRo D) 12 s (pN T D (nx T s) fun a => tkO T 2 (nx T (nx T s)) fun s3 => pN T D s3 fun b => if dRe D a b = true then .inl (3, (s3 : Nat)) else .inr ((dNa D, dNb D, (fun i j => decide ((i = (a : Nat) ∧ j = (b : Nat)) ∨ (i = (b : Nat) ∧ j = (a : Nat))) || dRe D i j), dRo D + 1, D.2.2.2.2), nx T s3))
  else if tw T s = 3 then mst (dNb D).length 6 s (fN T D (nx T s) fun n s1 => tkO T 4 s1 fun s2 => pN T D s2 fun h => tkO T 5 (nx T s2) fun s3 => nmb T 0 9 s3 fun kd s4 => .inr ((dNa D, dNb D ++ [n], dRe D, dRo D, (fun i => if i = ((dNb D).length : Nat) then (h : Nat) else dHo D i), (fun i => if i = ((dNb D).length : Nat) then kd else dKi D i), D.2.2.2.2.2.2), s4))
  else if tw T s = 6 then (if tw T (nx T s) ≠ -1 then .inl (1, wr T (nx T s)) else if nix (dNb D) (nm T (nx T s)) 0 = -1 ∨ (dWa D).testBit (nix (dNb D) (nm T (nx T s)) 0).toNat = true then .inl (3, (nx T s : Nat)) else .inr ((dNa D, dNb D, dRe D, dRo D, dHo D, dKi D, dWa D ||| 2 ^ (nix (dNb D) (nm T (nx T s)) 0).toNat, D.2.2.2.2.2.2.2), nx T (nx T s)))
  else if tw T s = 7 then mst (dFr D).length 8 s (nmb T 1 8 (nx T s) fun st s1 => pN T D s1 fun pl => if idxP (dFr D) st (pl : Nat) 0 ≠ -1 then .inl (3, (s1 : Nat)) else nmb T 0 6 (nx T s1) fun n s2 => .inr ((dNa D, dNb D, dRe D, dRo D, dHo D, dKi D, dWa D, dFr D ++ [(st, ((pl : Nat) : Int), n)], D.2.2.2.2.2.2.2.2), s2))
  else if tw T s = 8 then mst (dSt D).length 1 s (fml (pd T false (fuel T) 0 0 (nx T s)) fun c t => .inr ((dNa D, dNb D, dRe D, dRo D, dHo D, dKi D, dWa D, dFr D, dRa D, c, dGo D), t))
  else if tw T s = 9 then mst (dGo D).length 1 s (fml (pd T true (fuel T) 3 0 (nx T s)) fun c t => .inr ((dNa D, dNb D, dRe D, dRo D, dHo D, dKi D, dWa D, dFr D, dRa D, dSt D, c), t))
  else if tw T s = 10 then nmb T 0 100 (nx T s) fun n s1 => .inr ((dNa D, dNb D, dRe D, dRo D, dHo D, dKi D, dWa D, dFr D, n, dSt D, dGo D), s1)
  else .inl (1, wr T s)
/-- all statements from the n-th on -/
def rdT (T : List Int) : Nat → Nat → Nat → TD → (Int × Int) ⊕ (TD × Nat)
  | 0, _, _, _ => .inl (0, 0)
  | f + 1, n, s, D => if so T s = 0 then .inr (D, n) else if 80 ≤ n then .inl (6, (s : Nat)) else match stP T D s with
    | .inl e => .inl e
    | .inr (D1, t) => if ts T t = 59 then rdT T f (n + 1) (nx T t) D1 else .inl (1, wr T t)
/-- a town in the making that can be, at the token s -/
def DOK (D : TD) (s : Nat) : Prop := (dNa D).length ≤ 7 ∧ (dNb D).length ≤ 6 ∧ (∀ n ∈ dNa D, okN n) ∧ (∀ n ∈ dNb D, okN n) ∧ dRo D ≤ 12 ∧ dWa D < 2 ^ (dNb D).length ∧ (0 ≤ dRa D ∧ dRa D ≤ 100) ∧ (dFr D).length ≤ 8 ∧ (∀ q ∈ dFr D, 1 ≤ q.1 ∧ q.1 ≤ 8 ∧ 0 ≤ q.2.1 ∧ q.2.1 < (dNa D).length ∧ 0 ≤ q.2.2 ∧ q.2.2 ≤ 6) ∧ ndP (dFr D) ∧ (∀ p : Nat, p < (dNb D).length → 0 ≤ dHo D p ∧ dHo D p < (dNa D).length ∧ 0 ≤ dKi D p ∧ dKi D p ≤ 9) ∧ (∀ i : Nat, i < (dNa D).length → dRe D i i = true) ∧ (dSt D = [] ∨ wfP (dSt D) []) ∧ (dGo D = [] ∨ wfP (dGo D) []) ∧ noTF (dSt D) ∧ (dSt D).length + (dGo D).length ≤ s
theorem DOK.wa {D : TD} {s : Nat} (h : DOK D s) : dWa D < 64 := Nat.lt_of_lt_of_le h.2.2.2.2.2.1 (Nat.pow_le_pow_right (n := 2) (by decide) h.2.1)
theorem DOK.mono {D : TD} {s t : Nat} (h : DOK D s) (ht : s ≤ t) : DOK D t := by
  obtain ⟨h1, h2, h3, h4, h5, h6, h7, h8, h9, h10, h11, h12, h13, h14, h15, h16⟩ := h
  exact ⟨h1, h2, h3, h4, h5, h6, h7, h8, h9, h10, h11, h12, h13, h14, h15, by omega⟩
theorem D0_ok : DOK D0 0 := by
  refine ⟨by decide, by decide, fun n h => absurd h (List.not_mem_nil), fun n h => absurd h (List.not_mem_nil), by decide, by decide, by decide, by decide, fun q h => absurd h (List.not_mem_nil), trivial, fun p h => absurd h (Nat.not_lt_zero p), fun p h => absurd h (Nat.not_lt_zero p), Or.inl rfl, Or.inl rfl, noTF_nil, by decide⟩
theorem fuel_ok {T : List Int} {g : Bool} {w s : Nat} (hs : s ≤ T.length) (hw : w < 6) : pd T g (fuel T) w 0 s ≠ none := by
  refine pd_t _ _ _ _ hs (Or.inl hw) ?_
  rw [if_pos hw]
  show _ ≤ 7 + 12 * T.length
  omega
theorem mst_i {c m s : Nat} {k : SR} {x : TD × Nat} (h : mst c m s k = .inr x) : c < m ∧ k = .inr x := by
  unfold mst at h
  split at h
  · simp at h
  · next q => exact ⟨by omega, h⟩
theorem fN_i {T : List Int} {D : TD} {s : Nat} {k : List Int → Nat → SR} {x : TD × Nat} (h : fN T D s k = .inr x) : tw T s = -1 ∧ nix (dNa D) (nm T s) 0 = -1 ∧ nix (dNb D) (nm T s) 0 = -1 ∧ k (nm T s) (nx T s) = .inr x := by
  unfold fN at h
  split at h
  · simp at h
  · next q =>
    split at h
    · simp at h
    · next q2 => exact ⟨by omega, by omega, by omega, h⟩
theorem pN_i {T : List Int} {D : TD} {s : Nat} {k : Nat → SR} {x : TD × Nat} (h : pN T D s k = .inr x) : tw T s = -1 ∧ nix (dNa D) (nm T s) 0 ≠ -1 ∧ k (nix (dNa D) (nm T s) 0).toNat = .inr x := by
  unfold pN at h
  split at h
  · simp at h
  · next q =>
    split at h
    · simp at h
    · next q2 => exact ⟨by omega, q2, h⟩
theorem nmb_i {T : List Int} {lo hi : Int} {s : Nat} {k : Int → Nat → SR} {x : TD × Nat} (h : nmb T lo hi s k = .inr x) : 0 ≤ tn T s ∧ lo ≤ tn T s ∧ tn T s ≤ hi ∧ k (tn T s) (nx T s) = .inr x := by
  unfold nmb at h
  split at h
  · simp at h
  · next q =>
    split at h
    · simp at h
    · next q2 => exact ⟨by omega, by omega, by omega, h⟩
theorem tkO_i {T : List Int} {w : Int} {s : Nat} {k : Nat → SR} {x : TD × Nat} (h : tkO T w s k = .inr x) : tw T s = w ∧ k (nx T s) = .inr x := by
  unfold tkO at h
  split at h
  · next q => exact ⟨q, h⟩
  · simp at h
theorem fml_i {r : PR} {k : List Int → Nat → SR} {x : TD × Nat} (h : fml r k = .inr x) : ∃ c t, r = some (.inr (c, t)) ∧ k c t = .inr x := by
  unfold fml at h
  split at h
  · simp at h
  · simp at h
  · next c t => exact ⟨c, t, rfl, h⟩
theorem ok_tw {T : List Int} {s : Nat} (h : tw T s = -1) : okN (nm T s) := nm_ok (tw_b (T := T) (s := s) (by omega)).2.1
/-- what a statement makes can be -/
theorem stP_ok {T : List Int} {D D1 : TD} {s t : Nat} (hs : s ≤ T.length) (hD : DOK D s) (h : stP T D s = .inr (D1, t)) : t ≤ T.length ∧ s < t ∧ DOK D1 t := by
  obtain ⟨h1, h2, h3, h4, h5, h6, h7, h8, h9, h10, h11, h12, h13, h14, h15, h16⟩ := id hD
  unfold stP at h
  by_cases q0 : tw T s = 0
  · rw [if_pos q0] at h
    have n0 := nx_tw hs (show tw T s ≠ -2 by omega)
    obtain ⟨a1, h⟩ := mst_i h
    obtain ⟨b1, b2, b3, h⟩ := fN_i h
    have n1 := nx_tw n0.2 (show tw T (nx T s) ≠ -2 by omega)
    simp only [Sum.inr.injEq, Prod.mk.injEq] at h
    obtain ⟨rfl, rfl⟩ := h
    refine ⟨n1.2, by omega, ?_, h2, ?_, h4, h5, h6, h7, h8, fun q hq => ?_, h10, fun p hp => ?_, fun i hi => ?_, h13, h14, h15, by show (dSt D).length + (dGo D).length ≤ _; omega⟩
    · show (dNa D ++ [_]).length ≤ 7
      rw [List.length_append, List.length_singleton]
      omega
    · intro n hn
      rcases List.mem_append.mp hn with z | z
      · exact h3 n z
      · rw [List.mem_singleton.mp z]
        exact ok_tw b1
    · have := h9 q hq
      show _ ∧ _ ∧ _ ∧ _ < (((dNa D ++ [_]).length : Nat) : Int) ∧ _
      rw [List.length_append, List.length_singleton]
      omega
    · have := h11 p hp
      show 0 ≤ dHo D p ∧ dHo D p < (((dNa D ++ [_]).length : Nat) : Int) ∧ 0 ≤ dKi D p ∧ dKi D p ≤ 9
      rw [List.length_append, List.length_singleton]
      omega
    · have hi2 : i < (dNa D ++ [nm T (nx T s)]).length := hi
      rw [List.length_append, List.length_singleton] at hi2
      show (if (i : Int) = ((dNa D).length : Nat) then decide ((i : Int) = i) else dRe D i i) = true
      split
      · simp
      · exact h12 i (by omega)
  rw [if_neg q0] at h
  by_cases q1 : tw T s = 1
  · rw [if_pos q1] at h
    have n0 := nx_tw hs (show tw T s ≠ -2 by omega)
    obtain ⟨a1, h⟩ := mst_i h
    obtain ⟨b1, b2, h⟩ := pN_i h
    have n1 := nx_tw n0.2 (show tw T (nx T s) ≠ -2 by omega)
    obtain ⟨b3, h⟩ := tkO_i h
    have n2 := nx_tw n1.2 (show tw T (nx T (nx T s)) ≠ -2 by omega)
    obtain ⟨b4, b5, h⟩ := pN_i h
    have n3 := nx_tw n2.2 (show tw T (nx T (nx T (nx T s))) ≠ -2 by omega)
    split at h
    · simp at h
    · simp only [Sum.inr.injEq, Prod.mk.injEq] at h
      obtain ⟨rfl, rfl⟩ := h
      refine ⟨n3.2, by omega, h1, h2, h3, h4, by show dRo D + 1 ≤ 12; omega, h6, h7, h8, h9, h10, h11, fun i hi => ?_, h13, h14, h15, by show (dSt D).length + (dGo D).length ≤ _; omega⟩
      show (_ || dRe D i i) = true
      rw [h12 i hi]
      simp
  rw [if_neg q1] at h
  by_cases q3 : tw T s = 3
  · rw [if_pos q3] at h
    have n0 := nx_tw hs (show tw T s ≠ -2 by omega)
    obtain ⟨a1, h⟩ := mst_i h
    obtain ⟨b1, b2, b2', h⟩ := fN_i h
    have n1 := nx_tw n0.2 (show tw T (nx T s) ≠ -2 by omega)
    obtain ⟨b3, h⟩ := tkO_i h
    have n2 := nx_tw n1.2 (show tw T (nx T (nx T s)) ≠ -2 by omega)
    obtain ⟨b4, b5, h⟩ := pN_i h
    have n3 := nx_tw n2.2 (show tw T (nx T (nx T (nx T s))) ≠ -2 by omega)
    obtain ⟨b6, h⟩ := tkO_i h
    have n4 := nx_tw n3.2 (show tw T (nx T (nx T (nx T (nx T s)))) ≠ -2 by omega)
    obtain ⟨b7, b8, b9, h⟩ := nmb_i h
    have n5 := nx_tn n4.2 (show tn T (nx T (nx T (nx T (nx T (nx T s))))) ≠ -1 by omega)
    have nr := nix_rng (l := dNa D) (n := nm T (nx T (nx T (nx T s)))) (k := 0)
    simp only [Sum.inr.injEq, Prod.mk.injEq] at h
    obtain ⟨rfl, rfl⟩ := h
    refine ⟨n5.2, by omega, h1, ?_, h3, ?_, h5, ?_, h7, h8, h9, h10, fun p hp => ?_, h12, h13, h14, h15, by show (dSt D).length + (dGo D).length ≤ _; omega⟩
    · show (dNb D ++ [_]).length ≤ 6
      rw [List.length_append, List.length_singleton]
      omega
    · intro n hn
      rcases List.mem_append.mp hn with z | z
      · exact h4 n z
      · rw [List.mem_singleton.mp z]
        exact ok_tw b1
    · show dWa D < 2 ^ (dNb D ++ [_]).length
      rw [List.length_append, List.length_singleton]
      exact Nat.lt_of_lt_of_le h6 (Nat.pow_le_pow_right (by decide) (by omega))
    · have hp2 : p < (dNb D ++ [nm T (nx T s)]).length := hp
      rw [List.length_append, List.length_singleton] at hp2
      show 0 ≤ (if (p : Int) = ((dNb D).length : Nat) then _ else dHo D p) ∧ (if (p : Int) = ((dNb D).length : Nat) then _ else dHo D p) < (((dNa D).length : Nat) : Int) ∧ 0 ≤ (if (p : Int) = ((dNb D).length : Nat) then _ else dKi D p) ∧ (if (p : Int) = ((dNb D).length : Nat) then _ else dKi D p) ≤ 9
      by_cases c : (p : Int) = ((dNb D).length : Nat)
      · rw [if_pos c, if_pos c]
        omega
      · rw [if_neg c, if_neg c]
        exact h11 p (by omega)
  rw [if_neg q3] at h
  by_cases q6 : tw T s = 6
  · rw [if_pos q6] at h
    have n0 := nx_tw hs (show tw T s ≠ -2 by omega)
    split at h
    · simp at h
    · next b1 =>
      have n1 := nx_tw n0.2 (show tw T (nx T s) ≠ -2 by omega)
      split at h
      · simp at h
      · next b2 =>
        have nr := nix_rng (l := dNb D) (n := nm T (nx T s)) (k := 0)
        simp only [Sum.inr.injEq, Prod.mk.injEq] at h
        obtain ⟨rfl, rfl⟩ := h
        refine ⟨n1.2, by omega, h1, h2, h3, h4, h5, ?_, h7, h8, h9, h10, h11, h12, h13, h14, h15, by show (dSt D).length + (dGo D).length ≤ _; omega⟩
        refine Nat.or_lt_two_pow h6 (Nat.pow_lt_pow_right (by decide) ?_)
        have : nix (dNb D) (nm T (nx T s)) 0 ≠ -1 := fun z => b2 (Or.inl z)
        show _ < (dNb D).length
        omega
  rw [if_neg q6] at h
  by_cases q7 : tw T s = 7
  · rw [if_pos q7] at h
    have n0 := nx_tw hs (show tw T s ≠ -2 by omega)
    obtain ⟨a1, h⟩ := mst_i h
    obtain ⟨b1, b2, b3, h⟩ := nmb_i h
    have n1 := nx_tn n0.2 (show tn T (nx T s) ≠ -1 by omega)
    obtain ⟨b4, b5, h⟩ := pN_i h
    have n2 := nx_tw n1.2 (show tw T (nx T (nx T s)) ≠ -2 by omega)
    split at h
    · simp at h
    · next b6 =>
      obtain ⟨b7, b8, b9, h⟩ := nmb_i h
      have n3 := nx_tn n2.2 (show tn T (nx T (nx T (nx T s))) ≠ -1 by omega)
      have nr := nix_rng (l := dNa D) (n := nm T (nx T (nx T s))) (k := 0)
      simp only [Sum.inr.injEq, Prod.mk.injEq] at h
      obtain ⟨rfl, rfl⟩ := h
      refine ⟨n3.2, by omega, h1, h2, h3, h4, h5, h6, h7, ?_, fun q hq => ?_, ?_, h11, h12, h13, h14, h15, by show (dSt D).length + (dGo D).length ≤ _; omega⟩
      · show (dFr D ++ [_]).length ≤ 8
        rw [List.length_append, List.length_singleton]
        omega
      · rcases List.mem_append.mp hq with z | z
        · exact h9 q z
        · rw [List.mem_singleton.mp z]
          show 1 ≤ tn T (nx T s) ∧ tn T (nx T s) ≤ 8 ∧ (0 : Int) ≤ ((nix (dNa D) (nm T (nx T (nx T s))) 0).toNat : Nat) ∧ (((nix (dNa D) (nm T (nx T (nx T s))) 0).toNat : Nat) : Int) < (((dNa D).length : Nat) : Int) ∧ 0 ≤ tn T (nx T (nx T (nx T s))) ∧ tn T (nx T (nx T (nx T s))) ≤ 6
          omega
      · exact ndP_app h10 ((idxP_no (k := 0) (by decide)).mp (Decidable.byContradiction b6))
  rw [if_neg q7] at h
  by_cases q8 : tw T s = 8
  · rw [if_pos q8] at h
    have n0 := nx_tw hs (show tw T s ≠ -2 by omega)
    obtain ⟨a1, h⟩ := mst_i h
    obtain ⟨c, t1, e, h⟩ := fml_i h
    have pl := pd_len _ _ _ _ _ _ n0.2 e
    have w := pd_wf e [] [] (by decide) (by decide) (by show ([true] : List Bool).length = 1; rfl)
    rw [List.append_nil] at w
    simp only [Sum.inr.injEq, Prod.mk.injEq] at h
    obtain ⟨rfl, rfl⟩ := h
    refine ⟨pl.1, by omega, h1, h2, h3, h4, h5, h6, h7, h8, h9, h10, h11, h12, Or.inr w, h14, pd_tf e, ?_⟩
    show c.length + (dGo D).length ≤ _
    omega
  rw [if_neg q8] at h
  by_cases q9 : tw T s = 9
  · rw [if_pos q9] at h
    have n0 := nx_tw hs (show tw T s ≠ -2 by omega)
    obtain ⟨a1, h⟩ := mst_i h
    obtain ⟨c, t1, e, h⟩ := fml_i h
    have pl := pd_len _ _ _ _ _ _ n0.2 e
    have w := pd_wf e [] [] (by decide) (by decide) (by show ([false] : List Bool).length = 1; rfl)
    rw [List.append_nil] at w
    simp only [Sum.inr.injEq, Prod.mk.injEq] at h
    obtain ⟨rfl, rfl⟩ := h
    refine ⟨pl.1, by omega, h1, h2, h3, h4, h5, h6, h7, h8, h9, h10, h11, h12, h13, Or.inr w, h15, ?_⟩
    show (dSt D).length + c.length ≤ _
    omega
  rw [if_neg q9] at h
  by_cases q10 : tw T s = 10
  · rw [if_pos q10] at h
    have n0 := nx_tw hs (show tw T s ≠ -2 by omega)
    obtain ⟨b7, b8, b9, h⟩ := nmb_i h
    have n3 := nx_tn n0.2 (show tn T (nx T s) ≠ -1 by omega)
    simp only [Sum.inr.injEq, Prod.mk.injEq] at h
    obtain ⟨rfl, rfl⟩ := h
    exact ⟨n3.2, by omega, h1, h2, h3, h4, h5, h6, ⟨b8, b9⟩, h8, h9, h10, h11, h12, h13, h14, h15, by show (dSt D).length + (dGo D).length ≤ _; omega⟩
  rw [if_neg q10] at h
  simp at h
