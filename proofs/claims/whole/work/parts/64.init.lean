/-! the cells behind the two constructors; what holds of them -/
def M0 : Mem := fun a k =>
  if a = 0 then (if k = 2 then 6 else if k = 3 then 23 else if k = 13 then 1 else 0)
  else if a = 1 then (if k = 7 then -1 else 0)
  else if a = 3 then ownL.getD k.toNat 0
  else if a = 4 then (if k = 2 then -1 else 0)
  else if a = 5 then (if k = 1 then -1 else 0)
  else if a = 52 then (if k = 4 then -1 else if k = 5 then -1 else 0)
  else if a = 57 then (if k = 4 then -1 else if k = 5 then -1 else 0)
  else if a = 199 then (if k = 9 then -1 else if k = 11 then -1 else if k = 12 then -1 else if k = 34 then 1 else if k = 56 then 1 else 0)
  else if a = 214 then (if k < 4 then -1 else 0)
  else 0
def P0 : PT := ([], fun _ => 0, (0, -1), (0, 0, fun _ _ => false, fun _ _ => 0, fun _ => 0, [], []), ([], [], 0, 0), (0, 0, fun _ => 0, []), [], [], [], [], 1)
theorem m0_z {a k : Int} (h : a ≠ 0 ∧ a ≠ 1 ∧ a ≠ 3 ∧ a ≠ 4 ∧ a ≠ 5 ∧ a ≠ 52 ∧ a ≠ 57 ∧ a ≠ 199 ∧ a ≠ 214) : M0 a k = 0 := by
  obtain ⟨h0, h1, h2, h3, h4, h5, h6, h7, h8⟩ := h
  simp [M0, *]
theorem p0_ok : POK 0 P0 := by
  refine ⟨⟨by decide, fun c hc => absurd hc List.not_mem_nil, fun i _ => ⟨Int.le_refl _, Int.le_refl _⟩, by decide, by decide, by decide, fun c hc => absurd hc List.not_mem_nil, by decide, fun c hc => absurd hc List.not_mem_nil, by decide, by decide⟩, ⟨?_, fun i hi => absurd hi (Nat.not_lt_zero _), fun i hi => absurd hi (Nat.not_lt_zero _), by decide, by decide, by decide, by decide⟩, ⟨⟨?_, by decide, by decide⟩, fun c hc => absurd hc List.not_mem_nil⟩, ⟨by decide, fun j hj => absurd hj (Nat.not_lt_zero _)⟩⟩
  · exact ⟨by decide, by decide, fun i hi => absurd hi (Nat.not_lt_zero _), fun i j hi => absurd hi (Nat.not_lt_zero _), fun i hi => absurd hi (Nat.not_lt_zero _), Or.inl rfl, Or.inl rfl, (fun c hc => absurd hc List.not_mem_nil)⟩
  · exact ⟨by decide, by decide, by decide, fun i hi => absurd hi (Nat.not_lt_zero _), by decide, fun c hc => absurd hc List.not_mem_nil, trivial⟩
theorem inv0 : Inv 0 M0 := by
  refine ⟨6, 0, P0, p0_ok, ⟨?_, ?_, ?_, ?_, ?_⟩, ⟨?_, ?_, ?_, ?_⟩⟩
  · refine ⟨by decide, fun k hk => absurd hk (Nat.not_lt_zero _), fun i hi => m0_z (by decide), by decide, by decide, fun k hk => ?_, by decide, fun k hk => absurd hk (Nat.not_lt_zero _), by decide, fun k hk => absurd hk (Nat.not_lt_zero _), by decide⟩
    show M0 3 k = _
    simp [M0]
  · refine ⟨by decide, by decide, ?_, fun i hi => absurd hi (Nat.not_lt_zero _), fun i hi => absurd hi (Nat.not_lt_zero _), by decide, by decide⟩
    exact ⟨by decide +kernel, by decide, by decide, fun i hi => absurd hi (Nat.not_lt_zero _), fun i j hi => absurd hi (Nat.not_lt_zero _), fun i hi => absurd hi (Nat.not_lt_zero _), ⟨by decide, by decide, fun i hi => absurd hi (Nat.not_lt_zero _), Or.inl rfl⟩, ⟨by decide, by decide, fun i hi => absurd hi (Nat.not_lt_zero _), Or.inl rfl⟩⟩
  · exact ⟨⟨by decide +kernel, by decide, by decide, fun i hi => absurd hi (Nat.not_lt_zero _), by decide, fun i hi => absurd hi (Nat.not_lt_zero _)⟩, by decide, fun i hi => absurd hi (Nat.not_lt_zero _)⟩
  · exact ⟨by decide, by decide, by decide, fun i hi => absurd hi (Nat.not_lt_zero _)⟩
  · exact Or.inl (by decide)
  · refine ⟨by decide, fun k hk => absurd hk (Nat.not_lt_zero _), fun i hi => m0_z (by decide), by decide, by decide, by decide, fun k hk => absurd hk (Nat.not_lt_zero _), by decide, fun k hk => absurd hk (Nat.not_lt_zero _), by decide⟩
  · refine ⟨by decide, ?_, fun i hi => absurd hi (Nat.not_lt_zero _), fun i hi => absurd hi (Nat.not_lt_zero _), by decide, by decide⟩
    refine ⟨Or.inl rfl, by decide, by decide, fun i j hi => absurd hi (Nat.not_lt_zero _), fun i hi => absurd hi (Nat.not_lt_zero _), ?_, ?_⟩
    · rw [if_pos (show wSt (pW P0) = [] from rfl)]; decide
    · rw [if_pos (show wGo (pW P0) = [] from rfl)]; decide
  · exact ⟨⟨by decide, by decide, by decide, fun i hi => absurd hi (Nat.not_lt_zero _), by decide, fun i hi => absurd hi (Nat.not_lt_zero _)⟩, by decide, fun i hi hk => absurd hk (Nat.not_lt_zero _)⟩
  · exact ⟨by decide, by decide, by decide, fun i hi => absurd hi (Nat.not_lt_zero _)⟩
