/-! the class's tests of a token -/
def oF (M M' : Mem) : Prop := (∀ a, a ≠ 1 → M' a = M a) ∧ M' 1 1 = M 1 1
theorem oF.rf {M : Mem} : oF M M := ⟨fun _ _ => rfl, rfl⟩
theorem oT.f {M M' : Mem} (h : oT M M') : oF M M' := ⟨h.1, h.2.1⟩
theorem oF.tr {M M1 M2 : Mem} (h : oF M M1) (k : oF M1 M2) : oF M M2 := ⟨fun a p => by rw [k.1 a p, h.1 a p], by rw [k.2, h.2]⟩
/-- a fault is told -/
def FX (M : Mem) (e : Int × Int) : Prop := M 1 6 = e.1 ∧ M 1 7 = e.2
theorem tw_b {T : List Int} {s : Nat} (h : tw T s ≠ -2) : bd T s = -1 ∧ so T s = 1 ∧ tw T s = ow T s := by
  unfold tw at h ⊢
  by_cases c : bd T s = -1 ∧ so T s = 1
  · exact ⟨c.1, c.2, if_pos c⟩
  · rw [if_neg c] at h
    exact absurd rfl h
theorem ts_b {T : List Int} {s : Nat} (h : ts T s ≠ -1) : bd T s = -1 ∧ so T s = 3 ∧ ts T s = tc T s := by
  unfold ts at h ⊢
  by_cases c : bd T s = -1 ∧ so T s = 3
  · exact ⟨c.1, c.2, if_pos c⟩
  · rw [if_neg c] at h
    exact absurd rfl h
theorem tn_b {T : List Int} {s : Nat} (h : tn T s ≠ -1) : bd T s = -1 ∧ so T s = 2 ∧ tn T s = nv (dg T s) := by
  unfold tn at h ⊢
  by_cases c : bd T s = -1 ∧ so T s = 2
  · exact ⟨c.1, c.2, if_pos c⟩
  · rw [if_neg c] at h
    exact absurd rfl h
theorem tn_rng (T : List Int) (s : Nat) : -1 ≤ tn T s ∧ tn T s ≤ 9999 := by
  have := dg_v T s
  unfold tn
  split <;> omega
theorem tw_rng (T : List Int) (s : Nat) : -2 ≤ tw T s ∧ tw T s ≤ 23 := by
  have := ow_rng T s
  unfold tw
  split <;> omega
section
variable {M : Mem} {T : List Int} {s : Nat} {Q : Int → Mem → Prop}
theorem x_isSign {c : Int} (hT : TB T) (hx : LX M T s) (hc : 0 ≤ c ∧ c < 256) (h : Q (if ts T s = c then 1 else 0) M) : m_X7_isSign c M Q := by
  obtain ⟨r1, r2, r3, h1, h2, h3, h4, h5⟩ := hx
  have sr := so_rng T s
  have tr := tc_rng hT s
  unfold m_X7_isSign m_X7_isSign_J20 m_X7_isSign_J21
  rw [h4]
  by_cases b : bd T s = -1
  · rw [if_pos b]
    refine ⟨by omega, fun q => ?_, fun q => ?_⟩
    · have e : ts T s = tc T s := by unfold ts; rw [if_pos ⟨b, q⟩]
      rw [(h5 b).2.2.2 q]
      rw [e] at h
      refine ⟨by omega, by omega, fun q2 => ⟨by decide, ?_⟩, fun q2 => ⟨by decide, ?_⟩⟩
      · rwa [if_pos q2] at h
      · rwa [if_neg q2] at h
    · have e : ts T s = -1 := by unfold ts; rw [if_neg (fun z => q z.2)]
      rw [e, if_neg (by omega)] at h
      exact ⟨by decide, h⟩
  · have e : ts T s = -1 := by unfold ts; rw [if_neg (fun z => b z.1)]
    rw [e, if_neg (by omega)] at h
    rw [if_neg b]
    exact ⟨by decide, fun q => absurd q (by decide), fun _ => ⟨by decide, h⟩⟩
theorem x_isOwn {c : Int} (hx : LX M T s) (hc : 0 ≤ c ∧ c < 256) (h : Q (if tw T s = c then 1 else 0) M) : m_X7_isOwn c M Q := by
  obtain ⟨r1, r2, r3, h1, h2, h3, h4, h5⟩ := hx
  have sr := so_rng T s
  have tr := ow_rng T s
  unfold m_X7_isOwn m_X7_isOwn_J20 m_X7_isOwn_J21
  rw [h4]
  by_cases b : bd T s = -1
  · rw [if_pos b]
    refine ⟨by omega, fun q => ?_, fun q => ?_⟩
    · have e : tw T s = ow T s := by unfold tw; rw [if_pos ⟨b, q⟩]
      rw [((h5 b).2.1 q).2]
      rw [e] at h
      refine ⟨by omega, by omega, fun q2 => ⟨by decide, ?_⟩, fun q2 => ⟨by decide, ?_⟩⟩
      · rwa [if_pos q2] at h
      · rwa [if_neg q2] at h
    · have e : tw T s = -2 := by unfold tw; rw [if_neg (fun z => q z.2)]
      rw [e, if_neg (by omega)] at h
      exact ⟨by decide, h⟩
  · have e : tw T s = -2 := by unfold tw; rw [if_neg (fun z => b z.1)]
    rw [e, if_neg (by omega)] at h
    rw [if_neg b]
    exact ⟨by decide, fun q => absurd q (by decide), fun _ => ⟨by decide, h⟩⟩
theorem x_isName (hx : LX M T s) (h : Q (if tw T s = -1 then 1 else 0) M) : m_X7_isName M Q := by
  obtain ⟨r1, r2, r3, h1, h2, h3, h4, h5⟩ := hx
  have sr := so_rng T s
  have tr := ow_rng T s
  unfold m_X7_isName m_X7_isName_J20 m_X7_isName_J21
  rw [h4]
  by_cases b : bd T s = -1
  · rw [if_pos b]
    refine ⟨by omega, fun q => ?_, fun q => ?_⟩
    · have e : tw T s = ow T s := by unfold tw; rw [if_pos ⟨b, q⟩]
      rw [((h5 b).2.1 q).2]
      rw [e] at h
      refine ⟨by omega, fun q2 => ⟨by decide, ?_⟩, fun q2 => ⟨by decide, ?_⟩⟩
      · rwa [if_pos q2] at h
      · rwa [if_neg q2] at h
    · have e : tw T s = -2 := by unfold tw; rw [if_neg (fun z => q z.2)]
      rw [e, if_neg (by omega)] at h
      exact ⟨by decide, h⟩
  · have e : tw T s = -2 := by unfold tw; rw [if_neg (fun z => b z.1)]
    rw [e, if_neg (by omega)] at h
    rw [if_neg b]
    exact ⟨by decide, fun q => absurd q (by decide), fun _ => ⟨by decide, h⟩⟩
theorem x_misplaced (hx : LX M T s) (h : ∀ M', oF M M' → FX M' (1, wr T s) → Q 0 M') : m_X7_misplaced M Q := by
  intro M1 e1 M2 e2
  refine h M2 ⟨fun a ha => by rw [e2, up_ne _ ha, e1, up_ne _ ha], by rw [e2, up_get, if_neg (by decide), e1, up_get, if_neg (by decide)]⟩ ⟨?_, ?_⟩
  · rw [e2, up_get, if_neg (by decide), e1, up_get, if_pos ⟨rfl, rfl⟩]
  · rw [e2, up_get, if_pos ⟨rfl, rfl⟩, e1, up_get, if_neg (by decide), hx.2.2.2.2.2.1]
theorem x_fail {c : Int} (hx : LX M T s) (h : ∀ M', oF M M' → FX M' (c, (s : Nat)) → Q 0 M') : m_X7_fail c M Q := by
  intro M1 e1 M2 e2
  refine h M2 ⟨fun a ha => by rw [e2, up_ne _ ha, e1, up_ne _ ha], by rw [e2, up_get, if_neg (by decide), e1, up_get, if_neg (by decide)]⟩ ⟨?_, ?_⟩
  · rw [e2, up_get, if_neg (by decide), e1, up_get, if_pos ⟨rfl, rfl⟩]
  · rw [e2, up_get, if_pos ⟨rfl, rfl⟩, e1, up_get, if_neg (by decide), hx.2.2.2.2.1]
theorem x_takeSign {c : Int} (hT : TB T) (hx : LX M T s) (hc : 0 ≤ c ∧ c < 256) (h1 : ts T s = c → ∀ M', LX M' T (nx T s) → oT M M' → Q 1 M') (h0 : ts T s ≠ c → ∀ M', oF M M' → FX M' (1, wr T s) → Q 0 M') : m_X7_takeSign c M Q := by
  unfold m_X7_takeSign
  refine x_isSign hT hx hc ?_
  by_cases q : ts T s = c
  · rw [if_pos q]
    have b := ts_b (T := T) (s := s) (by omega)
    exact ⟨by decide, fun z => absurd z (by decide), fun _ => x_adv hT hx b.1 (by omega) fun M' l o => h1 q M' l o⟩
  · rw [if_neg q]
    exact ⟨by decide, fun _ => x_misplaced hx fun M' o f => ⟨by decide, h0 q M' o f⟩, fun z => absurd rfl z⟩
theorem x_takeOwn {c : Int} (hT : TB T) (hx : LX M T s) (hc : 0 ≤ c ∧ c < 256) (h1 : tw T s = c → ∀ M', LX M' T (nx T s) → oT M M' → Q 1 M') (h0 : tw T s ≠ c → ∀ M', oF M M' → FX M' (1, wr T s) → Q 0 M') : m_X7_takeOwn c M Q := by
  unfold m_X7_takeOwn
  refine x_isOwn hx hc ?_
  by_cases q : tw T s = c
  · rw [if_pos q]
    have b := tw_b (T := T) (s := s) (by omega)
    exact ⟨by decide, fun z => absurd z (by decide), fun _ => x_adv hT hx b.1 (by omega) fun M' l o => h1 q M' l o⟩
  · rw [if_neg q]
    exact ⟨by decide, fun _ => x_misplaced hx fun M' o f => ⟨by decide, h0 q M' o f⟩, fun z => absurd rfl z⟩
theorem LX.le (hx : LX M T s) : s ≤ T.length := hx.2.2.2.1
theorem LX.so {k : Int} (hx : LX M T s) (hk : 0 ≤ k ∧ k ≤ 3) : M 1 2 = k ↔ bd T s = -1 ∧ so T s = k := by
  rw [hx.2.2.2.2.2.2.1]
  by_cases b : bd T s = -1
  · rw [if_pos b]
    simp [b]
  · rw [if_neg b]
    simp [b]
    omega
theorem LX.s2 (hx : LX M T s) : inI (M 1 2) := by
  have := so_rng T s
  rw [hx.2.2.2.2.2.2.1]
  split <;> omega
end
