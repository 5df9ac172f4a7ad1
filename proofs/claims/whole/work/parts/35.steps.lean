/-! the plain questions, class and model side by side -/
section
variable {N : Nat} {t b : Int} {p : PT} {M : Mem}
theorem y_run0 {Q : Mem → Prop} (hy : IY M b p) (hp : POK N p) (h : ∀ M', IY M' b p → stY M M' → rowsY M' (pW p) (pS p) 9 0 → Q M') : m_X12_runs 0 M Q :=
  y_runs hy.2.1.2.1 hy.2.2.1.1 hp.2.1.1 hp.2.2.1.1.1 hy.2.1.1 fun M1 o1 d1 => h M1 (hy.scr hp o1.scr) o1.scr.st d1
theorem step_of {j : Int} (hj : 0 ≤ j) : ((j.toNat : Nat) : Int) = j := Int.toNat_of_nonneg hj
theorem x_watchesI {Q : Int → Mem → Prop} {s a : Int} {n : Nat} (ha : 0 ≤ a ∧ a < 32) (hs : kd s = 6) (hw : M s 2 = (n : Nat)) (hn : n < 64) (h : Q (if n.testBit a.toNat then 1 else 0) M) : m_X6_watches s a M Q := by
  have := x_watches (p := a.toNat) hs hw hn (by omega) h
  rwa [step_of ha.1] at this
theorem y_has2I {Q : Int → Mem → Prop} {a : Int} {n : Nat} (ha : 0 ≤ a ∧ a < 32) (hn : n < 2147483648) (h : Q (if n.testBit a.toNat then 1 else 0) M) : m_X12_has2 (n : Nat) a M Q := by
  have := y_has2 (Q := Q) (M := M) (a := (n : Nat)) (k := a.toNat) (by omega) (by omega) (by rw [Int.toNat_natCast]; exact h)
  rwa [step_of ha.1] at this
theorem s_fault {a : Int} (hi : Inv N M) (ha : inI a) : m_X11_fault a M (fun r1 M1 => m_X12_fault a M1 (fun r2 M2 => Good N r1 r2 M2)) := by
  obtain ⟨t, b, p, hp, hx, hy⟩ := hi
  have e1 : M 1 6 = _ := hx.1.2.2.2.1
  have e2 : M 1 7 = _ := hx.1.2.2.2.2.1
  have f1 : M 199 10 = _ := hy.1.2.2.2.1
  have f2 : M 199 11 = _ := hy.1.2.2.2.2.1
  have g1 := hp.1.2.2.2.1
  have g2 := hp.1.2.2.2.2.1
  unfold m_X11_fault m_X12_fault m_X12_fault_J24
  dsimp only
  rw [e1, e2, f1, f2]
  refine ⟨ha, fun q => ⟨ha, fun _ => fin hp hx hy g1, fun z => absurd q z⟩, fun q => ⟨ha, fun z => by omega, fun _ => ⟨ha, fun _ => fin hp hx hy g2, fun z => absurd q z⟩⟩, fun q => ⟨ha, fun z => absurd z q.1, fun _ => ⟨ha, fun z => absurd z q.2, fun _ => fin hp hx hy (by decide)⟩⟩⟩
theorem s_status {a : Int} (hi : Inv N M) (hN : N < 4000) (ha : inI a) : m_X11_status a M (fun r1 M1 => m_X12_status a M1 (fun r2 M2 => Good N r1 r2 M2)) := by
  obtain ⟨t, b, p, hp, hx, hy⟩ := hi
  have hno : ¬ (0 ≤ a ∧ a ≤ 5) → m_X12_status a M (fun r2 M2 => Good N (-1) r2 M2) := fun q => by
    unfold m_X12_status m_X12_status_J19
    exact y_is2 ha (by decide) (by decide) (fun q1 q2 => absurd ⟨q1, q2⟩ q) (fun _ => ⟨by decide, fun _ => fin hp hx hy (by decide), fun z => absurd rfl z⟩)
  unfold m_X11_status m_X11_status_J22 m_X11_status_J23
  refine ⟨ha, fun q => hno (by omega), fun q => ⟨ha, fun q => hno (by omega), fun q2 => ⟨by omega, ?_⟩⟩⟩
  have e := hx.1.2.2.1 a.toNat (by omega)
  have f := hy.1.2.2.1 a.toNat (by omega)
  have g := hp.1.2.2.1 a.toNat (by omega)
  rw [step_of (by omega)] at e f g
  unfold m_X12_status m_X12_status_J19
  rw [e]
  refine y_is2 ha (by decide) (by decide) (fun q1 q2 => ⟨by decide, fun z => absurd z (by decide), fun _ => ⟨by omega, ?_⟩⟩) (fun q => by omega)
  rw [f]
  exact fin hp hx hy (by omega)
theorem s_octet {a : Int} (hi : Inv N M) (ha : inI a) : m_X11_octet a M (fun r1 M1 => m_X12_octet a M1 (fun r2 M2 => Good N r1 r2 M2)) := by
  obtain ⟨t, b, p, hp, hx, hy⟩ := hi
  obtain ⟨-, -, -, -, -, -, -, -, e1, e2, -⟩ := hx.1
  obtain ⟨-, -, -, -, -, -, -, f1, f2, -⟩ := hy.1
  obtain ⟨-, -, -, -, -, -, -, g1, g2, -⟩ := hp.1
  have hno : ¬ (0 ≤ a ∧ a < (pIm p).length) → m_X12_octet a M (fun r2 M2 => Good N (-1) r2 M2) := fun q => by
    unfold m_X12_octet m_X12_octet_J24
    rw [f1]
    exact y_is2 ha (by decide) (by omega) (fun q1 q2 => by omega) (fun _ => ⟨by decide, fun _ => fin hp hx hy (by decide), fun z => absurd rfl z⟩)
  unfold m_X11_octet m_X11_octet_J27 m_X11_octet_J28
  rw [e1]
  refine ⟨ha, fun q => hno (by omega), fun q => ⟨ha, by omega, fun q => hno (by omega), fun q2 => ⟨by omega, ?_⟩⟩⟩
  have e := e2 a.toNat (by omega)
  have f := f2 a.toNat (by omega)
  have g := g2 ((pIm p).getD a.toNat 0) (getD_mem (by omega))
  rw [step_of (by omega)] at e f
  unfold m_X12_octet m_X12_octet_J24
  dsimp only
  rw [e, f1]
  refine y_is2 ha (by decide) (by omega) (fun q1 q2 => ⟨by decide, fun z => absurd z (by decide), fun _ => ⟨by omega, ?_⟩⟩) (fun q => by omega)
  rw [f]
  exact fin hp hx hy (by omega)
theorem s_far {a c : Int} (hi : Inv N M) (ha : inI a) (hc : inI c) : m_X11_far a c M (fun r1 M1 => m_X12_far a c M1 (fun r2 M2 => Good N r1 r2 M2)) := by
  obtain ⟨t, b, p, hp, hx, hy⟩ := hi
  have w1 := hp.2.1.1.1
  have hno : ¬ ((0 ≤ a ∧ a < wPl (pW p)) ∧ (0 ≤ c ∧ c < wPl (pW p))) → m_X12_far a c M (fun r2 M2 => Good N (-1) r2 M2) := fun q => by
    unfold m_X12_far m_X12_far_J55 m_X12_far_J56
    refine y_isPlace hy hp ha (fun q1 q2 => ⟨by decide, fun z => absurd z (by decide), fun _ => ?_⟩) (fun _ => ⟨by decide, fun _ => fin hp hx hy (by decide), fun z => absurd rfl z⟩)
    exact y_isPlace hy hp hc (fun q3 q4 => absurd ⟨⟨q1, q2⟩, q3, q4⟩ q) (fun _ => ⟨by decide, fun _ => fin hp hx hy (by decide), fun z => absurd rfl z⟩)
  unfold m_X11_far m_X11_far_J28 m_X11_far_J29
  refine x_isPlace hx hp ha (fun q1 q2 => ⟨by decide, fun z => absurd z (by decide), fun _ => ?_⟩) (fun q => ⟨by decide, fun _ => hno (fun z => q z.1), fun z => absurd rfl z⟩)
  refine x_isPlace hx hp hc (fun q3 q4 => ⟨by decide, fun z => absurd z (by decide), fun _ => ?_⟩) (fun q => ⟨by decide, fun _ => hno (fun z => q z.2), fun z => absurd rfl z⟩)
  rw [hx.2.1.1]
  refine ⟨hx.2.1.2.2.1.1, hx.2.1.2.2.1.1, by omega, ?_⟩
  have e := (hx.2.1.2.2.1.2.2.2.2.1 a.toNat c.toNat (by omega) (by omega)).2
  have f := hy.2.1.2.1.2.2.2.1 a.toNat c.toNat (by omega) (by omega)
  have g := hp.2.1.1.2.2.2.1 a.toNat c.toNat (by omega) (by omega)
  have hb := hy.2.1.2.1.1
  rw [step_of (by omega), step_of (by omega)] at e f g
  obtain ⟨-, -, f1, f2, f3⟩ := f
  rw [e]
  unfold m_X12_far m_X12_far_J55 m_X12_far_J56 m_X12_at
  refine y_isPlace hy hp ha (fun q1 q2 => ⟨by decide, fun z => absurd z (by decide), fun _ => ?_⟩) (fun q => by omega)
  refine y_isPlace hy hp hc (fun q3 q4 => ⟨by decide, fun z => absurd z (by decide), fun _ => ?_⟩) (fun q => by omega)
  dsimp only
  rw [hy.2.1.1]
  refine ⟨by omega, by omega, fun z => ?_, fun z => ⟨by omega, ?_⟩⟩
  · rw [f3, if_neg (by omega)]
    exact fin hp hx hy (by decide)
  · rw [f3, if_pos (by omega)]
    exact fin hp hx hy (by omega)
theorem s_person {a c : Int} (hi : Inv N M) (ha : inI a) (hc : inI c) : m_X11_person a c M (fun r1 M1 => m_X12_person a c M1 (fun r2 M2 => Good N r1 r2 M2)) := by
  obtain ⟨t, b, p, hp, hx, hy⟩ := hi
  have w2 := hp.2.1.1.2.1
  have hb := hy.2.1.2.1.1
  have sw := hp.2.2.1.1.1.2.2.1
  unfold m_X11_person m_X11_person_J72
  refine x_isPerson hx hp ha (fun q1 q2 => ⟨by decide, fun z => absurd z (by decide), fun _ => ⟨hc, ?_⟩⟩) (fun q => ⟨by decide, fun _ => ?_, fun z => absurd rfl z⟩)
  · have Y : ∀ (r : Int), (∀ Q : Int → Mem → Prop, (inI c ∧ ((c = 0 → (0 ≤ a ∧ a < 132) ∧ m_X12_person_J72 Q (M 228 a) M) ∧ (¬ c = 0 → (inI c) ∧ ((c = 1 → ((0 : Int) ≤ (6 * (M 199 13)) + a ∧ (6 * (M 199 13)) + a < 12) ∧ m_X12_person_J72 Q (M 207 ((6 * (M 199 13)) + a)) M) ∧ (¬ c = 1 → (inI c) ∧ ((c = 2 → m_X12_has2 (M 229 0) a M (fun r8 M7 => (inI r8) ∧ ((r8 = 0 → m_X12_person_J72 Q 0 M7) ∧ (¬ r8 = 0 → m_X12_person_J72 Q 1 M7)))) ∧ (¬ c = 2 → m_X12_person_J72 Q (-1) M))))))) → m_X12_person a c M Q) := fun r Q hq => by
      unfold m_X12_person
      exact y_isPerson hy hp ha (fun _ _ => ⟨by decide, fun z => absurd z (by decide), fun _ => hq⟩) (fun q => by omega)
    have e0 := hx.2.2.1.1.2.2.2.1 a.toNat (by omega)
    have f0 := hy.2.2.1.1.2.2.2.1 a.toNat (by omega)
    have g0 := hp.2.2.1.1.1.2.2.2.1 a.toNat (by omega)
    have e1 := hx.2.1.2.2.1.2.2.2.2.2.1 a.toNat (by omega)
    have f1 := hy.2.1.2.1.2.2.2.2.1 a.toNat (by omega)
    have g1 := hp.2.1.1.2.2.2.2.1 a.toNat (by omega)
    rw [step_of (by omega)] at e0 f0 g0 e1 f1 g1
    rw [show (40 : Int) + 1 = 41 from rfl] at e0
    rw [show 6 * (0 : Int) + a = a by omega] at f0
    have w1 := hp.2.1.1.1
    refine ⟨fun q => ⟨by omega, Y 0 _ ⟨hc, fun _ => ⟨by omega, ?_⟩, fun z => absurd q z⟩⟩, fun q => ⟨?_, by omega, Y 0 _ ⟨hc, fun _ => by omega, fun _ => ⟨hc, fun _ => ⟨?_, ?_⟩, fun z => absurd q z⟩⟩⟩, fun q => ?_, fun q => Y 0 _ ⟨hc, fun z => by omega, fun _ => ⟨hc, fun z => by omega, fun _ => ⟨hc, fun z => by omega, fun _ => fin hp hx hy (by decide)⟩⟩⟩⟩
    · unfold m_X12_person_J72
      rw [e0, f0]
      exact fin hp hx hy (by omega)
    · rw [hx.2.1.1]
      exact hx.2.1.2.2.1.1
    · rw [hy.2.1.1]
      omega
    · unfold m_X12_person_J72
      rw [hx.2.1.1, hy.2.1.1, e1, f1]
      exact fin hp hx hy (by omega)
    · have hw : M 40 2 = _ := hx.2.2.1.1.2.2.1
      have hv : M 229 0 = _ := hy.2.2.1.1.2.2.1
      refine x_watchesI (by omega) (by decide) hw sw ?_
      cases z : (sWa (pS p)).testBit a.toNat
      · refine ⟨by decide, fun _ => Y 0 _ ⟨hc, fun z => by omega, fun _ => ⟨hc, fun z => by omega, fun _ => ⟨hc, fun _ => ?_, fun z => absurd q z⟩⟩⟩, fun z => absurd rfl z⟩
        rw [hv]
        refine y_has2I (by omega) (by omega) ?_
        rw [z]
        exact ⟨by decide, fun _ => fin hp hx hy (by decide), fun z => absurd rfl z⟩
      · refine ⟨by decide, fun z => absurd z (by decide), fun _ => Y 0 _ ⟨hc, fun z => by omega, fun _ => ⟨hc, fun z => by omega, fun _ => ⟨hc, fun _ => ?_, fun z => absurd q z⟩⟩⟩⟩
        rw [hv]
        refine y_has2I (by omega) (by omega) ?_
        rw [z]
        exact ⟨by decide, fun z => absurd z (by decide), fun _ => fin hp hx hy (by decide)⟩
  · unfold m_X12_person
    exact y_isPerson hy hp ha (fun q1 q2 => absurd ⟨q1, q2⟩ q) (fun _ => ⟨by decide, fun _ => fin hp hx hy (by decide), fun z => absurd rfl z⟩)
theorem s_where {a c : Int} (hi : Inv N M) (ha : inI a) (hc : inI c) : m_X11_where a c M (fun r1 M1 => m_X12_where a c M1 (fun r2 M2 => Good N r1 r2 M2)) := by
  obtain ⟨t, b, p, hp, hx, hy⟩ := hi
  have w2 := hp.2.1.1.2.1
  have w1 := hp.2.1.1.1
  have hno : ¬ ((0 ≤ a ∧ a < wPn (pW p)) ∧ (0 ≤ c ∧ c ≤ 8)) → m_X12_where a c M (fun r2 M2 => Good N (-1) r2 M2) := fun q => by
    unfold m_X12_where m_X12_where_J18
    refine y_isPerson hy hp ha (fun q1 q2 => ⟨by decide, fun z => absurd z (by decide), fun _ => ?_⟩) (fun _ => ⟨by decide, fun _ => fin hp hx hy (by decide), fun z => absurd rfl z⟩)
    exact y_is2 hc (by decide) (by decide) (fun q3 q4 => absurd ⟨⟨q1, q2⟩, q3, q4⟩ q) (fun _ => ⟨by decide, fun _ => fin hp hx hy (by decide), fun z => absurd rfl z⟩)
  unfold m_X11_where m_X11_where_J18
  refine x_isPerson hx hp ha (fun q1 q2 => ⟨by decide, fun z => absurd z (by decide), fun _ => ⟨hc, fun q => hno (by omega), fun q3 => ⟨hc, fun q4 => ?_, fun q => hno (by omega)⟩⟩⟩) (fun q => ⟨by decide, fun _ => hno (fun z => q z.1), fun z => absurd rfl z⟩)
  refine x_thisDay hx hp fun M1 hx1 o1 d1 => ⟨by decide, by decide, by omega, ?_⟩
  have hy1 := hy.st o1
  unfold m_X12_where m_X12_where_J18
  refine y_isPerson hy1 hp ha (fun q1 q2 => ⟨by decide, fun z => absurd z (by decide), fun _ => ?_⟩) (fun q => by omega)
  refine y_is2 hc (by decide) (by decide) (fun q3 q4 => ⟨by decide, fun z => absurd z (by decide), fun _ => ?_⟩) (fun q => by omega)
  refine y_run0 hy1 hp fun M2 hy2 o2 d2 => ⟨by omega, ?_⟩
  have e := d1.1 c.toNat a.toNat (by omega) (by omega)
  have f := d2 c.toNat a.toNat (by omega) (by omega)
  have g := walkP_rng hp.2.2.1.1.1 c.toNat a.toNat (by omega)
  rw [step_of (by omega), step_of (by omega)] at e f
  rw [show (52 : Int) + 1 = 53 from rfl] at e ⊢
  rw [step_of (by omega)] at g
  rw [e, f]
  exact fin hp (hx1.st o2) hy2 (by omega)
theorem s_who {a c : Int} (hi : Inv N M) (ha : inI a) (hc : inI c) : m_X11_who a c M (fun r1 M1 => m_X12_who a c M1 (fun r2 M2 => Good N r1 r2 M2)) := by
  obtain ⟨t, b, p, hp, hx, hy⟩ := hi
  have w2 := hp.2.1.1.2.1
  have w1 := hp.2.1.1.1
  have hno : ¬ ((0 ≤ a ∧ a < wPl (pW p)) ∧ (0 ≤ c ∧ c ≤ 8)) → m_X12_who a c M (fun r2 M2 => Good N (-1) r2 M2) := fun q => by
    unfold m_X12_who m_X12_who_J18
    refine y_isPlace hy hp ha (fun q1 q2 => ⟨by decide, fun z => absurd z (by decide), fun _ => ?_⟩) (fun _ => ⟨by decide, fun _ => fin hp hx hy (by decide), fun z => absurd rfl z⟩)
    exact y_is2 hc (by decide) (by decide) (fun q3 q4 => absurd ⟨⟨q1, q2⟩, q3, q4⟩ q) (fun _ => ⟨by decide, fun _ => fin hp hx hy (by decide), fun z => absurd rfl z⟩)
  unfold m_X11_who m_X11_who_J18
  refine x_isPlace hx hp ha (fun q1 q2 => ⟨by decide, fun z => absurd z (by decide), fun _ => ⟨hc, fun q => hno (by omega), fun q3 => ⟨hc, fun q4 => ?_, fun q => hno (by omega)⟩⟩⟩) (fun q => ⟨by decide, fun _ => hno (fun z => q z.1), fun z => absurd rfl z⟩)
  refine x_thisDay hx hp fun M1 hx1 o1 d1 => ⟨by decide, by decide, by omega, ?_⟩
  have hy1 := hy.st o1
  have e := d1.2 c.toNat a.toNat (by omega) (by omega)
  rw [step_of (by omega), step_of (by omega)] at e
  rw [e]
  unfold m_X12_who m_X12_who_J18
  refine y_isPlace hy1 hp ha (fun q1 q2 => ⟨by decide, fun z => absurd z (by decide), fun _ => ?_⟩) (fun q => by omega)
  refine y_is2 hc (by decide) (by decide) (fun q3 q4 => ⟨by decide, fun z => absurd z (by decide), fun _ => ?_⟩) (fun q => by omega)
  refine y_run0 hy1 hp fun M2 hy2 o2 d2 => ?_
  have l1 := whoP_lt (walkP (pW p) (pS p) c.toNat) a (wPn (pW p))
  have l2 : 2 ^ wPn (pW p) ≤ 2 ^ 6 := Nat.pow_le_pow_right (by decide) w2
  refine y_whoAt (f := walkP (pW p) (pS p) c.toNat) hy2.2.1.1 hy2.2.1.2.1.1 hy2.2.1.2.1.2.2.1 w2 (by omega) (fun q hq => ?_) (fun q hq => ?_) ha ?_
  · have := d2 c.toNat q hq (by omega)
    rwa [step_of (by omega)] at this
  · have := walkP_rng hp.2.2.1.1.1 c.toNat q hq
    omega
  · exact fin hp (hx1.st o2) hy2 (by omega)
theorem s_agrees (hi : Inv N M) : m_X11_agrees M (fun r1 M1 => m_X12_agrees M1 (fun r2 M2 => Good N r1 r2 M2)) := by
  obtain ⟨t, b, p, hp, hx, hy⟩ := hi
  unfold m_X11_agrees m_X11_agrees_J22
  refine x_thisDay hx hp fun M1 hx1 o1 d1 => ⟨by decide, x_agreesWith (by decide) (by decide) hx1.2.2.1.1.2.2.2.2 hp.2.1.1 hp.2.2.1.1.1 d1 ?_⟩
  have hy1 := hy.st o1
  have Y : ∀ r, r = agP (pW p) (pS p) → m_X12_agrees M1 (fun r2 M2 => Good N r r2 M2) := fun r hr => by
    unfold m_X12_agrees m_X12_agrees_J13
    refine y_isAgreed hy1.2.1.2.1 hy1.2.2.1.1 hp.2.1.1 hp.2.2.1.1.1 hy1.2.1.1 fun M2 o2 d2 => ?_
    rw [← hr]
    rcases agP_01 (pW p) (pS p) with z | z
    · rw [z] at hr; subst hr
      exact ⟨by decide, fun _ => fin hp (hx1.st o2.scr.st) (hy1.scr hp o2.scr) (by decide), fun z => absurd rfl z⟩
    · rw [z] at hr; subst hr
      exact ⟨by decide, fun z => absurd z (by decide), fun _ => fin hp (hx1.st o2.scr.st) (hy1.scr hp o2.scr) (by decide)⟩
  rcases agP_01 (pW p) (pS p) with z | z
  · rw [z]
    exact ⟨by decide, fun _ => Y 0 z.symm, fun z => absurd rfl z⟩
  · rw [z]
    exact ⟨by decide, fun z => absurd z (by decide), fun _ => Y 1 z.symm⟩
end
