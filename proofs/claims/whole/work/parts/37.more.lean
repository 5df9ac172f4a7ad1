/-! counts, frames, days kept -/
section
variable {N : Nat} {M : Mem}
theorem trN_I {W : TW} {S : TS} (hS : SOK W S) : inI (trN W S (sRe S) (sRe S).length) := by
  have := trN_rng W S (sRe S) (sRe S).length
  have := hS.2.2.2.2.1
  omega
theorem s_has {a : Int} (hi : Inv N M) (ha : inI a) : m_X11_has a M (fun r1 M1 => m_X12_has a M1 (fun r2 M2 => Good N r1 r2 M2)) := by
  obtain ⟨t, b, p, hp, hx, hy⟩ := hi
  have w1 := hp.2.1.1.1
  have w2 := hp.2.1.1.2.1
  have r1 := hp.2.1.2.2.2
  have d1 := hp.2.2.1.1.1.1
  have d2 := hp.2.2.1.1.1.2.1
  have d3 := hp.2.2.1.1.2.1
  have d4 := hp.2.2.1.1.2.2
  have d5 := hp.1.2.2.2.2.2.1
  have d6 := hp.2.2.2.1
  have d7 := hp.1.2.2.2.2.2.2.2.2.2
  have d8 := hp.2.2.1.1.1.2.2.1
  have hb := hy.2.1.2.1.1
  unfold m_X11_has
  dsimp only
  have Y : ∀ r : Int, inI r → (a = 0 → r = M 201 b) → (a = 1 → r = M 202 b) → (a = 2 → r = M 205 b) → (a = 3 → r = M 227 0) → (a = 4 → r = M 230 0) → (a = 5 → r = (pop (sWa (pS p)) : Nat)) → (a = 7 → r = M 232 0) → (a = 8 → r = M 199 60) → (a = 9 → r = M 199 55) → (a = 10 → r = M 199 56) → (a < 0 ∨ 10 < a → r = -1) → a ≠ 6 → m_X12_has a M (fun r2 M2 => Good N r r2 M2) := by
    intro r hr q0 q1 q2 q3 q4 q5 q7 q8 q9 q10 qn q6
    unfold m_X12_has
    rw [hy.2.1.1]
    refine ⟨ha, fun z => ⟨by omega, ?_⟩, fun z => ⟨by omega, ?_⟩, fun z => ⟨by omega, ?_⟩, fun z => ?_, fun z => ?_, fun z => ?_, fun z => absurd z q6, fun z => ?_, fun z => ?_, fun z => ?_, fun z => ?_, fun z => ?_⟩
    · rw [← q0 z]; exact fin hp hx hy hr
    · rw [← q1 z]; exact fin hp hx hy hr
    · rw [← q2 z]; exact fin hp hx hy hr
    · rw [← q3 z]; exact fin hp hx hy hr
    · rw [← q4 z]; exact fin hp hx hy hr
    · have e : M 229 0 = _ := hy.2.2.1.1.2.2.1
      rw [e]
      refine y_bits (by omega) ?_
      rw [Int.toNat_natCast, ← q5 z]
      exact fin hp hx hy hr
    · rw [← q7 z]; exact fin hp hx hy hr
    · rw [← q8 z]; exact fin hp hx hy hr
    · rw [← q9 z]; exact fin hp hx hy hr
    · rw [← q10 z]; exact fin hp hx hy hr
    · rw [← qn z]; exact fin hp hx hy hr
  have e0 : M (M 0 2) 0 = M 201 b := by rw [hx.2.1.1, hx.2.1.2.2.1.2.1, hy.2.1.2.1.2.1]
  have e1 : M (M 0 2) 2 = M 202 b := by rw [hx.2.1.1, hx.2.1.2.2.2.2.2.1, hy.2.1.2.2.2.2.1]
  have e2 : M (M 0 2) 5 = M 205 b := by rw [hx.2.1.1, hx.2.1.2.2.1.2.2.1, hy.2.1.2.1.2.2.1]
  have e3 : M 40 0 = M 227 0 := by rw [hx.2.2.1.1.2.1, hy.2.2.1.1.2.1]
  have e4 : M 42 0 = M 230 0 := by
    have z : M 42 0 = _ := hx.2.2.1.1.2.2.2.2.1
    rw [z, hy.2.2.1.1.2.2.2.2.1]
  have e5 : M 40 2 = _ := hx.2.2.1.1.2.2.1
  have e7 : (if 40 < (pK p).length then 40 else ((pK p).length : Nat) : Int) = M 232 0 := by
    have z := hy.2.2.1.2.1
    rw [z]
    by_cases c : (pK p).length < 40
    · rw [if_pos c, if_neg (by omega)]
    · rw [if_neg c]
      split <;> omega
  have i7 : inI (if 40 < (pK p).length then 40 else ((pK p).length : Nat) : Int) := by split <;> omega
  have e8 : M 187 1 = M 199 60 := by rw [hx.1.2.2.2.2.2.2.1, hy.1.2.2.2.2.2.1]
  have e9 : M 62 2 = M 199 55 := by rw [hx.2.2.2.1.1, hy.2.2.2.1]
  have e10 : M 0 13 = M 199 56 := by rw [hx.1.2.2.2.2.2.2.2.2.2.2, hy.1.2.2.2.2.2.2.2.2.2]
  have kt : kd (M 0 2) = 8 := by rw [hx.2.1.1]; exact hx.2.1.2.2.1.1
  have f0 := hy.2.1.2.1.2.1
  have f1 := hy.2.1.2.2.2.2.1
  have f2 := hy.2.1.2.1.2.2.1
  have f3 := hy.2.2.1.1.2.1
  have f4 := hy.2.2.1.1.2.2.2.2.1
  have f8 := hy.1.2.2.2.2.2.1
  have f9 := hy.2.2.2.1
  have f10 := hy.1.2.2.2.2.2.2.2.2.2
  have l5 := pop_le (sWa (pS p)) (by omega)
  refine ⟨ha, fun q => ⟨kt, Y _ (by omega) (fun _ => e0) ?_ ?_ ?_ ?_ ?_ ?_ ?_ ?_ ?_ ?_ ?_⟩, fun q => ⟨kt, Y _ (by omega) ?_ (fun _ => e1) ?_ ?_ ?_ ?_ ?_ ?_ ?_ ?_ ?_ ?_⟩, fun q => ⟨kt, Y _ (by omega) ?_ ?_ (fun _ => e2) ?_ ?_ ?_ ?_ ?_ ?_ ?_ ?_ ?_⟩, fun q => Y _ (by omega) ?_ ?_ ?_ (fun _ => e3) ?_ ?_ ?_ ?_ ?_ ?_ ?_ ?_, fun q => Y _ (by omega) ?_ ?_ ?_ ?_ (fun _ => e4) ?_ ?_ ?_ ?_ ?_ ?_ ?_, fun q => ?_, fun q => ?_, fun q => x_told hx hp (Y _ i7 ?_ ?_ ?_ ?_ ?_ ?_ (fun _ => e7) ?_ ?_ ?_ ?_ ?_), fun q => Y _ (by omega) ?_ ?_ ?_ ?_ ?_ ?_ ?_ (fun _ => e8) ?_ ?_ ?_ ?_, fun q => Y _ (by omega) ?_ ?_ ?_ ?_ ?_ ?_ ?_ ?_ (fun _ => e9) ?_ ?_ ?_, fun q => Y _ (by omega) ?_ ?_ ?_ ?_ ?_ ?_ ?_ ?_ ?_ (fun _ => e10) ?_ ?_, fun q => Y _ (by decide) ?_ ?_ ?_ ?_ ?_ ?_ ?_ ?_ ?_ ?_ (fun _ => rfl) ?_⟩
  all_goals first | (intro z; omega) | skip
  · rw [e5]
    refine j_bitCount (by omega) ?_
    rw [Int.toNat_natCast]
    refine Y _ (by omega) ?_ ?_ ?_ ?_ ?_ (fun _ => rfl) ?_ ?_ ?_ ?_ ?_ ?_
    all_goals (intro z; omega)
  · refine x_thisDay hx hp fun M1 hx1 o1 d1 => ⟨by decide, x_trueOnes (by decide) (by decide) hx1.2.2.1.1.2.2.2.2 hp.2.1.1 hp.2.2.1.1.1.2.2.2.2 d1 ?_⟩
    have hy1 := hy.st o1
    unfold m_X12_has
    refine ⟨ha, fun z => by omega, fun z => by omega, fun z => by omega, fun z => by omega, fun z => by omega, fun z => by omega, fun z => ?_, fun z => by omega, fun z => by omega, fun z => by omega, fun z => by omega, fun z => by omega⟩
    refine y_run0 hy1 hp fun M2 hy2 o2 d2 => y_trues hy2.2.1.2.1 hy2.2.1.1 (by decide) hy2.2.2.1.1.2.2.2.2 hp.2.1.1 hp.2.2.1.1.1 hp.2.2.1.1.1.2.2.2.2 d2 ?_
    exact fin hp (hx1.st o2) hy2 (trN_I hp.2.2.1.1.1)
theorem s_frame {a c : Int} (hi : Inv N M) (ha : inI a) (hc : inI c) : m_X11_frame a c M (fun r1 M1 => m_X12_frame a c M1 (fun r2 M2 => Good N r1 r2 M2)) := by
  obtain ⟨t, b, p, hp, hx, hy⟩ := hi
  have w1 := hp.2.1.1.1
  have w2 := hp.2.1.1.2.1
  have l8 := hp.2.2.1.1.2.1
  have fr := hp.2.2.1.1.1.2.2.2.2
  have f4 : M 230 0 = _ := hy.2.2.1.1.2.2.2.2.1
  have hno : ¬ ((0 ≤ a ∧ a < (sRe (pS p)).length) ∧ (0 ≤ c ∧ c ≤ 4)) → m_X12_frame a c M (fun r2 M2 => Good N (-1) r2 M2) := fun q => by
    unfold m_X12_frame m_X12_frame_J25
    rw [f4]
    refine y_is2 ha (by decide) (by omega) (fun q1 q2 => ⟨by decide, fun z => absurd z (by decide), fun _ => ?_⟩) (fun _ => ⟨by decide, fun _ => fin hp hx hy (by decide), fun z => absurd rfl z⟩)
    exact y_is2 hc (by decide) (by decide) (fun q3 q4 => by omega) (fun _ => ⟨by decide, fun _ => fin hp hx hy (by decide), fun z => absurd rfl z⟩)
  unfold m_X11_frame m_X11_frame_J90
  refine x_isFrame hx hp ha (fun q1 q2 => ⟨by decide, fun z => absurd z (by decide), fun _ => ⟨hc, ?_⟩⟩) (fun q => ⟨by decide, fun _ => hno (fun z => q z.1), fun z => absurd rfl z⟩)
  obtain ⟨n, rfl⟩ : ∃ n : Nat, a = n := ⟨a.toNat, by omega⟩
  have hn : n < (sRe (pS p)).length := by omega
  have fk := fr.2.1 _ (getD_mem (d := (0, 0, 0)) hn)
  have Y : ∀ (M1 : Mem) (r : Int), IX M1 t p → IY M1 b p → inI r → (c = 0 → r = ((sRe (pS p)).getD n (0, 0, 0)).1) → (c = 1 → r = ((sRe (pS p)).getD n (0, 0, 0)).2.1) → (c = 2 → r = ((sRe (pS p)).getD n (0, 0, 0)).2.2) → (c = 3 → (trP (pW p) (pS p) ((sRe (pS p)).getD n (0, 0, 0)) → r = 1) ∧ (¬ trP (pW p) (pS p) ((sRe (pS p)).getD n (0, 0, 0)) → r = 0)) → (c = 4 → r = (whoP (walkP (pW p) (pS p) ((sRe (pS p)).getD n (0, 0, 0)).1.toNat) (wPn (pW p)) ((sRe (pS p)).getD n (0, 0, 0)).2.1 : Nat)) → 0 ≤ c → c ≤ 4 → m_X12_frame n c M1 (fun r2 M2 => Good N r r2 M2) := by
    intro M1 r hx1 hy1 hr q0 q1 q2 q3 q4 c0 c4
    have f4 : M1 230 0 = _ := hy1.2.2.1.1.2.2.2.2.1
    have fe := hy1.2.2.1.1.2.2.2.2.2 n hn
    rw [show 3 * (9 * (0 : Int) + n) = 3 * n by omega] at fe
    unfold m_X12_frame m_X12_frame_J25
    rw [f4]
    refine y_is2 ha (by decide) (by omega) (fun _ _ => ⟨by decide, fun z => absurd z (by decide), fun _ => ?_⟩) (fun z => by omega)
    refine y_is2 hc (by decide) (by decide) (fun _ _ => ⟨by decide, fun z => absurd z (by decide), fun _ => ⟨hc, fun z => ?_, fun z => ⟨by omega, ?_⟩⟩⟩) (fun z => by omega)
    · refine y_run0 hy1 hp fun M2 hy2 o2 d2 => ⟨hc, fun c3 => ?_, fun c3 => ?_⟩
      · obtain ⟨q31, q30⟩ := q3 c3
        refine y_isTrue hy2.2.1.2.1 hy2.2.1.1 (by decide) hy2.2.2.1.1.2.2.2.2 hp.2.1.1 hp.2.2.1.1.1 fr hn d2 ?_
        by_cases z : trP (pW p) (pS p) ((sRe (pS p)).getD n (0, 0, 0))
        · have z' := z
          unfold trP at z'
          rw [if_pos z']
          have := q31 z
          subst this
          exact ⟨by decide, fun z => absurd z (by decide), fun _ => fin hp (hx1.st o2) hy2 (by decide)⟩
        · have z' := z
          unfold trP at z'
          rw [if_neg z']
          have := q30 z
          subst this
          exact ⟨by decide, fun _ => fin hp (hx1.st o2) hy2 (by decide), fun z => absurd rfl z⟩
      · have fe2 := hy2.2.2.1.1.2.2.2.2.2 n hn
        rw [show 3 * (9 * (0 : Int) + n) = 3 * n by omega] at fe2
        refine ⟨by omega, by omega, ?_⟩
        rw [fe2.1, fe2.2.1]
        unfold frOKP at fk
        refine y_whoAt (f := walkP (pW p) (pS p) ((sRe (pS p)).getD n (0, 0, 0)).1.toNat) hy2.2.1.1 hy2.2.1.2.1.1 hy2.2.1.2.1.2.2.1 w2 (by omega) (fun q hq => ?_) (fun q hq => ?_) (by omega) ?_
        · have := d2 ((sRe (pS p)).getD n (0, 0, 0)).1.toNat q hq (by omega)
          rwa [step_of (by omega)] at this
        · have := walkP_rng hp.2.2.1.1.1 ((sRe (pS p)).getD n (0, 0, 0)).1.toNat q hq
          omega
        · rw [← q4 (by omega)]
          exact fin hp (hx1.st o2) hy2 hr
    · have : c = 0 ∨ c = 1 ∨ c = 2 := by omega
      rcases this with z | z | z
      · rw [z, show 3 * (n : Int) + 0 = 3 * n by omega, fe.1, ← q0 z]
        exact fin hp hx1 hy1 hr
      · rw [z, fe.2.1, ← q1 z]
        exact fin hp hx1 hy1 hr
      · rw [z, fe.2.2, ← q2 z]
        exact fin hp hx1 hy1 hr
  have xe := hx.2.2.1.1.2.2.2.2.2 n hn
  rw [show (40 : Int) + 2 + 1 = 43 from rfl, show (40 : Int) + 2 + 2 = 44 from rfl, show (40 : Int) + 2 + 3 = 45 from rfl] at xe
  unfold frOKP at fk
  refine ⟨fun q => ⟨by omega, Y M _ hx hy (by omega) (fun _ => xe.1) ?_ ?_ ?_ ?_ ?_ ?_⟩, fun q => ⟨by omega, Y M _ hx hy (by omega) ?_ (fun _ => xe.2.1) ?_ ?_ ?_ ?_ ?_⟩, fun q => ⟨by omega, Y M _ hx hy (by omega) ?_ ?_ (fun _ => xe.2.2) ?_ ?_ ?_ ?_⟩, fun q => ?_, fun q => ?_, fun q => hno (by omega)⟩
  all_goals first | (intro z; omega) | omega | skip
  · refine x_thisDay hx hp fun M1 hx1 o1 d1 => ⟨by decide, x_isTrue (by decide) (by decide) hx1.2.2.1.1.2.2.2.2 hp.2.1.1 fr hn (d1.at hp.2.1.1 fr hn) ?_⟩
    by_cases z : trP (pW p) (pS p) ((sRe (pS p)).getD n (0, 0, 0))
    · have z' := z
      unfold trP at z'
      rw [if_pos z']
      refine ⟨by decide, fun z => absurd z (by decide), fun _ => Y M1 1 hx1 (hy.st o1) (by decide) ?_ ?_ ?_ (fun _ => ⟨fun _ => rfl, fun y => absurd z y⟩) ?_ (by omega) (by omega)⟩
      all_goals (intro z; omega)
    · have z' := z
      unfold trP at z'
      rw [if_neg z']
      refine ⟨by decide, fun _ => Y M1 0 hx1 (hy.st o1) (by decide) ?_ ?_ ?_ (fun _ => ⟨fun y => absurd y z, fun _ => rfl⟩) ?_ (by omega) (by omega), fun z => absurd rfl z⟩
      all_goals (intro z; omega)
  · refine x_thisDay hx hp fun M1 hx1 o1 d1 => ⟨by decide, by omega, by omega, ?_⟩
    have xe1 := hx1.2.2.1.1.2.2.2.2.2 n hn
    rw [show (40 : Int) + 2 + 1 = 43 from rfl, show (40 : Int) + 2 + 2 = 44 from rfl, show (40 : Int) + 2 + 3 = 45 from rfl] at xe1
    have e := d1.at hp.2.1.1 fr hn
    have l1 := whoP_lt (walkP (pW p) (pS p) ((sRe (pS p)).getD n (0, 0, 0)).1.toNat) ((sRe (pS p)).getD n (0, 0, 0)).2.1 (wPn (pW p))
    have l2 : 2 ^ wPn (pW p) ≤ 2 ^ 6 := Nat.pow_le_pow_right (by decide) w2
    rw [xe1.1, xe1.2.1]
    refine ⟨by decide, by omega, ?_⟩
    rw [e]
    refine Y M1 _ hx1 (hy.st o1) (by omega) ?_ ?_ ?_ ?_ (fun _ => rfl) (by omega) (by omega)
    all_goals (intro z; omega)
theorem s_kept {a c : Int} (hi : Inv N M) (ha : inI a) (hc : inI c) : m_X11_kept a c M (fun r1 M1 => m_X12_kept a c M1 (fun r2 M2 => Good N r1 r2 M2)) := by
  obtain ⟨t, b, p, hp, hx, hy⟩ := hi
  have d2 := hp.2.2.1.1.1.2.1
  have d4 := hp.2.2.1.1.2.2
  obtain ⟨ky1, ky2⟩ := hy.2.2.1.2
  have e4 : M 40 4 = _ := hx.2.2.1.2.1
  have hm : (if 40 < (pK p).length then 40 else ((pK p).length : Nat) : Int) = M 232 0 := by
    rw [ky1]
    by_cases c : (pK p).length < 40
    · rw [if_pos c, if_neg (by omega)]
    · rw [if_neg c]
      split <;> omega
  have i7 : 0 ≤ M 232 0 ∧ M 232 0 ≤ 40 ∧ M 232 0 ≤ (pK p).length := by rw [ky1]; split <;> omega
  have hno : ¬ ((0 ≤ a ∧ a < M 232 0) ∧ (0 ≤ c ∧ c ≤ 2)) → m_X12_kept a c M (fun r2 M2 => Good N (-1) r2 M2) := fun q => by
    unfold m_X12_kept m_X12_kept_J38 m_X12_kept_J39
    refine y_is2 ha (by decide) (by omega) (fun q1 q2 => ⟨by decide, fun z => absurd z (by decide), fun _ => ?_⟩) (fun _ => ⟨by decide, fun _ => fin hp hx hy (by decide), fun z => absurd rfl z⟩)
    exact y_is2 hc (by decide) (by decide) (fun q3 q4 => by omega) (fun _ => ⟨by decide, fun _ => fin hp hx hy (by decide), fun z => absurd rfl z⟩)
  unfold m_X11_kept m_X11_kept_J23
  refine x_told hx hp ?_
  rw [hm]
  refine ⟨ha, fun q => hno (by omega), fun q1 => ⟨ha, by omega, fun q => hno (by omega), fun q2 => ⟨hc, fun q => hno (by omega), fun q3 => ⟨hc, fun q4 => ?_, fun q => hno (by omega)⟩⟩⟩⟩
  obtain ⟨n, rfl⟩ : ∃ n : Nat, a = n := ⟨a.toNat, by omega⟩
  obtain ⟨k1, k2, k3⟩ := ky2 n (by omega) (by omega)
  rw [show 3 * (40 * (0 : Int) + n) = 3 * n by omega] at k1 k2 k3
  have mm : ((if (pK p).length < 40 then (pK p).length else 40 : Nat) : Int) = M 232 0 := by rw [ky1]; split <;> rfl
  have jj : (pK p).length - (if (pK p).length < 40 then (pK p).length else 40) + n < (pK p).length := by omega
  obtain ⟨x1, x2, x3⟩ := hx.2.2.1.2.2 _ jj
  have ro := hp.2.2.1.2 _ (getD_mem (d := (0, 0, 0)) jj)
  unfold rowOK at ro
  rw [← x1] at k1
  rw [← x2] at k2
  rw [← x3] at k3
  rw [← x1, ← x2, ← x3] at ro
  have j2 : (((pK p).length - (if (pK p).length < 40 then (pK p).length else 40) + n : Nat) : Int) = M 40 4 - M 232 0 + n := by omega
  rw [j2] at k1 k2 k3 ro
  unfold m_X3_keptOf
  refine ⟨by omega, ?_⟩
  unfold m_X12_kept m_X12_kept_J38 m_X12_kept_J39
  refine y_is2 ha (by decide) (by omega) (fun q1 q2 => ⟨by decide, fun z => absurd z (by decide), fun _ => ?_⟩) (fun q => by omega)
  refine y_is2 hc (by decide) (by decide) (fun q1 q2 => ⟨by decide, fun z => absurd z (by decide), fun _ => ⟨by omega, ?_⟩⟩) (fun q => by omega)
  have : c = 0 ∨ c = 1 ∨ c = 2 := by omega
  rcases this with z | z | z
  · rw [z, show 3 * (n : Int) + 0 = 3 * n by omega, k1, show 3 * (M 40 4 - M 232 0 + (n : Int)) + 0 = 3 * (M 40 4 - M 232 0 + n) by omega]
    exact fin hp hx hy (by omega)
  · rw [z, k2]
    exact fin hp hx hy (by omega)
  · rw [z, k3]
    exact fin hp hx hy (by omega)
end
