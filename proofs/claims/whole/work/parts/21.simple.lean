/-! the tape, refusals, the seed: the small methods -/
theorem x_deny {a : Int} {M : Mem} {Q : Int → Mem → Prop} (ha : 0 ≤ a ∧ a < 6) (h : Q 0 (up M 198 a (M 198 a + 1))) : m_X11_deny a M Q := ⟨ha, ha, fun _ e => e ▸ h⟩
theorem x_refuse {a : Int} {M : Mem} {Q : Int → Mem → Prop} (ha : 0 ≤ a ∧ a < 6) (h : Q (-1) (up M 198 a (M 198 a + 1))) : m_X11_refuse a M Q := ⟨ha, ha, fun _ e => e ▸ h⟩
theorem y_refuses {a : Int} {M : Mem} {Q : Int → Mem → Prop} (ha : 0 ≤ a ∧ a < 6) (h : Q (-1) (up M 226 a (M 226 a + 1))) : m_X12_refuses a M Q := ⟨ha, ha, fun _ e => e ▸ h⟩
theorem y_is {a b c : Int} {M : Mem} {Q : Int → Mem → Prop} (ha : inI a) (hb : inI b) (hc : inI c) (h : Q (if b ≤ a ∧ a ≤ c then 1 else 0) M) : m_X12_is a b c M Q := by
  unfold m_X12_is m_X12_is_J14 m_X12_is_J15
  refine ⟨ha, hb, fun q => ⟨by decide, ?_⟩, fun q => ⟨ha, hc, fun q2 => ⟨by decide, ?_⟩, fun q2 => ⟨by decide, ?_⟩⟩⟩
  · rwa [if_neg (by omega)] at h
  · rwa [if_neg (by omega)] at h
  · rwa [if_pos (by omega)] at h
/-- at the end of the row arr, whose length stands in the slot sl of ob, n numbers g have come -/
def ext (M M' : Mem) (ob sl arr : Int) (n : Nat) (g : Nat → Int) : Prop :=
  (∀ a, a ≠ ob → a ≠ arr → M' a = M a) ∧ (∀ k, k ≠ sl → M' ob k = M ob k) ∧ M' ob sl = M ob sl + n ∧ (∀ i, i < M ob sl → M' arr i = M arr i) ∧ (∀ j : Nat, j < n → M' arr (M ob sl + j) = g j)
theorem ext.one {M : Mem} {ob sl arr b : Int} (hne : ob ≠ arr) {M1 M2 : Mem} (e1 : M1 = up M arr (M ob sl) b) (e2 : M2 = up M1 ob sl (M1 ob sl + 1)) : ext M M2 ob sl arr 1 (fun _ => b) := by
  subst e1; subst e2
  refine ⟨fun a h1 h2 => ?_, fun k hk => ?_, ?_, fun i hi => ?_, fun j hj => ?_⟩
  · rw [up_ne _ h1, up_ne _ h2]
  · simp [up_get, hk, hne]
  · simp [up_get, hne]
  · simp only [up_get]
    rw [if_neg (by intro h; exact hne h.1.symm), if_neg (by omega)]
  · have : j = 0 := by omega
    subst this
    simp [up_get, Ne.symm hne]
theorem ext.then {M M1 M2 : Mem} {ob sl arr : Int} {n m : Nat} {g g' : Nat → Int} (hne : ob ≠ arr) (h : ext M M1 ob sl arr n g) (k : ext M1 M2 ob sl arr m g') : ext M M2 ob sl arr (n + m) (fun j => if j < n then g j else g' (j - n)) := by
  obtain ⟨h1, h2, h3, h4, h5⟩ := h
  obtain ⟨k1, k2, k3, k4, k5⟩ := k
  refine ⟨fun a p q => by rw [k1 a p q, h1 a p q], fun a p => by rw [k2 a p, h2 a p], by rw [k3, h3]; omega, fun i hi => by rw [k4 i (by omega), h4 i hi], fun j hj => ?_⟩
  by_cases c : j < n
  · simp only [c, if_true]
    rw [k4 _ (by omega), h5 j c]
  · simp only [c, if_false]
    rw [← k5 (j - n) (by omega), h3]
    congr 1
    omega
theorem ext.cong {M M' : Mem} {ob sl arr : Int} {n : Nat} {g g' : Nat → Int} (h : ext M M' ob sl arr n g) (e : ∀ j, j < n → g j = g' j) : ext M M' ob sl arr n g' := ⟨h.1, h.2.1, h.2.2.1, h.2.2.2.1, fun j hj => by rw [h.2.2.2.2 j hj, e j hj]⟩
/-- the bytes of a number, the highest first -/
def by4 (v : Int) (j : Nat) : Int := zand (zshr v ((24 - 8 * j : Nat) : Int)) 255
theorem x_add_s {Q : Mem → Prop} {v : Int} {f s : Nat} {M : Mem} (hs : s ≤ 24) (h0 : 0 ≤ M 1 1) (h1 : M 1 1 < 1600) (h : ∀ M2, ext M M2 1 1 2 1 (fun _ => zand (zshr v s) 255) → m_X7_add_L3 Q v f ((s : Int) + (-8)) M2) : m_X7_add_L3 Q v (f + 1) s M := by
  unfold m_X7_add_L3
  refine ⟨by omega, fun q => by omega, fun _ => ⟨by omega, fun q => by omega, fun _ => ⟨⟨h0, h1⟩, fun M1 e1 M2 e2 => ?_⟩⟩⟩
  rw [zb_same v s hs] at e1
  exact h M2 (ext.one (by decide) e1 e2)
theorem x_add {v : Int} {M : Mem} {Q : Mem → Prop} (h0 : 0 ≤ M 1 1) (h1 : M 1 1 + 4 ≤ 1600) (h : ∀ M', ext M M' 1 1 2 4 (by4 v) → Q M') : m_X7_add v M Q := by
  refine ⟨5, x_add_s (s := 24) (by decide) h0 (by omega) fun M1 x1 => ?_⟩
  have l1 := x1.2.2.1
  refine x_add_s (s := 16) (by decide) (by omega) (by omega) fun M2 x2 => ?_
  have l2 := x2.2.2.1
  refine x_add_s (s := 8) (by decide) (by omega) (by omega) fun M3 x3 => ?_
  have l3 := x3.2.2.1
  refine x_add_s (s := 0) (by decide) (by omega) (by omega) fun M4 x4 => ?_
  unfold m_X7_add_L3 m_X7_add_J49
  refine ⟨by decide, fun _ => ?_, fun q => absurd (by decide) q⟩
  refine h M4 ((((x1.then (by decide) x2).then (by decide) x3).then (by decide) x4).cong fun j hj => ?_)
  rcases (show j = 0 ∨ j = 1 ∨ j = 2 ∨ j = 3 by omega) with rfl | rfl | rfl | rfl <;> rfl
theorem y_put_s {Q : Mem → Prop} {v : Int} {f s : Nat} {M : Mem} (hs : s ≤ 24) (h0 : 0 ≤ M 199 1) (h1 : M 199 1 < 1600) (h : ∀ M2, ext M M2 199 1 200 1 (fun _ => zand (zshr v s) 255) → m_X12_put_L3 Q v f ((s : Int) + (-8)) M2) : m_X12_put_L3 Q v (f + 1) s M := by
  unfold m_X12_put_L3
  refine ⟨by omega, fun q => by omega, fun _ => ⟨⟨h0, by omega⟩, fun M1 e1 M2 e2 => ?_⟩⟩
  exact h M2 (ext.one (by decide) e1 e2)
theorem y_put {v : Int} {M : Mem} {Q : Mem → Prop} (h0 : 0 ≤ M 199 1) (h1 : M 199 1 + 4 ≤ 1600) (h : ∀ M', ext M M' 199 1 200 4 (by4 v) → Q M') : m_X12_put v M Q := by
  refine ⟨5, y_put_s (s := 24) (by decide) h0 (by omega) fun M1 x1 => ?_⟩
  have l1 := x1.2.2.1
  refine y_put_s (s := 16) (by decide) (by omega) (by omega) fun M2 x2 => ?_
  have l2 := x2.2.2.1
  refine y_put_s (s := 8) (by decide) (by omega) (by omega) fun M3 x3 => ?_
  have l3 := x3.2.2.1
  refine y_put_s (s := 0) (by decide) (by omega) (by omega) fun M4 x4 => ?_
  unfold m_X12_put_L3
  refine ⟨by decide, fun _ => ?_, fun q => absurd (by decide) q⟩
  refine h M4 ((((x1.then (by decide) x2).then (by decide) x3).then (by decide) x4).cong fun j hj => ?_)
  rcases (show j = 0 ∨ j = 1 ∨ j = 2 ∨ j = 3 by omega) with rfl | rfl | rfl | rfl <;> rfl
def by20 (a b c d e : Int) (j : Nat) : Int := if j < 16 then (if j < 12 then (if j < 8 then (if j < 4 then by4 a j else by4 b (j - 4)) else by4 c (j - 8)) else by4 d (j - 12)) else by4 e (j - 16)
theorem by4_rng (v : Int) (j : Nat) : 0 ≤ by4 v j ∧ by4 v j < 256 := zand_255 _
theorem by20_rng (a b c d e : Int) (j : Nat) : 0 ≤ by20 a b c d e j ∧ by20 a b c d e j < 256 := by
  unfold by20
  repeat' split
  all_goals exact by4_rng _ _
theorem x_feed {a b c d e : Int} {M : Mem} {Q : Int → Mem → Prop} (h0 : 0 ≤ M 1 1 ∧ M 1 1 ≤ 1600) (hy : M 1 1 + 20 ≤ 1600 → ∀ M', ext M M' 1 1 2 20 (by20 a b c d e) → Q (M 1 1 + 20) M') (hn : ¬ M 1 1 + 20 ≤ 1600 → Q (-1) (up M 198 0 (M 198 0 + 1))) : m_X11_feed a b c d e M Q := by
  refine ⟨by omega, fun q => ?_, fun q => x_refuse (by decide) (hn q)⟩
  refine x_add h0.1 (by omega) fun M1 x1 => ?_
  have l1 := x1.2.2.1
  refine x_add (by omega) (by omega) fun M2 x2 => ?_
  have l2 := x2.2.2.1
  refine x_add (by omega) (by omega) fun M3 x3 => ?_
  have l3 := x3.2.2.1
  refine x_add (by omega) (by omega) fun M4 x4 => ?_
  have l4 := x4.2.2.1
  refine x_add (by omega) (by omega) fun M5 x5 => ?_
  have l5 := x5.2.2.1
  have := hy q M5 (((((x1.then (by decide) x2).then (by decide) x3).then (by decide) x4).then (by decide) x5).cong fun j _ => rfl)
  rwa [show M5 1 1 = M 1 1 + 20 by omega]
theorem y_feed {a b c d e : Int} {M : Mem} {Q : Int → Mem → Prop} (h0 : 0 ≤ M 199 1 ∧ M 199 1 ≤ 1600) (hy : M 199 1 + 20 ≤ 1600 → ∀ M', ext M M' 199 1 200 20 (by20 a b c d e) → Q (M 199 1 + 20) M') (hn : ¬ M 199 1 + 20 ≤ 1600 → Q (-1) (up M 226 0 (M 226 0 + 1))) : m_X12_feed a b c d e M Q := by
  refine ⟨by omega, fun q => ?_, fun q => y_refuses (by decide) (hn q)⟩
  refine y_put h0.1 (by omega) fun M1 x1 => ?_
  have l1 := x1.2.2.1
  refine y_put (by omega) (by omega) fun M2 x2 => ?_
  have l2 := x2.2.2.1
  refine y_put (by omega) (by omega) fun M3 x3 => ?_
  have l3 := x3.2.2.1
  refine y_put (by omega) (by omega) fun M4 x4 => ?_
  have l4 := x4.2.2.1
  refine y_put (by omega) (by omega) fun M5 x5 => ?_
  have l5 := x5.2.2.1
  have := hy q M5 (((((x1.then (by decide) x2).then (by decide) x3).then (by decide) x4).then (by decide) x5).cong fun j _ => rfl)
  rwa [show M5 199 1 = M 199 1 + 20 by omega]
theorem x_end {n : Int} {M : Mem} {Q : Int → Mem → Prop} (hn : inI n) (h0 : 0 ≤ M 1 1 ∧ M 1 1 ≤ 1600) (hy : 0 ≤ n → n ≤ M 1 1 → Q 1 (up M 1 1 n)) (hf : n < 0 ∨ M 1 1 < n → Q 0 (up M 198 0 (M 198 0 + 1))) : m_X11_end n M Q := by
  unfold m_X11_end m_X11_end_J15
  refine ⟨hn, fun q => x_deny (by decide) ⟨by decide, hf (by omega)⟩, fun q => ⟨hn, by omega, fun q2 M1 e => e ▸ hy (by omega) q2, fun q2 => x_deny (by decide) ⟨by decide, hf (by omega)⟩⟩⟩
theorem y_end {n : Int} {M : Mem} {Q : Int → Mem → Prop} (hn : inI n) (h0 : 0 ≤ M 199 1 ∧ M 199 1 ≤ 1600) (hy : 0 ≤ n → n ≤ M 199 1 → Q 1 (up M 199 1 n)) (hf : n < 0 ∨ M 199 1 < n → Q 0 (up M 226 0 (M 226 0 + 1))) : m_X12_end n M Q := by
  unfold m_X12_end m_X12_end_J12
  refine ⟨hn, fun q => y_refuses (by decide) ?_, fun q => ⟨hn, by omega, fun q2 M1 e => e ▸ hy (by omega) q2, fun q2 => y_refuses (by decide) ?_⟩⟩
  · unfold m_X12_end_J25
    exact ⟨by decide, fun _ => ⟨by decide, hf (by omega)⟩, fun z => absurd (by decide) z⟩
  · unfold m_X12_end_J25
    exact ⟨by decide, fun _ => ⟨by decide, hf (by omega)⟩, fun z => absurd (by decide) z⟩
