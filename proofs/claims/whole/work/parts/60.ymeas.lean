/-! the model measures -/
def m4 (b : Int) (M0 M : Mem) : Prop := (∀ a, a ≠ 204 → M a = M0 a) ∧ ∀ k, (k < 49 * b ∨ 49 * b + 49 ≤ k) → M 204 k = M0 204 k
theorem m4.up {b k v : Int} {M0 M M1 : Mem} (h : m4 b M0 M) (e : M1 = up M 204 k v) (hk : 49 * b ≤ k ∧ k < 49 * b + 49) : m4 b M0 M1 := ⟨fun a ha => by rw [e, up_ne _ ha, h.1 a ha], fun i hi => by rw [e, up_get, if_neg (by omega), h.2 i hi]⟩
section
variable {M0 : Mem} {b : Int} {D : TD} {Q : Mem → Prop}
abbrev ix (b : Int) (i j : Nat) : Int := 49 * b + 7 * i + j
theorem y_i10 {k2 : Int → Mem → Prop} {i : Nat} (hx : DY M0 b D) (hi : i < 7) (h : ∀ M', m4 b M0 M' → (∀ i' j : Nat, i' < 7 → j < 7 → i' ≤ i → M' 204 (ix b i' j) = F0A (aD D) i' j) → k2 ((i : Nat) + 1) M') : ∀ (d j : Nat) (M : Mem), j + d = 7 → m4 b M0 M → (∀ i' j' : Nat, i' < 7 → j' < 7 → (i' < i ∨ (i' = i ∧ j' < j)) → M 204 (ix b i' j') = F0A (aD D) i' j') → m_X12_measures_L10 k2 Q (i : Nat) (d + 1) (j : Nat) M
  | 0, j, M, hj, hm, hv => by
    unfold m_X12_measures_L10
    exact ⟨by omega, fun _ => h M hm (fun i' j' a1 a2 a3 => hv i' j' a1 a2 (by omega)), fun q => by omega⟩
  | d + 1, j, M, hj, hm, hv => by
    have hb := hx.1
    unfold m_X12_measures_L10 m_X12_at m_X12_measures_J64
    dsimp only
    rw [hm.1 199 (by decide), hx.2.1, hm.1 203 (by decide), show ln 204 = 98 from rfl]
    have fl := hx.2.2.2.2.2.2.2.2.2.2.2.1 i j hi (by omega)
    have next : ∀ v, v = F0A (aD D) i j → ((0 : Int) ≤ 49 * b + 7 * (i : Nat) + (j : Nat) ∧ 49 * b + 7 * ((i : Nat) : Int) + ((j : Nat) : Int) < 98) ∧ ∀ M20 : Mem, M20 = up M 204 (49 * b + 7 * (i : Nat) + (j : Nat)) v → m_X12_measures_L10 k2 Q (i : Nat) (d + 1) ((j : Nat) + 1) M20 := fun v hv2 => by
      refine ⟨by omega, fun M20 e20 => ?_⟩
      rw [cast1]
      refine y_i10 hx hi h d (j + 1) M20 (by omega) (hm.up e20 (by omega)) (fun i' j' a1 a2 a3 => ?_)
      have ixe : ix b i' j' = 49 * b + 7 * (i' : Int) + j' := rfl
      rw [e20, up_get]
      by_cases c : i' = i ∧ j' = j
      · rw [if_pos ⟨rfl, by omega⟩, hv2, c.1, c.2]
      · rw [if_neg (by omega)]
        exact hv i' j' a1 a2 (by omega)
    have aij : i ≠ j → (aD D i j = true ↔ M0 203 (ix b i j) = 1) := fun ne => by
      unfold aD
      by_cases c : i < (dNa D).length
      · rw [if_pos c, fl.2.1 c]
        constructor
        · intro z
          rcases z with z | z
          · omega
          · exact z
        · exact fun z => Or.inr z
      · rw [if_neg c]
        have := fl.2.2 (by omega)
        constructor
        · intro z
          have : j = i := by simpa using z
          omega
        · intro z
          have z' : M0 203 (49 * b + 7 * i + j) = 1 := z
          omega
    refine ⟨by omega, fun q => by omega, fun _ => ⟨by omega, by omega, fun q => next _ ?_, fun q => ⟨by omega, by omega, fun q2 => next _ ?_, fun q2 => next _ ?_⟩⟩⟩
    · simp only [F0A]
      rw [if_pos (by omega)]
    · simp only [F0A]
      rw [if_neg (by omega), if_neg]
      intro z
      have z' : M0 203 (49 * b + 7 * i + j) = 1 := (aij (by omega)).mp z
      omega
    · simp only [F0A]
      rw [if_neg (by omega), if_pos]
      refine (aij (by omega)).mpr ?_
      show M0 203 (49 * b + 7 * i + j) = 1
      omega
theorem y_m95 {k79 k87 : Int → Mem → Prop} {k a : Nat} (hx : M0 199 34 = b) (hb : b = 0 ∨ b = 1) (hk : k < 7) (ha : a < 7) (h : ∀ M', m4 b M0 M' → (∀ i j : Nat, i < 7 → j < 7 → M' 204 (ix b i j) = if i ≤ a then fwN (F0A (aD D)) (k + 1) i j else fwN (F0A (aD D)) k i j) → k87 ((a : Nat) + 1) M') : ∀ (d c : Nat) (M : Mem), c + d = 7 → m4 b M0 M → (∀ i j : Nat, i < 7 → j < 7 → M 204 (ix b i j) = if i < a ∨ (i = a ∧ j < c) then fwN (F0A (aD D)) (k + 1) i j else fwN (F0A (aD D)) k i j) → m_X12_measures_L95 k79 k87 Q (k : Nat) (a : Nat) (d + 1) (c : Nat) M
  | 0, c, M, hc, hm, hv => by
    unfold m_X12_measures_L95
    refine ⟨by omega, fun _ => h M hm (fun i j h1 h2 => ?_), fun q => by omega⟩
    rw [hv i j h1 h2]
    by_cases q : i ≤ a
    · rw [if_pos q, if_pos (by omega)]
    · rw [if_neg q, if_neg (by omega)]
  | d + 1, c, M, hc, hm, hv => by
    have e := fw_c (aD D) k
    have g : ∀ i j, fwN (F0A (aD D)) (k + 1) i j = fwS (fwN (F0A (aD D)) k) k i j := fun _ _ => rfl
    have v1 : M 204 (49 * b + 7 * (a : Nat) + (k : Nat)) = fwN (F0A (aD D)) k a k := by
      have := hv a k ha hk
      rw [g, (e a).1] at this
      split at this <;> exact this
    have v2 : M 204 (49 * b + 7 * (k : Nat) + (c : Nat)) = fwN (F0A (aD D)) k k c := by
      have := hv k c hk (by omega)
      rw [g, (e c).2] at this
      split at this <;> exact this
    have v3 : M 204 (49 * b + 7 * (a : Nat) + (c : Nat)) = fwN (F0A (aD D)) k a c := by
      have := hv a c ha (by omega)
      rw [if_neg (by omega)] at this
      exact this
    have b1 := fw_1 (aD D) k a k
    have b2 := fw_1 (aD D) k k c
    have b3 := fw_1 (aD D) k a c
    have up8 : ∀ i j, F0A (aD D) i j ≤ 100000000 := fun i j => by
      simp only [F0A]
      split
      · omega
      · split <;> omega
    have u1 := up8 a k
    have u2 := up8 k c
    have u3 := up8 a c
    have next : ∀ (M1 : Mem), m4 b M0 M1 → (∀ i j : Nat, i < 7 → j < 7 → M1 204 (ix b i j) = if i = a ∧ j = c then fwN (F0A (aD D)) (k + 1) a c else M 204 (ix b i j)) → m_X12_measures_L95 k79 k87 Q (k : Nat) (a : Nat) (d + 1) ((c : Nat) + 1) M1 := fun M1 hm1 hv1 => by
      rw [cast1]
      refine y_m95 hx hb hk ha h d (c + 1) M1 (by omega) hm1 (fun i j h1 h2 => ?_)
      rw [hv1 i j h1 h2]
      by_cases q : i = a ∧ j = c
      · rw [if_pos q, if_pos (by omega), q.1, q.2]
      · rw [if_neg q, hv i j h1 h2]
        by_cases q2 : i < a ∨ (i = a ∧ j < c)
        · rw [if_pos q2, if_pos (by omega)]
        · rw [if_neg q2, if_neg (by omega)]
    unfold m_X12_measures_L95 m_X12_at m_X12_measures_J171
    dsimp only
    rw [hm.1 199 (by decide), hx, v1, v2, v3]
    refine ⟨by omega, fun q => by omega, fun _ => ⟨by omega, by omega, by omega, by omega, by omega, fun q => ?_, fun q => ⟨by omega, fun M1 e1 => ?_⟩⟩⟩
    · refine next M hm (fun i j h1 h2 => ?_)
      by_cases z : i = a ∧ j = c
      · rw [if_pos z, z.1, z.2, g]
        show M 204 (49 * b + 7 * (a : Nat) + (c : Nat)) = _
        rw [v3]
        unfold fwS
        rw [if_neg (by omega)]
      · rw [if_neg z]
    · refine next M1 (hm.up e1 (by omega)) (fun i j h1 h2 => ?_)
      have ixe : ix b i j = 49 * b + 7 * (i : Int) + j := rfl
      rw [e1, up_get]
      by_cases z : i = a ∧ j = c
      · rw [if_pos ⟨rfl, by omega⟩, if_pos z, g]
        unfold fwS
        rw [if_pos (by omega)]
      · rw [if_neg (by omega), if_neg z]
theorem y_measures (hx : DY M0 b D) (h : ∀ M', m4 b M0 M' → (∀ i j : Nat, i < 7 → j < 7 → M' 204 (ix b i j) = fwN (F0A (aD D)) 7 i j) → Q M') : m_X12_measures M0 Q := by
  have hb := hx.1
  have l87 : ∀ {k79 : Int → Mem → Prop} {k : Nat}, k < 7 → (∀ M', m4 b M0 M' → (∀ i j : Nat, i < 7 → j < 7 → M' 204 (ix b i j) = fwN (F0A (aD D)) (k + 1) i j) → k79 ((k : Nat) + 1) M') → ∀ (d a : Nat) (M : Mem), a + d = 7 → m4 b M0 M → (∀ i j : Nat, i < 7 → j < 7 → M 204 (ix b i j) = if i < a then fwN (F0A (aD D)) (k + 1) i j else fwN (F0A (aD D)) k i j) → m_X12_measures_L87 k79 Q (k : Nat) (d + 1) (a : Nat) M := by
    intro k79 k hk hK d
    induction d with
    | zero =>
      intro a M ha hm hv
      unfold m_X12_measures_L87
      refine ⟨by omega, fun _ => hK M hm (fun i j h1 h2 => ?_), fun q => by omega⟩
      rw [hv i j h1 h2, if_pos (by omega)]
    | succ d ih =>
      intro a M ha hm hv
      unfold m_X12_measures_L87
      refine ⟨by omega, fun q => by omega, fun _ => ⟨8, ?_⟩⟩
      refine y_m95 (M0 := M0) (D := D) hx.2.1 hb hk (by omega) (fun M' hm' hv' => ?_) 7 0 M (by omega) hm (fun i j h1 h2 => ?_)
      · rw [cast1]
        refine ih (a + 1) M' (by omega) hm' (fun i j h1 h2 => ?_)
        rw [hv' i j h1 h2]
        by_cases q : i ≤ a
        · rw [if_pos q, if_pos (by omega)]
        · rw [if_neg q, if_neg (by omega)]
      · rw [hv i j h1 h2]
        by_cases q : i < a
        · rw [if_pos q, if_pos (by omega)]
        · rw [if_neg q, if_neg (by omega)]
  have l79 : ∀ (d k : Nat) (M : Mem), k + d = 7 → m4 b M0 M → (∀ i j : Nat, i < 7 → j < 7 → M 204 (ix b i j) = fwN (F0A (aD D)) k i j) → m_X12_measures_L79 Q (d + 1) (k : Nat) M := by
    intro d
    induction d with
    | zero =>
      intro k M hk hm hv
      unfold m_X12_measures_L79
      have : k = 7 := by omega
      subst this
      exact ⟨by omega, fun _ => h M hm hv, fun q => by omega⟩
    | succ d ih =>
      intro k M hk hm hv
      unfold m_X12_measures_L79
      refine ⟨by omega, fun q => by omega, fun _ => ⟨8, ?_⟩⟩
      refine l87 (by omega) (fun M' hm' hv' => ?_) 7 0 M (by omega) hm (fun i j h1 h2 => by rw [hv i j h1 h2, if_neg (by omega)])
      rw [cast1]
      exact ih (k + 1) M' (by omega) hm' hv'
  have l2 : ∀ (d i : Nat) (M : Mem), i + d = 7 → m4 b M0 M → (∀ i' j : Nat, i' < 7 → j < 7 → i' < i → M 204 (ix b i' j) = F0A (aD D) i' j) → m_X12_measures_L2 Q (d + 1) (i : Nat) M := by
    intro d
    induction d with
    | zero =>
      intro i M hi hm hv
      unfold m_X12_measures_L2
      exact ⟨by omega, fun _ => ⟨8, l79 7 0 M (by omega) hm (fun i' j h1 h2 => hv i' j h1 h2 (by omega))⟩, fun q => by omega⟩
    | succ d ih =>
      intro i M hi hm hv
      unfold m_X12_measures_L2
      refine ⟨by omega, fun q => by omega, fun _ => ⟨8, ?_⟩⟩
      refine y_i10 (M0 := M0) hx (by omega) (fun M' hm' hv' => ?_) 7 0 M (by omega) hm (fun i' j' a1 a2 a3 => hv i' j' a1 a2 (by omega))
      rw [cast1]
      exact ih (i + 1) M' (by omega) hm' (fun i' j a1 a2 a3 => hv' i' j a1 a2 (by omega))
  exact ⟨8, l2 7 0 M0 (by omega) ⟨fun _ _ => rfl, fun _ _ => rfl⟩ (fun _ _ _ _ z => by omega)⟩
end
