/-! the model reads roads, frames, formulas -/
section
variable {M : Mem} {T : List Int} {b : Int} {s : Nat} {D : TD} {Q : Mem → Prop}
abbrev rdK (Q : Mem → Prop) (v1 : Int) (but : Int) (M : Mem) : Prop := m_X12_knownBut 0 but M (fun r3 M2 =>
      (inI (M2 199 8)) ∧ ((M2 199 8 ≤ 0 →
        m_X12_at (M2 199 34) v1 r3 M2 (fun r6 M5 =>
          ((0 : Int) ≤ r6 ∧ r6 < 98) ∧ ∀ M8 : Mem, M8 = up M5 203 r6 1 → m_X12_at (M8 199 34) r3 v1 M8 (fun r10 M9 =>
            ((0 : Int) ≤ r10 ∧ r10 < 98) ∧ ∀ M12 : Mem, M12 = up M9 203 r10 1 → ((0 : Int) ≤ M12 199 34 ∧ M12 199 34 < 2) ∧ ((0 : Int) ≤ M12 199 34 ∧ M12 199 34 < 2) ∧ ∀ M15 : Mem, M15 = up M12 202 (M12 199 34) ((M12 202 (M12 199 34)) + 1) → Q M15))) ∧ (¬ M2 199 8 ≤ 0 →
        Q M2)))
theorem y_rl {a : Nat} (ha : a < 7) (hx : DY M b D) (h : ∀ but : Nat, but < 128 → (∀ j : Nat, j < 7 → (but.testBit j = true ↔ j = a ∨ M 203 (49 * b + 7 * a + j) = 1)) → rdK Q (a : Nat) (but : Nat) M) : ∀ (d c bits : Nat), c + d = 7 → bits < 128 → (∀ j : Nat, j < 7 → (bits.testBit j = true ↔ j = a ∨ (j < c ∧ M 203 (49 * b + 7 * a + j) = 1))) → m_X12_roading_L47 Q (a : Nat) (d + 1) (bits : Nat) (c : Nat) M
  | 0, c, bits, hc, hb, hj => by
    unfold m_X12_roading_L47
    refine ⟨by omega, fun _ => h bits hb fun j hj7 => ?_, fun q => by omega⟩
    rw [hj j hj7]
    constructor <;> (intro z; omega)
  | d + 1, c, bits, hc, hb, hj => by
    unfold m_X12_roading_L47 m_X12_at m_X12_roading_J79
    have h34 := hx.2.1
    have b01 := hx.1
    have fl := hx.2.2.2.2.2.2.2.2.2.2.2.1 a c ha (by omega)
    rw [h34]
    refine ⟨by omega, fun q => by omega, fun _ => ⟨by omega, by omega, fun q => ?_, fun q => ?_⟩⟩
    · rw [show (0 : Int) = ((0 : Nat) : Int) from rfl, z_or (by omega) (by omega), Nat.or_zero, cast1]
      refine y_rl ha hx h d (c + 1) bits (by omega) hb fun j hj7 => ?_
      rw [hj j hj7]
      constructor
      · intro z
        omega
      · intro z
        rcases z with z | z
        · exact Or.inl z
        · by_cases cj : j = c
          · subst cj
            omega
          · exact Or.inr ⟨by omega, z.2⟩
    · obtain ⟨p1, p2⟩ := zor_bit (n := bits) (k := c) hb (by omega)
      rw [p1, cast1]
      refine y_rl ha hx h d (c + 1) _ (by omega) p2 fun j hj7 => ?_
      rw [Nat.testBit_or, Nat.testBit_two_pow, Bool.or_eq_true, hj j hj7, decide_eq_true_eq]
      constructor
      · intro z
        rcases z with z | z
        · omega
        · subst z
          exact Or.inr ⟨by omega, by omega⟩
      · intro z
        rcases z with z | z
        · exact Or.inl (Or.inl z)
        · by_cases cj : c = j
          · exact Or.inr cj
          · exact Or.inl (Or.inr ⟨by omega, z.2⟩)
theorem y_roading {r : SR} (hT : TB T) (hx : YD M T b s D) (hD : DOK D s) (hw : tw T s = 1) (hr : stP T D s = r) (h : okT Q M T b r) : m_X12_roading M Q := by
  have sl := hx.1.2.1
  have n0 := nx_rng sl
  have k1 := hD.1
  have k5 := hD.2.2.2.2.1
  have hb := hx.2.2.1
  unfold stP at hr
  rw [if_neg (by omega), if_pos hw] at hr
  unfold m_X12_roading m_X12_roading_J20
  rw [hx.2.2.2.1, hx.2.2.2.2.2.2.2.1]
  have st : ∀ a : Nat, a < 7 → zshl 1 (a : Nat) = ((2 ^ a : Nat) : Int) ∧ 2 ^ a < 128 ∧ ∀ j : Nat, j < 7 → ((2 ^ a).testBit j = true ↔ j = a ∨ (j < 0 ∧ M 203 (49 * b + 7 * a + j) = 1)) := fun a ha => by
    have p : 2 ^ a ≤ 2 ^ 6 := Nat.pow_le_pow_right (by decide) (by omega)
    refine ⟨by rw [z_shl1 (by omega), Int.toNat_natCast], Nat.lt_of_le_of_lt p (by decide), fun j hj => ?_⟩
    rw [Nat.testBit_two_pow, decide_eq_true_eq]
    omega
  have go : ∀ c : Int, (c = 1 ∧ dRo D = 12) ∨ (c = 0 ∧ dRo D ≠ 12) → m_X12_counts c M (fun r21 M20 => (inI r21) ∧ ((r21 = 0 → Q M20) ∧ (¬ r21 = 0 → m_X12_knownBut 0 0 M20 (fun r24 M23 => m_X12_must_ 29807 M23 (fun M25 => ∃ fu : Nat, m_X12_roading_L47 Q r24 fu (zshl 1 r24) 0 M25))))) := fun c hc => by
    refine y_counts hT (by omega) hx (by omega) (fun q M1 y1 o1 => ?_) (fun q M1 y1 i1 o1 => ?_)
    · unfold mst at hr
      rw [if_pos (by omega)] at hr
      subst hr
      exact h M1 (y1.e hT) o1
    · unfold mst at hr
      rw [if_neg (by omega)] at hr
      have loop : ∀ (a : Nat) (M2 : Mem), a < 7 → DY M2 b D → (∀ but : Nat, but < 128 → (∀ j : Nat, j < 7 → (but.testBit j = true ↔ j = a ∨ M2 203 (49 * b + 7 * a + j) = 1)) → rdK Q (a : Nat) (but : Nat) M2) → ∃ fu : Nat, m_X12_roading_L47 Q (a : Nat) fu (zshl 1 (a : Nat)) 0 M2 := fun a M2 ha y2 hk => by
        obtain ⟨s1, s2, s3⟩ := st a ha
        rw [s1]
        exact ⟨8, y_rl ha y2 hk 7 0 _ (by omega) s2 (fun j hj => by rw [s3 j hj]; omega)⟩
      have bad : ∀ (a : Nat) (M2 : Mem) e, r = .inl e → a < 7 → YX M2 T b D e → oW b M M2 → ∃ fu : Nat, m_X12_roading_L47 Q (a : Nat) fu (zshl 1 (a : Nat)) 0 M2 := fun a M2 e he ha y2 o2 => loop a M2 ha y2.2.2.2 fun but _ _ => f_knownBut hT y2 ⟨y2.n8.1, fun z => absurd z y2.n8.2.1, fun _ => okT_f hT h o2 e he M2 y2 oW.rf⟩
      have r1 := nix_rng (l := dNa D) (n := nm T (nx T s)) (k := 0)
      unfold pN at hr
      refine y_known (l := dNa D) (but := 0) hT y1 (hD.mono n0.1) (Or.inl ⟨rfl, rfl⟩) (by decide) (fun q M2 y2 o2 => ?_) (fun q q2 M2 y2 o2 => ?_) (fun q q2 q3 M2 y2 c2 o2 => ?_)
      · rw [if_pos q] at hr
        exact f_must hT y2 (bad 0 M2 _ hr.symm (by decide) y2 (o1.tr o2))
      · rw [if_neg (by omega), if_pos (by rcases q2 with z | z; exact z; simp at z)] at hr
        exact f_must hT y2 (bad 0 M2 _ hr.symm (by decide) y2 (o1.tr o2))
      · rw [if_neg (by omega), if_neg q2] at hr
        have n1 := nx_rng n0.2.1
        have n2 := nx_rng n1.2.1
        generalize ea : nix (dNa D) (nm T (nx T s)) 0 = av at *
        obtain ⟨a, rfl⟩ : ∃ a : Nat, av = (a : Nat) := ⟨av.toNat, by omega⟩
        rw [Int.toNat_natCast] at hr
        have ha : a < (dNa D).length := by omega
        refine y_tkO 2 (by decide) rfl hT y2 hr (fun e he M3 y3 o3 => bad a M3 e he (by omega) y3 ((o1.tr o2).tr o3)) (fun hk M3 y3 c3 o3 => ?_)
        have o3' := (o1.tr o2).tr o3
        refine loop a M3 (by omega) y3.2.2 fun but hbut hbit => ?_
        have r2 := nix_rng (l := dNa D) (n := nm T (nx T (nx T (nx T s)))) (k := 0)
        have rel := y3.2.2.2.2.2.2.2.2.2.2.2.2.2.1
        have bre : ∀ j : Nat, j < 7 → (but.testBit j = true ↔ dRe D a j = true) := fun j hj => by
          rw [hbit j hj, (rel a j (by omega) hj).2.1 ha]
        refine y_known (l := dNa D) (but := but) hT y3 (hD.mono (by omega)) (Or.inl ⟨rfl, rfl⟩) hbut (fun q M4 y4 o4 => ?_) (fun q q2 M4 y4 o4 => ?_) (fun q q2 q3 M4 y4 c4 o4 => ?_)
        · rw [if_pos q] at hk
          exact ⟨y4.n8.1, fun z => absurd z y4.n8.2.1, fun _ => okT_f hT h o3' _ hk.symm M4 y4 o4⟩
        · rw [if_neg (by omega)] at hk
          have hk3 : r = .inl (3, (nx T (nx T (nx T s)) : Nat)) := by
            by_cases q4 : nix (dNa D) (nm T (nx T (nx T (nx T s)))) 0 = -1
            · rw [if_pos q4] at hk
              exact hk.symm
            · rw [if_neg q4] at hk
              have q5 : but.testBit (nix (dNa D) (nm T (nx T (nx T (nx T s)))) 0).toNat = true := by
                rcases q2 with z | z
                · exact absurd z q4
                · exact z
              dsimp only at hk
              rw [if_pos ((bre _ (by omega)).mp q5)] at hk
              exact hk.symm
          exact ⟨y4.n8.1, fun z => absurd z y4.n8.2.1, fun _ => okT_f hT h o3' _ hk3 M4 y4 o4⟩
        · rw [if_neg (by omega), if_neg q2] at hk
          generalize eb : nix (dNa D) (nm T (nx T (nx T (nx T s)))) 0 = bv at *
          obtain ⟨p, rfl⟩ : ∃ p : Nat, bv = (p : Nat) := ⟨bv.toNat, by omega⟩
          rw [Int.toNat_natCast] at hk q3
          have hp : p < (dNa D).length := by omega
          have nre : ¬ dRe D a p = true := fun z => q3 ((bre p (by omega)).mpr z)
          dsimp only at hk
          rw [if_neg nre] at hk
          subst hk
          have ne : a ≠ p := fun z => by
            subst z
            exact nre (hD.2.2.2.2.2.2.2.2.2.2.2.1 a ha)
          unfold m_X12_at
          rw [y4.2.1, y4.2.2.2.1]
          refine ⟨by decide, fun _ => ⟨by omega, fun M5 e5 => ?_⟩, fun z => absurd (by decide) z⟩
          rw [show M5 199 34 = b by rw [e5, up_ne _ (by decide)]; exact y4.2.2.2.1]
          refine ⟨by omega, fun M6 e6 => ?_⟩
          have g6 : M6 199 34 = b := by rw [e6, up_ne _ (by decide), e5, up_ne _ (by decide)]; exact y4.2.2.2.1
          have g62 : M6 202 b = (dRo D : Nat) := by rw [e6, up_ne _ (by decide), e5, up_ne _ (by decide)]; exact y4.2.2.2.2.2.2.2.1
          rw [g6, g62]
          refine ⟨by omega, by omega, fun M7 e7 => ?_⟩
          obtain ⟨a1, a2, a3, a4, a5, a6, a7, a8, a9, a10, a11, a12, a13, a14, a15⟩ := y4.2.2
          have z : ∀ c, c ≠ 202 → c ≠ 203 → M7 c = M4 c := fun c c1 c2 => by rw [e7, up_ne _ c1, e6, up_ne _ c2, e5, up_ne _ c2]
          have z3 : ∀ i j : Nat, i < 7 → j < 7 → M7 203 (49 * b + 7 * i + j) = if (i = a ∧ j = p) ∨ (i = p ∧ j = a) then 1 else M4 203 (49 * b + 7 * i + j) := fun i j hi hj => by
            rw [e7, up_ne _ (by decide), e6, up_get]
            by_cases c1 : i = p ∧ j = a
            · rw [if_pos ⟨rfl, by omega⟩, if_pos (Or.inr c1)]
            · rw [if_neg (by omega), e5, up_get]
              by_cases c2 : i = a ∧ j = p
              · rw [if_pos ⟨rfl, by omega⟩, if_pos (Or.inl c2)]
              · rw [if_neg (by omega), if_neg (by omega)]
          have l7 : LY M7 T (nx T (nx T (nx T (nx T s)))) := ((y4.1.row e5 (by decide)).row e6 (by decide)).row e7 (by decide)
          refine h.1 M7 ⟨l7, by rw [z 199 (by decide) (by decide), y4.2.1], a1, by rw [z 199 (by decide) (by decide), a2], by rw [z 199 (by decide) (by decide)]; exact a3, by rw [z 201 (by decide) (by decide)]; exact a4, by rw [z 205 (by decide) (by decide)]; exact a5, ?_, by rw [z 208 (by decide) (by decide)]; exact a7, by rw [z 213 (by decide) (by decide)]; exact a8, by rw [z 209 (by decide) (by decide)]; exact a9, by rw [z 218 (by decide) (by decide)]; exact a10, by rw [z 219 (by decide) (by decide), z 206 (by decide) (by decide), z 207 (by decide) (by decide)]; exact a11, fun i j hi hj => ?_, by rw [z 210 (by decide) (by decide), z 211 (by decide) (by decide), z 212 (by decide) (by decide)]; exact a13, ?_, ?_⟩ ((((o3'.tr o4).tr (oW.row e5 (by decide) (by simp [szY]; omega))).tr (oW.row e6 (by decide) (by simp [szY]; omega))).tr (oW.row e7 (by decide) (by simp [szY]; omega)))
          · rw [e7, up_get, if_pos ⟨rfl, rfl⟩]
            rfl
          · have := a12 i j hi hj
            show (M7 203 _ = 0 ∨ M7 203 _ = 1) ∧ (i < (dNa D).length → ((decide (((i : Int) = (a : Nat) ∧ (j : Int) = (p : Nat)) ∨ ((i : Int) = (p : Nat) ∧ (j : Int) = (a : Nat))) || dRe D i j) = true ↔ j = i ∨ M7 203 _ = 1)) ∧ ((dNa D).length ≤ i → M7 203 _ = 0)
            rw [z3 i j hi hj, Bool.or_eq_true, decide_eq_true_eq]
            by_cases c : (i = a ∧ j = p) ∨ (i = p ∧ j = a)
            · rw [if_pos c]
              exact ⟨Or.inr rfl, fun _ => ⟨fun _ => Or.inr rfl, fun _ => Or.inl (by omega)⟩, fun z => by omega⟩
            · rw [if_neg c]
              refine ⟨this.1, fun hi2 => ?_, this.2.2⟩
              rw [this.2.1 hi2]
              constructor
              · intro z
                rcases z with z | z
                · omega
                · exact z
              · exact fun z => Or.inr z
          · unfold fmY at *
            rw [z 214 (by decide) (by decide), z 215 (by decide) (by decide), z 216 (by decide) (by decide), z 217 (by decide) (by decide), z 199 (by decide) (by decide)]
            exact a14
          · unfold fmY at *
            rw [z 214 (by decide) (by decide), z 215 (by decide) (by decide), z 216 (by decide) (by decide), z 217 (by decide) (by decide), z 199 (by decide) (by decide)]
            exact a15
  exact ⟨by omega, by omega, fun q => go 1 (by omega), fun q => go 0 (by omega)⟩
abbrev frK (Q : Mem → Prop) (v1 : Int) (but : Int) (M : Mem) : Prop := m_X12_knownBut 0 but M (fun r4 M3 =>
      ((0 : Int) ≤ v1 ∧ v1 < 16) ∧ ∀ M6 : Mem, M6 = up M3 211 v1 r4 → m_X12_number 0 6 M6 (fun r8 M7 =>
        ((0 : Int) ≤ v1 ∧ v1 < 16) ∧ ∀ M10 : Mem, M10 = up M7 212 v1 r8 → (inI (M10 199 8)) ∧ ((M10 199 8 = 0 →
          ((0 : Int) ≤ M10 199 34 ∧ M10 199 34 < 2) ∧ ((0 : Int) ≤ M10 199 34 ∧ M10 199 34 < 2) ∧ ∀ M14 : Mem, M14 = up M10 209 (M10 199 34) ((M10 209 (M10 199 34)) + 1) → m_X12_framing_J154 Q  M14) ∧ (¬ M10 199 8 = 0 →
          m_X12_framing_J154 Q  M10))))
theorem y_fl {v : Int} (hx : DY M b D) (hD : DOK D s) (h7 : (dFr D).length < 8) (hv : M 210 (8 * b + (dFr D).length) = v) (iv : inI v) (h : ∀ but : Nat, but < 128 → (∀ c : Nat, (but.testBit c = true ↔ ∃ i, i < (dFr D).length ∧ ((dFr D).getD i (0, 0, 0)).1 = v ∧ ((dFr D).getD i (0, 0, 0)).2.1 = (c : Nat))) → frK Q (8 * b + (dFr D).length) (but : Nat) M) : ∀ (d j bits : Nat), j + d = (dFr D).length → bits < 128 → (∀ c : Nat, (bits.testBit c = true ↔ ∃ i, i < j ∧ ((dFr D).getD i (0, 0, 0)).1 = v ∧ ((dFr D).getD i (0, 0, 0)).2.1 = (c : Nat))) → m_X12_framing_L68 Q (8 * b + (dFr D).length) (d + 1) (bits : Nat) (8 * b + j) M
  | 0, j, bits, hj, hb, hbit => by
    have b01 := hx.1
    unfold m_X12_framing_L68
    have e : j = (dFr D).length := by omega
    subst e
    exact ⟨by omega, by omega, fun _ => h bits hb hbit, fun q => by omega⟩
  | d + 1, j, bits, hj, hb, hbit => by
    have b01 := hx.1
    unfold m_X12_framing_L68 m_X12_framing_J101
    have hj' : j < (dFr D).length := by omega
    obtain ⟨f1, f2, f3⟩ := hx.2.2.2.2.2.2.2.2.2.2.2.2.1 j hj'
    have mem : (dFr D).getD j (0, 0, 0) ∈ dFr D := by
      rw [List.getD_eq_getElem?_getD, List.getElem?_eq_getElem hj']
      exact List.getElem_mem hj'
    have ok := hD.2.2.2.2.2.2.2.2.1 _ mem
    have d1 := hD.1
    rw [f1, f2, hv]
    refine ⟨by omega, by omega, fun q => by omega, fun _ => ⟨by omega, by omega, by omega, iv, fun q => ⟨by omega, ?_⟩, fun q => ?_⟩⟩
    · obtain ⟨p1, p2⟩ := zor_bit (n := bits) (k := ((dFr D).getD j (0, 0, 0)).2.1.toNat) hb (by omega)
      rw [toNat_i ok.2.2.1] at p1
      rw [p1, show 8 * b + (j : Int) + 1 = 8 * b + ((j + 1 : Nat) : Int) by omega]
      refine y_fl hx hD h7 hv iv h d (j + 1) _ (by omega) p2 fun c => ?_
      rw [Nat.testBit_or, Nat.testBit_two_pow, Bool.or_eq_true, hbit c, decide_eq_true_eq]
      constructor
      · intro z
        rcases z with ⟨i, hi, z⟩ | z
        · exact ⟨i, by omega, z⟩
        · exact ⟨j, by omega, q, by omega⟩
      · intro z
        obtain ⟨i, hi, z1, z2⟩ := z
        by_cases ci : i = j
        · subst ci
          exact Or.inr (by omega)
        · exact Or.inl ⟨i, by omega, z1, z2⟩
    · rw [show (0 : Int) = ((0 : Nat) : Int) from rfl, z_or (by omega) (by omega), Nat.or_zero, show 8 * b + (j : Int) + 1 = 8 * b + ((j + 1 : Nat) : Int) by omega]
      refine y_fl hx hD h7 hv iv h d (j + 1) bits (by omega) hb fun c => ?_
      rw [hbit c]
      constructor
      · intro z
        obtain ⟨i, hi, z⟩ := z
        exact ⟨i, by omega, z⟩
      · intro z
        obtain ⟨i, hi, z1, z2⟩ := z
        by_cases ci : i = j
        · subst ci
          exact absurd z1 q
        · exact ⟨i, by omega, z1, z2⟩
theorem y_framing {r : SR} (hT : TB T) (hx : YD M T b s D) (hD : DOK D s) (hw : tw T s = 7) (hr : stP T D s = r) (h : okT Q M T b r) : m_X12_framing M Q := by
  have sl := hx.1.2.1
  have n0 := nx_rng sl
  have k1 := hD.1
  have k8 := hD.2.2.2.2.2.2.2.1
  have hb := hx.2.2.1
  unfold stP at hr
  rw [if_neg (by omega), if_neg (by omega), if_neg (by omega), if_neg (by omega), if_pos hw] at hr
  unfold m_X12_framing m_X12_framing_J20
  rw [hx.2.2.2.1, hx.2.2.2.2.2.2.2.2.2.2.1]
  have go : ∀ c : Int, (c = 1 ∧ (dFr D).length = 8) ∨ (c = 0 ∧ (dFr D).length ≠ 8) → m_X12_counts c M (fun r21 M20 =>
    (inI r21) ∧ ((r21 = 0 →
      Q M20) ∧ (¬ r21 = 0 →
      ((0 : Int) ≤ M20 199 34 ∧ M20 199 34 < 2) ∧ ∀ x24 : Int, x24 = (8 * (M20 199 34)) + (M20 209 (M20 199 34)) → m_X12_number 1 8 M20 (fun r26 M25 =>
        ((0 : Int) ≤ x24 ∧ x24 < 16) ∧ ∀ M28 : Mem, M28 = up M25 210 x24 r26 → ∃ fu : Nat, m_X12_framing_L68 Q x24 fu 0 (8 * (M28 199 34)) M28)))) := fun c hc => by
    refine y_counts hT (by omega) hx (by omega) (fun q M1 y1 o1 => ?_) (fun q M1 y1 i1 o1 => ?_)
    · unfold mst at hr
      rw [if_pos (by omega)] at hr
      subst hr
      exact h M1 (y1.e hT) o1
    · unfold mst at hr
      rw [if_neg (by omega)] at hr
      have n8 : (dFr D).length < 8 := by omega
      rw [y1.2.2.2.1, y1.2.2.2.2.2.2.2.2.2.2.1]
      refine ⟨by omega, fun x ex => ?_⟩
      have rx : (0 : Int) ≤ x ∧ x < 16 := by omega
      have sz : ∀ a, a = 210 ∨ a = 211 ∨ a = 212 → szY a * b ≤ x ∧ x < szY a * b + szY a := fun a ha => by rcases ha with rfl | rfl | rfl <;> simp [szY] <;> omega
      have loop : ∀ (M2 : Mem) (v : Int), DY M2 b D → M2 210 x = v → inI v → (∀ but : Nat, but < 128 → (∀ c : Nat, (but.testBit c = true ↔ ∃ i, i < (dFr D).length ∧ ((dFr D).getD i (0, 0, 0)).1 = v ∧ ((dFr D).getD i (0, 0, 0)).2.1 = (c : Nat))) → frK Q x (but : Nat) M2) → ∃ fu : Nat, m_X12_framing_L68 Q x fu 0 (8 * (M2 199 34)) M2 := fun M2 v y2 hv iv hk => by
        rw [y2.2.1]
        rw [ex] at hv hk ⊢
        have := y_fl (Q := Q) y2 hD n8 hv iv hk (dFr D).length 0 0 (by omega) (by decide) (fun c => by simp)
        rw [show 8 * b + ((0 : Nat) : Int) = 8 * b by omega] at this
        exact ⟨_, this⟩
      have g10 : ∀ M7 v e, r = .inl e → YX M7 T b D e → oW b M M7 → ((0 : Int) ≤ x ∧ x < 16) ∧ ∀ M10 : Mem, M10 = up M7 212 x v → (inI (M10 199 8)) ∧ ((M10 199 8 = 0 → ((0 : Int) ≤ M10 199 34 ∧ M10 199 34 < 2) ∧ ((0 : Int) ≤ M10 199 34 ∧ M10 199 34 < 2) ∧ ∀ M14 : Mem, M14 = up M10 209 (M10 199 34) ((M10 209 (M10 199 34)) + 1) → m_X12_framing_J154 Q  M14) ∧ (¬ M10 199 8 = 0 → m_X12_framing_J154 Q  M10)) := fun M7 v e he y7 o7 => by
        refine ⟨rx, fun M10 e10 => ?_⟩
        have y10 := y7.past e10 (by omega)
        exact ⟨y10.n8.1, fun z => absurd z y10.n8.2.2, fun _ => okT_f hT h o7 e he M10 y10 (oW.row e10 (by decide) (sz 212 (by decide)))⟩
      have g6 : ∀ M3 e, r = .inl e → YX M3 T b D e → oW b M M3 → ((0 : Int) ≤ x ∧ x < 16) ∧ ∀ M6 : Mem, M6 = up M3 211 x 0 → m_X12_number 0 6 M6 (fun r8 M7 => ((0 : Int) ≤ x ∧ x < 16) ∧ ∀ M10 : Mem, M10 = up M7 212 x r8 → (inI (M10 199 8)) ∧ ((M10 199 8 = 0 → ((0 : Int) ≤ M10 199 34 ∧ M10 199 34 < 2) ∧ ((0 : Int) ≤ M10 199 34 ∧ M10 199 34 < 2) ∧ ∀ M14 : Mem, M14 = up M10 209 (M10 199 34) ((M10 209 (M10 199 34)) + 1) → m_X12_framing_J154 Q  M14) ∧ (¬ M10 199 8 = 0 → m_X12_framing_J154 Q  M10))) := fun M3 e he y3 o3 => by
        refine ⟨rx, fun M6 e6 => ?_⟩
        have y6 := y3.past e6 (by omega)
        exact f_number hT y6 (g10 M6 0 e he y6 (o3.tr (oW.row e6 (by decide) (sz 211 (by decide)))))
      refine y_number hT y1 (by decide) hr (fun e he v M2 y2 iv o2 => ⟨rx, fun M3 e3 => ?_⟩) (fun hk q1 q2 M2 y2 c2 o2 => ⟨rx, fun M3 e3 => ?_⟩)
      · have y3 := y2.past e3 (by omega)
        have o3 : oW b M M3 := (o1.tr o2).tr (oW.row e3 (by decide) (sz 210 (by decide)))
        exact loop M3 v y3.2.2.2 (by rw [e3, up_get, if_pos ⟨rfl, rfl⟩]) (iv i1) fun but _ _ => f_knownBut hT y3 (g6 M3 e he y3 o3)
      · have y3 := y2.row e3 (by omega)
        have o3 : oW b M M3 := (o1.tr o2).tr (oW.row e3 (by decide) (sz 210 (by decide)))
        have v3 : M3 210 x = tn T (nx T s) := by rw [e3, up_get, if_pos ⟨rfl, rfl⟩]
        have n1 := nx_rng n0.2.1
        have n2 := nx_rng n1.2.1
        have r1 := nix_rng (l := dNa D) (n := nm T (nx T (nx T s))) (k := 0)
        refine loop M3 (tn T (nx T s)) y3.2.2 v3 (by omega) fun but hbut hbit => ?_
        have bidx : ∀ p : Nat, (but.testBit p = true ↔ idxP (dFr D) (tn T (nx T s)) (p : Nat) 0 ≠ -1) := fun p => by
          rw [hbit p, ne_eq, idxP_no (k := 0) (by decide)]
          constructor
          · intro z w
            obtain ⟨i, hi, z1, z2⟩ := z
            have mem : (dFr D).getD i (0, 0, 0) ∈ dFr D := by
              rw [List.getD_eq_getElem?_getD, List.getElem?_eq_getElem hi]
              exact List.getElem_mem hi
            exact w _ mem ⟨z1, z2⟩
          · intro w
            refine Decidable.byContradiction fun z => w fun q hq zz => z ?_
            obtain ⟨i, hi, e⟩ := List.getElem_of_mem hq
            refine ⟨i, hi, ?_⟩
            rw [List.getD_eq_getElem?_getD, List.getElem?_eq_getElem hi]
            show (dFr D)[i].1 = _ ∧ (dFr D)[i].2.1 = _
            rw [e]
            exact zz
        unfold pN at hk
        refine y_known (l := dNa D) (but := but) hT y3 (hD.mono (by omega)) (Or.inl ⟨rfl, rfl⟩) hbut (fun q M4 y4 o4 => ?_) (fun q q2 M4 y4 o4 => ?_) (fun q q2 q3 M4 y4 c4 o4 => ⟨rx, fun M6 e6 => ?_⟩)
        · rw [if_pos q] at hk
          exact g6 M4 _ hk.symm y4 (o3.tr o4)
        · rw [if_neg (by omega)] at hk
          have hk3 : r = .inl (3, (nx T (nx T s) : Nat)) := by
            by_cases q4 : nix (dNa D) (nm T (nx T (nx T s))) 0 = -1
            · rw [if_pos q4] at hk
              exact hk.symm
            · rw [if_neg q4] at hk
              have q5 : but.testBit (nix (dNa D) (nm T (nx T (nx T s))) 0).toNat = true := by
                rcases q2 with z | z
                · exact absurd z q4
                · exact z
              dsimp only at hk
              rw [if_pos ((bidx _).mp q5)] at hk
              exact hk.symm
          exact g6 M4 _ hk3 y4 (o3.tr o4)
        · rw [if_neg (by omega), if_neg q2] at hk
          dsimp only at hk
          rw [if_neg (fun z => q3 ((bidx _).mpr z))] at hk
          have y6 := y4.row e6 (by omega)
          have o6 : oW b M M6 := (o3.tr o4).tr (oW.row e6 (by decide) (sz 211 (by decide)))
          refine y_number hT y6 (by decide) hk (fun e he v M7 y7 _ o7 => g10 M7 v e he y7 (o6.tr o7)) (fun hk q4 q5 M7 y7 c7 o7 => ⟨rx, fun M10 e10 => ?_⟩)
          subst hk
          have y10 := y7.row e10 (by omega)
          have o10 : oW b M M10 := (o6.tr o7).tr (oW.row e10 (by decide) (sz 212 (by decide)))
          unfold m_X12_framing_J154
          rw [y10.2.1, y10.2.2.2.1, y10.2.2.2.2.2.2.2.2.2.2.1]
          refine ⟨by decide, fun _ => ⟨by omega, by omega, fun M14 e14 => ?_⟩, fun z => absurd rfl z⟩
          obtain ⟨a1, a2, a3, a4, a5, a6, a7, a8, a9, a10, a11, a12, a13, a14, a15⟩ := y10.2.2
          have z : ∀ c, c ≠ 209 → M14 c = M10 c := fun c hc => by rw [e14, up_ne _ hc]
          have p0 : M10 210 x = tn T (nx T s) := by rw [e10, up_ne _ (by decide), c7 210 (by decide), e6, up_ne _ (by decide), c4 210 (by decide), v3]
          have p1 : M10 211 x = nix (dNa D) (nm T (nx T (nx T s))) 0 := by rw [e10, up_ne _ (by decide), c7 211 (by decide), e6, up_get, if_pos ⟨rfl, rfl⟩]
          have p2 : M10 212 x = tn T (nx T (nx T (nx T s))) := by rw [e10, up_get, if_pos ⟨rfl, rfl⟩]
          have la : ∀ q : Int × Int × Int, (dFr D ++ [q]).length = (dFr D).length + 1 := fun q => by rw [List.length_append, List.length_singleton]
          refine h.1 M14 ⟨y10.1.row e14 (by decide), by rw [z 199 (by decide), y10.2.1], a1, by rw [z 199 (by decide), a2], by rw [z 199 (by decide)]; exact a3, by rw [z 201 (by decide)]; exact a4, by rw [z 205 (by decide)]; exact a5, by rw [z 202 (by decide)]; exact a6, by rw [z 208 (by decide)]; exact a7, by rw [z 213 (by decide)]; exact a8, ?_, by rw [z 218 (by decide)]; exact a10, by rw [z 219 (by decide), z 206 (by decide), z 207 (by decide)]; exact a11, by rw [z 203 (by decide)]; exact a12, fun i hi => ?_, ?_, ?_⟩ (o10.tr (oW.row e14 (by decide) (by simp [szY]; omega)))
          · rw [e14, up_get, if_pos ⟨rfl, rfl⟩]
            show _ = (((dFr D ++ [_]).length : Nat) : Int)
            rw [la]
            rfl
          · have hi : i < (dFr D ++ [(tn T (nx T s), (((nix (dNa D) (nm T (nx T (nx T s))) 0).toNat : Nat) : Int), tn T (nx T (nx T (nx T s))))]).length := hi
            rw [la] at hi
            show M14 210 (8 * b + i) = ((dFr D ++ [(tn T (nx T s), (((nix (dNa D) (nm T (nx T (nx T s))) 0).toNat : Nat) : Int), tn T (nx T (nx T (nx T s))))]).getD i (0, 0, 0)).1 ∧ M14 211 (8 * b + i) = ((dFr D ++ [(tn T (nx T s), (((nix (dNa D) (nm T (nx T (nx T s))) 0).toNat : Nat) : Int), tn T (nx T (nx T (nx T s))))]).getD i (0, 0, 0)).2.1 ∧ M14 212 (8 * b + i) = ((dFr D ++ [(tn T (nx T s), (((nix (dNa D) (nm T (nx T (nx T s))) 0).toNat : Nat) : Int), tn T (nx T (nx T (nx T s))))]).getD i (0, 0, 0)).2.2
            rw [z 210 (by decide), z 211 (by decide), z 212 (by decide), getD_app]
            by_cases c : i = (dFr D).length
            · rw [if_neg (by omega), if_pos c, c, ← ex]
              exact ⟨p0, by rw [p1]; show _ = (((nix (dNa D) (nm T (nx T (nx T s))) 0).toNat : Nat) : Int); omega, p2⟩
            · rw [if_pos (by omega)]
              exact a13 i (by omega)
          · unfold fmY at *
            rw [z 214 (by decide), z 215 (by decide), z 216 (by decide), z 217 (by decide), z 199 (by decide)]
            exact a14
          · unfold fmY at *
            rw [z 214 (by decide), z 215 (by decide), z 216 (by decide), z 217 (by decide), z 199 (by decide)]
            exact a15
  exact ⟨by omega, by omega, fun q => go 1 (by omega), fun q => go 0 (by omega)⟩
end
