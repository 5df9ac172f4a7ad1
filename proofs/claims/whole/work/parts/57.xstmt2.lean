/-! the class reads statements: the rest -/
def wD (D : TD) : TW := ((dNa D).length, (dNb D).length, dRe D, fun _ _ => 0, dKi D, dSt D, dGo D)
theorem DOK.re {D : TD} {s : Nat} (h : DOK D s) : reOK (wD D) (dFr D) := by
  obtain ⟨h1, h2, h3, h4, h5, h6, h7, h8, h9, h10, h11⟩ := h
  exact ⟨by omega, fun q hq => h9 q hq, h10⟩
section
variable {M : Mem} {T : List Int} {t : Int} {s : Nat} {D : TD} {Q : Int → Mem → Prop}
theorem x_reaches {a b : Nat} {A B : Mem → Prop} (hx : DX M t D) (ha : a < (dNa D).length) (h7 : (dNa D).length ≤ 7) (hb : b < 7) (hA : dRe D a b = false → A M) (hB : dRe D a b = true → B M) : m_X8_reaches t (a : Nat) (b : Nat) M (fun r M' => (inI r) ∧ ((r = 0 → A M') ∧ (¬ r = 0 → B M'))) := by
  obtain ⟨r1, r2, r3⟩ := hx.2.2.2.2.2.2.2.2.1 a ha
  have z := z_tb (a := M (t + 2) a) (k := (b : Nat)) (by omega) (by omega)
  have e := r3 b hb
  unfold tb at z
  rw [Int.toNat_natCast] at z
  unfold m_X8_reaches m_X8_reaches_J19
  refine ⟨hx.1, by omega, by omega, fun q => ⟨by decide, rq_1 (hB ?_)⟩, fun q => ⟨by decide, rq_0 (hA ?_)⟩⟩
  · rw [e]
    exact z.1.mp q
  · rw [e]
    have := mt z.1.mpr q
    simpa using this
theorem zor_bit {n : Nat} {k : Nat} (hn : n < 128) (hk : k < 7) : zor (n : Int) (zshl 1 (k : Nat)) = ((n ||| 2 ^ k : Nat) : Int) ∧ n ||| 2 ^ k < 128 := by
  have p : 2 ^ k ≤ 2 ^ 6 := Nat.pow_le_pow_right (by decide) (by omega)
  rw [z_shl1 (by omega), Int.toNat_natCast, z_or (by omega) (by omega)]
  exact ⟨rfl, Nat.or_lt_two_pow (n := 7) hn (Nat.lt_of_le_of_lt p (by decide))⟩
theorem x_road {r : SR} (hT : TB T) (hx : XD M T t s D) (hD : DOK D s) (hw : tw T s = 1) (hr : stP T D s = r) (h : okS Q M t T r) : m_X9_road M Q := by
  have kt := isTown hx.2.2.1
  have sl := hx.1.le
  unfold stP at hr
  rw [if_neg (by omega), if_pos hw] at hr
  unfold m_X9_road m_X9_road_J23 m_X9_road_J55
  rw [hx.2.1, hx.2.2.2.2.2.1]
  have d1 := hD.1
  have d5 := hD.2.2.2.2.1
  refine ⟨hx.2.2.1, x_begins (m := 12) hT hx (by omega) (by omega) (by decide) (fun q M1 o1 f1 => ?_) (fun q M1 x1 s1 => ?_)⟩
  · unfold mst at hr
    rw [if_pos q] at hr
    subst hr
    exact h M1 o1 f1
  · unfold mst at hr
    rw [if_neg (by omega)] at hr
    have n0 := nx_rng sl
    refine x_placeName x1 (hD.mono n0.1) hr (okS_f h s1) fun a na hk qn ha M2 x2 f2 s2 => ?_
    have b2 := tw_b (T := T) (s := nx T s) (by omega)
    have n1 := nx_rng n0.2.1
    refine x_adv hT x2.1 b2.1 (by omega) fun M3 l3 o3 => ?_
    have x3 := x2.adv l3 o3
    have s3 := (s1.tr s2).tr (o3.r (t := t))
    refine x_tkO hT x3 (by decide) hk (okS_f h s3) fun hk M4 x4 e4 s4 => ?_
    have n2 := nx_rng n1.2.1
    refine x_placeName x4 (hD.mono (by omega)) hk (okS_f h (s3.tr s4)) fun b nb hk qn2 hb M5 x5 f5 s5 => ?_
    have b5 := tw_b (T := T) (s := nx T (nx T (nx T s))) (by omega)
    rw [x5.2.1, f2, f5]
    refine ⟨x5.2.2.1, x_reaches x5.2.2 ha d1 (by omega) (fun qr => ?_) (fun qr => ?_)⟩
    · rw [if_neg (by rw [qr]; decide)] at hk
      subst hk
      rw [x5.2.1, f5]
      refine ⟨x5.2.2.1, ?_⟩
      obtain ⟨a1, a2, a3, a4, a5, a6, a7, a8, a9, a10, a11, a12⟩ := id x5.2.2
      have ne : a ≠ b := fun z => by
        subst z
        have := hD.2.2.2.2.2.2.2.2.2.2.2.1 a ha
        rw [this] at qr
        exact absurd qr (by decide)
      have ra := a9 a ha
      have rb := a9 b hb
      obtain ⟨p1, p2⟩ := zor_bit (n := (M5 (t + 2) a).toNat) (k := b) (by omega) (by omega)
      obtain ⟨p3, p4⟩ := zor_bit (n := (M5 (t + 2) b).toNat) (k := a) (by omega) (by omega)
      rw [toNat_i ra.1] at p1
      rw [toNat_i rb.1] at p3
      unfold m_X8_addRoad
      refine ⟨a1, by omega, by omega, fun M6 e6 => ⟨by omega, by omega, fun M7 e7 M8 e8 => ?_⟩⟩
      rw [p1] at e6
      have g6 : M6 (t + 2) b = M5 (t + 2) b := by rw [e6, up_get, if_neg (by omega)]
      rw [g6, p3] at e7
      have z : ∀ c, c ≠ t → c ≠ t + 2 → M8 c = M5 c := fun c c1 c2 => by rw [e8, up_ne _ c1, e7, up_ne _ c2, e6, up_ne _ c2]
      have zt : ∀ j, j ≠ 2 → M8 t j = M5 t j := fun j hj => by rw [e8, up_get, if_neg (by omega), e7, up_ne _ (by omega), e6, up_ne _ (by omega)]
      have z2 : ∀ i : Nat, M8 (t + 2) i = if i = b then (((M5 (t + 2) b).toNat ||| 2 ^ a : Nat) : Int) else if i = a then (((M5 (t + 2) a).toNat ||| 2 ^ b : Nat) : Int) else M5 (t + 2) i := fun i => by
        rw [e8, up_ne _ (by omega), e7, up_get]
        by_cases c : i = b
        · rw [if_pos ⟨rfl, by omega⟩, if_pos c]
        · rw [if_neg (by omega), if_neg c, e6, up_get]
          by_cases c2 : i = a
          · rw [if_pos ⟨rfl, by omega⟩, if_pos c2]
          · rw [if_neg (by omega), if_neg c2]
      have key := x5.town (M' := M8) (D' := (dNa D, dNb D, (fun i j => decide ((i = (a : Nat) ∧ j = (b : Nat)) ∨ (i = (b : Nat) ∧ j = (a : Nat))) || dRe D i j), dRo D + 1, D.2.2.2.2)) (fun c hc => z c (by omega) (by omega)) ⟨a1, by rw [zt 0 (by decide)]; exact a2, by rw [zt 5 (by decide)]; exact a3, ?_, by rw [zt 9 (by decide)]; exact a5, by rw [zt 11 (by decide)]; exact a6, ?_, ?_, fun i hi => ?_, ?_, ?_, ?_⟩
      · refine x_adv hT key.1.1 b5.1 (by omega) fun M9 l9 o9 => h M9 (key.1.adv l9 o9) ((((s3.tr s4).tr s5).tr key.2).tr o9.r)
      · rw [e8, up_get, if_pos ⟨rfl, rfl⟩, e7, up_ne _ (by omega), e6, up_ne _ (by omega), a4]
        rfl
      · rw [z (t + 1) (by omega) (by omega)]
        exact a7
      · rw [z (t + 4) (by omega) (by omega), z (t + 5) (by omega) (by omega), z (t + 6) (by omega) (by omega)]
        exact a8
      · show 0 ≤ M8 (t + 2) i ∧ M8 (t + 2) i < 128 ∧ ∀ j : Nat, j < 7 → (decide (((i : Int) = (a : Nat) ∧ (j : Int) = (b : Nat)) ∨ ((i : Int) = (b : Nat) ∧ (j : Int) = (a : Nat))) || dRe D i j) = (M8 (t + 2) i).toNat.testBit j
        rw [z2]
        by_cases c : i = b
        · rw [if_pos c]
          subst c
          refine ⟨Int.natCast_nonneg _, Int.ofNat_lt.mpr p4, fun j hj => ?_⟩
          rw [Int.toNat_natCast, Nat.testBit_or, Nat.testBit_two_pow, rb.2.2 j hj, Bool.or_comm]
          congr 1
          exact decide_eq_decide.mpr (by omega)
        · rw [if_neg c]
          by_cases c2 : i = a
          · rw [if_pos c2]
            subst c2
            refine ⟨Int.natCast_nonneg _, Int.ofNat_lt.mpr p2, fun j hj => ?_⟩
            rw [Int.toNat_natCast, Nat.testBit_or, Nat.testBit_two_pow, ra.2.2 j hj, Bool.or_comm]
            congr 1
            exact decide_eq_decide.mpr (by omega)
          · rw [if_neg c2]
            have ri := a9 i hi
            refine ⟨ri.1, ri.2.1, fun j hj => ?_⟩
            rw [← ri.2.2 j hj, decide_eq_false (by omega), Bool.false_or]
      · unfold reX at *
        rw [z (t + 7) (by omega) (by omega), z (t + 7 + 1) (by omega) (by omega), z (t + 7 + 2) (by omega) (by omega), z (t + 7 + 3) (by omega) (by omega)]
        exact a10
      · unfold fmX at *
        rw [z (t + 11) (by omega) (by omega), z (t + 11 + 1) (by omega) (by omega)]
        exact a11
      · unfold fmX at *
        rw [z (t + 14) (by omega) (by omega), z (t + 14 + 1) (by omega) (by omega)]
        exact a12
    · rw [if_pos qr] at hk
      subst hk
      exact x_fail x5.1 fun M6 o6 f6 => ⟨by decide, h M6 (((s3.tr s4).tr s5).1.tr o6.r) f6⟩
theorem x_dweller {r : SR} (hT : TB T) (hx : XD M T t s D) (hD : DOK D s) (hw : tw T s = 3) (hr : stP T D s = r) (h : okS Q M t T r) : m_X9_dweller M Q := by
  have kt := isTown hx.2.2.1
  have sl := hx.1.le
  unfold stP at hr
  rw [if_neg (by omega), if_neg (by omega), if_pos hw] at hr
  unfold m_X9_dweller m_X9_dweller_J23 m_X9_dweller_J48 m_X9_dweller_J83
  rw [hx.2.1, hx.2.2.2.2.1]
  have d2 := hD.2.1
  have d1 := hD.1
  refine ⟨hx.2.2.1, x_begins (m := 6) hT hx (by omega) (by omega) (by decide) (fun q M1 o1 f1 => ?_) (fun q M1 x1 s1 => ?_)⟩
  · unfold mst at hr
    rw [if_pos q] at hr
    subst hr
    exact h M1 o1 f1
  · unfold mst at hr
    rw [if_neg (by omega)] at hr
    have n0 := nx_rng sl
    refine x_newName hT x1 (hD.mono n0.1) hr (okS_f h s1) fun hk ok M2 x2 f2 s2 => ?_
    have n1 := nx_rng n0.2.1
    have s2' := s1.tr s2
    refine x_tkO hT x2 (by decide) hk (okS_f h s2') fun hk M3 x3 e3 s3 => ?_
    have n2 := nx_rng n1.2.1
    have s3' := s2'.tr s3
    refine x_placeName x3 (hD.mono (by omega)) hk (okS_f h s3') fun p np hk qn hp M4 x4 f4 s4 => ?_
    have b4 := tw_b (T := T) (s := nx T (nx T (nx T s))) (by omega)
    have n3 := nx_rng n2.2.1
    refine x_adv hT x4.1 b4.1 (by omega) fun M5 l5 o5 => ?_
    have x5 := x4.adv l5 o5
    have s5 := (s3'.tr s4).tr (o5.r (t := t))
    refine x_tkO hT x5 (by decide) hk (okS_f h s5) fun hk M6 x6 e6 s6 => ?_
    have s6' := s5.tr s6
    refine x_number hT x6 (by decide) hk (okS_f h s6') fun hk k0 k9 M7 x7 f7 s7 => ?_
    subst hk
    rw [x7.2.1, f2, f4, f7]
    refine ⟨x7.2.2.1, ?_⟩
    obtain ⟨a1, a2, a3, a4, a5, a6, a7, a8, a9, a10, a11, a12⟩ := id x7.2.2
    unfold m_X8_addPerson m_X8_addPerson_J49
    rw [a3]
    refine ⟨a1, by omega, fun z => by omega, fun _ => ⟨by omega, fun M8 e8 => ?_⟩⟩
    have g8 : M8 t = M7 t := by rw [e8, up_ne _ (by omega)]
    rw [g8, a3]
    refine ⟨by omega, fun M9 e9 => ?_⟩
    have g9 : M9 t = M7 t := by rw [e9, up_ne _ (by omega), g8]
    rw [g9, a3]
    refine ⟨by omega, fun M10 e10 M11 e11 => ?_⟩
    have g10 : M10 t 5 = ((dNb D).length : Nat) := by rw [e10, up_ne _ (by omega), g9, a3]
    have z : ∀ a, a ≠ t → a ≠ t + 4 → a ≠ t + 5 → a ≠ t + 6 → M11 a = M7 a := fun a p1 p2 p3 p4 => by rw [e11, up_ne _ p1, e10, up_ne _ p4, e9, up_ne _ p3, e8, up_ne _ p2]
    have zt : ∀ j, j ≠ 5 → M11 t j = M7 t j := fun j hj => by rw [e11, up_get, if_neg (by omega), e10, up_ne _ (by omega), g9]
    have z4 : ∀ i : Nat, M11 (t + 4) i = if i = (dNb D).length then pkX (nm T (nx T s)) else M7 (t + 4) i := fun i => by
      rw [e11, up_ne _ (by omega), e10, up_ne _ (by omega), e9, up_ne _ (by omega), e8, up_get]
      by_cases c : i = (dNb D).length
      · rw [if_pos ⟨rfl, by omega⟩, if_pos c]
      · rw [if_neg (by omega), if_neg c]
    have z5 : ∀ i : Nat, M11 (t + 5) i = if i = (dNb D).length then ((p : Nat) : Int) else M7 (t + 5) i := fun i => by
      rw [e11, up_ne _ (by omega), e10, up_ne _ (by omega), e9, up_get]
      by_cases c : i = (dNb D).length
      · rw [if_pos ⟨rfl, by omega⟩, if_pos c]
      · rw [if_neg (by omega), if_neg c, e8, up_ne _ (by omega)]
    have z6 : ∀ i : Nat, M11 (t + 6) i = if i = (dNb D).length then tn T (nx T (nx T (nx T (nx T (nx T s))))) else M7 (t + 6) i := fun i => by
      rw [e11, up_ne _ (by omega), e10, up_get]
      by_cases c : i = (dNb D).length
      · rw [if_pos ⟨rfl, by omega⟩, if_pos c]
      · rw [if_neg (by omega), if_neg c, e9, up_ne _ (by omega), e8, up_ne _ (by omega)]
    have la : (dNb D ++ [nm T (nx T s)]).length = (dNb D).length + 1 := by rw [List.length_append, List.length_singleton]
    have key := x7.town (M' := M11) (D' := (dNa D, dNb D ++ [nm T (nx T s)], dRe D, dRo D, (fun i => if i = ((dNb D).length : Nat) then (p : Nat) else dHo D i), (fun i => if i = ((dNb D).length : Nat) then tn T (nx T (nx T (nx T (nx T (nx T s))))) else dKi D i), D.2.2.2.2.2.2)) (fun c hc => z c (by omega) (by omega) (by omega) (by omega)) ⟨a1, by rw [zt 0 (by decide)]; exact a2, ?_, by rw [zt 2 (by decide)]; exact a4, by rw [zt 9 (by decide)]; exact a5, by rw [zt 11 (by decide)]; exact a6, ?_, fun i hi => ?_, ?_, ?_, ?_, ?_⟩
    · exact h M11 key.1 ((s6'.tr s7).tr key.2)
    · rw [e11, up_get, if_pos ⟨rfl, rfl⟩, g10]
      show _ = (((dNb D ++ [nm T (nx T s)]).length : Nat) : Int)
      rw [la]
      rfl
    · rw [z (t + 1) (by omega) (by omega) (by omega) (by omega)]
      exact a7
    · have hi : i < (dNb D ++ [nm T (nx T s)]).length := hi
      rw [la] at hi
      show M11 (t + 4) i = pkX ((dNb D ++ [nm T (nx T s)]).getD i []) ∧ M11 (t + 5) i = (if (i : Int) = ((dNb D).length : Nat) then ((p : Nat) : Int) else dHo D i) ∧ M11 (t + 6) i = (if (i : Int) = ((dNb D).length : Nat) then _ else dKi D i)
      rw [z4, z5, z6, getD_app]
      by_cases c : i = (dNb D).length
      · rw [if_pos c, if_pos c, if_pos c, if_neg (by omega), if_pos c, if_pos (by omega), if_pos (by omega)]
        exact ⟨rfl, rfl, rfl⟩
      · have c2 : ¬ (i : Int) = ((dNb D).length : Nat) := by omega
        have c3 : i < (dNb D).length := by omega
        simp only [c, c2, c3, if_false, if_true]
        exact a8 i (by omega)
    · rw [z (t + 2) (by omega) (by omega) (by omega) (by omega)]
      exact a9
    · unfold reX at *
      rw [z (t + 7) (by omega) (by omega) (by omega) (by omega), z (t + 7 + 1) (by omega) (by omega) (by omega) (by omega), z (t + 7 + 2) (by omega) (by omega) (by omega) (by omega), z (t + 7 + 3) (by omega) (by omega) (by omega) (by omega)]
      exact a10
    · unfold fmX at *
      rw [z (t + 11) (by omega) (by omega) (by omega) (by omega), z (t + 11 + 1) (by omega) (by omega) (by omega) (by omega)]
      exact a11
    · unfold fmX at *
      rw [z (t + 14) (by omega) (by omega) (by omega) (by omega), z (t + 14 + 1) (by omega) (by omega) (by omega) (by omega)]
      exact a12
/-- a word of the town itself changes -/
theorem DX.word {M' : Mem} {D' : TD} {k v : Int} (hx : DX M t D) (e : M' = up M t k v) (hk : k = 9 ∨ k = 11) (h9 : (dWa D' : Int) = if k = 9 then v else dWa D) (h11 : dRa D' = if k = 11 then v else dRa D) (e1 : dNa D' = dNa D) (e2 : dNb D' = dNb D) (e3 : dRe D' = dRe D) (e4 : dRo D' = dRo D) (e5 : dHo D' = dHo D) (e6 : dKi D' = dKi D) (e7 : dFr D' = dFr D) (e8 : dSt D' = dSt D) (e9 : dGo D' = dGo D) : DX M' t D' := by
  obtain ⟨a1, a2, a3, a4, a5, a6, a7, a8, a9, a10, a11, a12⟩ := hx
  have z : ∀ a, a ≠ t → M' a = M a := fun a p => by rw [e, up_ne _ p]
  have zt : ∀ j, j ≠ k → M' t j = M t j := fun j hj => by rw [e, up_get, if_neg (by omega)]
  unfold DX
  rw [e1, e2, e3, e4, e5, e6, e7, e8, e9]
  refine ⟨a1, by rw [zt 0 (by omega), a2], by rw [zt 5 (by omega), a3], by rw [zt 2 (by omega), a4], ?_, ?_, ?_, ?_, ?_, ?_, ?_, ?_⟩
  · rw [h9, e, up_get]
    rcases hk with rfl | rfl
    · rw [if_pos ⟨rfl, rfl⟩, if_pos rfl]
    · rw [if_neg (by omega), if_neg (by omega), a5]
  · rw [h11, e, up_get]
    rcases hk with rfl | rfl
    · rw [if_neg (by omega), if_neg (by omega), a6]
    · rw [if_pos ⟨rfl, rfl⟩, if_pos rfl]
  · rw [z (t + 1) (by omega)]; exact a7
  · rw [z (t + 4) (by omega), z (t + 5) (by omega), z (t + 6) (by omega)]; exact a8
  · rw [z (t + 2) (by omega)]; exact a9
  · unfold reX at *
    rw [z (t + 7) (by omega), z (t + 7 + 1) (by omega), z (t + 7 + 2) (by omega), z (t + 7 + 3) (by omega)]
    exact a10
  · unfold fmX at *
    rw [z (t + 11) (by omega), z (t + 11 + 1) (by omega)]
    exact a11
  · unfold fmX at *
    rw [z (t + 14) (by omega), z (t + 14 + 1) (by omega)]
    exact a12
theorem x_watcher {r : SR} (hT : TB T) (hx : XD M T t s D) (hD : DOK D s) (hw : tw T s = 6) (hr : stP T D s = r) (h : okS Q M t T r) : m_X9_watcher M Q := by
  have kt := isTown hx.2.2.1
  have sl := hx.1.le
  unfold stP at hr
  rw [if_neg (by omega), if_neg (by omega), if_neg (by omega), if_pos hw] at hr
  have d2 := hD.2.1
  have w64 := hD.wa
  have b0 := tw_b (T := T) (s := s) (by omega)
  unfold m_X9_watcher m_X9_watcher_J60
  refine x_adv hT hx.1 b0.1 (by omega) fun M1 l1 o1 => ?_
  have x1 := hx.adv l1 o1
  have s1 : oRs t M M1 := o1.r
  refine x_isName x1.1 ?_
  by_cases q : tw T (nx T s) = -1
  · rw [if_pos q]
    rw [if_neg (by omega)] at hr
    have ok := ok_tw q
    have b1 := tw_b (T := T) (s := nx T s) (by omega)
    have n0 := nx_rng sl
    have r1 := nix_rng (l := dNb D) (n := nm T (nx T s)) (k := 0)
    refine ⟨by decide, fun z => absurd z (by decide), fun _ => ?_⟩
    rw [x1.2.1, x1.1.w4 q]
    have bad : nix (dNb D) (nm T (nx T s)) 0 = -1 ∨ (dWa D).testBit (nix (dNb D) (nm T (nx T s)) 0).toNat = true → m_X7_fail 3 M1 (fun r2 M1 => (r2 = 0 ∨ r2 = 1) ∧ Q r2 M1) := fun z => by
      rw [if_pos z] at hr
      subst hr
      exact x_fail x1.1 fun M2 o2 f2 => ⟨by decide, h M2 (s1.1.tr o2.r) f2⟩
    refine ⟨x1.2.2.1, x_personOf x1.2.2 (hD.mono n0.1) ok ⟨by omega, fun z1 => bad (Or.inl z1), fun z1 => ?_⟩⟩
    rw [x1.2.1, x1.2.2.2.2.2.2.1]
    have zt := z_tb (a := (dWa D : Nat)) (k := nix (dNb D) (nm T (nx T s)) 0) (by omega) (by omega)
    unfold tb at zt
    rw [Int.toNat_natCast] at zt
    refine ⟨x1.2.2.1, by omega, fun z2 => bad (Or.inr (zt.1.mp z2)), fun z2 => ⟨x1.2.2.1, fun M2 e2 => ?_⟩⟩
    have nt : ¬ (dWa D).testBit (nix (dNb D) (nm T (nx T s)) 0).toNat = true := mt zt.1.mpr z2
    rw [if_neg (by intro z; rcases z with z | z <;> contradiction)] at hr
    subst hr
    have p6 : 2 ^ (nix (dNb D) (nm T (nx T s)) 0).toNat ≤ 2 ^ 6 := Nat.pow_le_pow_right (by decide) (by omega)
    rw [z_shl1 (by omega), z_or (by omega) (by omega)] at e2
    have key := x1.town (M' := M2) (D' := (dNa D, dNb D, dRe D, dRo D, dHo D, dKi D, dWa D ||| 2 ^ (nix (dNb D) (nm T (nx T s)) 0).toNat, D.2.2.2.2.2.2.2)) (fun c hc => by rw [e2, up_ne _ (by omega)]) (x1.2.2.word e2 (Or.inl rfl) (by rw [if_pos rfl]) (by rw [if_neg (by decide)]) rfl rfl rfl rfl rfl rfl rfl rfl rfl)
    exact x_adv hT key.1.1 b1.1 (by omega) fun M3 l3 o3 => h M3 (key.1.adv l3 o3) ((s1.tr key.2).tr o3.r)
  · rw [if_neg q]
    rw [if_pos q] at hr
    subst hr
    exact ⟨by decide, fun _ => x_misplaced x1.1 fun M2 o2 f2 => ⟨by decide, h M2 (s1.1.tr o2.r) f2⟩, fun z => absurd rfl z⟩
theorem x_raind {r : SR} (hT : TB T) (hx : XD M T t s D) (hw : tw T s = 10) (hr : stP T D s = r) (h : okS Q M t T r) : m_X9_rain M Q := by
  have kt := isTown hx.2.2.1
  unfold stP at hr
  rw [if_neg (by omega), if_neg (by omega), if_neg (by omega), if_neg (by omega), if_neg (by omega), if_neg (by omega), if_neg (by omega), if_pos hw] at hr
  have b0 := tw_b (T := T) (s := s) (by omega)
  unfold m_X9_rain
  refine x_adv hT hx.1 b0.1 (by omega) fun M1 l1 o1 => ?_
  have x1 := hx.adv l1 o1
  have s1 : oRs t M M1 := o1.r
  refine x_number hT x1 (by decide) hr (okS_f h s1) fun hk k0 k9 M2 x2 f2 s2 => ?_
  subst hk
  rw [x2.2.1, f2]
  refine ⟨x2.2.2.1, fun M3 e3 => ?_⟩
  have key := x2.town (M' := M3) (D' := (dNa D, dNb D, dRe D, dRo D, dHo D, dKi D, dWa D, dFr D, tn T (nx T s), dSt D, dGo D)) (fun c hc => by rw [e3, up_ne _ (by omega)]) (x2.2.2.word e3 (Or.inr rfl) (by rw [if_neg (by decide)]) (by rw [if_pos rfl]) rfl rfl rfl rfl rfl rfl rfl rfl rfl)
  exact h M3 key.1 ((s1.tr s2).tr key.2)
theorem x_shown {r : SR} (hT : TB T) (hx : XD M T t s D) (hD : DOK D s) (hw : tw T s = 7) (hr : stP T D s = r) (h : okS Q M t T r) : m_X9_shownFrame M Q := by
  have kt := isTown hx.2.2.1
  have sl := hx.1.le
  have k5 : kd (t + 7) = 5 := by rcases kt with rfl | rfl <;> rfl
  unfold stP at hr
  rw [if_neg (by omega), if_neg (by omega), if_neg (by omega), if_neg (by omega), if_pos hw] at hr
  unfold m_X9_shownFrame m_X9_shownFrame_J29
  have er : M (t + 7) 0 = ((dFr D).length : Nat) := hx.2.2.2.2.2.2.2.2.2.2.2.1.1
  rw [hx.2.1, er]
  have d1 := hD.1
  have d8 := hD.2.2.2.2.2.2.2.1
  refine ⟨hx.2.2.1, x_begins (m := 8) hT hx (by omega) (by omega) (by decide) (fun q M1 o1 f1 => ?_) (fun q M1 x1 s1 => ?_)⟩
  · unfold mst at hr
    rw [if_pos q] at hr
    subst hr
    exact h M1 o1 f1
  · unfold mst at hr
    rw [if_neg (by omega)] at hr
    have n0 := nx_rng sl
    refine x_number hT x1 (by decide) hr (okS_f h s1) fun hk k0 k9 M2 x2 f2 s2 => ?_
    have n1 := nx_rng n0.2.1
    have s2' := s1.tr s2
    refine x_placeName x2 (hD.mono (by omega)) hk (okS_f h s2') fun p np hk qn hp M3 x3 f3 s3 => ?_
    have s3' := s2'.tr s3
    have b3 := tw_b (T := T) (s := nx T (nx T s)) (by omega)
    rw [x3.2.1, f2, f3]
    have ire := idxP_at (l := dFr D) (s := tn T (nx T s)) (p := (p : Nat)) (k := 0) (by decide)
    refine ⟨x3.2.2.1, x_indexOf (W := wD D) k5 x3.2.2.2.2.2.2.2.2.2.2.2.1 hD.re d1 (by omega) (by omega) ⟨?_, fun z => ?_, fun z => ?_⟩⟩
    · by_cases c : idxP (dFr D) (tn T (nx T s)) (p : Nat) 0 = -1
      · rw [c]; decide
      · have := ire c
        omega
    · rw [if_neg (by omega)] at hk
      refine x_adv hT x3.1 b3.1 (by omega) fun M4 l4 o4 => ?_
      have x4 := x3.adv l4 o4
      have s4 := s3'.tr (o4.r (t := t))
      refine x_number hT x4 (by decide) hk (okS_f h s4) fun hk j0 j9 M5 x5 f5 s5 => ?_
      subst hk
      rw [x5.2.1, f5]
      obtain ⟨a1, a2, a3, a4, a5, a6, a7, a8, a9, a10, a11, a12⟩ := id x5.2.2
      refine ⟨x5.2.2.1, x_reput (W := wD D) k5 a10 hD.re d1 (by omega) (by omega) (by omega) fun M6 o6 r6 => ?_⟩
      unfold putP at r6
      rw [if_pos z] at r6
      have key := x5.town (M' := M6) (D' := (dNa D, dNb D, dRe D, dRo D, dHo D, dKi D, dWa D, dFr D ++ [(tn T (nx T s), ((p : Nat) : Int), tn T (nx T (nx T (nx T s))))], D.2.2.2.2.2.2.2.2)) (fun c hc => o6 c (by omega)) ⟨a1, by rw [o6 t (by omega)]; exact a2, by rw [o6 t (by omega)]; exact a3, by rw [o6 t (by omega)]; exact a4, by rw [o6 t (by omega)]; exact a5, by rw [o6 t (by omega)]; exact a6, by rw [o6 (t + 1) (by omega)]; exact a7, by rw [o6 (t + 4) (by omega), o6 (t + 5) (by omega), o6 (t + 6) (by omega)]; exact a8, by rw [o6 (t + 2) (by omega)]; exact a9, r6, ?_, ?_⟩
      · exact h M6 key.1 ((s4.tr s5).tr key.2)
      · unfold fmX at *
        rw [o6 (t + 11) (by omega), o6 (t + 11 + 1) (by omega)]
        exact a11
      · unfold fmX at *
        rw [o6 (t + 14) (by omega), o6 (t + 14 + 1) (by omega)]
        exact a12
    · rw [if_pos z] at hk
      subst hk
      exact x_fail x3.1 fun M4 o4 f4 => ⟨by decide, h M4 (s3'.1.tr o4.r) f4⟩
end
