/-! the class reads a town -/
section
variable {M : Mem} {T : List Int} {t : Int} {s : Nat} {D : TD} {Q : Int → Mem → Prop}
theorem DX.stays {M' : Mem} {c : List Int} (hx : DX M t D) (e : ∀ a, a ≠ 1 → a ≠ t + 11 → a ≠ t + 12 → M' a = M a) (hf : fmX M' (t + 11) c) : DX M' t (dNa D, dNb D, dRe D, dRo D, dHo D, dKi D, dWa D, dFr D, dRa D, c, dGo D) := by
  have kt := isTown hx.1
  obtain ⟨a1, a2, a3, a4, a5, a6, a7, a8, a9, a10, a11, a12⟩ := hx
  refine ⟨a1, ?_, ?_, ?_, ?_, ?_, ?_, ?_, ?_, ?_, hf, ?_⟩
  · rw [e t (by omega) (by omega) (by omega)]; exact a2
  · rw [e t (by omega) (by omega) (by omega)]; exact a3
  · rw [e t (by omega) (by omega) (by omega)]; exact a4
  · rw [e t (by omega) (by omega) (by omega)]; exact a5
  · rw [e t (by omega) (by omega) (by omega)]; exact a6
  · rw [e (t + 1) (by omega) (by omega) (by omega)]; exact a7
  · rw [e (t + 4) (by omega) (by omega) (by omega), e (t + 5) (by omega) (by omega) (by omega), e (t + 6) (by omega) (by omega) (by omega)]; exact a8
  · rw [e (t + 2) (by omega) (by omega) (by omega)]; exact a9
  · unfold reX at *
    rw [e (t + 7) (by omega) (by omega) (by omega), e (t + 7 + 1) (by omega) (by omega) (by omega), e (t + 7 + 2) (by omega) (by omega) (by omega), e (t + 7 + 3) (by omega) (by omega) (by omega)]
    exact a10
  · unfold fmX at *
    rw [e (t + 14) (by omega) (by omega) (by omega), e (t + 14 + 1) (by omega) (by omega) (by omega)]
    exact a12
theorem DX.goes {M' : Mem} {c : List Int} (hx : DX M t D) (e : ∀ a, a ≠ 1 → a ≠ t + 14 → a ≠ t + 15 → M' a = M a) (hf : fmX M' (t + 14) c) : DX M' t (dNa D, dNb D, dRe D, dRo D, dHo D, dKi D, dWa D, dFr D, dRa D, dSt D, c) := by
  have kt := isTown hx.1
  obtain ⟨a1, a2, a3, a4, a5, a6, a7, a8, a9, a10, a11, a12⟩ := hx
  refine ⟨a1, ?_, ?_, ?_, ?_, ?_, ?_, ?_, ?_, ?_, ?_, hf⟩
  · rw [e t (by omega) (by omega) (by omega)]; exact a2
  · rw [e t (by omega) (by omega) (by omega)]; exact a3
  · rw [e t (by omega) (by omega) (by omega)]; exact a4
  · rw [e t (by omega) (by omega) (by omega)]; exact a5
  · rw [e t (by omega) (by omega) (by omega)]; exact a6
  · rw [e (t + 1) (by omega) (by omega) (by omega)]; exact a7
  · rw [e (t + 4) (by omega) (by omega) (by omega), e (t + 5) (by omega) (by omega) (by omega), e (t + 6) (by omega) (by omega) (by omega)]; exact a8
  · rw [e (t + 2) (by omega) (by omega) (by omega)]; exact a9
  · unfold reX at *
    rw [e (t + 7) (by omega) (by omega) (by omega), e (t + 7 + 1) (by omega) (by omega) (by omega), e (t + 7 + 2) (by omega) (by omega) (by omega), e (t + 7 + 3) (by omega) (by omega) (by omega)]
    exact a10
  · unfold fmX at *
    rw [e (t + 11) (by omega) (by omega) (by omega), e (t + 11 + 1) (by omega) (by omega) (by omega)]
    exact a11
theorem XD.five {M' : Mem} {k v : Int} (h : XD M T t s D) (e : M' = up M 5 k v) : XD M' T t s D := by
  have k := isTown h.2.2.1
  have z : ∀ c, c ≠ 5 → M' c = M c := fun c hc => by rw [e, up_ne _ hc]
  refine ⟨?_, by rw [z 4 (by decide), h.2.1], h.2.2.rows (fun a a1 a2 => z a (by omega))⟩
  have := h.1
  unfold LX rw1 at *
  rw [z 1 (by decide), z 2 (by decide), z 3 (by decide)]
  exact this
theorem x_begins2 {c m : Nat} {A B : Mem → Prop} (hT : TB T) (hx : XD M T t s D) (hw : 0 ≤ tw T s) (hc : c ≤ 2000) (hm : m ≤ 2000) (hA : m ≤ c → ∀ M', oR t M M' → FX M' (6, (s : Nat)) → A M') (hB : c < m → ∀ M', XD M' T t (nx T s) D → oT M M' → B M') : m_X9_begins (c : Nat) (m : Nat) M (fun r M' => (inI r) ∧ ((r = 0 → A M') ∧ (¬ r = 0 → B M'))) := by
  have b := tw_b (T := T) (s := s) (by omega)
  unfold m_X9_begins
  exact ⟨by omega, by omega, fun q => x_adv hT hx.1 b.1 (by omega) fun M1 l1 o1 => rq_1 (hB (by omega) M1 (hx.adv l1 o1) o1), fun q => x_fail hx.1 fun M1 o1 f1 => ⟨by decide, rq_0 (hA (by omega) M1 o1.r f1)⟩⟩
theorem x_stays {r : SR} (hT : TB T) (hx : XD M T t s D) (hw : tw T s = 8) (hD : DOK D s) (hr : stP T D s = r) (h : okS Q M t T r) : (kd (M 4 2) = 8) ∧ m_X2_readInto ((M 4 2) + 11) 0 M (fun M24 =>
        (kd (M24 4 2) = 8) ∧ m_X9_begins (M24 ((M24 4 2) + 11) 2) 1 M24 (fun r27 M26 =>
          (inI r27) ∧ ((r27 = 0 →
            m_X9_statement_J157 Q  M26) ∧ (¬ r27 = 0 →
            m_X2_test 0 M26 (fun r30 M29 =>
              (inI r30) ∧ ((r30 = 0 →
                m_X9_statement_J157 Q  M29) ∧ (¬ r30 = 0 →
                m_X9_statement_J158 Q 1 M29))))))) := by
  have kt := isTown hx.2.2.1
  have sl := hx.1.le
  have k1 : kd (t + 11) = 1 := by rcases kt with rfl | rfl <;> rfl
  unfold stP at hr
  rw [if_neg (by omega), if_neg (by omega), if_neg (by omega), if_neg (by omega), if_neg (by omega), if_pos hw] at hr
  unfold m_X2_readInto m_X9_statement_J157 m_X9_statement_J158 m_X2_test
  rw [hx.2.1]
  refine ⟨hx.2.2.1, k1, fun M1 e1 => ⟨by decide, fun M2 e2 => ?_⟩⟩
  have x2 := (hx.five e1).five e2
  have s2 : oRs t M M2 := (oRs.up e1 (by omega) (by omega)).tr (oRs.up e2 (by omega) (by omega))
  have fm := x2.2.2.2.2.2.2.2.2.2.2.2.2.1
  have sz := hD.2.2.2.2.2.2.2.2.2.2.2.2.2.2.2
  have tl := hT.1
  dsimp only
  rw [x2.2.1, fm.1]
  refine ⟨x2.2.2.1, x_begins2 (m := 1) hT x2 (by omega) (by omega) (by decide) (fun q M3 o3 f3 => ?_) (fun q M3 x3 o3 => ?_)⟩
  · unfold mst at hr
    rw [if_pos q] at hr
    subst hr
    exact ⟨by decide, h M3 (s2.1.tr o3) f3⟩
  · unfold mst at hr
    rw [if_neg (by omega)] at hr
    have n0 := nx_rng sl
    have l0 : (dSt D).length = 0 := by omega
    have z5 : M3 5 1 = t + 11 ∧ M3 5 2 = 0 := by
      rw [o3.1 5 (by decide), e2, up_get, if_neg (by decide), up_get, if_pos ⟨rfl, rfl⟩, e1, up_get, if_pos ⟨rfl, rfl⟩]
      exact ⟨rfl, rfl⟩
    have ps : PSX M3 T (t + 11) false (nx T s) [] := by
      refine ⟨x3.1, z5.1, z5.2, ?_, fun j hj => absurd hj (Nat.not_lt_zero j)⟩
      have := x3.2.2.2.2.2.2.2.2.2.2.2.2.1
      rw [this.1, l0]
      rfl
    have s3 : oRs t M M3 := s2.tr o3.r
    have oq : ∀ M4, oQ (t + 11) M3 M4 → oR t M3 M4 := fun M4 o4 => ⟨fun a a1 a4 a5 at' => o4.1 a a1 (by omega) (by omega), o4.2.1⟩
    have par := (x_parse (T := T) (g := false) (fo := t + 11) hT k1 (fuel T)).1
    cases e : pd T false (fuel T) 0 0 (nx T s) with
    | none => exact absurd e (fuel_ok n0.2.1 (by decide))
    | some x =>
      rw [e] at hr
      refine par 0 0 (nx T s) 60 M3 _ [] x (by decide) e ps (by simp) (by decide) (by decide) ?_
      cases x with
      | inl e1 =>
        have hr : (Sum.inl e1 : SR) = r := hr
        intro M4 o4 f4
        subst hr
        exact rq_0 ⟨by decide, h M4 (s3.1.tr (oq M4 o4)) f4⟩
      | inr q =>
        obtain ⟨c, t1⟩ := q
        intro M4 p4 o4
        have hr : (Sum.inr ((dNa D, dNb D, dRe D, dRo D, dHo D, dKi D, dWa D, dFr D, dRa D, c, dGo D), t1) : SR) = r := hr
        subst hr
        rw [List.nil_append] at p4
        have d4 : DX M4 t (dNa D, dNb D, dRe D, dRo D, dHo D, dKi D, dWa D, dFr D, dRa D, c, dGo D) := x3.2.2.stays (fun a a1 a2 a3 => o4.1.1 a a1 a2 (by omega)) ⟨p4.2.2.2.1, p4.2.2.2.2⟩
        exact rq_1 ⟨by decide, h M4 ⟨p4.1, by rw [o4.1.1 4 (by decide) (by omega) (by omega), x3.2.1], d4⟩ (s3.tr ⟨oq M4 o4.1, o4.2⟩)⟩
theorem x_goes {r : SR} (hT : TB T) (hx : XD M T t s D) (hw : tw T s = 9) (hD : DOK D s) (hr : stP T D s = r) (h : okS Q M t T r) : (kd (M 4 2) = 8) ∧ m_X2_readInto ((M 4 2) + 14) 1 M (fun M24 =>
        (kd (M24 4 2) = 8) ∧ m_X9_begins (M24 ((M24 4 2) + 14) 2) 1 M24 (fun r27 M26 =>
          (inI r27) ∧ ((r27 = 0 →
            m_X9_statement_J207 Q  M26) ∧ (¬ r27 = 0 →
            m_X2_sum 0 M26 (fun r30 M29 =>
              (inI r30) ∧ ((r30 = 0 →
                m_X9_statement_J207 Q  M29) ∧ (¬ r30 = 0 →
                m_X9_statement_J208 Q 1 M29))))))) := by
  have kt := isTown hx.2.2.1
  have sl := hx.1.le
  have k1 : kd (t + 14) = 1 := by rcases kt with rfl | rfl <;> rfl
  unfold stP at hr
  rw [if_neg (by omega), if_neg (by omega), if_neg (by omega), if_neg (by omega), if_neg (by omega), if_neg (by omega), if_pos hw] at hr
  unfold m_X2_readInto m_X9_statement_J207 m_X9_statement_J208 m_X2_sum
  rw [hx.2.1]
  refine ⟨hx.2.2.1, k1, fun M1 e1 => ⟨by decide, fun M2 e2 => ?_⟩⟩
  have x2 := (hx.five e1).five e2
  have s2 : oRs t M M2 := (oRs.up e1 (by omega) (by omega)).tr (oRs.up e2 (by omega) (by omega))
  have fm := x2.2.2.2.2.2.2.2.2.2.2.2.2.2
  have sz := hD.2.2.2.2.2.2.2.2.2.2.2.2.2.2.2
  have tl := hT.1
  dsimp only
  rw [x2.2.1, fm.1]
  refine ⟨x2.2.2.1, x_begins2 (m := 1) hT x2 (by omega) (by omega) (by decide) (fun q M3 o3 f3 => ?_) (fun q M3 x3 o3 => ?_)⟩
  · unfold mst at hr
    rw [if_pos q] at hr
    subst hr
    exact ⟨by decide, h M3 (s2.1.tr o3) f3⟩
  · unfold mst at hr
    rw [if_neg (by omega)] at hr
    have n0 := nx_rng sl
    have l0 : (dGo D).length = 0 := by omega
    have z5 : M3 5 1 = t + 14 ∧ M3 5 2 = 1 := by
      rw [o3.1 5 (by decide), e2, up_get, if_neg (by decide), up_get, if_pos ⟨rfl, rfl⟩, e1, up_get, if_pos ⟨rfl, rfl⟩]
      exact ⟨rfl, rfl⟩
    have ps : PSX M3 T (t + 14) true (nx T s) [] := by
      refine ⟨x3.1, z5.1, z5.2, ?_, fun j hj => absurd hj (Nat.not_lt_zero j)⟩
      have := x3.2.2.2.2.2.2.2.2.2.2.2.2.2
      rw [this.1, l0]
      rfl
    have s3 : oRs t M M3 := s2.tr o3.r
    have oq : ∀ M4, oQ (t + 14) M3 M4 → oR t M3 M4 := fun M4 o4 => ⟨fun a a1 a4 a5 at' => o4.1 a a1 (by omega) (by omega), o4.2.1⟩
    have par := (x_parse (T := T) (g := true) (fo := t + 14) hT k1 (fuel T)).1
    cases e : pd T true (fuel T) 3 0 (nx T s) with
    | none => exact absurd e (fuel_ok n0.2.1 (by decide))
    | some x =>
      rw [e] at hr
      refine par 3 0 (nx T s) 60 M3 _ [] x (by decide) e ps (by simp) (by decide) (by decide) ?_
      cases x with
      | inl e1 =>
        have hr : (Sum.inl e1 : SR) = r := hr
        intro M4 o4 f4
        subst hr
        exact rq_0 ⟨by decide, h M4 (s3.1.tr (oq M4 o4)) f4⟩
      | inr q =>
        obtain ⟨c, t1⟩ := q
        intro M4 p4 o4
        have hr : (Sum.inr ((dNa D, dNb D, dRe D, dRo D, dHo D, dKi D, dWa D, dFr D, dRa D, dSt D, c), t1) : SR) = r := hr
        subst hr
        rw [List.nil_append] at p4
        have d4 : DX M4 t (dNa D, dNb D, dRe D, dRo D, dHo D, dKi D, dWa D, dFr D, dRa D, dSt D, c) := x3.2.2.goes (fun a a1 a2 a3 => o4.1.1 a a1 a2 (by omega)) ⟨p4.2.2.2.1, p4.2.2.2.2⟩
        exact rq_1 ⟨by decide, h M4 ⟨p4.1, by rw [o4.1.1 4 (by decide) (by omega) (by omega), x3.2.1], d4⟩ (s3.tr ⟨oq M4 o4.1, o4.2⟩)⟩
theorem x_statement {r : SR} (hT : TB T) (hx : XD M T t s D) (hD : DOK D s) (hr : stP T D s = r) (h : okS Q M t T r) : m_X9_statement M Q := by
  have kt := isTown hx.2.2.1
  have h' : okS (fun r M' => (r = 0 ∨ r = 1) ∧ Q r M') M t T r := by
    cases r with
    | inl e => exact fun M' o f => ⟨by decide, h M' o f⟩
    | inr q => exact fun M' o f => ⟨by decide, h M' o f⟩
  have mis : tw T s ≠ 0 → tw T s ≠ 1 → tw T s ≠ 3 → tw T s ≠ 6 → tw T s ≠ 7 → tw T s ≠ 8 → tw T s ≠ 9 → tw T s ≠ 10 → m_X7_misplaced M (fun r2 M1 => (r2 = 0 ∨ r2 = 1) ∧ Q r2 M1) := fun a0 a1 a3 a6 a7 a8 a9 a10 => by
    unfold stP at hr
    rw [if_neg a0, if_neg a1, if_neg a3, if_neg a6, if_neg a7, if_neg a8, if_neg a9, if_neg a10] at hr
    subst hr
    exact x_misplaced hx.1 fun M2 o2 f2 => h' M2 o2.r f2
  unfold m_X9_statement m_X9_statement_J214
  refine ⟨hx.1.s2, fun q => ?_, fun q => ?_⟩
  · have c := (hx.1.so (by decide)).mp q
    have e5 : M 1 5 = tw T s := by
      unfold tw
      rw [if_pos c, ((hx.1.2.2.2.2.2.2.2 c.1).2.1 c.2).2]
    have tr := tw_rng T s
    rw [e5]
    exact ⟨by omega, fun z => x_place hT hx hD z hr h', fun z => x_road hT hx hD z hr h', fun z => mis (by omega) (by omega) (by omega) (by omega) (by omega) (by omega) (by omega) (by omega), fun z => x_dweller hT hx hD z hr h', fun z => mis (by omega) (by omega) (by omega) (by omega) (by omega) (by omega) (by omega) (by omega), fun z => mis (by omega) (by omega) (by omega) (by omega) (by omega) (by omega) (by omega) (by omega), fun z => x_watcher hT hx hD z hr h', fun z => x_shown hT hx hD z hr h', fun z => x_stays hT hx z hD hr h, fun z => x_goes hT hx z hD hr h, fun z => x_raind hT hx z hr h', fun z => mis (by omega) (by omega) (by omega) (by omega) (by omega) (by omega) (by omega) (by omega)⟩
  · have c1 : ¬ (bd T s = -1 ∧ so T s = 1) := mt (hx.1.so (by decide)).mpr q
    have e2 : tw T s = -2 := by unfold tw; rw [if_neg c1]
    exact mis (by omega) (by omega) (by omega) (by omega) (by omega) (by omega) (by omega) (by omega)
/-- what reading comes to -/
def okR (Q : Int → Mem → Prop) (M : Mem) (t : Int) (T : List Int) : (Int × Int) ⊕ (TD × Nat) → Prop
  | .inl e => ∀ M', oR t M M' → FX M' e → Q (-1) M'
  | .inr (D, n) => ∀ M' s', XD M' T t s' D → DOK D s' → oRs t M M' → m_X8_measure t M' (fun M4 => Q (n : Nat) M4)
theorem okR_st {r : (Int × Int) ⊕ (TD × Nat)} {M' : Mem} (h : okR Q M t T r) (o : oRs t M M') : okR Q M' t T r := by
  cases r with
  | inl e => exact fun M2 o2 f2 => h M2 (o.1.tr o2) f2
  | inr q => exact fun M2 s2 x2 d2 o2 => h M2 s2 x2 d2 (o.tr o2)
theorem x_read_l (hT : TB T) : ∀ (f n : Nat) (M : Mem) (s : Nat) (D : TD) (r : (Int × Int) ⊕ (TD × Nat)), n + f = 81 → n ≤ 80 → XD M T t s D → DOK D s → rdT T f n s D = r → okR Q M t T r → m_X9_read_L21 Q f (n : Nat) M
  | 0, n, M, s, D, r, hn, h80, hx, hD, hr, h => by omega
  | f + 1, n, M, s, D, r, hn, h80, hx, hD, hr, h => by
    have sl := hx.1.le
    unfold m_X9_read_L21 m_X9_read_J65
    unfold rdT at hr
    by_cases q0 : so T s = 0
    · rw [if_pos q0] at hr
      subst hr
      have b : bd T s = -1 := Decidable.byContradiction fun z => by have := bd_so z; omega
      have e2 : M 1 2 = 0 := (hx.1.so (by decide)).mpr ⟨b, q0⟩
      have fin := h M s hx hD oRs.rf
      rw [e2, hx.2.1]
      refine ⟨by omega, fun q => ⟨by decide, fun _ => ⟨hx.2.2.1, ?_⟩, fun z => absurd rfl z⟩, fun q => ⟨by decide, fun _ => ⟨hx.2.2.1, fin⟩, fun z => absurd rfl z⟩⟩
      have : n = 80 := by omega
      subst this
      exact fin
    · rw [if_neg q0] at hr
      have n2 : ¬ M 1 2 = 0 := fun z => q0 ((hx.1.so (by decide)).mp z).2
      by_cases q80 : 80 ≤ n
      · rw [if_pos q80] at hr
        subst hr
        exact ⟨by omega, fun _ => ⟨hx.1.s2, fun z => absurd z n2, fun _ => x_fail hx.1 fun M1 o1 f1 => h M1 o1.r f1⟩, fun z => by omega⟩
      · rw [if_neg q80] at hr
        refine ⟨by omega, fun z => by omega, fun _ => ⟨hx.1.s2, fun z => absurd z n2, fun _ => ?_⟩⟩
        cases e : stP T D s with
        | inl e1 =>
          rw [e] at hr
          have hr : Sum.inl e1 = r := hr
          subst hr
          exact x_statement hT hx hD e fun M1 o1 f1 => rq_0 (h M1 o1 f1)
        | inr q =>
          obtain ⟨D1, t1⟩ := q
          rw [e] at hr
          have hr : (if ts T t1 = 59 then rdT T f (n + 1) (nx T t1) D1 else .inl (1, wr T t1)) = r := hr
          have so1 := stP_ok sl hD e
          refine x_statement hT hx hD e fun M1 x1 o1 => rq_1 ?_
          refine x_takeSign hT x1.1 (by decide) (fun q M2 l2 o2 => rq_1 ?_) (fun q M2 o2 f2 => rq_0 ?_)
          · rw [if_pos q] at hr
            rw [cast1]
            have nn := nx_ts so1.1 (show ts T t1 ≠ -1 by omega)
            exact x_read_l hT f (n + 1) M2 _ D1 r (by omega) (by omega) (x1.adv l2 o2) (so1.2.2.mono (by omega)) hr (okR_st h (o1.tr o2.r))
          · rw [if_neg q] at hr
            subst hr
            exact h M2 (o1.1.tr o2.r) f2
theorem x_readt (hT : TB T) (ht : kd t = 8) (hl : LR M T) (h : ∀ M0, oR t M M0 → M0 1 6 = 0 → M0 1 7 = -1 → okR Q M0 t T (rdT T 81 0 (skT T 0) D0)) : m_X9_read t M Q := by
  have kt := isTown ht
  unfold m_X9_read
  refine ⟨ht, fun M1 e1 => ?_⟩
  have f1 : M1 4 2 = t := by rw [e1, up_get, if_pos ⟨rfl, rfl⟩]
  rw [f1]
  unfold m_X8_clear m_X7_startReading
  refine ⟨ht, ht, fun M2 e2 M3 e3 M4 e4 M5 e5 M6 e6 M7 e7 M8 e8 M9 e9 N1 g1 N2 g2 N3 g3 N4 g4 => ?_⟩
  have z9 : ∀ a, (a < t ∨ t + 16 < a) → M9 a = M1 a := fun a ha => by
    rw [e9, up_ne _ (by omega), e8, up_ne _ (by omega), e7, up_ne _ (by omega), e6, up_ne _ (by omega), e5, up_ne _ (by omega), e4, up_ne _ (by omega), e3, up_ne _ (by omega), e2, up_ne _ (by omega)]
  have zn : ∀ a, a ≠ 1 → N4 a = M9 a := fun a ha => by rw [g4, up_ne _ ha, g3, up_ne _ ha, g2, up_ne _ ha, g1, up_ne _ ha]
  have zk : ∀ k, k ≠ 2 → k ≠ 6 → k ≠ 7 → k ≠ 9 → N4 1 k = M 1 k := fun k k2 k6 k7 k9 => by
    rw [g4, up_get, if_neg (by omega), g3, up_get, if_neg (by omega), g2, up_get, if_neg (by omega), g1, up_get, if_neg (by omega), z9 1 (by omega), e1, up_ne _ (by decide)]
  have dx : DX M9 t D0 := by
    have mt : ∀ k, M9 t k = if k = 11 then 0 else if k = 9 then 0 else if k = 5 then 0 else if k = 2 then 0 else if k = 0 then 0 else M1 t k := fun k => by
      rw [e9, up_ne _ (by omega), e8, up_ne _ (by omega), e7, up_get]
      by_cases c : k = 11
      · rw [if_pos ⟨rfl, c⟩, if_pos c]
      · rw [if_neg (fun w => c w.2), if_neg c, e6, up_ne _ (by omega), e5, up_get]
        by_cases c : k = 9
        · rw [if_pos ⟨rfl, c⟩, if_pos c]
        · rw [if_neg (fun w => c w.2), if_neg c, e4, up_get]
          by_cases c : k = 5
          · rw [if_pos ⟨rfl, c⟩, if_pos c]
          · rw [if_neg (fun w => c w.2), if_neg c, e3, up_get]
            by_cases c : k = 2
            · rw [if_pos ⟨rfl, c⟩, if_pos c]
            · rw [if_neg (fun w => c w.2), if_neg c, e2, up_get]
              by_cases c : k = 0
              · rw [if_pos ⟨rfl, c⟩, if_pos c]
              · rw [if_neg (fun w => c w.2), if_neg c]
    refine ⟨ht, by rw [mt]; rfl, by rw [mt]; rfl, by rw [mt]; rfl, by rw [mt]; rfl, by rw [mt]; rfl, fun i hi => absurd hi (Nat.not_lt_zero i), fun i hi => absurd hi (Nat.not_lt_zero i), fun i hi => absurd hi (Nat.not_lt_zero i), ⟨?_, fun i hi => absurd hi (Nat.not_lt_zero i)⟩, ⟨?_, fun i hi => absurd hi (Nat.not_lt_zero i)⟩, ⟨?_, fun i hi => absurd hi (Nat.not_lt_zero i)⟩⟩
    · rw [e9, up_ne _ (by omega), e8, up_ne _ (by omega), e7, up_ne _ (by omega), e6, up_get, if_pos ⟨rfl, rfl⟩]
      rfl
    · rw [e9, up_ne _ (by omega), e8, up_get, if_pos ⟨rfl, rfl⟩]
      rfl
    · rw [e9, up_get, if_pos ⟨rfl, rfl⟩]
      rfl
  have lr : LR N4 T := by
    obtain ⟨l1, l2, l3⟩ := hl
    refine ⟨by rw [zk 1 (by decide) (by decide) (by decide) (by decide), l1], ?_, ?_⟩
    · unfold rw1 at *
      rw [zn 2 (by decide), z9 2 (by omega), e1, up_ne _ (by decide)]
      exact l2
    · unfold rw1 at *
      rw [zn 3 (by decide), z9 3 (by omega), e1, up_ne _ (by decide)]
      exact l3
  have k2 : N4 1 2 = 0 := by rw [g4, up_get, if_pos ⟨rfl, rfl⟩]
  have k9 : N4 1 9 = ((0 : Nat) : Int) := by rw [g4, up_get, if_neg (by decide), g3, up_get, if_pos ⟨rfl, rfl⟩]; rfl
  have k6 : N4 1 6 = 0 := by rw [g4, up_get, if_neg (by decide), g3, up_get, if_neg (by decide), g2, up_get, if_neg (by decide), g1, up_get, if_pos ⟨rfl, rfl⟩]
  have k7 : N4 1 7 = -1 := by rw [g4, up_get, if_neg (by decide), g3, up_get, if_neg (by decide), g2, up_get, if_pos ⟨rfl, rfl⟩]
  refine x_adv0 (e := 0) hT lr (by omega) k9 (by omega) (by rw [k2]; exact ⟨fun z => by omega, fun z => by have := z.1; omega⟩) fun N5 l5 o5 => ?_
  have or : oR t M N5 := ⟨fun a a1 a4 a5 at' => by rw [o5.1 a a1, zn a a1, z9 a at', e1, up_ne _ a4], by rw [o5.2.1, zk 1 (by decide) (by decide) (by decide) (by decide)]⟩
  refine ⟨81, x_read_l hT 81 0 N5 _ D0 _ (by omega) (by omega) ⟨l5, by rw [o5.1 4 (by decide), zn 4 (by decide), z9 4 (by omega), f1], dx.rows (fun a a1 a2 => by rw [o5.1 a (by omega), zn a (by omega)])⟩ (D0_ok.mono (by omega)) rfl (h N5 or (by rw [o5.2.2.1, k6]) (by rw [o5.2.2.2, k7]))⟩
end
