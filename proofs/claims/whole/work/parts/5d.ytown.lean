/-! the model reads a town -/
section
variable {M : Mem} {T : List Int} {b : Int} {s : Nat} {D : TD}
theorem y_statement {Q : Mem → Prop} {r : SR} (hT : TB T) (hx : YD M T b s D) (hD : DOK D s) (hr : stP T D s = r) (h : okT Q M T b r) : m_X12_statement M Q := by
  have e4 : M 199 4 = (s : Nat) := hx.1.2.2.1
  unfold m_X12_statement m_X12_statement_J159
  have no : tw T s ≠ 0 → tw T s ≠ 1 → tw T s ≠ 3 → tw T s ≠ 6 → tw T s ≠ 7 → tw T s ≠ 8 → tw T s ≠ 9 → tw T s ≠ 10 → r = .inl (1, wr T s) := fun a0 a1 a3 a6 a7 a8 a9 a10 => by
    unfold stP at hr
    rw [if_neg a0, if_neg a1, if_neg a3, if_neg a6, if_neg a7, if_neg a8, if_neg a9, if_neg a10] at hr
    exact hr.symm
  refine y_lex hT hx.1 hx.2.1 (fun hbd => ?_) (fun hbd M1 o1 f1 => ?_)
  · rw [hx.2.1]
    refine ⟨by decide, fun _ => ?_, fun z => absurd (by decide) z⟩
    refine y_ww 0 (by decide) rfl hx.1 hbd (fun a0 => y_ww 1 (by decide) rfl hx.1 hbd (fun a1 => y_ww 3 (by decide) rfl hx.1 hbd (fun a3 => y_ww 6 (by decide) rfl hx.1 hbd (fun a6 => y_ww 7 (by decide) rfl hx.1 hbd (fun a7 => y_ww 8 (by decide) rfl hx.1 hbd (fun a8 => y_ww 9 (by decide) rfl hx.1 hbd (fun a9 => y_ww 10 (by decide) rfl hx.1 hbd (fun a10 => ?_) (fun a10 => y_raining hT hx a10 hr h)) (fun a9 => y_reading (w := 1) hT hx hD (Or.inr ⟨rfl, a9⟩) hr h)) (fun a8 => y_reading (w := 0) hT hx hD (Or.inl ⟨rfl, a8⟩) hr h)) (fun a7 => y_framing hT hx hD a7 hr h)) (fun a6 => y_watching hT hx hD a6 hr h)) (fun a3 => y_personing hT hx hD a3 hr h)) (fun a1 => y_roading hT hx hD a1 hr h)) (fun a0 => y_placing hT hx hD a0 hr h)
    have hn := no a0 a1 a3 a6 a7 a8 a9 a10
    rw [wr_ok hbd] at hn
    rw [e4]
    exact y_blame hx.2.1 fun M1 o1 f1 => okT_f hT h oW.rf _ hn M1 (hx.bad o1 f1 (by decide)) (o1.w f1.n)
  · have et : tw T s = -2 := by unfold tw; rw [if_neg (fun z => hbd z.1)]
    have hn := no (by omega) (by omega) (by omega) (by omega) (by omega) (by omega) (by omega) (by omega)
    have y1 := hx.bad o1 f1 (by decide)
    exact ⟨y1.n8.1, fun z => absurd z y1.n8.2.1, fun _ => okT_f hT h oW.rf _ hn M1 y1 (o1.w f1.n)⟩
theorem f_finishes {Q : Mem → Prop} {x : Int × Int} {n : Int} (h : YE M b x) (hQ : Q M) : m_X12_finishes n M Q := by
  have h2 := h.2.1
  have h8 := h.1.1
  unfold m_X12_finishes m_X12_lex m_X12_lex_J17
  have fin : (inI (M 199 8)) ∧ ((M 199 8 ≤ 0 → ∃ fu : Nat, m_X12_finishes_L17 Q n fu (M 199 5) M) ∧ (¬ M 199 8 ≤ 0 → Q M)) := ⟨by omega, fun z => by omega, fun _ => hQ⟩
  exact ⟨h.2.2.1, fun _ => fin, fun _ => y_blame1 (by omega) fin⟩
theorem y_fin_l {Q : Mem → Prop} {v1 : Int} {e : Nat} (hT : TB T) (hr : LYR M T) (h : m_X12_finishes_J53 Q v1 (e : Nat) M) : ∀ (d n : Nat), n + d = T.length → skT T n = e → m_X12_finishes_L17 Q v1 (d + 1) (n : Nat) M
  | 0, n, hn, hk => by
    have tl := hT.1
    unfold m_X12_finishes_L17
    rw [hr.1]
    rw [sk_end (by omega)] at hk
    subst hk
    exact ⟨by omega, by omega, fun _ => h, fun q => by omega⟩
  | d + 1, n, hn, hk => by
    have tl := hT.1
    unfold m_X12_finishes_L17 m_X12_finishes_J47
    have e2 : M 200 n = tc T n := hr.2 n (by omega)
    have r := tc_rng hT n
    rw [hr.1, e2]
    have go : isB (tc T n) → m_X12_finishes_L17 Q v1 (d + 1) ((n : Nat) + 1) M := fun hb => by
      rw [sk_b (by omega) hb] at hk
      rw [cast1]
      exact y_fin_l hT hr h d (n + 1) (by omega) hk
    refine ⟨by omega, by omega, fun q => by omega, fun _ => ⟨by omega, by omega, fun q => go (Or.inl q), fun q => ⟨by omega, by omega, fun q2 => go (Or.inr q2), fun q2 => ?_⟩⟩⟩
    rw [sk_n (by omega) (by intro z; rcases z with z | z <;> contradiction)] at hk
    subst hk
    exact h
theorem y_finishes {Q : Mem → Prop} {n : Nat} (hT : TB T) (hx : YD M T b s D) (hn : n ≤ 80) (h1 : ts T s = 59 → (n = 80 → so T (nx T s) = 0) → ∀ M', YD M' T b (nx T s) D → oW b M M' → Q M') (h6 : ts T s = 59 → n = 80 → so T (nx T s) ≠ 0 → ∀ M', YE M' b (6, (nx T s : Nat)) → oW b M M' → Q M') (hX : ts T s ≠ 59 → ∀ M', YE M' b (1, wr T s) → oW b M M' → Q M') : m_X12_finishes (n : Nat) M Q := by
  have tl := hT.1
  have sl := hx.1.2.1
  have e4 : M 199 4 = (s : Nat) := hx.1.2.2.1
  have er := en_rng sl
  have nr := nx_rng sl
  unfold m_X12_finishes
  refine y_lex hT hx.1 hx.2.1 (fun hbd => ?_) (fun hbd M1 o1 f1 => ?_)
  · rw [hx.2.1, hx.1.2.2.2.2.2.1 hbd]
    refine ⟨by decide, fun _ => ⟨T.length - en T s + 1, y_fin_l (e := nx T s) hT hx.1.1 ?_ (T.length - en T s) (en T s) (by omega) rfl⟩, fun z => absurd (by decide) z⟩
    unfold m_X12_finishes_J53 m_X12_finishes_J83 m_X12_must m_X12_must_J21 m_X12_must_J32
    have s0 := so_0 (T := T) (s := nx T s)
    refine y_sg hT hx.1 hbd (by decide) (fun q => ?_) (fun q => ?_)
    · refine y_lex hT hx.1 hx.2.1 (fun _ => ?_) (fun z => absurd hbd z)
      refine y_sg hT hx.1 hbd (by decide) (fun _ => ?_) (fun z => absurd z q)
      rw [e4]
      refine y_blame hx.2.1 fun M1 o1 f1 => ?_
      have y1 := hx.bad o1 f1 (by decide)
      rw [wr_ok hbd] at hX
      exact ⟨y1.n8.1, fun z => absurd z y1.n8.2.2, fun _ => hX q M1 (y1.e hT) (o1.w f1.n)⟩
    · have must : (n = 80 → so T (nx T s) = 0) → m_X12_lex M (fun M3 => m_X12_isSign 59 M3 (fun r5 M4 => (inI r5) ∧ ((r5 = 0 → m_X12_blame 1 (M4 199 4) M4 (fun M7 => (inI (M7 199 8)) ∧ ((M7 199 8 = 0 → m_X12_ahead M7 (fun M2 => Q M2)) ∧ (¬ M7 199 8 = 0 → Q M7)))) ∧ (¬ r5 = 0 → (inI (M4 199 8)) ∧ ((M4 199 8 = 0 → m_X12_ahead M4 (fun M2 => Q M2)) ∧ (¬ M4 199 8 = 0 → Q M4)))))) := fun h80 => by
        refine y_lex hT hx.1 hx.2.1 (fun _ => ?_) (fun z => absurd hbd z)
        refine y_sg hT hx.1 hbd (by decide) (fun z => absurd q z) (fun _ => ?_)
        rw [hx.2.1]
        exact ⟨by decide, fun _ => y_ahead hT hx.1 hbd fun M2 o2 l2 => h1 q h80 M2 (hx.adv l2 o2) o2.w, fun z => absurd rfl z⟩
      rw [hx.1.1.1]
      refine ⟨by omega, fun z80 => ⟨by omega, by omega, fun z => must (fun _ => s0.mpr (by omega)), fun z => ?_⟩, fun z80 => must (fun z => by omega)⟩
      refine y_blame hx.2.1 fun M1 o1 f1 => ?_
      have y1 := hx.bad o1 f1 (by decide)
      refine f_lex hT y1 ?_
      have l1 := hx.1.oB o1
      refine y_sg hT l1 hbd (by decide) (fun z => absurd q z) (fun _ => ?_)
      exact ⟨y1.n8.1, fun z => absurd z y1.n8.2.2, fun _ => h6 q (by omega) (fun w => by have := s0.mp w; omega) M1 (y1.e hT) (o1.w f1.n)⟩
  · have y1 := hx.bad o1 f1 (by decide)
    have t1 : ts T s ≠ 59 := by unfold ts; rw [if_neg (fun z => hbd z.1)]; decide
    exact ⟨y1.n8.1, fun z => absurd z y1.n8.2.1, fun _ => hX t1 M1 (y1.e hT) (o1.w f1.n)⟩
def okV (Q : Int → Mem → Prop) (M : Mem) (T : List Int) (b : Int) : (Int × Int) ⊕ (TD × Nat) → Prop
  | .inl e => ∀ M' v, YE M' b e → oW b M M' → m_X12_town_J208 Q v M'
  | .inr (D, n) => ∀ M' s', YD M' T b s' D → DOK D s' → oW b M M' → m_X12_town_J208 Q (n : Nat) M'
theorem okV_st {Q : Int → Mem → Prop} {r : (Int × Int) ⊕ (TD × Nat)} {M' : Mem} (h : okV Q M T b r) (o : oW b M M') : okV Q M' T b r := by
  cases r with
  | inl e => exact fun M2 v y2 o2 => h M2 v y2 (o.tr o2)
  | inr q => exact fun M2 s2 y2 d2 o2 => h M2 s2 y2 d2 (o.tr o2)
theorem y_town_f {Q : Int → Mem → Prop} {x : Int × Int} {v : Int} {f : Nat} (h : YE M b x) (hQ : m_X12_town_J208 Q v M) (hf : 1 ≤ f) : m_X12_town_L179 Q f v M := by
  obtain ⟨f, rfl⟩ : ∃ k, f = k + 1 := ⟨f - 1, by omega⟩
  have h2 := h.2.1
  have h8 := h.1.1
  unfold m_X12_town_L179
  exact ⟨by omega, fun z => by omega, fun _ => hQ⟩
theorem y_town_l {Q : Int → Mem → Prop} (hT : TB T) : ∀ (f n : Nat) (M : Mem) (s : Nat) (D : TD) (r : (Int × Int) ⊕ (TD × Nat)), n + f = 81 → n ≤ 80 → (n = 80 → so T s = 0) → YD M T b s D → DOK D s → rdT T f n s D = r → okV Q M T b r → m_X12_town_L179 Q (f + 1) (n : Nat) M
  | 0, n, M, s, D, r, hn, h80, hs0, hx, hD, hr, h => by omega
  | f + 1, n, M, s, D, r, hn, h80, hs0, hx, hD, hr, h => by
    have sl := hx.1.2.1
    have sr := so_rng T s
    unfold m_X12_town_L179
    unfold rdT at hr
    rw [hx.2.1, hx.1.2.2.2.1]
    refine ⟨by decide, fun _ => ⟨by omega, fun q0 => ?_, fun q0 => ?_⟩, fun z => absurd rfl z⟩
    · rw [if_pos q0] at hr
      subst hr
      exact h M s hx hD oW.rf
    · rw [if_neg q0, if_neg (by omega)] at hr
      rw [cast1]
      cases e : stP T D s with
      | inl e1 =>
        rw [e] at hr
        have hr : Sum.inl e1 = r := hr
        subst hr
        exact y_statement hT hx hD e fun M1 y1 o1 => f_finishes y1 (y_town_f y1 (h M1 _ y1 o1) (by omega))
      | inr q =>
        obtain ⟨D1, t1⟩ := q
        rw [e] at hr
        have hr : (if ts T t1 = 59 then rdT T f (n + 1) (nx T t1) D1 else .inl (1, wr T t1)) = r := hr
        have so1 := stP_ok sl hD e
        have nn := nx_rng so1.1
        refine y_statement hT hx hD e ⟨fun M1 y1 o1 => ?_, fun hbd M1 y1 o1 => ?_⟩
        · refine y_finishes hT y1 (by omega) (fun q h0 M2 y2 o2 => ?_) (fun q q80 h0 M2 y2 o2 => ?_) (fun q M2 y2 o2 => ?_)
          · rw [if_pos q] at hr
            exact y_town_l hT f (n + 1) M2 _ D1 r (by omega) (by omega) h0 y2 (so1.2.2.mono (by omega)) hr (okV_st h (o1.tr o2))
          · rw [if_pos q] at hr
            obtain ⟨f', rfl⟩ : ∃ k, f = k + 1 := ⟨f - 1, by omega⟩
            unfold rdT at hr
            rw [if_neg h0, if_pos (by omega)] at hr
            subst hr
            exact y_town_f y2 (h M2 _ y2 (o1.tr o2)) (by omega)
          · rw [if_neg q] at hr
            subst hr
            exact y_town_f y2 (h M2 _ y2 (o1.tr o2)) (by omega)
        · have t1 : ts T t1 ≠ 59 := by unfold ts; rw [if_neg (fun z => hbd z.1)]; decide
          rw [if_neg t1] at hr
          subst hr
          exact f_finishes y1 (y_town_f y1 (h M1 _ y1 o1) (by omega))
/-- the roads of the bank are swept -/
theorem y_sw_in {Q : Int → Mem → Prop} {K : Int → Mem → Prop} {i : Nat} (hb : b = 0 ∨ b = 1) (hi : i < 7) {M0 : Mem} (h : ∀ M', (∀ a, a ≠ 203 → M' a = M0 a) → (∀ k, (k < 49 * b ∨ 49 * b + 49 ≤ k) → M' 203 k = M0 203 k) → (∀ i' j : Nat, i' < 7 → j < 7 → i' ≤ i → M' 203 (49 * b + 7 * i' + j) = 0) → K ((i : Nat) + 1) M') : ∀ (d j : Nat) (M : Mem), j + d = 7 → M0 199 34 = b → (∀ a, a ≠ 203 → M a = M0 a) → (∀ k, (k < 49 * b ∨ 49 * b + 49 ≤ k) → M 203 k = M0 203 k) → (∀ i' j' : Nat, i' < 7 → j' < 7 → (i' < i ∨ (i' = i ∧ j' < j)) → M 203 (49 * b + 7 * i' + j') = 0) → m_X12_town_L134 K Q (i : Nat) (d + 1) (j : Nat) M
  | 0, j, M, hj, h34, e1, e2, e3 => by
    unfold m_X12_town_L134
    exact ⟨by omega, fun _ => h M e1 e2 (fun i' j' a1 a2 a3 => e3 i' j' a1 a2 (by omega)), fun q => by omega⟩
  | d + 1, j, M, hj, h34, e1, e2, e3 => by
    unfold m_X12_town_L134 m_X12_at
    rw [e1 199 (by decide), h34]
    refine ⟨by omega, fun q => by omega, fun _ => ⟨by omega, fun M1 e4 => ?_⟩⟩
    rw [cast1]
    refine y_sw_in hb hi h d (j + 1) M1 (by omega) h34 (fun a ha => by rw [e4, up_ne _ ha, e1 a ha]) (fun k hk => by rw [e4, up_get, if_neg (by omega), e2 k hk]) (fun i' j' a1 a2 a3 => ?_)
    rw [e4, up_get]
    by_cases c : i' = i ∧ j' = j
    · rw [if_pos ⟨rfl, by omega⟩]
    · rw [if_neg (by omega)]
      exact e3 i' j' a1 a2 (by omega)
theorem y_sw {Q : Int → Mem → Prop} (hb : b = 0 ∨ b = 1) {M0 : Mem} (h34 : M0 199 34 = b) (h : ∀ M', (∀ a, a ≠ 203 → M' a = M0 a) → (∀ k, (k < 49 * b ∨ 49 * b + 49 ≤ k) → M' 203 k = M0 203 k) → (∀ i j : Nat, i < 7 → j < 7 → M' 203 (49 * b + 7 * i + j) = 0) → ∀ M19 : Mem, M19 = up M' 199 33 0 → m_X12_ahead M19 (fun M20 => ∃ fu : Nat, m_X12_town_L179 Q fu 0 M20)) : ∀ (d i : Nat) (M : Mem), i + d = 7 → (∀ a, a ≠ 203 → M a = M0 a) → (∀ k, (k < 49 * b ∨ 49 * b + 49 ≤ k) → M 203 k = M0 203 k) → (∀ i' j' : Nat, i' < 7 → j' < 7 → i' < i → M 203 (49 * b + 7 * i' + j') = 0) → m_X12_town_L126 Q (d + 1) (i : Nat) M
  | 0, i, M, hi, e1, e2, e3 => by
    unfold m_X12_town_L126
    exact ⟨by omega, fun _ => h M e1 e2 (fun i' j' a1 a2 => e3 i' j' a1 a2 (by omega)), fun q => by omega⟩
  | d + 1, i, M, hi, e1, e2, e3 => by
    unfold m_X12_town_L126
    refine ⟨by omega, fun q => by omega, fun _ => ⟨8, ?_⟩⟩
    refine y_sw_in (M0 := M0) hb (by omega) (fun M' f1 f2 f3 => ?_) 7 0 M (by omega) h34 e1 e2 (fun i' j' a1 a2 a3 => e3 i' j' a1 a2 (by omega))
    rw [cast1]
    exact y_sw hb h34 h d (i + 1) M' (by omega) f1 f2 (fun i' j' a1 a2 a3 => f3 i' j' a1 a2 (by omega))
/-- from the call to the end of the reading -/
theorem y_townr {Q : Int → Mem → Prop} {bk : Int} (hT : TB T) (h1 : M 199 1 = (T.length : Nat)) (h2 : rw1 M 200 T) (h13 : M 199 13 = bk) (hbk : bk = 0 ∨ bk = 1) (h : ∀ M0, (∀ a, (a < 199 ∨ a = 200 ∨ 226 ≤ a) → M0 a = M a) → (∀ k, keepW k → k ≠ 1 → k ≠ 2 → k ≠ 34 → M0 199 k = M 199 k) → M0 199 1 = 0 → (∀ a, 201 ≤ a → a ≤ 219 → ∀ i, (i < szY a * (1 - bk) ∨ szY a * (1 - bk) + szY a ≤ i) → M0 a i = M a i) → M0 199 9 = -1 → okV Q M0 T (1 - bk) (rdT T 81 0 (skT T 0) D0)) : m_X12_town M Q := by
  unfold m_X12_town
  intro M1 e1 M2 e2 M3 e3 M4 e4 M5 e5 M6 e6
  have g13 : M5 199 13 = bk := by rw [e5, up_get, if_neg (by decide), e4, up_get, if_neg (by decide), e3, up_get, if_neg (by decide), e2, up_get, if_neg (by decide), e1, up_get, if_neg (by decide), h13]
  rw [g13] at e6
  have k6 : ∀ k, k ≠ 1 → k ≠ 2 → k ≠ 5 → k ≠ 8 → k ≠ 9 → k ≠ 34 → M6 199 k = M 199 k := fun k a1 a2 a3 a4 a5 a6 => by
    rw [e6, up_get, if_neg (by omega), e5, up_get, if_neg (by omega), e4, up_get, if_neg (by omega), e3, up_get, if_neg (by omega), e2, up_get, if_neg (by omega), e1, up_get, if_neg (by omega)]
  have r6 : ∀ a, a ≠ 199 → M6 a = M a := fun a ha => by rw [e6, up_ne _ ha, e5, up_ne _ ha, e4, up_ne _ ha, e3, up_ne _ ha, e2, up_ne _ ha, e1, up_ne _ ha]
  have f34 : M6 199 34 = 1 - bk := by rw [e6, up_get, if_pos ⟨rfl, rfl⟩]
  have f9 : M6 199 9 = -1 := by rw [e6, up_get, if_neg (by decide), e5, up_get, if_pos ⟨rfl, rfl⟩]
  have f8 : M6 199 8 = 0 := by rw [e6, up_get, if_neg (by decide), e5, up_get, if_neg (by decide), e4, up_get, if_pos ⟨rfl, rfl⟩]
  have f5 : M6 199 5 = ((0 : Nat) : Int) := by rw [e6, up_get, if_neg (by decide), e5, up_get, if_neg (by decide), e4, up_get, if_neg (by decide), e3, up_get, if_pos ⟨rfl, rfl⟩]; rfl
  have f1 : M6 199 1 = 0 := by rw [e6, up_get, if_neg (by decide), e5, up_get, if_neg (by decide), e4, up_get, if_neg (by decide), e3, up_get, if_neg (by decide), e2, up_get, if_pos ⟨rfl, rfl⟩]
  have f2 : M6 199 2 = (T.length : Nat) := by rw [e6, up_get, if_neg (by decide), e5, up_get, if_neg (by decide), e4, up_get, if_neg (by decide), e3, up_get, if_neg (by decide), e2, up_get, if_neg (by decide), e1, up_get, if_pos ⟨rfl, rfl⟩, h1]
  generalize eb : (1 : Int) - bk = b at *
  have hb : b = 0 ∨ b = 1 := by omega
  rw [f34]
  refine ⟨by omega, fun N1 n1 => ?_⟩
  rw [show N1 199 34 = b by rw [n1, up_ne _ (by decide), f34]]
  refine ⟨by omega, fun N2 n2 => ?_⟩
  rw [show N2 199 34 = b by rw [n2, up_ne _ (by decide), n1, up_ne _ (by decide), f34]]
  refine ⟨by omega, fun N3 n3 => ?_⟩
  rw [show N3 199 34 = b by rw [n3, up_ne _ (by decide), n2, up_ne _ (by decide), n1, up_ne _ (by decide), f34]]
  refine ⟨by omega, fun N4 n4 => ?_⟩
  rw [show N4 199 34 = b by rw [n4, up_ne _ (by decide), n3, up_ne _ (by decide), n2, up_ne _ (by decide), n1, up_ne _ (by decide), f34]]
  refine ⟨by omega, fun N5 n5 => ?_⟩
  rw [show N5 199 34 = b by rw [n5, up_ne _ (by decide), n4, up_ne _ (by decide), n3, up_ne _ (by decide), n2, up_ne _ (by decide), n1, up_ne _ (by decide), f34]]
  refine ⟨by omega, fun N6 n6 => ?_⟩
  rw [show N6 199 34 = b by rw [n6, up_ne _ (by decide), n5, up_ne _ (by decide), n4, up_ne _ (by decide), n3, up_ne _ (by decide), n2, up_ne _ (by decide), n1, up_ne _ (by decide), f34]]
  refine ⟨by omega, fun N7 n7 => ?_⟩
  rw [show N7 199 34 = b by rw [n7, up_ne _ (by decide), n6, up_ne _ (by decide), n5, up_ne _ (by decide), n4, up_ne _ (by decide), n3, up_ne _ (by decide), n2, up_ne _ (by decide), n1, up_ne _ (by decide), f34]]
  refine ⟨by omega, fun N8 n8 => ⟨8, ?_⟩⟩
  have t199 : N8 199 = M6 199 := by rw [n8, up_ne _ (by decide), n7, up_ne _ (by decide), n6, up_ne _ (by decide), n5, up_ne _ (by decide), n4, up_ne _ (by decide), n3, up_ne _ (by decide), n2, up_ne _ (by decide), n1, up_ne _ (by decide)]
  have o8 : oW b M6 N8 := (((((((oW.row n1 (by decide) (by simp [szY]; omega)).tr (oW.row n2 (by decide) (by simp [szY]; omega))).tr (oW.row n3 (by decide) (by simp [szY]; omega))).tr (oW.row n4 (by decide) (by simp [szY]; omega))).tr (oW.row n5 (by decide) (by simp [szY]; omega))).tr (oW.row n6 (by decide) (by simp [szY]; omega))).tr (oW.row n7 (by decide) (by simp [szY]; omega))).tr (oW.row n8 (by decide) (by simp [szY]; omega))
  refine y_sw (M0 := N8) hb (by rw [t199, f34]) (fun K1 q1 q2 q3 K2 m2 => ?_) 7 0 N8 (by omega) (fun _ _ => rfl) (fun _ _ => rfl) (fun i' j' _ _ z => by omega)
  have k199 : ∀ k, k ≠ 33 → K2 199 k = M6 199 k := fun k hk => by rw [m2, up_get, if_neg (by omega), q1 199 (by decide), t199]
  have krow : ∀ a, a ≠ 199 → a ≠ 203 → K2 a = N8 a := fun a p q => by rw [m2, up_ne _ p, q1 a q]
  have oK : oW b M6 K2 := by
    refine o8.tr (oW.tr (M1 := K1) ⟨fun a p => q1 a (by omega), fun k _ => by rw [q1 199 (by decide)], fun a p q i r => ?_, fun q => by rw [q1 199 (by decide)] at q ⊢; exact ⟨q, rfl⟩⟩ (oW.slot m2 (by omega)))
    by_cases c : a = 203
    · subst c
      exact q2 i (by simp [szY] at r; omega)
    · rw [q1 a c]
  have lr : LYR K2 T := by
    refine ⟨by rw [k199 2 (by decide), f2], ?_⟩
    unfold rw1 at *
    rw [oK.1 200 (by decide), r6 200 (by decide)]
    exact h2
  have dy : DY K2 b D0 := by
    refine ⟨hb, by rw [k199 34 (by decide), f34], by rw [m2, up_get, if_pos ⟨rfl, rfl⟩]; rfl, ?_, ?_, ?_, ?_, ?_, ?_, fun i hi => absurd hi (Nat.not_lt_zero i), fun i hi => absurd hi (Nat.not_lt_zero i), fun i j hi hj => ?_, fun i hi => absurd hi (Nat.not_lt_zero i), ?_, ?_⟩
    · rw [krow 201 (by decide) (by decide), n8, up_ne _ (by decide), n7, up_ne _ (by decide), n6, up_ne _ (by decide), n5, up_ne _ (by decide), n4, up_ne _ (by decide), n3, up_ne _ (by decide), n2, up_ne _ (by decide), n1, up_get, if_pos ⟨rfl, rfl⟩]; rfl
    · rw [krow 205 (by decide) (by decide), n8, up_ne _ (by decide), n7, up_ne _ (by decide), n6, up_ne _ (by decide), n5, up_ne _ (by decide), n4, up_ne _ (by decide), n3, up_get, if_pos ⟨rfl, rfl⟩]; rfl
    · rw [krow 202 (by decide) (by decide), n8, up_ne _ (by decide), n7, up_ne _ (by decide), n6, up_ne _ (by decide), n5, up_ne _ (by decide), n4, up_ne _ (by decide), n3, up_ne _ (by decide), n2, up_get, if_pos ⟨rfl, rfl⟩]; rfl
    · rw [krow 208 (by decide) (by decide), n8, up_ne _ (by decide), n7, up_ne _ (by decide), n6, up_ne _ (by decide), n5, up_ne _ (by decide), n4, up_get, if_pos ⟨rfl, rfl⟩]; rfl
    · rw [krow 213 (by decide) (by decide), n8, up_ne _ (by decide), n7, up_ne _ (by decide), n6, up_get, if_pos ⟨rfl, rfl⟩]; rfl
    · rw [krow 209 (by decide) (by decide), n8, up_ne _ (by decide), n7, up_ne _ (by decide), n6, up_ne _ (by decide), n5, up_get, if_pos ⟨rfl, rfl⟩]; rfl
    · have : K2 203 (49 * b + 7 * i + j) = 0 := by rw [m2, up_ne _ (by decide)]; exact q3 i j hi hj
      exact ⟨Or.inl this, fun z => absurd z (Nat.not_lt_zero i), fun _ => this⟩
    · show fmY K2 b 0 []
      unfold fmY
      rw [if_pos rfl, krow 214 (by decide) (by decide), n8, up_get, if_neg (by omega), n7, up_get, if_pos ⟨rfl, by omega⟩]
    · show fmY K2 b 1 []
      unfold fmY
      rw [if_pos rfl, krow 214 (by decide) (by decide), n8, up_get, if_pos ⟨rfl, rfl⟩]
  refine y_ahead0 (e := 0) hT lr (by omega) (by rw [k199 5 (by decide), f5]) fun K3 o3 l3 => ⟨82, ?_⟩
  have y3 : YD K3 T b (skT T 0) D0 := ⟨l3, by rw [o3.2 8 (by decide) (by decide) (by decide) (by decide) (by decide) (by decide), k199 8 (by decide), f8], dy.oY o3⟩
  have oo : oW b M6 K3 := oK.tr o3.w
  refine y_town_l hT 81 0 K3 _ D0 _ (by omega) (by omega) (fun z => absurd z (by decide)) y3 (D0_ok.mono (by omega)) rfl (h K3 (fun a p => by rw [oo.1 a p, r6 a (by omega)]) (fun k hk k1 k2 k34 => ?_) (by rw [oo.2.1 1 (by omega), f1]) (fun a p q i r => by rw [oo.2.2.1 a p q i r, r6 a (by omega)]) ?_)
  · rw [oo.2.1 k hk, k6 k k1 k2 (by omega) (by omega) (by omega) k34]
  · rw [o3.2 9 (by decide) (by decide) (by decide) (by decide) (by decide) (by decide), k199 9 (by decide), f9]
end
