/-! the model's machine: facts, parts, all -/
section
variable {T : List Int} {g : Bool} {b : Int} {c0 : Nat}
theorem pre_inr {c d : List Int} {t : Nat} {r : (Int × Int) ⊕ (List Int × Nat)} (h : pre c (some (.inr (d, t))) = some r) : r = .inr (c ++ d, t) := by simpa [pre] using h.symm
theorem pre_inl {c : List Int} {e : Int × Int} {r : (Int × Int) ⊕ (List Int × Nat)} (h : pre c (some (.inl e)) = some r) : r = .inl e := by simpa [pre] using h.symm
theorem f1ok (p : Int) : 0 < ((1 : Int), p).1 ∧ ((1 : Int), p).1 < 9 := ⟨by show (0 : Int) < 1; decide, by show (1 : Int) < 9; decide⟩
theorem f5ok (p : Int) : 0 < ((5 : Int), p).1 ∧ ((5 : Int), p).1 < 9 := ⟨by show (0 : Int) < 5; decide, by show (5 : Int) < 9; decide⟩
theorem y_N2 {f : Nat} (hT : TB T) (hb : b = 0 ∨ b = 1) (hS : ySm T g b c0 3 5 3 2 (fun t => prc T t = 0 ∧ smc T t = 0) f) (hF : yTs T g b c0 2 3 5 2 3 (fun _ => True) f) (hE : yTs T g b c0 0 1 1 0 5 (fun t => tw T t ≠ 19 ∧ tw T t ≠ 18) f) : yTs T g b c0 2 3 5 2 3 (fun _ => True) (f + 1) := by
  intro o s M Q cs k pr O fs r hr hy hc ho hfs ht hO hk h
  have tl := hT.1
  have sl := hy.1.2.1
  have h45 := hy.2.2.2.2.2.2.2.2.1
  simp only [pd] at hr
  by_cases q1 : tw T s = 20
  · rw [if_pos q1] at hr
    have n := nx_tw sl (show tw T s ≠ -2 by omega)
    refine y_Lo h45 fun fu hfu => y_oN hT hy hk q1 ho (by omega) (by omega) (fun q7 M1 z1 f1 => ?_) (fun q7 M1 y1 z1 => ?_)
    · rw [(opn_x hr).1 q7] at h
      exact Qo_0 (b := b) (c0 := c0) (Or.inr rfl) f1 (f5ok _) (fun M2 z2 f2 => h M2 (z1.tr z2) f2) (by omega)
    · have hr := (opn_x hr).2 q7
      refine Qo_1 (t := nx T s) (Or.inl rfl) y1 (fun M2 y2 z2 => ?_) (by omega)
      rcases bn_x hr with ⟨e, hr1, rfl⟩ | ⟨c1, t1, x2, hr1, hr2, hpre⟩
      · exact hF (o + 1) _ M2 Q cs k pr _ fs _ hr1 y2 (by omega) (by omega) (by omega) (by simp only [List.length_cons]; omega) ⟨by decide, by decide, by decide⟩ hk fun M3 z3 f3 => h M3 ((z1.tr z2).tr z3) f3
      · refine hF (o + 1) _ M2 Q cs k pr _ fs _ hr1 y2 (by omega) (by omega) (by omega) (by simp only [List.length_cons]; omega) ⟨by decide, by decide, by decide⟩ hk fun M3 cs3 P3 ph3 y3 e3 r3 b3 p3 x3 z3 => ?_
        rw [em_x hr2] at hpre
        rw [pre_inr hpre] at h
        have nn : nts (P3 ++ [-20]) = nts P3 + 1 := by rw [nts_app]; simp [nts]
        refine h M3 cs3 (P3 ++ [-20]) ph3 ?_ ?_ (rks_app r3 (rks_one (by decide) (by decide) (by decide))) ?_ (by omega) x3 ((z1.tr z2).tr z3)
        · rw [nn, List.append_assoc, show o + (nts P3 + 1) = o + 1 + nts P3 by omega]
          exact y3
        · rw [← List.append_assoc, e3, List.append_assoc]
        · rw [nn, List.length_append, List.length_singleton]
          omega
  · rw [if_neg q1] at hr
    by_cases q2 : ts T s = 91
    · rw [if_pos q2] at hr
      have n := nx_ts sl (show ts T s ≠ -1 by omega)
      refine y_Lo h45 fun fu hfu => y_oB hT hy hk q2 ho (by omega) (fun q7 M1 z1 f1 => ?_) (fun q7 M1 x y1 z1 => ?_)
      · rw [(opn_x hr).1 q7] at h
        exact Qo_0 (b := b) (c0 := c0) (Or.inl rfl) f1 (f5ok _) (fun M2 z2 f2 => h M2 (z1.tr z2) f2) (by omega)
      · have hr := (opn_x hr).2 q7
        refine Qo_1 (t := nx T s) (Or.inl rfl) y1 (fun M2 y2 z2 => ?_) (by omega)
        have tt : tot ((k, 0, 0, pr, O) :: fs) = O.length + tot fs := rfl
        rcases bn_x hr with ⟨e, hr1, rfl⟩ | ⟨c1, t1, x2, hr1, hr2, hpre⟩
        · exact hE (o + 1) _ M2 Q cs 5 x [] _ _ hr1 y2 (by omega) (by omega) (by simp only [List.length_cons]; omega) (by simp only [List.length_nil]; omega) trivial (by decide) fun M3 z3 f3 => h M3 ((z1.tr z2).tr z3) f3
        · have pl := pd_len _ _ _ _ _ _ n.2 hr1
          refine hE (o + 1) _ M2 Q cs 5 x [] _ _ hr1 y2 (by omega) (by omega) (by simp only [List.length_cons]; omega) (by simp only [List.length_nil]; omega) trivial (by decide) fun M3 cs3 P3 ph3 y3 e3 r3 b3 p3 x3 z3 => ?_
          rw [List.append_nil] at y3
          have el : cs3.length + P3.length = cs.length + c1.length := by rw [← List.length_append, e3, List.length_append]
          have zz := (z1.tr z2).tr z3
          have aE : atE T 5 ph3 t1 := Or.inl ⟨by decide, by have := x3.1; omega, by have := x3.1; omega, x3.2.2, x3.2.1⟩
          refine y_Lg y3.2.2.2.2.2.2.2.2.1 fun fu hfu => y_gF (k := 5) (cl := 93) hT hb y3 aE (by decide) (by decide) (fun z => absurd z (by decide)) (by omega) r3 (by omega) (fun z => absurd z (by decide)) (by omega) (fun q M4 y4 z4 => ?_) (fun q M4 z4 f4 => ?_)
          · rw [ok_x ((tks_x hr2).2 q)] at hpre
            rw [pre_inr hpre] at h
            have n2 := nx_ts pl.1 (show ts T t1 ≠ -1 by omega)
            refine Qg_1 (T := T) (t := nx T t1) y4.2.1 (h M4 _ [] 2 y4 ?_ rks_nil (by simp [nts]) (by simp [nts]; omega) ⟨Or.inr rfl, trivial⟩ (zz.tr z4)) (by omega)
            rw [List.append_nil, List.append_nil, e3, if_neg (by decide), List.append_nil]
          · rw [(tks_x hr2).1 q] at hpre
            rw [pre_inl hpre] at h
            exact Qg_0 (h M4 (zz.tr z4) f4) (by omega)
    · rw [if_neg q2] at hr
      by_cases q3 : tw T s = 21
      · rw [if_pos q3] at hr
        have n := nx_tw sl (show tw T s ≠ -2 by omega)
        rw [em_x hr] at h
        refine y_Lo h45 fun fu hfu => y_oA hT hb hy hk q3 (by omega) (by omega) fun M1 y1 z1 => ?_
        refine Qo_1 (t := nx T s) (Or.inr rfl) y1 (fun M2 y2 z2 => ?_) (by omega)
        exact h M2 _ [] 2 y2 (by rw [List.append_nil]) rks_nil (by simp [nts]) (by simp [nts]; omega) ⟨Or.inr rfl, trivial⟩ (z1.tr z2)
      · rw [if_neg q3] at hr
        rcases bn_x hr with ⟨e, hr1, rfl⟩ | ⟨c1, t1, x2, hr1, hr2, hpre⟩
        · exact hS o s M Q cs k 0 1 pr O fs _ hr1 hy hc ho hfs (by omega) hO (by omega) (Or.inl rfl) (Or.inr rfl) (fun _ _ => ⟨q1, q2, q3⟩) h
        · have pl := pd_len _ _ _ _ _ _ sl hr1
          refine hS o s M Q cs k 0 1 pr O fs _ hr1 hy hc ho hfs (by omega) hO (by omega) (Or.inl rfl) (Or.inr rfl) (fun _ _ => ⟨q1, q2, q3⟩) fun M1 cs1 P1 ph1 y1 e1 r1 b1 p1 x1 z1 => ?_
          obtain ⟨rfl, xp, xs⟩ := x1
          have el : cs1.length + P1.length = cs.length + c1.length := by rw [← List.length_append, e1, List.length_append]
          by_cases q4 : cmc T t1 = 0
          · rw [if_pos q4] at hr2
            rw [er_x hr2] at hpre
            rw [pre_inl hpre] at h
            exact y_Lg y1.2.2.2.2.2.2.2.2.1 fun fu hfu => y_gD hT y1 hk q4 ⟨xs, xp⟩ (by omega) fun M2 z2 f2 => Qg_0 (h M2 (z1.tr z2) f2) (by omega)
          · rw [if_neg q4] at hr2
            have cr := cmc_rng q4
            have n1 := nx_ts pl.1 (cmc_ts q4)
            have rc : rkO (cmc T t1) = 4 := by unfold rkO; rw [if_neg (by omega), if_neg (by omega), if_neg (by omega), if_pos (by omega)]
            refine y_Lg y1.2.2.2.2.2.2.2.2.1 fun fu hfu => y_gB hT hb y1 hk q4 hO (by omega) r1 (by omega) (by omega) fun M2 y2 z2 => Qg_1 (T := T) (t := nx T t1) y2.2.1 ?_ (by omega)
            rw [e1] at y2
            have cl2 : c0 + (cs ++ c1).length ≤ nx T t1 := by rw [List.length_append]; omega
            have h2 := okY_pre h hpre (z1.tr z2)
            rcases bn_x hr2 with ⟨e, hr3, rfl⟩ | ⟨c2, t2, x3, hr3, hr4, hpre2⟩
            · exact hS o _ M2 Q (cs ++ c1) k 1 0 pr _ fs _ hr3 y2 cl2 ho hfs (by simp only [List.length_cons]; omega) ⟨by omega, by omega, by omega⟩ (by omega) (Or.inr rfl) (Or.inl rfl) (fun _ z => absurd z (by decide)) h2
            · refine hS o _ M2 Q (cs ++ c1) k 1 0 pr _ fs _ hr3 y2 cl2 ho hfs (by simp only [List.length_cons]; omega) ⟨by omega, by omega, by omega⟩ (by omega) (Or.inr rfl) (Or.inl rfl) (fun _ z => absurd z (by decide)) fun M3 cs3 P3 ph3 y3 e3 r3 b3 p3 x3 z3 => ?_
              obtain ⟨rfl, xp3, xs3⟩ := x3
              rw [em_x hr4] at hpre2
              rw [pre_inr hpre2] at h2
              have nn : nts (P3 ++ [cmc T t1]) = nts P3 := by rw [nts_app]; simp [nts]; omega
              refine h2 M3 cs3 (P3 ++ [cmc T t1]) 1 ?_ ?_ (rks_app (rks_le r3 (by decide)) (rks_one (by omega) (by omega) (by omega))) ?_ (by omega) ⟨Or.inl ⟨rfl, xs3, xp3⟩, trivial⟩ z3
              · rw [nn, List.append_assoc]
                exact y3
              · rw [← List.append_assoc, e3, List.append_assoc]
              · rw [nn, List.length_append, List.length_singleton]
                omega
theorem y_N5 {f : Nat} (hT : TB T) (hb : b = 0 ∨ b = 1) (hS : ySm T g b c0 3 5 3 2 (fun t => prc T t = 0 ∧ smc T t = 0) f) (hE : yTs T g b c0 0 1 1 0 5 (fun t => tw T t ≠ 19 ∧ tw T t ≠ 18) f) : ySm T g b c0 5 7 5 0 (fun _ => True) (f + 1) := by
  intro o s M Q cs k ph bg pr O fs r hr hy hc ho hfs ht hO hk hph hbg nf h
  have tl := hT.1
  have sl := hy.1.2.1
  have h45 := hy.2.2.2.2.2.2.2.2.1
  have tt : tot ((k, ph, 0, pr, O) :: fs) = O.length + tot fs := rfl
  have fl : ((k, ph, 0, pr, O) :: fs).length = fs.length + 1 := rfl
  simp only [pd] at hr
  by_cases hbd : bd T s = -1
  · refine y_Lo h45 fun fu hfu => y_o171 hT hy hbd (by omega) hbg (by omega) nf fun M1 y1 z1 => ?_
    by_cases q1 : 0 ≤ tn T s
    · rw [if_pos q1] at hr
      have tb := tn_b (T := T) (s := s) (by omega)
      have n := nx_tn sl (show tn T s ≠ -1 by omega)
      have t2 : tw T s = -2 := by unfold tw; rw [if_neg (by omega)]
      have t1 : ts T s = -1 := by unfold ts; rw [if_neg (by omega)]
      rw [em_x hr] at h
      refine y_oK hT hb y1 hbd (by omega) (by simp [mmc, t2]) (by omega) (by omega) (fun _ M2 y2 z2 => ?_) (fun z => absurd (by simp [kwc, t2]) z) (fun z => by omega)
      refine Qo_1 (t := nx T s) (Or.inr rfl) y2 (fun M3 y3 z3 => ?_) (by omega)
      exact h M3 _ [] ph y3 (by rw [List.append_nil]) rks_nil (by simp [nts]) (by simp [nts]; omega) ⟨rfl, trivial⟩ ((z1.tr z2).tr z3)
    · rw [if_neg q1] at hr
      by_cases q2 : ts T s = 40
      · rw [if_pos q2] at hr
        have n := nx_ts sl (show ts T s ≠ -1 by omega)
        refine y_oP hT y1 q2 ho (by omega) (fun q7 M2 z2 f2 => ?_) (fun q7 M2 x y2 z2 => ?_)
        · rw [(opn_x hr).1 q7] at h
          exact Qo_0 (b := b) (c0 := c0) (Or.inl rfl) f2 (f5ok _) (fun M3 z3 f3 => h M3 ((z1.tr z2).tr z3) f3) (by omega)
        · have hr := (opn_x hr).2 q7
          refine Qo_1 (t := nx T s) (Or.inl rfl) y2 (fun M3 y3 z3 => ?_) (by omega)
          have za := (z1.tr z2).tr z3
          rcases bn_x hr with ⟨e, hr1, rfl⟩ | ⟨c1, t1, x2, hr1, hr2, hpre⟩
          · exact hS (o + 1) _ M3 Q cs 2 0 1 x [] _ _ hr1 y3 (by omega) (by omega) (by omega) (by simp only [List.length_nil]; omega) trivial (by decide) (Or.inl rfl) (Or.inr rfl) (fun z => absurd z (by decide)) fun M4 z4 f4 => h M4 (za.tr z4) f4
          · have pl := pd_len _ _ _ _ _ _ n.2 hr1
            refine hS (o + 1) _ M3 Q cs 2 0 1 x [] _ _ hr1 y3 (by omega) (by omega) (by omega) (by simp only [List.length_nil]; omega) trivial (by decide) (Or.inl rfl) (Or.inr rfl) (fun z => absurd z (by decide)) fun M4 cs4 P4 ph4 y4 e4 r4 b4 p4 x4 z4 => ?_
            obtain ⟨rfl, xp, xs⟩ := x4
            rw [List.append_nil] at y4
            have el : cs4.length + P4.length = cs.length + c1.length := by rw [← List.length_append, e4, List.length_append]
            refine y_Lg y4.2.2.2.2.2.2.2.2.1 fun fu hfu => y_gF (k := 2) (cl := 41) hT hb y4 (Or.inr ⟨by decide, rfl, xs, xp⟩) (by decide) (by decide) (fun z => absurd z (by decide)) (by omega) (rks_le r4 (by decide)) (by omega) (fun z => absurd z (by decide)) (by omega) (fun q M5 y5 z5 => ?_) (fun q M5 z5 f5 => ?_)
            · rw [ok_x ((tks_x hr2).2 q)] at hpre
              rw [pre_inr hpre] at h
              have n2 := nx_ts pl.1 (show ts T t1 ≠ -1 by omega)
              refine Qg_1 (T := T) (t := nx T t1) y5.2.1 (h M5 _ [] ph y5 ?_ rks_nil (by simp [nts]) (by simp [nts]; omega) ⟨rfl, trivial⟩ ((za.tr z4).tr z5)) (by omega)
              rw [List.append_nil, List.append_nil, e4, if_neg (by decide), List.append_nil]
            · rw [(tks_x hr2).1 q] at hpre
              rw [pre_inl hpre] at h
              exact Qg_0 (h M5 ((za.tr z4).tr z5) f5) (by omega)
      · rw [if_neg q2] at hr
        by_cases q3 : kwc T g s ≠ 0
        · rw [if_pos q3] at hr
          have n := nx_tw sl (kwc_tw q3)
          have nk : ∀ v : Int, tw T s = v → (v = 17 ∨ v = 22 ∨ v = 23) → False := fun v hv hz => by
            apply q3
            unfold kwc
            rw [hv]
            rcases hz with rfl | rfl | rfl <;> simp
          rw [em_x hr] at h
          refine y_oK hT hb y1 hbd q2 ?_ (fun z => nk 17 z (by decide)) (by omega) (fun z => absurd z q1) (fun _ M2 y2 z2 => ?_) (fun _ z => absurd z q3)
          · unfold mmc
            rw [if_neg (fun z => nk 22 z (by decide)), if_neg (fun z => nk 23 z (by decide))]
          · refine Qo_1 (t := nx T s) (Or.inr rfl) y2 (fun M3 y3 z3 => ?_) (by omega)
            exact h M3 _ [] ph y3 (by rw [List.append_nil]) rks_nil (by simp [nts]) (by simp [nts]; omega) ⟨rfl, trivial⟩ ((z1.tr z2).tr z3)
        · rw [if_neg q3] at hr
          by_cases q4 : mmc T s ≠ 0
          · rw [if_pos q4] at hr
            have n := nx_tw sl (mmc_tw q4)
            have mr := mmc_rng q4
            have mt : (tw T s = 22 ∧ mmc T s = -13) ∨ (tw T s = 23 ∧ mmc T s = -14) := by unfold mmc at q4 ⊢; omega
            refine y_oM (c := mmc T s) hT y1 hbd (by omega) (y_249 hT y1 hbd rfl (by omega) ho (by omega) (fun q M2 z2 f2 => ?_) (fun q q7 M2 z2 f2 => ?_) (fun q q7 M2 y2 z2 => ?_))
            · rw [if_neg q] at hr
              rw [er_x hr] at h
              exact Qo_0 (b := b) (c0 := c0) (Or.inl rfl) f2 (f1ok _) (fun M3 z3 f3 => h M3 ((z1.tr z2).tr z3) f3) (by omega)
            · rw [if_pos q] at hr
              rw [(opn_x hr).1 q7] at h
              exact Qo_0 (b := b) (c0 := c0) (Or.inl rfl) f2 (f5ok _) (fun M3 z3 f3 => h M3 ((z1.tr z2).tr z3) f3) (by omega)
            · rw [if_pos q] at hr
              have hr := (opn_x hr).2 q7
              have n1 := nx_ts n.2 (show ts T (nx T s) ≠ -1 by omega)
              rw [if_neg (by omega)] at y2
              refine Qo_1 (t := nx T (nx T s)) (Or.inl rfl) y2 (fun M3 y3 z3 => ?_) (by omega)
              have za := (z1.tr z2).tr z3
              rcases bn_x hr with ⟨e, hr1, rfl⟩ | ⟨c1, t1, x2, hr1, hr2, hpre⟩
              · exact hS (o + 1) _ M3 Q cs 3 0 1 _ [] _ _ hr1 y3 (by omega) (by omega) (by omega) (by simp only [List.length_nil]; omega) trivial (by decide) (Or.inl rfl) (Or.inr rfl) (fun z => absurd z (by decide)) fun M4 z4 f4 => h M4 (za.tr z4) f4
              · have pl := pd_len _ _ _ _ _ _ n1.2 hr1
                refine hS (o + 1) _ M3 Q cs 3 0 1 _ [] _ _ hr1 y3 (by omega) (by omega) (by omega) (by simp only [List.length_nil]; omega) trivial (by decide) (Or.inl rfl) (Or.inr rfl) (fun z => absurd z (by decide)) fun M4 cs4 P4 ph4 y4 e4 r4 b4 p4 x4 z4 => ?_
                obtain ⟨rfl, xp, xs⟩ := x4
                rw [List.append_nil] at y4
                have el : cs4.length + P4.length = cs.length + c1.length := by rw [← List.length_append, e4, List.length_append]
                have h4 := okY_pre h hpre (za.tr z4)
                refine y_Lg y4.2.2.2.2.2.2.2.2.1 fun fu hfu => y_gG (k := 3) hT hb y4 (Or.inr ⟨by decide, rfl, xs, xp⟩) (by decide) (by omega) (rks_le r4 (by decide)) (by omega) (by omega) (fun q M5 y5 z5 => ?_) (fun q M5 z5 f5 => ?_)
                · have hr2 := (tks_x hr2).2 q
                  have n2 := nx_ts pl.1 (show ts T t1 ≠ -1 by omega)
                  rw [e4, if_pos rfl] at y5
                  have h5 := h4
                  refine Qg_1 (T := T) (t := nx T t1) y5.2.1 ?_ (by omega)
                  rcases bn_x hr2 with ⟨e, hr3, rfl⟩ | ⟨c2, t2, x3, hr3, hr4, hpre2⟩
                  · exact hS (o + 1) _ M5 Q _ 4 0 0 _ [] _ _ hr3 y5 (by rw [List.length_append]; omega) (by omega) (by omega) (by simp only [List.length_nil]; omega) trivial (by decide) (Or.inl rfl) (Or.inl rfl) (fun z => absurd z (by decide)) fun M6 z6 f6 => h4 M6 (z5.tr z6) f6
                  · have pl2 := pd_len _ _ _ _ _ _ n2.2 hr3
                    refine hS (o + 1) _ M5 Q _ 4 0 0 _ [] _ _ hr3 y5 (by rw [List.length_append]; omega) (by omega) (by omega) (by simp only [List.length_nil]; omega) trivial (by decide) (Or.inl rfl) (Or.inl rfl) (fun z => absurd z (by decide)) fun M6 cs6 P6 ph6 y6 e6 r6 b6 p6 x6 z6 => ?_
                    obtain ⟨rfl, xp6, xs6⟩ := x6
                    rw [List.append_nil] at y6
                    have el6 : cs6.length + P6.length = cs.length + c1.length + c2.length := by rw [← List.length_append, e6, List.length_append, List.length_append]
                    have h6 := okY_pre h4 hpre2 (z5.tr z6)
                    refine y_Lg y6.2.2.2.2.2.2.2.2.1 fun fu hfu => y_gF (k := 4) (cl := 41) hT hb y6 (Or.inr ⟨by decide, rfl, xs6, xp6⟩) (by decide) (by decide) (by omega) (by omega) (rks_le r6 (by decide)) (by omega) (fun _ => by omega) (by omega) (fun q M7 y7 z7 => ?_) (fun q M7 z7 f7 => ?_)
                    · rw [em_x ((tks_x hr4).2 q)] at h6
                      have n3 := nx_ts pl2.1 (show ts T t2 ≠ -1 by omega)
                      refine Qg_1 (T := T) (t := nx T t2) y7.2.1 (h6 M7 _ [] ph y7 ?_ rks_nil (by simp [nts]) (by simp [nts]; omega) ⟨rfl, trivial⟩ z7) (by omega)
                      rw [List.append_nil, e6, if_pos rfl]
                    · rw [(tks_x hr4).1 q] at h6
                      exact Qg_0 (h6 M7 z7 f7) (by omega)
                · rw [(tks_x hr2).1 q] at h4
                  exact Qg_0 (h4 M5 z5 f5) (by omega)
          · rw [if_neg q4] at hr
            by_cases q5 : tw T s = 17
            · rw [if_pos q5] at hr
              have n := nx_tw sl (show tw T s ≠ -2 by omega)
              refine y_oM (c := -21) hT y1 hbd (by omega) (y_249 hT y1 hbd rfl (by omega) ho (by omega) (fun q M2 z2 f2 => ?_) (fun q q7 M2 z2 f2 => ?_) (fun q q7 M2 y2 z2 => ?_))
              · rw [if_neg q] at hr
                rw [er_x hr] at h
                exact Qo_0 (b := b) (c0 := c0) (Or.inl rfl) f2 (f1ok _) (fun M3 z3 f3 => h M3 ((z1.tr z2).tr z3) f3) (by omega)
              · rw [if_pos q] at hr
                rw [(opn_x hr).1 q7] at h
                exact Qo_0 (b := b) (c0 := c0) (Or.inl rfl) f2 (f5ok _) (fun M3 z3 f3 => h M3 ((z1.tr z2).tr z3) f3) (by omega)
              · rw [if_pos q] at hr
                have hr := (opn_x hr).2 q7
                have n1 := nx_ts n.2 (show ts T (nx T s) ≠ -1 by omega)
                rw [if_pos rfl] at y2
                refine Qo_1 (t := nx T (nx T s)) (Or.inl rfl) y2 (fun M3 y3 z3 => ?_) (by omega)
                have za := (z1.tr z2).tr z3
                rcases bn_x hr with ⟨e, hr1, rfl⟩ | ⟨c1, t1, x2, hr1, hr2, hpre⟩
                · exact hE (o + 1) _ M3 Q cs 6 _ [] _ _ hr1 y3 (by omega) (by omega) (by omega) (by simp only [List.length_nil]; omega) trivial (by decide) fun M4 z4 f4 => h M4 (za.tr z4) f4
                · have pl := pd_len _ _ _ _ _ _ n1.2 hr1
                  refine hE (o + 1) _ M3 Q cs 6 _ [] _ _ hr1 y3 (by omega) (by omega) (by omega) (by simp only [List.length_nil]; omega) trivial (by decide) fun M4 cs4 P4 ph4 y4 e4 r4 b4 p4 x4 z4 => ?_
                  rw [List.append_nil] at y4
                  have el : cs4.length + P4.length = cs.length + c1.length := by rw [← List.length_append, e4, List.length_append]
                  have h4 := okY_pre h hpre (za.tr z4)
                  have aE : atE T 6 ph4 t1 := Or.inl ⟨by decide, by have := x4.1; omega, by have := x4.1; omega, x4.2.2, x4.2.1⟩
                  refine y_Lg y4.2.2.2.2.2.2.2.2.1 fun fu hfu => y_gG (k := 6) hT hb y4 aE (by decide) (by omega) (rks_le r4 (by decide)) (by omega) (by omega) (fun q M5 y5 z5 => ?_) (fun q M5 z5 f5 => ?_)
                  · have hr2 := (tks_x hr2).2 q
                    have n2 := nx_ts pl.1 (show ts T t1 ≠ -1 by omega)
                    rw [e4, if_neg (by decide)] at y5
                    refine Qg_1 (T := T) (t := nx T t1) y5.2.1 ?_ (by omega)
                    rcases bn_x hr2 with ⟨e, hr3, rfl⟩ | ⟨c2, t2, x3, hr3, hr4, hpre2⟩
                    · exact hS (o + 1) _ M5 Q _ 3 0 0 _ [] _ _ hr3 y5 (by rw [List.length_append]; omega) (by omega) (by omega) (by simp only [List.length_nil]; omega) trivial (by decide) (Or.inl rfl) (Or.inl rfl) (fun z => absurd z (by decide)) fun M6 z6 f6 => h4 M6 (z5.tr z6) f6
                    · have pl2 := pd_len _ _ _ _ _ _ n2.2 hr3
                      refine hS (o + 1) _ M5 Q _ 3 0 0 _ [] _ _ hr3 y5 (by rw [List.length_append]; omega) (by omega) (by omega) (by simp only [List.length_nil]; omega) trivial (by decide) (Or.inl rfl) (Or.inl rfl) (fun z => absurd z (by decide)) fun M6 cs6 P6 ph6 y6 e6 r6 b6 p6 x6 z6 => ?_
                      obtain ⟨rfl, xp6, xs6⟩ := x6
                      rw [List.append_nil] at y6
                      have el6 : cs6.length + P6.length = cs.length + c1.length + c2.length := by rw [← List.length_append, e6, List.length_append, List.length_append]
                      have h6 := okY_pre h4 hpre2 (z5.tr z6)
                      refine y_Lg y6.2.2.2.2.2.2.2.2.1 fun fu hfu => y_gG (k := 3) hT hb y6 (Or.inr ⟨by decide, rfl, xs6, xp6⟩) (by decide) (by omega) (rks_le r6 (by decide)) (by omega) (by omega) (fun q M7 y7 z7 => ?_) (fun q M7 z7 f7 => ?_)
                      · have hr4 := (tks_x hr4).2 q
                        have n3 := nx_ts pl2.1 (show ts T t2 ≠ -1 by omega)
                        rw [e6, if_pos rfl] at y7
                        refine Qg_1 (T := T) (t := nx T t2) y7.2.1 ?_ (by omega)
                        rcases bn_x hr4 with ⟨e, hr5, rfl⟩ | ⟨c3, t3, x4, hr5, hr6, hpre3⟩
                        · exact hS (o + 1) _ M7 Q _ 4 0 0 _ [] _ _ hr5 y7 (by rw [List.length_append, List.length_append]; omega) (by omega) (by omega) (by simp only [List.length_nil]; omega) trivial (by decide) (Or.inl rfl) (Or.inl rfl) (fun z => absurd z (by decide)) fun M8 z8 f8 => h6 M8 (z7.tr z8) f8
                        · have pl3 := pd_len _ _ _ _ _ _ n3.2 hr5
                          refine hS (o + 1) _ M7 Q _ 4 0 0 _ [] _ _ hr5 y7 (by rw [List.length_append, List.length_append]; omega) (by omega) (by omega) (by simp only [List.length_nil]; omega) trivial (by decide) (Or.inl rfl) (Or.inl rfl) (fun z => absurd z (by decide)) fun M8 cs8 P8 ph8 y8 e8 r8 b8 p8 x8 z8 => ?_
                          obtain ⟨rfl, xp8, xs8⟩ := x8
                          rw [List.append_nil] at y8
                          have el8 : cs8.length + P8.length = cs.length + c1.length + c2.length + c3.length := by rw [← List.length_append, e8, List.length_append, List.length_append, List.length_append]
                          have h8 := okY_pre h6 hpre3 (z7.tr z8)
                          refine y_Lg y8.2.2.2.2.2.2.2.2.1 fun fu hfu => y_gF (k := 4) (cl := 41) hT hb y8 (Or.inr ⟨by decide, rfl, xs8, xp8⟩) (by decide) (by decide) (by omega) (by omega) (rks_le r8 (by decide)) (by omega) (fun _ => by omega) (by omega) (fun q M9 y9 z9 => ?_) (fun q M9 z9 f9 => ?_)
                          · rw [em_x ((tks_x hr6).2 q)] at h8
                            have n4 := nx_ts pl3.1 (show ts T t3 ≠ -1 by omega)
                            refine Qg_1 (T := T) (t := nx T t3) y9.2.1 (h8 M9 _ [] ph y9 ?_ rks_nil (by simp [nts]) (by simp [nts]; omega) ⟨rfl, trivial⟩ z9) (by omega)
                            rw [List.append_nil, e8, if_pos rfl]
                          · rw [(tks_x hr6).1 q] at h8
                            exact Qg_0 (h8 M9 z9 f9) (by omega)
                      · rw [(tks_x hr4).1 q] at h6
                        exact Qg_0 (h6 M7 z7 f7) (by omega)
                  · rw [(tks_x hr2).1 q] at h4
                    exact Qg_0 (h4 M5 z5 f5) (by omega)
            · rw [if_neg q5] at hr
              rw [er_x hr] at h
              refine y_oK hT hb y1 hbd q2 (by omega) q5 (by omega) (fun z => absurd z q1) (fun z => absurd z q3) (fun _ _ M2 z2 f2 => ?_)
              exact Qo_0 (b := b) (c0 := c0) (Or.inr rfl) f2 (f1ok _) (fun M3 z3 f3 => h M3 ((z1.tr z2).tr z3) f3) (by omega)
  · have t0 : tn T s = -1 := by unfold tn; rw [if_neg (fun z => hbd z.1)]
    have t1 : ts T s = -1 := by unfold ts; rw [if_neg (fun z => hbd z.1)]
    have t2 : tw T s = -2 := by unfold tw; rw [if_neg (fun z => hbd z.1)]
    have a1 : kwc T g s = 0 := by simp [kwc, t2]
    have a2 : mmc T s = 0 := by simp [mmc, t2]
    rw [if_neg (by omega), if_neg (by omega), if_neg (by omega), if_neg (by omega), if_neg (by omega)] at hr
    rw [er_x hr] at h
    exact y_Lo h45 fun fu hfu => y_ox hT hy hbd fun M1 z1 f1 => Qo_0 (b := b) (c0 := c0) (Or.inr rfl) f1 (f1ok _) (fun M2 z2 f2 => h M2 (z1.tr z2) f2) (by omega)
def yAll (T : List Int) (g : Bool) (b : Int) (c0 f : Nat) : Prop := yTs T g b c0 0 1 1 0 5 (fun t => tw T t ≠ 19 ∧ tw T t ≠ 18) f ∧ yTs T g b c0 1 2 2 1 4 (fun t => tw T t ≠ 19) f ∧ yTs T g b c0 2 3 5 2 3 (fun _ => True) f ∧ ySm T g b c0 3 5 3 2 (fun t => prc T t = 0 ∧ smc T t = 0) f ∧ ySm T g b c0 4 6 4 1 (fun t => prc T t = 0) f ∧ ySm T g b c0 5 7 5 0 (fun _ => True) f ∧ yTl T g b c0 8 1 0 5 (fun k ph s => (k = 1 ∨ k = 5 ∨ k = 6) ∧ eF T ph s ∧ tw T s ≠ 19) (fun _ ph' t => eF T ph' t ∧ tw T t ≠ 19 ∧ tw T t ≠ 18) f ∧ yTl T g b c0 9 2 1 4 (fun k ph s => (k = 1 ∨ k = 5 ∨ k = 6) ∧ eF T ph s) (fun _ ph' t => eF T ph' t ∧ tw T t ≠ 19) f ∧ yTl T g b c0 10 5 3 2 (fun _ ph s => (ph = 0 ∨ ph = 1) ∧ prc T s = 0) (fun ph ph' t => ph' = ph ∧ prc T t = 0 ∧ smc T t = 0) f ∧ yTl T g b c0 11 6 4 1 (fun _ ph _ => ph = 0 ∨ ph = 1) (fun ph ph' t => ph' = ph ∧ prc T t = 0) f
theorem y_parse (hT : TB T) (hb : b = 0 ∨ b = 1) : ∀ f : Nat, yAll T g b c0 f
  | 0 => by
    refine ⟨?_, ?_, ?_, ?_, ?_, ?_, ?_, ?_, ?_, ?_⟩
    all_goals first
      | (intro o s M Q cs k pr O fs r hr; simp [pd] at hr; done)
      | (intro o s M Q cs k ph bg pr O fs r hr; simp [pd] at hr; done)
      | (intro o s M Q cs cs' P k ph pr O fs r hr; simp [pd] at hr; done)
  | f + 1 => by
    obtain ⟨h0, h1, h2, h3, h4, h5, h8, h9, h10, h11⟩ := y_parse hT hb f
    exact ⟨y_N0 h1 h8, y_N1 h2 h9, y_N2 hT hb h3 h2 h0, y_N3 h4 h10, y_N4 h5 h11, y_N5 hT hb h3 h0, y_T8 hT hb h1 h8, y_T9 hT hb h2 h9, y_T10 hT hb h4 h10, y_T11 hT hb h5 h11⟩
end
