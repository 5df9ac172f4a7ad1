/-! the class reads tests and sums: the rest -/
theorem em_x {c : Int} {s : Nat} {x : (Int × Int) ⊕ (List Int × Nat)} (h : em c s = some x) : x = .inr ([c], s) := by simpa using h.symm
theorem er_x {k p : Int} {x : (Int × Int) ⊕ (List Int × Nat)} (h : er k p = some x) : x = .inl (k, p) := by simpa using h.symm
theorem ok_x {s : Nat} {x : (Int × Int) ⊕ (List Int × Nat)} (h : ok1 s = some x) : x = .inr ([], s) := by simpa using h.symm
theorem opn_x {T : List Int} {o s : Nat} {k : Nat → PR} {x : (Int × Int) ⊕ (List Int × Nat)} (h : opn T o s k = some x) : (7 ≤ o → x = .inl (5, (s : Nat))) ∧ (o < 7 → k (nx T s) = some x) := by
  unfold opn at h
  refine ⟨fun q => ?_, fun q => ?_⟩
  · rw [if_pos q] at h
    exact er_x h
  · rwa [if_neg (by omega)] at h
theorem tks_x {T : List Int} {c : Int} {s : Nat} {k : Nat → PR} {x : (Int × Int) ⊕ (List Int × Nat)} (h : tks T c s k = some x) : (ts T s ≠ c → x = .inl (1, wr T s)) ∧ (ts T s = c → k (nx T s) = some x) := by
  unfold tks at h
  refine ⟨fun q => ?_, fun q => ?_⟩
  · rw [if_neg q] at h
    exact er_x h
  · rwa [if_pos q] at h
section
variable {T : List Int} {g : Bool} {fo : Int}
theorem x_pair {f o s d : Nat} {code : Int} {M : Mem} {Q : Int → Mem → Prop} {cs : List Int} {r : (Int × Int) ⊕ (List Int × Nat)} (hT : TB T) (hf : kd fo = 1) (hA : xA T g fo f) (hb : bd T s = -1) (h0 : so T s ≠ 0) (hp : PSX M T fo g s cs) (hl : cs.length ≤ s) (ho : o ≤ 7) (hd : 7 * (7 - o) + 1 ≤ d)
    (hr : (if ts T (nx T s) = 40 then opn T o (nx T s) fun s1 => bn (pd T g f 3 (o + 1) s1) fun s2 => tks T 44 s2 fun s3 => bn (pd T g f 3 (o + 1) s3) fun s4 => tks T 41 s4 (em code) else er 1 (wr T (nx T s))) = some r) (h : okX Q M T fo g cs r) : fr d 6 (o : Nat) code M (fun r M' => (r = 0 ∨ r = 1) ∧ Q r M') := by
  have tl := hT.1
  have k := isForm hf
  obtain ⟨d, rfl⟩ : ∃ k, d = k + 1 := ⟨d - 1, by omega⟩
  show mb_X2_pair (fr d) (o : Nat) code M _
  unfold mb_X2_pair m_X2_pair_J74 m_X2_pair_J75
  refine x_adv hT hp.1 hb h0 fun M1 l1 o1 => ?_
  have n0 := nx_rng hp.1.le
  have n0' := n0.2.2 h0
  have p1 := hp.adv hf l1 o1
  have s1 : oS fo M M1 := o1.s (by omega)
  refine x_opensBracket hT hf p1 ho (fun q M2 o2 f2 => ?_) (fun q q7 M2 o2 f2 => ?_) (fun q q7 M2 p2 s2 => ?_)
  · rw [if_neg q] at hr
    rw [er_x hr] at h
    exact ⟨by decide, by decide, h M2 (s1.1.tr o2) f2⟩
  · rw [if_pos q] at hr
    rw [(opn_x hr).1 q7] at h
    exact ⟨by decide, by decide, h M2 (s1.1.tr o2) f2⟩
  · rw [if_pos q] at hr
    have hr := (opn_x hr).2 q7
    have n1 := nx_ts n0.2.1 (by omega)
    rw [cast1]
    rcases bn_x hr with ⟨e, hr1, rfl⟩ | ⟨c1, t1, x2, hr1, hr2, hpre⟩
    · exact hA 3 (o + 1) _ d M2 _ cs _ (by decide) hr1 p2 (by omega) (by omega) (by omega) fun M3 o3 f3 => rq_0 ⟨by decide, by decide, h M3 ((s1.1.tr s2.1).tr o3) f3⟩
    · have pl := pd_len _ _ _ _ _ _ n1.2 hr1
      refine hA 3 (o + 1) _ d M2 _ cs _ (by decide) hr1 p2 (by omega) (by omega) (by omega) fun M3 p3 s3 => rq_1 ?_
      have h3 := okX_pre h hpre ((s1.tr s2).tr s3)
      refine x_fts hT hf p3 (by decide) (fun q M4 o4 f4 => ?_) (fun q M4 p4 s4 => ?_)
      · rw [(tks_x hr2).1 q] at h3
        exact ⟨by decide, by decide, h3 M4 o4 f4⟩
      · have hr2 := (tks_x hr2).2 q
        have n2 := nx_ts pl.1 (by omega)
        have h4 := okX_st h3 s4
        rcases bn_x hr2 with ⟨e, hr3, rfl⟩ | ⟨c2, t2, x3, hr3, hr4, hpre2⟩
        · exact hA 3 (o + 1) _ d M4 _ _ _ (by decide) hr3 p4 (by rw [List.length_append]; omega) (by omega) (by omega) fun M5 o5 f5 => rq_0 ⟨by decide, by decide, h4 M5 o5 f5⟩
        · have pl2 := pd_len _ _ _ _ _ _ n2.2 hr3
          refine hA 3 (o + 1) _ d M4 _ _ _ (by decide) hr3 p4 (by rw [List.length_append]; omega) (by omega) (by omega) fun M5 p5 s5 => rq_1 ?_
          have h5 := okX_pre h4 hpre2 s5
          refine x_fts hT hf p5 (by decide) (fun q M6 o6 f6 => ?_) (fun q M6 p6 s6 => ?_)
          · rw [(tks_x hr4).1 q] at h5
            exact ⟨by decide, by decide, h5 M6 o6 f6⟩
          · have hr4 := (tks_x hr4).2 q
            have n3 := nx_ts pl2.1 (by omega)
            have h6 := okX_st h5 s6
            rw [em_x hr4] at h6
            exact x_fadd hf p6 (by rw [List.length_append, List.length_append]; omega) fun M7 p7 s7 => rq_1 ⟨by decide, by decide, h6 M7 p7 s7⟩
theorem x_choice {f o s d : Nat} {M : Mem} {Q : Int → Mem → Prop} {cs : List Int} {r : (Int × Int) ⊕ (List Int × Nat)} (hT : TB T) (hf : kd fo = 1) (hA : xA T g fo f) (hb : bd T s = -1) (h0 : so T s ≠ 0) (hp : PSX M T fo g s cs) (hl : cs.length ≤ s) (ho : o ≤ 7) (hd : 7 * (7 - o) + 1 ≤ d)
    (hr : (if ts T (nx T s) = 40 then opn T o (nx T s) fun s1 => bn (pd T g f 0 (o + 1) s1) fun s2 => tks T 44 s2 fun s3 => bn (pd T g f 3 (o + 1) s3) fun s4 => tks T 44 s4 fun s5 => bn (pd T g f 3 (o + 1) s5) fun s6 => tks T 41 s6 (em (-21)) else er 1 (wr T (nx T s))) = some r) (h : okX Q M T fo g cs r) : fr d 7 (o : Nat) 0 M (fun r M' => (r = 0 ∨ r = 1) ∧ Q r M') := by
  have tl := hT.1
  have k := isForm hf
  obtain ⟨d, rfl⟩ : ∃ k, d = k + 1 := ⟨d - 1, by omega⟩
  show mb_X2_choice (fr d) (o : Nat) M _
  unfold mb_X2_choice m_X2_choice_J97 m_X2_choice_J98
  refine x_adv hT hp.1 hb h0 fun M1 l1 o1 => ?_
  have n0 := nx_rng hp.1.le
  have n0' := n0.2.2 h0
  have p1 := hp.adv hf l1 o1
  have s1 : oS fo M M1 := o1.s (by omega)
  refine x_opensBracket hT hf p1 ho (fun q M2 o2 f2 => ?_) (fun q q7 M2 o2 f2 => ?_) (fun q q7 M2 p2 s2 => ?_)
  · rw [if_neg q] at hr
    rw [er_x hr] at h
    exact ⟨by decide, by decide, h M2 (s1.1.tr o2) f2⟩
  · rw [if_pos q] at hr
    rw [(opn_x hr).1 q7] at h
    exact ⟨by decide, by decide, h M2 (s1.1.tr o2) f2⟩
  · rw [if_pos q] at hr
    have hr := (opn_x hr).2 q7
    have n1 := nx_ts n0.2.1 (by omega)
    rw [cast1]
    rcases bn_x hr with ⟨e, hr1, rfl⟩ | ⟨c1, t1, x2, hr1, hr2, hpre⟩
    · exact hA 0 (o + 1) _ d M2 _ cs _ (by decide) hr1 p2 (by omega) (by omega) (by omega) fun M3 o3 f3 => rq_0 ⟨by decide, by decide, h M3 ((s1.1.tr s2.1).tr o3) f3⟩
    · have pl := pd_len _ _ _ _ _ _ n1.2 hr1
      refine hA 0 (o + 1) _ d M2 _ cs _ (by decide) hr1 p2 (by omega) (by omega) (by omega) fun M3 p3 s3 => rq_1 ?_
      have h3 := okX_pre h hpre ((s1.tr s2).tr s3)
      refine x_fts hT hf p3 (by decide) (fun q M4 o4 f4 => ?_) (fun q M4 p4 s4 => ?_)
      · rw [(tks_x hr2).1 q] at h3
        exact ⟨by decide, by decide, h3 M4 o4 f4⟩
      · have hr2 := (tks_x hr2).2 q
        have n2 := nx_ts pl.1 (by omega)
        have h4 := okX_st h3 s4
        rcases bn_x hr2 with ⟨e, hr3, rfl⟩ | ⟨c2, t2, x3, hr3, hr4, hpre2⟩
        · exact hA 3 (o + 1) _ d M4 _ _ _ (by decide) hr3 p4 (by rw [List.length_append]; omega) (by omega) (by omega) fun M5 o5 f5 => rq_0 ⟨by decide, by decide, h4 M5 o5 f5⟩
        · have pl2 := pd_len _ _ _ _ _ _ n2.2 hr3
          refine hA 3 (o + 1) _ d M4 _ _ _ (by decide) hr3 p4 (by rw [List.length_append]; omega) (by omega) (by omega) fun M5 p5 s5 => rq_1 ?_
          have h5 := okX_pre h4 hpre2 s5
          refine x_fts hT hf p5 (by decide) (fun q M6 o6 f6 => ?_) (fun q M6 p6 s6 => ?_)
          · rw [(tks_x hr4).1 q] at h5
            exact ⟨by decide, by decide, h5 M6 o6 f6⟩
          · have hr4 := (tks_x hr4).2 q
            have n3 := nx_ts pl2.1 (by omega)
            have h6 := okX_st h5 s6
            rcases bn_x hr4 with ⟨e, hr5, rfl⟩ | ⟨c3, t3, x4, hr5, hr6, hpre3⟩
            · exact hA 3 (o + 1) _ d M6 _ _ _ (by decide) hr5 p6 (by rw [List.length_append, List.length_append]; omega) (by omega) (by omega) fun M7 o7 f7 => rq_0 ⟨by decide, by decide, h6 M7 o7 f7⟩
            · have pl3 := pd_len _ _ _ _ _ _ n3.2 hr5
              refine hA 3 (o + 1) _ d M6 _ _ _ (by decide) hr5 p6 (by rw [List.length_append, List.length_append]; omega) (by omega) (by omega) fun M7 p7 s7 => rq_1 ?_
              have h7 := okX_pre h6 hpre3 s7
              refine x_fts hT hf p7 (by decide) (fun q M8 o8 f8 => ?_) (fun q M8 p8 s8 => ?_)
              · rw [(tks_x hr6).1 q] at h7
                exact ⟨by decide, by decide, h7 M8 o8 f8⟩
              · have hr6 := (tks_x hr6).2 q
                have n4 := nx_ts pl3.1 (by omega)
                have h8 := okX_st h7 s8
                rw [em_x hr6] at h8
                exact x_fadd hf p8 (by rw [List.length_append, List.length_append, List.length_append]; omega) fun M9 p9 s9 => rq_1 ⟨by decide, by decide, h8 M9 p9 s9⟩
theorem x_fact {f o s d : Nat} {M : Mem} {Q : Int → Mem → Prop} {cs : List Int} {r : (Int × Int) ⊕ (List Int × Nat)} (hT : TB T) (hf : kd fo = 1) (hA : xA T g fo f) (hp : PSX M T fo g s cs) (hl : cs.length ≤ s) (ho : o ≤ 7) (hd : 7 * (7 - o) + 4 ≤ d)
    (hr : pd T g (f + 1) 2 o s = some r) (h : okX Q M T fo g cs r) : mb_X2_fact (fr d) (o : Nat) M Q := by
  have tl := hT.1
  have k := isForm hf
  have sl := hp.1.le
  simp only [pd] at hr
  unfold mb_X2_fact m_X2_fact_J171 m_X2_fact_J172 m_X2_fact_J94 m_X2_fact_J95 m_X2_fact_J46 m_X2_fact_J47
  refine x_ow hp.1 (by decide) (fun q1 => ?_) (fun q1 => ?_)
  · rw [if_neg q1] at hr
    refine x_sg hT hp.1 (by decide) (fun q2 => ?_) (fun q2 => ?_)
    · rw [if_neg q2] at hr
      refine x_ow hp.1 (by decide) (fun q3 => ?_) (fun q3 => ?_)
      · rw [if_neg q3] at hr
        rcases bn_x hr with ⟨e, hr1, rfl⟩ | ⟨c1, t1, x2, hr1, hr2, hpre⟩
        · exact hA 3 o _ d M _ cs _ (by decide) hr1 hp hl ho (by omega) fun M3 o3 f3 => rq_0 (h M3 o3 f3)
        · have pl := pd_len _ _ _ _ _ _ sl hr1
          refine hA 3 o _ d M _ cs _ (by decide) hr1 hp hl ho (by omega) fun M1 p1 s1 => rq_1 ?_
          have h1 := okX_pre h hpre s1
          refine x_comparison hT p1.1 ?_
          by_cases q4 : cmc T t1 = 0
          · rw [if_pos q4] at hr2
            rw [er_x hr2] at h1
            rw [q4]
            exact rq_0 (x_misplaced p1.1 fun M2 o2 f2 => ⟨by decide, h1 M2 (o2.q (by omega)) f2⟩)
          · rw [if_neg q4] at hr2
            have cr := cmc_rng q4
            have b := ts_b (cmc_ts q4)
            have n := nx_ts pl.1 (cmc_ts q4)
            refine ⟨by omega, fun z => absurd z q4, fun _ => x_adv hT p1.1 b.1 (by omega) fun M2 l2 o2 => ?_⟩
            have p2 := p1.adv hf l2 o2
            have s2 : oS fo M1 M2 := o2.s (by omega)
            have h2 := okX_st h1 s2
            rcases bn_x hr2 with ⟨e, hr3, rfl⟩ | ⟨c2, t2, x3, hr3, hr4, hpre2⟩
            · exact hA 3 o _ d M2 _ _ _ (by decide) hr3 p2 (by rw [List.length_append]; omega) ho (by omega) fun M3 o3 f3 => rq_0 ⟨by decide, h2 M3 o3 f3⟩
            · have pl2 := pd_len _ _ _ _ _ _ n.2 hr3
              refine hA 3 o _ d M2 _ _ _ (by decide) hr3 p2 (by rw [List.length_append]; omega) ho (by omega) fun M3 p3 s3 => rq_1 ?_
              have h3 := okX_pre h2 hpre2 s3
              rw [em_x hr4] at h3
              exact x_fadd hf p3 (by rw [List.length_append, List.length_append]; omega) fun M4 p4 s4 => rq_1 ⟨by decide, h3 M4 p4 s4⟩
      · rw [if_pos q3] at hr
        have b := tw_b (T := T) (s := s) (by omega)
        rw [em_x hr] at h
        exact x_take hT hf hp hl b.1 (by omega) h
    · rw [if_pos q2] at hr
      have b := ts_b (T := T) (s := s) (by omega)
      have n := nx_ts sl (show ts T s ≠ -1 by omega)
      refine x_opens hT hf hp b.1 (by omega) ho (fun q M1 o1 f1 => ?_) (fun q M1 p1 s1 => ?_)
      · rw [(opn_x hr).1 q] at h
        exact ⟨by decide, h M1 o1 f1⟩
      · have hr := (opn_x hr).2 q
        have h1 := okX_st h s1
        rw [cast1]
        rcases bn_x hr with ⟨e, hr1, rfl⟩ | ⟨c1, t1, x2, hr1, hr2, hpre⟩
        · exact hA 0 (o + 1) _ d M1 _ cs _ (by decide) hr1 p1 (by omega) (by omega) (by omega) fun M3 o3 f3 => rq_0 ⟨by decide, h1 M3 o3 f3⟩
        · have pl := pd_len _ _ _ _ _ _ n.2 hr1
          refine hA 0 (o + 1) _ d M1 _ cs _ (by decide) hr1 p1 (by omega) (by omega) (by omega) fun M2 p2 s2 => rq_1 ?_
          have h2 := okX_pre h1 hpre s2
          refine x_fts hT hf p2 (by decide) (fun q M4 o4 f4 => ?_) (fun q M4 p4 s4 => ?_)
          · rw [(tks_x hr2).1 q] at h2
            exact ⟨by decide, h2 M4 o4 f4⟩
          · rw [ok_x ((tks_x hr2).2 q)] at h2
            refine ⟨by decide, h2 M4 (by rw [List.append_nil]; exact p4) s4⟩
  · rw [if_pos q1] at hr
    have b := tw_b (T := T) (s := s) (by omega)
    have n := nx_tw sl (show tw T s ≠ -2 by omega)
    refine x_opens hT hf hp b.1 (by omega) ho (fun q M1 o1 f1 => ?_) (fun q M1 p1 s1 => ?_)
    · rw [(opn_x hr).1 q] at h
      exact ⟨by decide, h M1 o1 f1⟩
    · have hr := (opn_x hr).2 q
      have h1 := okX_st h s1
      rw [cast1]
      rcases bn_x hr with ⟨e, hr1, rfl⟩ | ⟨c1, t1, x2, hr1, hr2, hpre⟩
      · exact hA 2 (o + 1) _ d M1 _ cs _ (by decide) hr1 p1 (by omega) (by omega) (by omega) fun M3 o3 f3 => rq_0 ⟨by decide, h1 M3 o3 f3⟩
      · have pl := pd_len _ _ _ _ _ _ n.2 hr1
        refine hA 2 (o + 1) _ d M1 _ cs _ (by decide) hr1 p1 (by omega) (by omega) (by omega) fun M2 p2 s2 => rq_1 ?_
        have h2 := okX_pre h1 hpre s2
        rw [em_x hr2] at h2
        exact x_fadd hf p2 (by rw [List.length_append]; omega) fun M4 p4 s4 => rq_1 ⟨by decide, h2 M4 p4 s4⟩
theorem x_part {f o s d : Nat} {M : Mem} {Q : Int → Mem → Prop} {cs : List Int} {r : (Int × Int) ⊕ (List Int × Nat)} (hT : TB T) (hf : kd fo = 1) (hA : xA T g fo f) (hp : PSX M T fo g s cs) (hl : cs.length ≤ s) (ho : o ≤ 7) (hd : 7 * (7 - o) + 1 ≤ d)
    (hr : pd T g (f + 1) 5 o s = some r) (h : okX Q M T fo g cs r) : mb_X2_part (fr d) (o : Nat) M Q := by
  have tl := hT.1
  have k := isForm hf
  have sl := hp.1.le
  simp only [pd] at hr
  unfold mb_X2_part m_X2_part_J292 m_X2_part_J269 m_X2_part_J245 m_X2_part_J70 m_X2_part_J69
  refine ⟨hp.1.s2, fun q => ?_, fun q => ?_⟩
  · have c := (hp.1.so (by decide)).mp q
    have e : tn T s = nv (dg T s) := by unfold tn; rw [if_pos c]
    have v := dg_v T s
    rw [if_pos (by omega)] at hr
    rw [(hp.1.2.2.2.2.2.2.2 c.1).2.2.1 c.2, ← e]
    rw [em_x hr] at h
    exact x_take hT hf hp hl c.1 (by omega) h
  · have c : ¬ (bd T s = -1 ∧ so T s = 2) := mt (hp.1.so (by decide)).mpr q
    have e : tn T s = -1 := by unfold tn; rw [if_neg c]
    rw [if_neg (by omega)] at hr
    refine x_sg hT hp.1 (by decide) (fun q2 => ?_) (fun q2 => ?_)
    · rw [if_neg q2] at hr
      refine ⟨hp.1.s2, fun q3 => ?_, fun q3 => ?_⟩
      · have c := (hp.1.so (by decide)).mp q3
        have e5 : M 1 5 = tw T s := by
          unfold tw
          rw [if_pos c, ((hp.1.2.2.2.2.2.2.2 c.1).2.1 c.2).2]
        have tr := tw_rng T s
        have t0 : so T s ≠ 0 := by omega
        have mis : kwc T g s = 0 → mmc T s = 0 → tw T s ≠ 17 → m_X7_misplaced M (fun r2 M1 => (r2 = 0 ∨ r2 = 1) ∧ Q r2 M1) := fun a1 a2 a3 => by
          rw [if_neg (by omega), if_neg (by omega), if_neg a3] at hr
          rw [er_x hr] at h
          exact x_misplaced hp.1 fun M2 o2 f2 => ⟨by decide, h M2 (o2.q (by omega)) f2⟩
        have tk : ∀ v, kwc T g s = v → v ≠ 0 → m_X2_take v M (fun r M' => (r = 0 ∨ r = 1) ∧ Q r M') := fun v a1 a2 => by
          rw [if_pos (by omega)] at hr
          rw [em_x hr, a1] at h
          exact x_take hT hf hp hl c.1 t0 h
        have gv := hp.2.2.1
        rw [e5]
        refine ⟨by omega, fun z => tk _ (by simp [kwc, z]) (by decide), fun z => mis (by simp [kwc, z]) (by simp [mmc, z]) (by omega), fun z => mis (by simp [kwc, z]) (by simp [mmc, z]) (by omega), fun z => mis (by simp [kwc, z]) (by simp [mmc, z]) (by omega), fun z => mis (by simp [kwc, z]) (by simp [mmc, z]) (by omega), fun z => mis (by simp [kwc, z]) (by simp [mmc, z]) (by omega),
          fun z => tk _ (by simp [kwc, z]) (by decide), fun z => tk _ (by simp [kwc, z]) (by decide), fun z => tk _ (by simp [kwc, z]) (by decide), fun z => tk _ (by simp [kwc, z]) (by decide), fun z => ?_, fun z => ?_, fun z => ?_,
          fun z => mis (by simp [kwc, z]) (by simp [mmc, z]) (by omega), fun z => mis (by simp [kwc, z]) (by simp [mmc, z]) (by omega), fun z => mis (by simp [kwc, z]) (by simp [mmc, z]) (by omega), fun z => mis (by simp [kwc, z]) (by simp [mmc, z]) (by omega), fun z => ?_, fun z => ?_, fun z => mis ?_ ?_ (by omega)⟩
        · rw [gv]
          cases g with
          | false => exact ⟨by decide, fun _ => mis (by simp [kwc, z]) (by simp [mmc, z]) (by omega), fun w => absurd rfl w⟩
          | true => exact ⟨by decide, fun w => absurd w (by decide), fun _ => tk _ (by simp [kwc, z]) (by decide)⟩
        · rw [gv]
          cases g with
          | false => exact ⟨by decide, fun _ => mis (by simp [kwc, z]) (by simp [mmc, z]) (by omega), fun w => absurd rfl w⟩
          | true => exact ⟨by decide, fun w => absurd w (by decide), fun _ => tk _ (by simp [kwc, z]) (by decide)⟩
        · have a1 : kwc T g s = 0 := by simp [kwc, z]
          have a2 : mmc T s = 0 := by simp [mmc, z]
          rw [if_neg (by omega), if_neg (by omega), if_pos z] at hr
          exact x_choice hT hf hA c.1 t0 hp hl ho hd hr h
        · have a1 : kwc T g s = 0 := by simp [kwc, z]
          have a2 : mmc T s = -13 := by simp [mmc, z]
          rw [if_neg (by omega), if_pos (by omega), a2] at hr
          exact x_pair hT hf hA c.1 t0 hp hl ho hd hr h
        · have a1 : kwc T g s = 0 := by simp [kwc, z]
          have a2 : mmc T s = -14 := by simp [mmc, z]
          rw [if_neg (by omega), if_pos (by omega), a2] at hr
          exact x_pair hT hf hA c.1 t0 hp hl ho hd hr h
        · unfold kwc
          rw [if_neg (by omega), if_neg (by omega), if_neg (by omega), if_neg (by omega), if_neg (by omega), if_neg (by omega), if_neg (by omega)]
        · unfold mmc
          rw [if_neg (by omega), if_neg (by omega)]
      · have c1 : ¬ (bd T s = -1 ∧ so T s = 1) := mt (hp.1.so (by decide)).mpr q3
        have e2 : tw T s = -2 := by unfold tw; rw [if_neg c1]
        have a1 : kwc T g s = 0 := by simp [kwc, e2]
        have a2 : mmc T s = 0 := by simp [mmc, e2]
        rw [if_neg (by omega), if_neg (by omega), if_neg (by omega)] at hr
        rw [er_x hr] at h
        exact x_misplaced hp.1 fun M2 o2 f2 => ⟨by decide, h M2 (o2.q (by omega)) f2⟩
    · rw [if_pos q2] at hr
      have b := ts_b (T := T) (s := s) (by omega)
      have n := nx_ts sl (show ts T s ≠ -1 by omega)
      refine x_opens hT hf hp b.1 (by omega) ho (fun q M1 o1 f1 => ?_) (fun q M1 p1 s1 => ?_)
      · rw [(opn_x hr).1 q] at h
        exact ⟨by decide, h M1 o1 f1⟩
      · have hr := (opn_x hr).2 q
        have h1 := okX_st h s1
        rw [cast1]
        rcases bn_x hr with ⟨e, hr1, rfl⟩ | ⟨c1, t1, x2, hr1, hr2, hpre⟩
        · exact hA 3 (o + 1) _ d M1 _ cs _ (by decide) hr1 p1 (by omega) (by omega) (by omega) fun M3 o3 f3 => rq_0 ⟨by decide, h1 M3 o3 f3⟩
        · have pl := pd_len _ _ _ _ _ _ n.2 hr1
          refine hA 3 (o + 1) _ d M1 _ cs _ (by decide) hr1 p1 (by omega) (by omega) (by omega) fun M2 p2 s2 => rq_1 ?_
          have h2 := okX_pre h1 hpre s2
          refine x_fts hT hf p2 (by decide) (fun q M4 o4 f4 => ?_) (fun q M4 p4 s4 => ?_)
          · rw [(tks_x hr2).1 q] at h2
            exact ⟨by decide, h2 M4 o4 f4⟩
          · rw [ok_x ((tks_x hr2).2 q)] at h2
            refine ⟨by decide, h2 M4 (by rw [List.append_nil]; exact p4) s4⟩
theorem x_parse (hT : TB T) (hf : kd fo = 1) : ∀ f : Nat, xA T g fo f ∧ xL m_X2_test_L8 8 6 T g fo f ∧ xL m_X2_both_L8 9 5 T g fo f ∧ xL m_X2_sum_L8 10 3 T g fo f ∧ xL m_X2_product_L8 11 2 T g fo f
  | 0 => by
    refine ⟨fun w o s d M Q cs r _ hr => ?_, fun o s d v fu M Q cs r hr => ?_, fun o s d v fu M Q cs r hr => ?_, fun o s d v fu M Q cs r hr => ?_, fun o s d v fu M Q cs r hr => ?_⟩ <;> simp [pd] at hr
  | f + 1 => by
    obtain ⟨hA, h8, h9, h10, h11⟩ := x_parse hT hf f
    refine ⟨?_, x_8 hT hf hA h8, x_9 hT hf hA h9, x_10 hT hf hA h10, x_11 hT hf hA h11⟩
    intro w o s d M Q cs r hw hr hp hl ho hd h
    have sl := hp.1.le
    obtain ⟨d, rfl⟩ : ∃ k, d = k + 1 := ⟨d - 1, by omega⟩
    rcases (show w = 0 ∨ w = 1 ∨ w = 2 ∨ w = 3 ∨ w = 4 ∨ w = 5 by omega) with rfl | rfl | rfl | rfl | rfl | rfl
    · simp only [pd] at hr
      show mb_X2_test (fr d) (o : Nat) M Q
      unfold mb_X2_test
      rcases bn_x hr with ⟨e, hr1, rfl⟩ | ⟨c1, t1, x2, hr1, hr2, hpre⟩
      · exact hA 1 o _ d M _ cs _ (by decide) hr1 hp hl ho (by omega) fun M3 o3 f3 => ⟨1, x_t0 (v := 0) (by omega) (h M3 o3 f3)⟩
      · have pl := pd_len _ _ _ _ _ _ sl hr1
        exact hA 1 o _ d M _ cs _ (by decide) hr1 hp hl ho (by omega) fun M1 p1 s1 => ⟨T.length - t1 + 2, h8 o t1 d 0 _ M1 Q _ x2 hr2 p1 (by rw [List.length_append]; omega) ho (by omega) (by omega) (Nat.le_refl _) (okX_pre h hpre s1)⟩
    · simp only [pd] at hr
      show mb_X2_both (fr d) (o : Nat) M Q
      unfold mb_X2_both
      rcases bn_x hr with ⟨e, hr1, rfl⟩ | ⟨c1, t1, x2, hr1, hr2, hpre⟩
      · exact hA 2 o _ d M _ cs _ (by decide) hr1 hp hl ho (by omega) fun M3 o3 f3 => ⟨1, x_b0 (v := 0) (by omega) (h M3 o3 f3)⟩
      · have pl := pd_len _ _ _ _ _ _ sl hr1
        exact hA 2 o _ d M _ cs _ (by decide) hr1 hp hl ho (by omega) fun M1 p1 s1 => ⟨T.length - t1 + 2, h9 o t1 d 0 _ M1 Q _ x2 hr2 p1 (by rw [List.length_append]; omega) ho (by omega) (by omega) (Nat.le_refl _) (okX_pre h hpre s1)⟩
    · exact x_fact hT hf hA hp hl ho (by omega) hr h
    · simp only [pd] at hr
      show mb_X2_sum (fr d) (o : Nat) M Q
      unfold mb_X2_sum
      rcases bn_x hr with ⟨e, hr1, rfl⟩ | ⟨c1, t1, x2, hr1, hr2, hpre⟩
      · exact hA 4 o _ d M _ cs _ (by decide) hr1 hp hl ho (by omega) fun M3 o3 f3 => ⟨1, x_s0 (v := 0) (by omega) (h M3 o3 f3)⟩
      · have pl := pd_len _ _ _ _ _ _ sl hr1
        exact hA 4 o _ d M _ cs _ (by decide) hr1 hp hl ho (by omega) fun M1 p1 s1 => ⟨T.length - t1 + 2, h10 o t1 d 0 _ M1 Q _ x2 hr2 p1 (by rw [List.length_append]; omega) ho (by omega) (by omega) (Nat.le_refl _) (okX_pre h hpre s1)⟩
    · simp only [pd] at hr
      show mb_X2_product (fr d) (o : Nat) M Q
      unfold mb_X2_product
      rcases bn_x hr with ⟨e, hr1, rfl⟩ | ⟨c1, t1, x2, hr1, hr2, hpre⟩
      · exact hA 5 o _ d M _ cs _ (by decide) hr1 hp hl ho (by omega) fun M3 o3 f3 => ⟨1, x_p0 (v := 0) (by omega) (h M3 o3 f3)⟩
      · have pl := pd_len _ _ _ _ _ _ sl hr1
        exact hA 5 o _ d M _ cs _ (by decide) hr1 hp hl ho (by omega) fun M1 p1 s1 => ⟨T.length - t1 + 2, h11 o t1 d 0 _ M1 Q _ x2 hr2 p1 (by rw [List.length_append]; omega) ho (by omega) (by omega) (Nat.le_refl _) (okX_pre h hpre s1)⟩
    · exact x_part hT hf hA hp hl ho (by omega) hr h
end
