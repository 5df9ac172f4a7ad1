/-! the model's machine takes an operand -/
section
variable {T : List Int} {g : Bool} {b : Int} {c0 : Nat} {M : Mem} {s : Nat} {cs : List Int} {fs : List FR} {o : Nat} {op : Int} {R : Int → Mem → Prop}
theorem y_ox {fl : FR} (hT : TB T) (h : YM T g b c0 M s cs (fl :: fs) o op) (hbd : bd T s ≠ -1) (hQ : ∀ M', oZ b c0 M M' → FY M' (1, wr T s) → R 1 M') : m_X12_operand M R := by
  unfold m_X12_operand
  refine y_lex hT h.1 h.2.1 (fun z => absurd z hbd) (fun _ M1 o1 f1 => ?_)
  rw [show M1 199 8 = 1 from f1.1]
  exact ⟨by decide, fun z => absurd z (by decide), fun _ => hQ M1 (o1.z f1.n) f1⟩
theorem y_o46 {k ph bg pr : Int} {O : List Int} (hT : TB T) (h : YM T g b c0 M s cs ((k, ph, bg, pr, O) :: fs) o op) (hbd : bd T s = -1) (hk : inI k) (hbg : bg = 0 ∨ bg = 1) (hf : fs.length < 20) (hJ : m_X12_operand_J46 R (fs.length : Nat) (if (k = 1 ∨ k = 5 ∨ k = 6) ∧ bg = 1 then 1 else 0) M) : m_X12_operand M R := by
  obtain ⟨d1, d2, d3, d4, -⟩ := h.deep
  unfold m_X12_operand m_X12_operand_J45
  refine y_lex hT h.1 h.2.1 (fun _ => ?_) (fun z => absurd hbd z)
  rw [h.2.1, d1, d2]
  refine ⟨by decide, fun _ => ⟨by omega, y_isTest hk ?_⟩, fun z => absurd (by decide) z⟩
  by_cases c : k = 1 ∨ k = 5 ∨ k = 6
  · rw [if_pos c, d4]
    refine ⟨by decide, fun z => absurd z (by decide), fun _ => ⟨by omega, by omega, fun q => ?_, fun q => ?_⟩⟩
    · rwa [if_neg (by omega)] at hJ
    · rwa [if_pos ⟨c, by omega⟩] at hJ
  · rw [if_neg c]
    rw [if_neg (fun z => c z.1)] at hJ
    exact ⟨by decide, fun _ => hJ, fun z => absurd rfl z⟩
theorem y_oN {k ph pr : Int} {O : List Int} (hT : TB T) (h : YM T g b c0 M s cs ((k, ph, 1, pr, O) :: fs) o op) (hk : k = 1 ∨ k = 5 ∨ k = 6) (hw : tw T s = 20) (ho : o ≤ 7) (hf : fs.length < 20) (ht : tot fs + O.length < 500)
    (h7 : 7 ≤ o → ∀ M', oZ b c0 M M' → FY M' (5, (s : Nat)) → R 1 M') (hQ : o < 7 → ∀ M', YM T g b c0 M' (nx T s) cs ((k, ph, 1, pr, -20 :: O) :: fs) (o + 1) op → oZ b c0 M M' → R 0 M') : m_X12_operand M R := by
  have tb := tw_b (T := T) (s := s) (by omega)
  refine y_o46 hT h tb.1 (by omega) (Or.inr rfl) hf ?_
  rw [if_pos ⟨hk, rfl⟩]
  have e4 : M 199 4 = (s : Nat) := h.1.2.2.1
  have e42 : M 199 42 = (o : Nat) := h.2.2.2.2.2.2.1
  unfold m_X12_operand_J46 m_X12_operand_J79
  refine ⟨by decide, fun z => absurd z (by decide), fun _ => y_ww 20 (by decide) rfl h.1 tb.1 (fun z => absurd hw z) fun _ => ?_⟩
  rw [e42, e4]
  refine ⟨by omega, fun q => y_blame h.2.1 fun M1 o1 f1 => ?_, fun q => ?_⟩
  · rw [show M1 199 8 = 5 from f1.1]
    exact ⟨by decide, fun z => absurd z (by decide), fun _ => h7 (by omega) M1 (o1.z f1.n) f1⟩
  · rw [h.2.1]
    refine ⟨by decide, fun _ M1 e1 => ?_, fun z => absurd (by decide) z⟩
    rw [cast1] at e1
    have y1 := h.opd e1
    refine y_hold (c := -20) y1 ht (by decide) fun M2 y2 z2 => y_ahead hT y2.1 tb.1 fun M3 o3 l3 => ?_
    exact hQ (by omega) M3 (y2.ahead o3 l3) (((oZ.up e1 (by omega)).tr z2).tr (o3.z (l3.i12 hT)))
theorem y_opens {Q : Mem → Prop} {kd1 : Int} (hT : TB T) (h : YM T g b c0 M s cs fs o op) (hbd : bd T s = -1) (ho : o ≤ 7) (hf : fs.length < 20) (h7 : 7 ≤ o → ∀ M', oZ b c0 M M' → FY M' (5, (s : Nat)) → Q M') (hQ : o < 7 → ∀ M' x, YM T g b c0 M' (nx T s) cs ((kd1, 0, 1, x, []) :: fs) (o + 1) op → oZ b c0 M M' → Q M') : m_X12_opens kd1 M Q := by
  have e4 : M 199 4 = (s : Nat) := h.1.2.2.1
  have e42 : M 199 42 = (o : Nat) := h.2.2.2.2.2.2.1
  unfold m_X12_opens m_X12_opens_J18
  rw [e42, e4]
  refine ⟨by omega, fun q => y_blame h.2.1 fun M1 o1 f1 => ?_, fun q => ?_⟩
  · rw [show M1 199 8 = 5 from f1.1]
    exact ⟨by decide, fun z => absurd z (by decide), fun _ => h7 (by omega) M1 (o1.z f1.n) f1⟩
  · rw [h.2.1]
    refine ⟨by decide, fun _ M1 e1 => ?_, fun z => absurd (by decide) z⟩
    rw [cast1] at e1
    have y1 := h.opd e1
    refine y_ahead hT y1.1 hbd fun M2 o2 l2 => y_pushes (y1.ahead o2 l2) hf fun M3 y3 z3 => ?_
    exact hQ (by omega) M3 _ y3 (((oZ.up e1 (by omega)).tr (o2.z (l2.i12 hT))).tr z3)
theorem y_oB {k ph pr : Int} {O : List Int} (hT : TB T) (h : YM T g b c0 M s cs ((k, ph, 1, pr, O) :: fs) o op) (hk : k = 1 ∨ k = 5 ∨ k = 6) (hw : ts T s = 91) (ho : o ≤ 7) (hf : fs.length < 19)
    (h7 : 7 ≤ o → ∀ M', oZ b c0 M M' → FY M' (5, (s : Nat)) → R 0 M') (hQ : o < 7 → ∀ M' x, YM T g b c0 M' (nx T s) cs ((5, 0, 1, x, []) :: (k, ph, 0, pr, O) :: fs) (o + 1) op → oZ b c0 M M' → R 0 M') : m_X12_operand M R := by
  have tb := ts_b (T := T) (s := s) (by omega)
  have t2 : tw T s = -2 := by unfold tw; rw [if_neg (by omega)]
  refine y_o46 hT h tb.1 (by omega) (Or.inr rfl) (by omega) ?_
  rw [if_pos ⟨hk, rfl⟩]
  unfold m_X12_operand_J46 m_X12_operand_J110
  refine ⟨by decide, fun z => absurd z (by decide), fun _ => y_ww 20 (by decide) rfl h.1 tb.1 (fun _ => ⟨by omega, fun M1 e1 => ?_⟩) fun z => by omega⟩
  have y1 : YM T g b c0 M1 s cs ((k, ph, 0, pr, O) :: fs) o op := h.top e1 (by decide) (by simp) (by simp) (by simp) (by simp) rfl
  have z1 : oZ b c0 M M1 := oZ.up e1 (by omega)
  exact ⟨by decide, fun z => absurd z (by decide), fun _ => y_sg hT y1.1 tb.1 (by decide) (fun z => absurd hw z) fun _ => y_opens hT y1 tb.1 ho (by simp only [List.length_cons]; omega) (fun q M2 z2 f2 => h7 q M2 (z1.tr z2) f2) (fun q M2 x y2 z2 => hQ q M2 x y2 (z1.tr z2))⟩
theorem y_oA {k ph pr : Int} {O : List Int} (hT : TB T) (hb : b = 0 ∨ b = 1) (h : YM T g b c0 M s cs ((k, ph, 1, pr, O) :: fs) o op) (hk : k = 1 ∨ k = 5 ∨ k = 6) (hw : tw T s = 21) (hf : fs.length < 20) (hcl : c0 + cs.length < 1600)
    (hQ : ∀ M', YM T g b c0 M' (nx T s) (cs ++ [1]) ((k, 2, 0, pr, O) :: fs) o op → oZ b c0 M M' → R 1 M') : m_X12_operand M R := by
  have tb := tw_b (T := T) (s := s) (by omega)
  have t1 : ts T s = -1 := by unfold ts; rw [if_neg (by omega)]
  refine y_o46 hT h tb.1 (by omega) (Or.inr rfl) (by omega) ?_
  rw [if_pos ⟨hk, rfl⟩]
  unfold m_X12_operand_J46 m_X12_operand_J110 m_X12_operand_J137
  refine ⟨by decide, fun z => absurd z (by decide), fun _ => y_ww 20 (by decide) rfl h.1 tb.1 (fun _ => ⟨by omega, fun M1 e1 => ?_⟩) fun z => by omega⟩
  have y1 : YM T g b c0 M1 s cs ((k, ph, 0, pr, O) :: fs) o op := h.top e1 (by decide) (by simp) (by simp) (by simp) (by simp) rfl
  have z1 : oZ b c0 M M1 := oZ.up e1 (by omega)
  refine ⟨by decide, fun z => absurd z (by decide), fun _ => y_sg hT y1.1 tb.1 (by decide) (fun _ => ⟨by decide, fun z => absurd z (by decide), fun _ => y_ww 21 (by decide) rfl y1.1 tb.1 (fun z => absurd hw z) fun _ => ?_⟩) (fun z => by omega)⟩
  refine y_add (c := 1) hb y1 hcl (Or.inl ⟨by decide, Or.inr ⟨rfl, rfl⟩⟩) fun M2 y2 z2 _ _ _ => ⟨by omega, fun M3 e3 => ?_⟩
  have y3 : YM T g b c0 M3 s (cs ++ [1]) ((k, 2, 0, pr, O) :: fs) o op := y2.top e3 (by decide) (by simp) (by simp) (by simp) (by simp) rfl
  exact y_ahead hT y3.1 tb.1 fun M4 o4 l4 => hQ M4 (y3.ahead o4 l4) (((z1.tr z2).tr (oZ.up e3 (by omega))).tr (o4.z (l4.i12 hT)))
theorem y_o171 {k ph bg pr : Int} {O : List Int} (hT : TB T) (h : YM T g b c0 M s cs ((k, ph, bg, pr, O) :: fs) o op) (hbd : bd T s = -1) (hk : inI k) (hbg : bg = 0 ∨ bg = 1) (hf : fs.length < 20) (nf : (k = 1 ∨ k = 5 ∨ k = 6) → bg = 1 → tw T s ≠ 20 ∧ ts T s ≠ 91 ∧ tw T s ≠ 21) (hJ : ∀ M', YM T g b c0 M' s cs ((k, ph, 0, pr, O) :: fs) o op → oZ b c0 M M' → m_X12_operand_J171 R M') : m_X12_operand M R := by
  refine y_o46 hT h hbd hk hbg hf ?_
  have go : ∀ M1 : Mem, M1 = up M 222 (fs.length : Nat) 0 → YM T g b c0 M1 s cs ((k, ph, 0, pr, O) :: fs) o op ∧ oZ b c0 M M1 := fun M1 e1 => ⟨h.top e1 (by decide) (by simp) (by simp) (by simp) (by simp) rfl, oZ.up e1 (by omega)⟩
  unfold m_X12_operand_J46 m_X12_operand_J110 m_X12_operand_J137
  by_cases c : (k = 1 ∨ k = 5 ∨ k = 6) ∧ bg = 1
  · rw [if_pos c]
    obtain ⟨w1, w2, w3⟩ := nf c.1 c.2
    refine ⟨by decide, fun z => absurd z (by decide), fun _ => y_ww 20 (by decide) rfl h.1 hbd (fun _ => ⟨by omega, fun M1 e1 => ?_⟩) fun z => absurd z w1⟩
    obtain ⟨y1, z1⟩ := go M1 e1
    exact ⟨by decide, fun z => absurd z (by decide), fun _ => y_sg hT y1.1 hbd (by decide) (fun _ => ⟨by decide, fun z => absurd z (by decide), fun _ => y_ww 21 (by decide) rfl y1.1 hbd (fun _ => hJ M1 y1 z1) fun z => absurd z w3⟩) (fun z => absurd z w2)⟩
  · rw [if_neg c]
    refine ⟨by decide, fun _ => ⟨by omega, fun M1 e1 => ?_⟩, fun z => absurd rfl z⟩
    obtain ⟨y1, z1⟩ := go M1 e1
    exact ⟨by decide, fun _ => ⟨by decide, fun _ => hJ M1 y1 z1, fun z => absurd rfl z⟩, fun z => absurd rfl z⟩
theorem y_isSign_bad {Q : Int → Mem → Prop} {c : Int} (hx : LY M T s) (hb : bd T s ≠ -1) (h : Q 0 M) : m_X12_isSign c M Q := by
  have sr := bd_so hb
  unfold m_X12_isSign m_X12_isSign_J20 m_X12_isSign_J21
  rw [hx.2.2.2.1]
  exact ⟨by omega, fun q => by omega, fun _ => ⟨by decide, h⟩⟩
/-- min, max, if: a bracket must come -/
theorem y_249 {c v : Int} (hT : TB T) (h : YM T g b c0 M s cs fs o op) (hbd : bd T s = -1) (hv : v = 23 - c) (hc : c = -13 ∨ c = -14 ∨ c = -21) (ho : o ≤ 7) (hf : fs.length < 20)
    (hX : ts T (nx T s) ≠ 40 → ∀ M', oZ b c0 M M' → FY M' (1, wr T (nx T s)) → R 0 M') (h7 : ts T (nx T s) = 40 → 7 ≤ o → ∀ M', oZ b c0 M M' → FY M' (5, (nx T s : Nat)) → R 0 M') (hQ : ts T (nx T s) = 40 → o < 7 → ∀ M', YM T g b c0 M' (nx T (nx T s)) cs ((if c = -21 then 6 else 3, 0, 1, c, []) :: fs) (o + 1) op → oZ b c0 M M' → R 0 M') : m_X12_operand_J249 R v M := by
  unfold m_X12_operand_J249
  refine y_ahead hT h.1 hbd fun M1 o1 l1 => ?_
  have y1 := h.ahead o1 l1
  have e42 : ∀ M2, oB M1 M2 → M2 199 42 = (o : Nat) := fun M2 o2 => by rw [o2.2 42 (by decide) (by decide)]; exact y1.2.2.2.2.2.2.1
  have bad : ∀ (M2 : Mem) (e : Int × Int), oB M1 M2 → FY M2 e → 0 < e.1 ∧ e.1 < 9 → R 0 M2 → m_X12_operand_J276 R v M2 := fun M2 e o2 f2 he hR => by
    have h8 := f2.1
    have e42 := e42 M2 o2
    unfold m_X12_operand_J276 m_X12_operand_J289 m_X12_operand_J311 m_X12_opens m_X12_opens_J18
    have fin : (inI (M2 199 8)) ∧ ((M2 199 8 = 0 → ((0 : Int) ≤ (M2 199 41) - 1 ∧ (M2 199 41) - 1 < 20) ∧ ∀ M11 : Mem, M11 = up M2 223 ((M2 199 41) - 1) v → R 0 M11) ∧ (¬ M2 199 8 = 0 → R 0 M2)) := ⟨by omega, fun z => by omega, fun _ => hR⟩
    rw [e42]
    refine ⟨by omega, fun _ => ⟨by omega, fun _ => y_blame1 (by omega) ⟨by omega, fun z => by omega, fun _ => fin⟩, fun _ => ⟨by omega, fun z => by omega, fun _ => fin⟩⟩, fun _ => ⟨by omega, fun _ => y_blame1 (by omega) ⟨by omega, fun z => by omega, fun _ => fin⟩, fun _ => ⟨by omega, fun z => by omega, fun _ => fin⟩⟩⟩
  refine y_lex hT y1.1 y1.2.1 (fun hb1 => ?_) (fun hb1 M2 o2 f2 => ?_)
  · refine y_sg hT y1.1 hb1 (by decide) (fun q => ?_) (fun q => ?_)
    · rw [y1.1.2.2.1]
      refine y_blame y1.2.1 fun M2 o2 f2 => bad M2 _ o2 f2 ⟨by show (0 : Int) < 1; decide, by show (1 : Int) < 9; decide⟩ ?_
      rw [wr_ok hb1] at hX
      exact hX q M2 ((o1.z (l1.i12 hT)).tr (o2.z f2.n)) f2
    · have j289 : ∀ kk, kk = (if c = -21 then 6 else 3) → m_X12_operand_J289 R v kk M1 := fun kk hkk => by
        unfold m_X12_operand_J289 m_X12_operand_J311
        refine y_opens hT y1 hb1 ho hf (fun q7 M2 z2 f2 => ?_) (fun q7 M2 x y2 z2 => ?_)
        · rw [show M2 199 8 = 5 from f2.1]
          exact ⟨by decide, fun z => absurd z (by decide), fun _ => h7 q q7 M2 ((o1.z (l1.i12 hT)).tr z2) f2⟩
        · obtain ⟨d1, -⟩ := y2.deep
          rw [y2.2.1, d1]
          refine ⟨by decide, fun _ => ⟨by omega, fun M3 e3 => ?_⟩, fun z => absurd rfl z⟩
          have y3 : YM T g b c0 M3 _ cs ((kk, 0, 1, c, []) :: fs) (o + 1) op := y2.top e3 (by decide) (by simp) (by simp) (by simp) (by simp [hv]) rfl
          rw [hkk] at y3
          exact hQ q q7 M3 y3 (((o1.z (l1.i12 hT)).tr z2).tr (oZ.up e3 (by omega)))
      unfold m_X12_operand_J276
      exact ⟨by omega, fun z => j289 _ (by rw [if_pos (by omega)]), fun z => j289 _ (by rw [if_neg (by omega)])⟩
  · have l2 := l1.oB o2
    refine y_isSign_bad l2 hb1 ⟨by decide, fun _ => ?_, fun z => absurd rfl z⟩
    refine y_blame1 (by rw [show M2 199 8 = 1 from f2.1]; decide) (bad M2 _ o2 f2 ⟨by show (0 : Int) < 1; decide, by show (1 : Int) < 9; decide⟩ (hX ?_ M2 ((o1.z (l1.i12 hT)).tr (o2.z f2.n)) f2))
    unfold ts
    rw [if_neg (fun z => hb1 z.1)]
    decide
theorem y_o217 {c : Int} (h : YM T g b c0 M s cs fs o op) (hbd : bd T s = -1) (hc : (tw T s = 22 ∧ c = -13) ∨ (tw T s = 23 ∧ c = -14) ∨ (tw T s = 17 ∧ c = -21)) (hJ : m_X12_operand_J249 R (23 - c) M) : m_X12_operand_J217 R M := by
  unfold m_X12_operand_J217
  refine y_ww 22 (by decide) rfl h.1 hbd (fun q1 => y_ww 23 (by decide) rfl h.1 hbd (fun q2 => ?_) (fun q2 => ?_)) (fun q1 => ?_)
  · have : c = -21 := by omega
    rw [this] at hJ
    exact hJ
  · have : c = -14 := by omega
    rw [this] at hJ
    exact hJ
  · have : c = -13 := by omega
    rw [this] at hJ
    exact hJ
theorem y_oM {c : Int} (hT : TB T) (h : YM T g b c0 M s cs fs o op) (hbd : bd T s = -1) (hc : (tw T s = 22 ∧ c = -13) ∨ (tw T s = 23 ∧ c = -14) ∨ (tw T s = 17 ∧ c = -21)) (hJ : m_X12_operand_J249 R (23 - c) M) : m_X12_operand_J171 R M := by
  have tb := tw_b (T := T) (s := s) (by omega)
  have t1 : ts T s = -1 := by unfold ts; rw [if_neg (by omega)]
  have j := y_o217 h hbd hc hJ
  unfold m_X12_operand_J171
  exact y_sg hT h.1 hbd (by decide) (fun _ => y_ww 22 (by decide) rfl h.1 hbd (fun q1 => y_ww 23 (by decide) rfl h.1 hbd (fun q2 => y_ww 17 (by decide) rfl h.1 hbd (fun q3 => by omega) (fun _ => j)) (fun _ => j)) (fun _ => j)) (fun z => by omega)
/-- a number, a known word, or nothing that fits -/
theorem y_oK (hT : TB T) (hb : b = 0 ∨ b = 1) (h : YM T g b c0 M s cs fs o op) (hbd : bd T s = -1) (hts : ts T s ≠ 40) (hm : mmc T s = 0) (hi : tw T s ≠ 17) (hcl : s < T.length → c0 + cs.length < 1600)
    (hN : 0 ≤ tn T s → ∀ M', YM T g b c0 M' (nx T s) (cs ++ [tn T s]) fs o op → oZ b c0 M M' → R 1 M') (hK : kwc T g s ≠ 0 → ∀ M', YM T g b c0 M' (nx T s) (cs ++ [kwc T g s]) fs o op → oZ b c0 M M' → R 1 M') (hX : tn T s < 0 → kwc T g s = 0 → ∀ M', oZ b c0 M M' → FY M' (1, wr T s) → R 1 M') : m_X12_operand_J171 R M := by
  have e4 : M 199 4 = (s : Nat) := h.1.2.2.1
  have e35 : M 199 35 = (if g = true then 1 else 0) := h.2.2.2.1
  have e3 : M 199 3 = so T s := h.1.2.2.2.1
  have sr := so_rng T s
  have add : ∀ c v, crP c v (M 199 6) → s < T.length → (∀ M', YM T g b c0 M' (nx T s) (cs ++ [c]) fs o op → oZ b c0 M M' → R 1 M') → m_X12_operand_J455 R v M := fun c v hcr hs hR => by
    unfold m_X12_operand_J455
    rw [h.2.1]
    refine ⟨by decide, fun _ => y_add hb h (hcl hs) hcr fun M2 y2 z2 _ _ _ => y_ahead hT y2.1 hbd fun M3 o3 l3 => hR M3 (y2.ahead o3 l3) (z2.tr (o3.z (l3.i12 hT))), fun z => absurd (by decide) z⟩
  have no : tn T s < 0 → kwc T g s = 0 → m_X12_operand_J441 R (-1) M := fun q1 q2 => by
    unfold m_X12_operand_J441 m_X12_operand_J455
    rw [e4]
    refine ⟨by decide, fun _ => y_blame h.2.1 fun M1 o1 f1 => ?_, fun z => absurd rfl z⟩
    rw [show M1 199 8 = 1 from f1.1]
    rw [wr_ok hbd] at hX
    exact ⟨by decide, fun z => absurd z (by decide), fun _ => hX q1 q2 M1 (o1.z f1.n) f1⟩
  have kw : ∀ v, 1 ≤ v → v ≤ 7 → kwc T g s = -v → so T s = 1 → m_X12_operand_J441 R v M := fun v v1 v7 hv hs => by
    unfold m_X12_operand_J441
    have := so_0 (T := T) (s := s)
    exact ⟨by omega, fun z => by omega, fun _ => add (kwc T g s) v (Or.inr (Or.inl ⟨by omega, by omega, by omega⟩)) (by omega) (hK (by omega))⟩
  unfold mmc at hm
  unfold m_X12_operand_J171 m_X12_operand_J426
  refine y_sg hT h.1 hbd (by decide) (fun _ => y_ww 22 (by decide) rfl h.1 hbd (fun q1 => y_ww 23 (by decide) rfl h.1 hbd (fun q2 => y_ww 17 (by decide) rfl h.1 hbd (fun q3 => ?_) (fun z => absurd z hi)) (fun z => by omega)) (fun z => by omega)) (fun z => absurd z hts)
  rw [e3]
  refine ⟨by omega, fun q => ?_, fun q => ?_⟩
  · have et : tn T s = nv (dg T s) := by unfold tn; rw [if_pos ⟨hbd, q⟩]
    have v := dg_v T s
    have v6 : M 199 6 = nv (dg T s) := h.1.2.2.2.2.2.2.2.1 q
    have := so_0 (T := T) (s := s)
    refine ⟨by decide, fun _ => ?_, fun z => absurd (by decide) z⟩
    unfold m_X12_operand_J441
    exact ⟨by decide, fun z => absurd z (by decide), fun _ => add (tn T s) 0 (Or.inl ⟨by omega, Or.inl ⟨rfl, by omega⟩⟩) (by omega) (hN (by omega))⟩
  · have et : tn T s = -1 := by unfold tn; rw [if_neg (fun z => q z.2)]
    have s1 : ∀ k : Nat, tw T s = (k : Nat) → so T s = 1 := fun k hk => (tw_b (T := T) (s := s) (by omega)).2.1
    refine y_ww 5 (by decide) rfl h.1 hbd (fun a1 => y_ww 11 (by decide) rfl h.1 hbd (fun a2 => y_ww 12 (by decide) rfl h.1 hbd (fun a3 => y_ww 13 (by decide) rfl h.1 hbd (fun a4 => y_ww 14 (by decide) rfl h.1 hbd (fun a5 => y_ww 15 (by decide) rfl h.1 hbd (fun a6 => y_ww 16 (by decide) rfl h.1 hbd (fun a7 => ?_) (fun a7 => ?_)) (fun a6 => ?_)) (fun a5 => ?_)) (fun a4 => ?_)) (fun a3 => ?_)) (fun a2 => ?_)) (fun a1 => ?_)
    · refine ⟨by decide, fun _ => no (by omega) ?_, fun z => absurd (by decide) z⟩
      unfold kwc
      rw [if_neg (by omega), if_neg (by omega), if_neg (by omega), if_neg (by omega), if_neg (by omega), if_neg (fun z => a6 z.1), if_neg (fun z => a7 z.1)]
    · rw [e35]
      refine ⟨by decide, fun z => absurd z (by decide), fun _ => ?_⟩
      cases g with
      | false => exact ⟨by decide, fun _ => no (by omega) (by simp [kwc, a7]), fun z => absurd rfl z⟩
      | true => exact ⟨by decide, fun z => absurd z (by decide), fun _ => kw 7 (by decide) (by decide) (by simp [kwc, a7]) (s1 _ a7)⟩
    · rw [e35]
      refine ⟨by decide, fun z => absurd z (by decide), fun _ => ?_⟩
      cases g with
      | false => exact ⟨by decide, fun _ => no (by omega) (by simp [kwc, a6]), fun z => absurd rfl z⟩
      | true => exact ⟨by decide, fun z => absurd z (by decide), fun _ => kw 6 (by decide) (by decide) (by simp [kwc, a6]) (s1 _ a6)⟩
    · exact ⟨by decide, fun _ => kw 5 (by decide) (by decide) (by simp [kwc, a5]) (s1 _ a5), fun z => absurd (by decide) z⟩
    · exact ⟨by decide, fun _ => kw 4 (by decide) (by decide) (by simp [kwc, a4]) (s1 _ a4), fun z => absurd (by decide) z⟩
    · exact ⟨by decide, fun _ => kw 3 (by decide) (by decide) (by simp [kwc, a3]) (s1 _ a3), fun z => absurd (by decide) z⟩
    · exact ⟨by decide, fun _ => kw 2 (by decide) (by decide) (by simp [kwc, a2]) (s1 _ a2), fun z => absurd (by decide) z⟩
    · exact ⟨by decide, fun _ => kw 1 (by decide) (by decide) (by simp [kwc, a1]) (s1 _ a1), fun z => absurd (by decide) z⟩
theorem y_oP (hT : TB T) (h : YM T g b c0 M s cs fs o op) (hts : ts T s = 40) (ho : o ≤ 7) (hf : fs.length < 20) (h7 : 7 ≤ o → ∀ M', oZ b c0 M M' → FY M' (5, (s : Nat)) → R 0 M') (hQ : o < 7 → ∀ M' x, YM T g b c0 M' (nx T s) cs ((2, 0, 1, x, []) :: fs) (o + 1) op → oZ b c0 M M' → R 0 M') : m_X12_operand_J171 R M := by
  have tb := ts_b (T := T) (s := s) (by omega)
  unfold m_X12_operand_J171
  exact y_sg hT h.1 tb.1 (by decide) (fun z => absurd hts z) (fun _ => y_opens hT h tb.1 ho hf h7 hQ)
end
