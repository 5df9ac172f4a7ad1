/-! formulas: the class's value, the model's reckons -/
theorem xor_sign {a b : Int} (ha : inL a) (hb : inL b) : inL (wxor a b) ∧ (0 ≤ wxor a b ↔ (a < 0 ↔ b < 0)) := by
  have r : inL (wxor a b) := by
    have h1 := (iL a ^^^ iL b).le_toInt
    have h2 := (iL a ^^^ iL b).toInt_lt
    exact ⟨h1, h2⟩
  refine ⟨r, ?_⟩
  have e : (iL a ^^^ iL b).toBitVec.msb = ((iL a).toBitVec.msb ^^ (iL b).toBitVec.msb) := by
    rw [Int64.toBitVec_xor, BitVec.msb_xor]
  rw [BitVec.msb_eq_toInt, BitVec.msb_eq_toInt, BitVec.msb_eq_toInt] at e
  have ea : (iL a).toBitVec.toInt = a := iL_toInt ha
  have eb : (iL b).toBitVec.toInt = b := iL_toInt hb
  have ex : (iL a ^^^ iL b).toBitVec.toInt = wxor a b := rfl
  rw [ea, eb, ex] at e
  by_cases c1 : a < 0 <;> by_cases c2 : b < 0 <;> simp [c1, c2] at e ⊢ <;> omega
theorem tdiv_b {a b : Int} (ha : -1000000 ≤ a ∧ a ≤ 1000000) : -1000000 ≤ a.tdiv b ∧ a.tdiv b ≤ 1000000 := by
  have := Int.natAbs_tdiv_le_natAbs a b
  omega
theorem fdiv_b {a b : Int} (ha : -1000000 ≤ a ∧ a ≤ 1000000) : -1000000 ≤ a.fdiv b ∧ a.fdiv b ≤ 1000000 := by
  have := Int.natAbs_fdiv_le_natAbs a b
  omega
theorem tmod_b {a b : Int} (ha : -1000000 ≤ a ∧ a ≤ 1000000) : -1000000 ≤ a.tmod b ∧ a.tmod b ≤ 1000000 := by
  have h := Int.natAbs_tmod a b
  have := Nat.mod_le a.natAbs b.natAbs
  omega
theorem fd1 {a b : Int} (h0 : ¬ b = 0) (h : a < 0 ↔ b < 0) : a.fdiv b = a.tdiv b ∧ a.fmod b = a.tmod b := by
  have e : a.fdiv b = a.tdiv b := by
    rw [Int.fdiv_eq_tdiv]
    by_cases d : b ∣ a
    · simp [d]
    · simp only [d, if_false]
      by_cases c : 0 ≤ a
      · rw [if_pos c, if_pos (by omega)]; omega
      · rw [if_neg c, if_neg (by omega), Int.sign_eq_neg_one_of_neg (by omega)]; omega
  refine ⟨e, ?_⟩
  have h1 := Int.mul_fdiv_add_fmod a b
  have h2 := Int.tdiv_mul_add_tmod a b
  rw [e, Int.mul_comm] at h1
  omega
theorem fd2 {a b : Int} (h0 : ¬ b = 0) (h : ¬ (a < 0 ↔ b < 0)) (hm : ¬ a.tmod b = 0) : a.fdiv b = a.tdiv b - 1 ∧ a.fmod b = a.tmod b + b := by
  have e : a.fdiv b = a.tdiv b - 1 := by
    rw [Int.fdiv_eq_tdiv, if_neg (fun d => hm (Int.dvd_iff_tmod_eq_zero.mp d))]
    by_cases c : 0 ≤ a
    · rw [if_pos c, if_neg (by omega)]
    · rw [if_neg c, if_pos (by omega), Int.sign_eq_one_of_pos (by omega)]
  refine ⟨e, ?_⟩
  have h1 := Int.mul_fdiv_add_fmod a b
  have h2 := Int.tdiv_mul_add_tmod a b
  rw [e, Int.mul_sub, Int.mul_comm] at h1
  omega
theorem fd3 {a b : Int} (hm : a.tmod b = 0) : a.fdiv b = a.tdiv b ∧ a.fmod b = a.tmod b := by
  have d : b ∣ a := Int.dvd_iff_tmod_eq_zero.mpr hm
  have e : a.fdiv b = a.tdiv b := by
    rw [Int.fdiv_eq_tdiv, if_pos d]
    omega
  refine ⟨e, ?_⟩
  have h1 := Int.mul_fdiv_add_fmod a b
  have h2 := Int.tdiv_mul_add_tmod a b
  rw [e, Int.mul_comm] at h1
  omega
theorem j_floorDiv {a b : Int} {M : Mem} {Q : Int → Mem → Prop} (ha : -1000000 ≤ a ∧ a ≤ 1000000) (hb : -1000000 ≤ b ∧ b ≤ 1000000) (h0 : ¬ b = 0) (h : Q (a.fdiv b) M) : m_J9_floorDiv_f86c9 a b M Q := by
  have xs := xor_sign (a := a) (b := b) (by omega) (by omega)
  have tt := Int.tdiv_mul_add_tmod a b
  have tb := tmod_b (b := b) ha
  unfold m_J9_floorDiv_f86c9 m_J9_floorDiv_f86c9_J27
  refine ⟨by omega, by omega, h0, xs.1, fun q => ?_, fun q => ⟨by omega, by omega, fun q2 => ?_, fun q2 => ?_⟩⟩
  · rwa [← (fd1 h0 (xs.2.mp q)).1]
  · rwa [← (fd3 (by omega)).1]
  · rwa [← (fd2 h0 (fun z => q (xs.2.mpr z)) (by omega)).1]
theorem j_floorMod {a b : Int} {M : Mem} {Q : Int → Mem → Prop} (ha : -1000000 ≤ a ∧ a ≤ 1000000) (hb : -1000000 ≤ b ∧ b ≤ 1000000) (h0 : ¬ b = 0) (h : Q (a.fmod b) M) : m_J9_floorMod_f86c9 a b M Q := by
  have xs := xor_sign (a := a) (b := b) (by omega) (by omega)
  have tb := tmod_b (b := b) ha
  unfold m_J9_floorMod_f86c9 m_J9_floorMod_f86c9_J25
  refine ⟨by omega, by omega, h0, xs.1, fun q => ?_, fun q => ⟨by omega, fun q2 => ?_, fun q2 => ?_⟩⟩
  · rwa [← (fd1 h0 (xs.2.mp q)).2]
  · rwa [← (fd3 q2).2]
  · rwa [← (fd2 h0 (fun z => q (xs.2.mpr z)) q2).2]
theorem fmod_b {a b : Int} (ha : -1000000 ≤ a ∧ a ≤ 1000000) (hb : -1000000 ≤ b ∧ b ≤ 1000000) : -1000000 ≤ a.fmod b ∧ a.fmod b ≤ 1000000 := by
  by_cases h0 : b = 0
  · subst h0; simpa using ha
  · have tb := tmod_b (b := b) ha
    have h := Int.natAbs_tmod a b
    have hl := Nat.mod_lt a.natAbs (show 0 < b.natAbs by omega)
    by_cases s : (a < 0 ↔ b < 0)
    · rw [(fd1 h0 s).2]; exact tb
    · by_cases m0 : a.tmod b = 0
      · rw [(fd3 m0).2]; exact tb
      · rw [(fd2 h0 s m0).2]
        have sg : (0 ≤ a → 0 ≤ a.tmod b) ∧ (a ≤ 0 → a.tmod b ≤ 0) := ⟨fun q => Int.tmod_nonneg b q, fun q => by
          have := Int.tmod_nonneg b (show 0 ≤ -a by omega)
          rw [Int.neg_tmod] at this
          omega⟩
        omega
theorem j_maxl {a b : Int} {M : Mem} {Q : Int → Mem → Prop} (ha : inL a) (hb : inL b) (h : Q (if a < b then b else a) M) : m_J9_max_f86c9 a b M Q := by
  unfold m_J9_max_f86c9 m_J9_max_f86c9_J11
  exact ⟨ha, hb, fun q => by rwa [if_pos q] at h, fun q => by rwa [if_neg q] at h⟩
theorem j_minl {a b : Int} {M : Mem} {Q : Int → Mem → Prop} (ha : inL a) (hb : inL b) (h : Q (if b < a then b else a) M) : m_J9_min_f86c9 a b M Q := by
  unfold m_J9_min_f86c9 m_J9_min_f86c9_J11
  exact ⟨ha, hb, fun q => by rwa [if_pos q] at h, fun q => by rwa [if_neg q] at h⟩
abbrev bnd (a : Int) : Prop := -1000000 ≤ a ∧ a ≤ 1000000
theorem mul_b {a b : Int} (ha : bnd a) (hb : bnd b) : -1000000000000 ≤ a * b ∧ a * b ≤ 1000000000000 := by
  have h : (a * b).natAbs ≤ 1000000 * 1000000 := by
    rw [Int.natAbs_mul]
    exact Nat.mul_le_mul (by omega) (by omega)
  omega
theorem wand_L (a b : Int) : inL (wand a b) := ⟨(iL a &&& iL b).le_toInt, (iL a &&& iL b).toInt_lt⟩
theorem wor_L (a b : Int) : inL (wor a b) := ⟨(iL a ||| iL b).le_toInt, (iL a ||| iL b).toInt_lt⟩
theorem x_joined {c a b : Int} {M : Mem} {Q : Int → Mem → Prop} (hc : -19 ≤ c ∧ c ≤ -8) (ha : bnd a) (hb : bnd b) (h : inL (jnP c a b) → Q (jnP c a b) M) : m_X1_joined c a b M Q := by
  have mb := mul_b ha hb
  have fb := fdiv_b (b := b) ha
  have fm := fmod_b ha hb
  have wa := wand_L a b
  have wo := wor_L a b
  have h := h (by unfold jnP; repeat' split
                  all_goals omega)
  unfold m_X1_joined m_X1_joined_J155 m_X1_joined_J143 m_X1_joined_J131 m_X1_joined_J107 m_X1_joined_J91
  refine ⟨by omega, ?_, ?_, ?_, ?_, ?_, ?_, ?_, ?_, ?_, ?_, ?_, ?_, fun q => by omega⟩
  all_goals intro q; subst q; simp only [jnP] at h; simp only [Int.reduceNeg, Int.reduceEq, if_false, if_true] at h
  · exact h
  · exact h
  · exact ⟨by omega, by omega, fun q => by rwa [if_pos q] at h, fun q => by rwa [if_neg q] at h⟩
  · exact ⟨by omega, by omega, fun q => by rwa [if_neg (by omega)] at h, fun q => by rwa [if_pos (by omega)] at h⟩
  · exact ⟨by omega, by omega, fun q => by rwa [if_neg (by omega)] at h, fun q => by rwa [if_pos (by omega)] at h⟩
  · refine j_maxl (by omega) (by omega) ?_
    by_cases q : b ≤ a
    · rw [if_pos q] at h; rwa [if_neg (by omega)]
    · rw [if_neg q] at h; rwa [if_pos (by omega)]
  · refine j_minl (by omega) (by omega) ?_
    by_cases q : a ≤ b
    · rw [if_pos q] at h; rwa [if_neg (by omega)]
    · rw [if_neg q] at h; rwa [if_pos (by omega)]
  · refine ⟨by omega, fun q => by rwa [if_pos q] at h, fun q => ?_⟩
    rw [if_neg q] at h
    exact j_floorMod ha hb q h
  · refine ⟨by omega, fun q => by rwa [if_pos q] at h, fun q => ?_⟩
    rw [if_neg q] at h
    exact j_floorDiv ha hb q h
  · exact h
  · exact h
  · exact h
