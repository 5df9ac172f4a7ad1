/-! the model reads tokens -/
def oY (M M' : Mem) : Prop := (∀ a, a ≠ 199 → M' a = M a) ∧ ∀ k, k ≠ 3 → k ≠ 4 → k ≠ 5 → k ≠ 6 → k ≠ 7 → k ≠ 12 → M' 199 k = M 199 k
theorem oY.rf {M : Mem} : oY M M := ⟨fun _ _ => rfl, fun _ _ _ _ _ _ _ => rfl⟩
theorem oY.tr {M M1 M2 : Mem} (h : oY M M1) (k : oY M1 M2) : oY M M2 := ⟨fun a p => by rw [k.1 a p, h.1 a p], fun j a b c d e f => by rw [k.2 j a b c d e f, h.2 j a b c d e f]⟩
theorem oY.up {M M1 : Mem} {k v : Int} (e : M1 = up M 199 k v) (h : k = 3 ∨ k = 4 ∨ k = 5 ∨ k = 6 ∨ k = 7 ∨ k = 12) : oY M M1 := by
  subst e
  refine ⟨fun a p => up_ne _ p, fun j _ _ _ _ _ _ => ?_⟩
  rw [up_get, if_neg (by omega)]
def LYR (M : Mem) (T : List Int) : Prop := M 199 2 = (T.length : Nat) ∧ rw1 M 200 T
theorem LYR.oY {M M' : Mem} {T : List Int} (h : LYR M T) (e : oY M M') : LYR M' T := by
  refine ⟨by rw [e.2 2 (by decide) (by decide) (by decide) (by decide) (by decide) (by decide), h.1], ?_⟩
  have := h.2
  unfold rw1 at *
  rw [e.1 200 (by decide)]
  exact this
/-- the model's token at s -/
def LY (M : Mem) (T : List Int) (s : Nat) : Prop := LYR M T ∧ s ≤ T.length ∧ M 199 4 = (s : Nat) ∧ M 199 3 = so T s ∧ M 199 12 = bd T s ∧ (bd T s = -1 → M 199 5 = (en T s : Nat)) ∧ (so T s = 1 → M 199 7 = pkY (nm T s)) ∧ (so T s = 2 → M 199 6 = nv (dg T s)) ∧ (so T s = 3 → M 199 6 = tc T s) ∧ (so T s = 1 → M 199 6 = 0)
section
variable {M : Mem} {T : List Int}
theorem y_isLetter {a : Int} {Q : Int → Mem → Prop} (ha : inI a) (h : Q (if isL a then 1 else 0) M) : m_X12_isLetter a M Q := by
  unfold m_X12_isLetter m_X12_isLetter_J16 m_X12_isLetter_J17
  refine ⟨ha, fun q => ⟨by decide, ?_⟩, fun q => ⟨ha, fun q2 => ⟨by decide, ?_⟩, fun q2 => ⟨by decide, ?_⟩⟩⟩
  · rwa [if_neg (by omega)] at h
  · rwa [if_neg (by omega)] at h
  · rwa [if_pos (by omega)] at h
theorem y_isDigit {a : Int} {Q : Int → Mem → Prop} (ha : inI a) (h : Q (if isD a then 1 else 0) M) : m_X12_isDigit a M Q := by
  unfold m_X12_isDigit m_X12_isDigit_J16 m_X12_isDigit_J17
  refine ⟨ha, fun q => ⟨by decide, ?_⟩, fun q => ⟨ha, fun q2 => ⟨by decide, ?_⟩, fun q2 => ⟨by decide, ?_⟩⟩⟩
  · rwa [if_neg (by omega)] at h
  · rwa [if_neg (by omega)] at h
  · rwa [if_pos (by omega)] at h
theorem wpk {v r : Int} (hv : 0 ≤ v ∧ v < 1099511627776) (hr : 0 ≤ r ∧ r < 256) : wor (wshl v 8) r = 256 * v + r := by
  have e := w_shl (a := v.toNat) (k := 8) (by decide) (by omega)
  rw [toNat_i hv.1, show ((8 : Nat) : Int) = 8 from rfl] at e
  rw [e]
  have e2 := w_or (a := v.toNat * 2 ^ 8) (b := r.toNat) (by omega) (by omega)
  rw [toNat_i hr.1] at e2
  rw [e2, Nat.mul_comm, ← Nat.two_pow_add_eq_or_of_lt (i := 8) (by omega)]
  omega
theorem y_word_l {Q : Mem → Prop} {s : Nat} (hT : TB T) (hs : isLt T s) (h : ∀ M', oY M M' → LY M' T s → Q M') :
    ∀ (d i : Nat) (M1 : Mem), s + i + d = T.length → (∀ j, j < i → isLt T (s + j)) → LYR M T → oY M M1 → M1 199 4 = (s : Nat) → M1 199 3 = 1 → M1 199 6 = 0 → M1 199 7 = pkY ((nm T s).take i) → M1 199 12 = (if adj T s then (s : Int) else if 6 < i then (s : Int) + 6 else -1) → m_X12_ahead_L204 Q 1 0 6 (d + 1) (s + i : Nat) (i : Nat) M1 := by
  have tl := hT.1
  have s1 := so_1.mpr hs
  have ok := nm_ok s1
  have fin : ∀ (i : Nat) (M1 : Mem), s + i ≤ T.length → (∀ j, j < i → isLt T (s + j)) → ¬ isLt T (s + i) → LYR M T → oY M M1 → M1 199 4 = (s : Nat) → M1 199 3 = 1 → M1 199 6 = 0 → M1 199 7 = pkY ((nm T s).take i) → M1 199 12 = (if adj T s then (s : Int) else if 6 < i then (s : Int) + 6 else -1) → m_X12_ahead_J334 Q (s + i : Nat) M1 := by
    intro i M1 hi ha hn hr o h4 h3 h6 h7 h12 M2 e2
    have o2 : oY M1 M2 := oY.up e2 (by omega)
    have ll : (nm T s).length = if i < 6 then i else 6 := ltr_len ha (fun _ => hn)
    have b : bd T s = if adj T s then (s : Int) else if 6 < i then (s : Int) + 6 else -1 := by
      unfold bd
      rw [if_pos s1]
      by_cases c : adj T s
      · rw [if_pos c, if_pos c]
      · rw [if_neg c, if_neg c]
        by_cases c6 : 6 < i
        · rw [if_pos c6, if_pos ⟨by rw [ll, if_neg (by omega)], ha 6 c6⟩]
        · rw [if_neg c6, if_neg]
          intro z
          by_cases c5 : i = 6
          · subst c5
            exact hn z.2
          · rw [ll, if_pos (by omega)] at z
            omega
    refine h M2 (o.tr o2) ⟨(hr.oY o).oY o2, by omega, ?_, ?_, ?_, fun z => ?_, fun _ => ?_, fun z => by omega, fun z => by omega, fun _ => by rw [e2, up_get, if_neg (by decide), h6]⟩
    · rw [e2, up_get, if_neg (by decide), h4]
    · rw [e2, up_get, if_neg (by decide), h3, s1]
    · rw [e2, up_get, if_neg (by decide), h12, b]
    · rw [e2, up_get, if_pos ⟨rfl, rfl⟩]
      unfold en
      rw [if_pos s1, ll]
      rw [b] at z
      have : ¬ 6 < i := fun c => by
        split at z <;> first | omega | (split at z <;> omega)
      split <;> omega
    · rw [e2, up_get, if_neg (by decide), h7, List.take_of_length_le (by rw [ll]; split <;> omega)]
  intro d
  induction d with
  | zero =>
    intro i M1 hi ha hr o h4 h3 h6 h7 h12
    unfold m_X12_ahead_L204
    have hr1 := hr.oY o
    rw [hr1.1]
    exact ⟨by omega, by omega, fun _ => fin i M1 (by omega) ha (fun z => by omega) hr o h4 h3 h6 h7 h12, fun q => by omega⟩
  | succ d ih =>
    intro i M1 hi ha hr o h4 h3 h6 h7 h12
    unfold m_X12_ahead_L204
    have hr1 := hr.oY o
    have e : M1 200 (s + i : Nat) = tc T (s + i) := hr1.2 (s + i) (by omega)
    have r := tc_rng hT (s + i)
    rw [hr1.1, e]
    refine ⟨by omega, by omega, fun q => by omega, fun _ => ⟨by decide, fun z => absurd z (by decide), fun _ => ⟨by omega, y_isLetter (by omega) ?_⟩⟩⟩
    by_cases c : isL (tc T (s + i))
    · rw [if_pos c]
      refine ⟨by decide, fun z => absurd z (by decide), fun _ => ?_⟩
      have ha' : ∀ j, j < i + 1 → isLt T (s + j) := fun j hj => by
        by_cases cj : j = i
        · subst cj
          exact ⟨by omega, c⟩
        · exact ha j (by omega)
      have nxt : ∀ M2 : Mem, oY M M2 → M2 199 4 = (s : Nat) → M2 199 3 = 1 → M2 199 6 = 0 → M2 199 7 = pkY ((nm T s).take (i + 1)) → M2 199 12 = (if adj T s then (s : Int) else if 6 < i + 1 then (s : Int) + 6 else -1) → m_X12_ahead_L204 Q 1 0 6 (d + 1) ((s + i : Nat) + 1) ((i : Nat) + 1) M2 := fun M2 o2 g4 g3 g6 g7 g12 => by
        rw [cast1, cast1]
        exact ih (i + 1) M2 (by omega) ha' hr o2 g4 g3 g6 g7 g12
      unfold m_X12_ahead_J243
      have rest : ∀ M2 : Mem, oY M M2 → M2 199 4 = (s : Nat) → M2 199 3 = 1 → M2 199 6 = 0 → M2 199 7 = pkY ((nm T s).take i) → M2 199 12 = (if adj T s then (s : Int) else if 6 < i + 1 then (s : Int) + 6 else -1) → m_X12_ahead_J263 (m_X12_ahead_L204 Q 1 0 6 (d + 1)) Q (s + i : Nat) 1 0 6 (i : Nat) M2 := fun M2 o2 g4 g3 g6 g7 g12 => by
        unfold m_X12_ahead_J263 m_X12_ahead_J293 m_X12_ahead_J325
        have hr2 := hr.oY o2
        have e2 : M2 200 (s + i : Nat) = tc T (s + i) := hr2.2 (s + i) (by omega)
        refine ⟨by omega, by decide, fun q => ⟨by omega, by decide, fun _ => ?_, fun z => by omega⟩, fun q => ⟨by decide, fun z => absurd z (by decide), fun _ => ⟨by omega, by rw [e2]; omega, fun M12 e12 => ⟨by omega, by decide, fun z => by omega, fun _ => ⟨by decide, fun _ => ?_, fun z => absurd rfl z⟩⟩⟩⟩⟩
        · refine nxt M2 o2 g4 g3 g6 ?_ g12
          rw [g7, List.take_of_length_le (by have := ok.2.1; omega), List.take_of_length_le (by have := ok.2.1; omega)]
        · have o12 : oY M2 M12 := oY.up e12 (by omega)
          have il : i < (nm T s).length := by
            refine Decidable.byContradiction fun z => ?_
            have := ltr_end (T := T) 6 s (by unfold nm at *; omega)
            exact this (ha' _ (by unfold nm at *; omega))
          have pr := pkY_rng ok.2.2 i (by omega)
          have p5 : 256 ^ i ≤ 256 ^ 5 := Nat.pow_le_pow_right (by decide) (by omega)
          have gg := (ltr_get (T := T) 6 s i il).2
          refine nxt M12 (o2.tr o12) ?_ ?_ ?_ ?_ ?_
          · rw [e12, up_get, if_neg (by decide), g4]
          · rw [e12, up_get, if_neg (by decide), g3]
          · rw [e12, up_get, if_neg (by decide), g6]
          · rw [e12, up_get, if_pos ⟨rfl, rfl⟩, e2, g7, wpk (by omega) (by omega), pkY_step il]
            unfold nm
            rw [gg]
            omega
          · rw [e12, up_get, if_neg (by decide), g12]
      refine ⟨by omega, by decide, fun q => ⟨?_, fun q2 M16 e16 => ?_, fun q2 => rest M1 o h4 h3 h6 h7 ?_⟩, fun q => rest M1 o h4 h3 h6 h7 ?_⟩
      · rw [h12]
        split
        · omega
        · split <;> omega
      · have o16 : oY M1 M16 := oY.up e16 (by omega)
        refine rest M16 (o.tr o16) ?_ ?_ ?_ ?_ ?_
        · rw [e16, up_get, if_neg (by decide), h4]
        · rw [e16, up_get, if_neg (by decide), h3]
        · rw [e16, up_get, if_neg (by decide), h6]
        · rw [e16, up_get, if_neg (by decide), h7]
        · rw [e16, up_get, if_pos ⟨rfl, rfl⟩]
          rw [h12] at q2
          by_cases ca : adj T s
          · rw [if_pos ca] at q2
            omega
          · rw [if_neg ca, if_pos (by omega)]
            omega
      · rw [h12] at q2 ⊢
        by_cases ca : adj T s
        · rw [if_pos ca, if_pos ca]
        · rw [if_neg ca] at q2
          rw [if_neg (by omega)] at q2
          omega
      · rw [h12]
        by_cases ca : adj T s
        · rw [if_pos ca, if_pos ca]
        · rw [if_neg ca, if_neg ca]
          split <;> split <;> omega
    · rw [if_neg c]
      exact ⟨by decide, fun _ => fin i M1 (by omega) ha (fun z => c z.2) hr o h4 h3 h6 h7 h12, fun z => absurd rfl z⟩
theorem y_num_l {Q : Mem → Prop} {s : Nat} (hT : TB T) (hs : isDt T s) (h : ∀ M', oY M M' → LY M' T s → Q M') :
    ∀ (d i : Nat) (M1 : Mem), s + i + d = T.length → (∀ j, j < i → isDt T (s + j)) → LYR M T → oY M M1 → M1 199 4 = (s : Nat) → M1 199 3 = 2 → M1 199 6 = nv ((dg T s).take i) → M1 199 12 = (if adj T s then (s : Int) else if 4 < i then (s : Int) + 4 else -1) → m_X12_ahead_L204 Q 0 1 4 (d + 1) (s + i : Nat) (i : Nat) M1 := by
  have tl := hT.1
  have s2 := so_2.mpr hs
  have d4 : (dg T s).length ≤ 4 := dgt_len_le 4 s
  have fin : ∀ (i : Nat) (M1 : Mem), s + i ≤ T.length → (∀ j, j < i → isDt T (s + j)) → ¬ isDt T (s + i) → LYR M T → oY M M1 → M1 199 4 = (s : Nat) → M1 199 3 = 2 → M1 199 6 = nv ((dg T s).take i) → M1 199 12 = (if adj T s then (s : Int) else if 4 < i then (s : Int) + 4 else -1) → m_X12_ahead_J334 Q (s + i : Nat) M1 := by
    intro i M1 hi ha hn hr o h4 h3 h7 h12 M2 e2
    have o2 : oY M1 M2 := oY.up e2 (by omega)
    have ll : (dg T s).length = if i < 4 then i else 4 := dgt_len ha (fun _ => hn)
    have b : bd T s = if adj T s then (s : Int) else if 4 < i then (s : Int) + 4 else -1 := by
      unfold bd
      rw [if_neg (by omega), if_pos s2]
      by_cases c : adj T s
      · rw [if_pos c, if_pos c]
      · rw [if_neg c, if_neg c]
        by_cases c6 : 4 < i
        · rw [if_pos c6, if_pos ⟨by rw [ll, if_neg (by omega)], ha 4 c6⟩]
        · rw [if_neg c6, if_neg]
          intro z
          by_cases c5 : i = 4
          · subst c5
            exact hn z.2
          · rw [ll, if_pos (by omega)] at z
            omega
    refine h M2 (o.tr o2) ⟨(hr.oY o).oY o2, by omega, ?_, ?_, ?_, fun z => ?_, fun z => by omega, fun _ => ?_, fun z => by omega, fun z => by omega⟩
    · rw [e2, up_get, if_neg (by decide), h4]
    · rw [e2, up_get, if_neg (by decide), h3, s2]
    · rw [e2, up_get, if_neg (by decide), h12, b]
    · rw [e2, up_get, if_pos ⟨rfl, rfl⟩]
      unfold en
      rw [if_neg (by omega), if_pos s2, ll]
      rw [b] at z
      have : ¬ 4 < i := fun c => by
        split at z <;> first | omega | (split at z <;> omega)
      split <;> omega
    · rw [e2, up_get, if_neg (by decide), h7, List.take_of_length_le (by rw [ll]; split <;> omega)]
  intro d
  induction d with
  | zero =>
    intro i M1 hi ha hr o h4 h3 h7 h12
    unfold m_X12_ahead_L204
    have hr1 := hr.oY o
    rw [hr1.1]
    exact ⟨by omega, by omega, fun _ => fin i M1 (by omega) ha (fun z => by omega) hr o h4 h3 h7 h12, fun q => by omega⟩
  | succ d ih =>
    intro i M1 hi ha hr o h4 h3 h7 h12
    unfold m_X12_ahead_L204
    have hr1 := hr.oY o
    have e : M1 200 (s + i : Nat) = tc T (s + i) := hr1.2 (s + i) (by omega)
    have r := tc_rng hT (s + i)
    rw [hr1.1, e]
    refine ⟨by omega, by omega, fun q => by omega, fun _ => ⟨by decide, fun _ => ⟨by omega, y_isDigit (by omega) ?_⟩, fun z => absurd rfl z⟩⟩
    by_cases c : isD (tc T (s + i))
    · rw [if_pos c]
      refine ⟨by decide, fun z => absurd z (by decide), fun _ => ?_⟩
      have ha' : ∀ j, j < i + 1 → isDt T (s + j) := fun j hj => by
        by_cases cj : j = i
        · subst cj
          exact ⟨by omega, c⟩
        · exact ha j (by omega)
      have nxt : ∀ M2 : Mem, oY M M2 → M2 199 4 = (s : Nat) → M2 199 3 = 2 → M2 199 6 = nv ((dg T s).take (i + 1)) → M2 199 12 = (if adj T s then (s : Int) else if 4 < i + 1 then (s : Int) + 4 else -1) → m_X12_ahead_L204 Q 0 1 4 (d + 1) ((s + i : Nat) + 1) ((i : Nat) + 1) M2 := fun M2 o2 g4 g3 g7 g12 => by
        rw [cast1, cast1]
        exact ih (i + 1) M2 (by omega) ha' hr o2 g4 g3 g7 g12
      unfold m_X12_ahead_J243
      have rest : ∀ M2 : Mem, oY M M2 → M2 199 4 = (s : Nat) → M2 199 3 = 2 → M2 199 6 = nv ((dg T s).take i) → M2 199 12 = (if adj T s then (s : Int) else if 4 < i + 1 then (s : Int) + 4 else -1) → m_X12_ahead_J263 (m_X12_ahead_L204 Q 0 1 4 (d + 1)) Q (s + i : Nat) 0 1 4 (i : Nat) M2 := fun M2 o2 g4 g3 g7 g12 => by
        unfold m_X12_ahead_J263 m_X12_ahead_J293 m_X12_ahead_J325
        have hr2 := hr.oY o2
        have e2 : M2 200 (s + i : Nat) = tc T (s + i) := hr2.2 (s + i) (by omega)
        refine ⟨by omega, by decide, fun q => ⟨by omega, by decide, fun _ => ?_, fun z => by omega⟩, fun q => ⟨by decide, fun _ => ⟨by omega, by decide, fun z => by omega, fun _ => ⟨by decide, fun z => absurd z (by decide), fun _ => ⟨by omega, fun M6 e6 => ?_⟩⟩⟩, fun z => absurd rfl z⟩⟩
        · refine nxt M2 o2 g4 g3 ?_ g12
          rw [g7, List.take_of_length_le (by omega), List.take_of_length_le (by omega)]
        · have o12 : oY M2 M6 := oY.up e6 (by omega)
          have il : i < (dg T s).length := by
            refine Decidable.byContradiction fun z => ?_
            have := dgt_end (T := T) 4 s (by unfold dg at *; omega)
            exact this (ha' _ (by unfold dg at *; omega))
          have gg := (dgt_get (T := T) 4 s i il).2
          refine nxt M6 (o2.tr o12) ?_ ?_ ?_ ?_
          · rw [e6, up_get, if_neg (by decide), g4]
          · rw [e6, up_get, if_neg (by decide), g3]
          · rw [e6, up_get, if_pos ⟨rfl, rfl⟩, e2, g7, nv_step il]
            unfold dg
            rw [gg]
            omega
          · rw [e6, up_get, if_neg (by decide), g12]
      refine ⟨by omega, by decide, fun q => ⟨?_, fun q2 M16 e16 => ?_, fun q2 => rest M1 o h4 h3 h7 ?_⟩, fun q => rest M1 o h4 h3 h7 ?_⟩
      · rw [h12]
        split
        · omega
        · split <;> omega
      · have o16 : oY M1 M16 := oY.up e16 (by omega)
        refine rest M16 (o.tr o16) ?_ ?_ ?_ ?_
        · rw [e16, up_get, if_neg (by decide), h4]
        · rw [e16, up_get, if_neg (by decide), h3]
        · rw [e16, up_get, if_neg (by decide), h7]
        · rw [e16, up_get, if_pos ⟨rfl, rfl⟩]
          rw [h12] at q2
          by_cases ca : adj T s
          · rw [if_pos ca] at q2
            omega
          · rw [if_neg ca, if_pos (by omega)]
            omega
      · rw [h12] at q2 ⊢
        by_cases ca : adj T s
        · rw [if_pos ca, if_pos ca]
        · rw [if_neg ca] at q2
          rw [if_neg (by omega)] at q2
          omega
      · rw [h12]
        by_cases ca : adj T s
        · rw [if_pos ca, if_pos ca]
        · rw [if_neg ca, if_neg ca]
          split <;> split <;> omega
    · rw [if_neg c]
      exact ⟨by decide, fun _ => fin i M1 (by omega) ha (fun z => c z.2) hr o h4 h3 h7 h12, fun z => absurd rfl z⟩
theorem y_J135 {Q : Mem → Prop} {s : Nat} {v2 v3 : Int} (hT : TB T) (hs : s < T.length) (hr : LYR M T) (h4 : M 199 4 = (s : Nat)) (h12 : M 199 12 = (if (so T s = 1 ∨ so T s = 2) ∧ adj T s then (s : Int) else -1)) (e2 : v2 = if isL (tc T s) then 1 else 0) (e3 : v3 = if isD (tc T s) then 1 else 0) (h : ∀ M', oY M M' → LY M' T s → Q M') : m_X12_ahead_J135 Q (s : Nat) v2 v3 M := by
  have tl := hT.1
  have r := tc_rng hT s
  unfold m_X12_ahead_J135
  intro M31 e31 M32 e32 M33 e33 M34 e34
  have o : oY M M34 := (((oY.up e31 (by omega)).tr (oY.up e32 (by omega))).tr (oY.up e33 (by omega))).tr (oY.up e34 (by omega))
  have hr4 := hr.oY o
  have g4 : M34 199 4 = (s : Nat) := by rw [e34, up_get, if_neg (by decide), e33, up_get, if_neg (by decide), e32, up_get, if_neg (by decide), e31, up_get, if_neg (by decide), h4]
  have g12 : M34 199 12 = (if (so T s = 1 ∨ so T s = 2) ∧ adj T s then (s : Int) else -1) := by rw [e34, up_get, if_neg (by decide), e33, up_get, if_neg (by decide), e32, up_get, if_neg (by decide), e31, up_get, if_neg (by decide), h12]
  have g6 : M34 199 6 = 0 := by rw [e34, up_get, if_neg (by decide), e33, up_get, if_neg (by decide), e32, up_get, if_neg (by decide), e31, up_get, if_pos ⟨rfl, rfl⟩]
  have g7 : M34 199 7 = 0 := by rw [e34, up_get, if_neg (by decide), e33, up_get, if_neg (by decide), e32, up_get, if_pos ⟨rfl, rfl⟩]
  have et : M34 200 (s : Nat) = tc T s := hr4.2 s hs
  by_cases cl : isL (tc T s)
  · have hl : isLt T s := ⟨hs, cl⟩
    have s1 := so_1.mpr hl
    have cd : ¬ isD (tc T s) := by omega
    rw [if_pos cl] at e2
    rw [if_neg cd] at e3
    subst e2 e3
    refine ⟨by decide, fun z => absurd z (by decide), fun _ => ?_⟩
    unfold m_X12_ahead_J176 m_X12_ahead_J186 m_X12_ahead_J199
    refine ⟨by decide, fun z => absurd z (by decide), fun _ M28 e28 => ⟨by decide, fun z => absurd z (by decide), fun _ => ⟨T.length - s + 1, ?_⟩⟩⟩
    have o28 : oY M34 M28 := oY.up e28 (by omega)
    refine y_word_l (M := M34) hT hl (fun M' o' l' => h M' (o.tr o') l') (T.length - s) 0 M28 (by omega) (fun j hj => by omega) hr4 o28 ?_ ?_ ?_ ?_ ?_
    · rw [e28, up_get, if_neg (by decide), g4]
    · rw [e28, up_get, if_pos ⟨rfl, rfl⟩]
    · rw [e28, up_get, if_neg (by decide), g6]
    · rw [e28, up_get, if_neg (by decide), g7]
      rfl
    · rw [e28, up_get, if_neg (by decide), g12, if_neg (show ¬ 6 < 0 by decide)]
      by_cases ca : adj T s
      · rw [if_pos ca, if_pos ⟨Or.inl s1, ca⟩]
      · rw [if_neg ca, if_neg (fun z => ca z.2)]
  · rw [if_neg cl] at e2
    by_cases cd : isD (tc T s)
    · have hd : isDt T s := ⟨hs, cd⟩
      have s2 := so_2.mpr hd
      rw [if_pos cd] at e3
      subst e2 e3
      refine ⟨by decide, fun _ => ⟨by decide, fun z => absurd z (by decide), fun _ => ?_⟩, fun z => absurd rfl z⟩
      unfold m_X12_ahead_J176 m_X12_ahead_J186 m_X12_ahead_J199
      refine ⟨by decide, fun _ M28 e28 => ⟨by decide, fun _ => ⟨T.length - s + 1, ?_⟩, fun z => absurd rfl z⟩, fun z => absurd rfl z⟩
      have o28 : oY M34 M28 := oY.up e28 (by omega)
      refine y_num_l (M := M34) hT hd (fun M' o' l' => h M' (o.tr o') l') (T.length - s) 0 M28 (by omega) (fun j hj => by omega) hr4 o28 ?_ ?_ ?_ ?_
      · rw [e28, up_get, if_neg (by decide), g4]
      · rw [e28, up_get, if_pos ⟨rfl, rfl⟩]
      · rw [e28, up_get, if_neg (by decide), g6]
        rfl
      · rw [e28, up_get, if_neg (by decide), g12, if_neg (show ¬ 4 < 0 by decide)]
        by_cases ca : adj T s
        · rw [if_pos ca, if_pos ⟨Or.inr s2, ca⟩]
        · rw [if_neg ca, if_neg (fun z => ca z.2)]
    · rw [if_neg cd] at e3
      subst e2 e3
      have s3 : so T s = 3 := by
        unfold so
        rw [if_neg (by omega), if_neg cl, if_neg cd]
      refine ⟨by decide, fun _ => ⟨by decide, fun _ => ⟨by omega, fun M38 e38 => ?_⟩, fun z => absurd rfl z⟩, fun z => absurd rfl z⟩
      have o38 : oY M34 M38 := oY.up e38 (by omega)
      have nb : bd T s = -1 := Decidable.byContradiction fun z => by have := bd_so z; omega
      refine h M38 (o.tr o38) ⟨hr4.oY o38, by omega, ?_, ?_, ?_, fun _ => ?_, fun z => by omega, fun z => by omega, fun _ => ?_, fun z => by omega⟩
      · rw [e38, up_get, if_neg (by decide), g4]
      · rw [e38, up_get, if_neg (by decide), e34, up_get, if_neg (by decide), e33, up_get, if_pos ⟨rfl, rfl⟩, s3]
      · rw [e38, up_get, if_neg (by decide), g12, if_neg (fun z => by omega), nb]
      · rw [e38, up_get, if_neg (by decide), e34, up_get, if_pos ⟨rfl, rfl⟩]
        unfold en
        rw [if_neg (by omega), if_neg (by omega), if_pos s3]
        omega
      · rw [e38, up_get, if_pos ⟨rfl, rfl⟩, et]
theorem y_J41 {Q : Mem → Prop} {s : Nat} (hT : TB T) (hs : s ≤ T.length) (hr : LYR M T) (h : ∀ M', oY M M' → LY M' T s → (so T s = 0 → M' 199 6 = M 199 6) → Q M') : m_X12_ahead_J41 Q (s : Nat) M := by
  have tl := hT.1
  unfold m_X12_ahead_J41
  intro M49 e49 M50 e50 M51 e51 M52 e52
  have o : oY M M52 := (((oY.up e49 (by omega)).tr (oY.up e50 (by omega))).tr (oY.up e51 (by omega))).tr (oY.up e52 (by omega))
  have hr4 := hr.oY o
  have g4 : M52 199 4 = (s : Nat) := by rw [e52, up_get, if_neg (by decide), e51, up_get, if_neg (by decide), e50, up_get, if_neg (by decide), e49, up_get, if_pos ⟨rfl, rfl⟩]
  have g12 : M52 199 12 = -1 := by rw [e52, up_get, if_pos ⟨rfl, rfl⟩]
  rw [hr4.1]
  refine ⟨by omega, by omega, fun q => ⟨by omega, ?_⟩, fun q => ?_⟩
  · have et : M52 200 (s : Nat) = tc T s := hr4.2 s (by omega)
    have r := tc_rng hT s
    have r1 := tc_rng hT (s - 1)
    rw [et]
    refine y_isLetter (by omega) ⟨by omega, ?_⟩
    rw [et]
    refine y_isDigit (by omega) ?_
    have z1 := so_1 (T := T) (s := s)
    have z2 := so_2 (T := T) (s := s)
    have j98 : (so T s = 1 ∨ so T s = 2) → m_X12_ahead_J98 Q (s : Nat) (if isL (tc T s) then 1 else 0) (if isD (tc T s) then 1 else 0) M52 := fun zz => by
      unfold m_X12_ahead_J98 m_X12_ahead_J130
      have yes : isA (tc T (s - 1)) → 0 < s → ∀ M39 : Mem, M39 = up M52 199 12 (s : Nat) → m_X12_ahead_J135 Q (s : Nat) (if isL (tc T s) then 1 else 0) (if isD (tc T s) then 1 else 0) M39 := fun ya y0 M39 e39 => by
        have o39 : oY M52 M39 := oY.up e39 (by omega)
        refine y_J135 hT (by omega) (hr4.oY o39) ?_ ?_ rfl rfl (fun M' o' l' => h M' ((o.tr o39).tr o') l' (fun z => by omega))
        · rw [e39, up_get, if_neg (by decide), g4]
        · rw [e39, up_get, if_pos ⟨rfl, rfl⟩, if_pos ⟨zz, y0, ya⟩]
      refine ⟨by omega, fun q2 => ?_, fun q2 => ⟨by omega, ?_⟩⟩
      · refine y_J135 hT (by omega) hr4 g4 ?_ rfl rfl (fun M' o' l' => h M' (o.tr o') l' (fun z => by have := so_0.mp z; omega))
        rw [g12, if_neg (fun z => by have := z.2.1; omega)]
      · have e1 : M52 200 ((s : Nat) - 1) = tc T (s - 1) := by
          rw [show ((s : Nat) : Int) - 1 = ((s - 1 : Nat) : Int) by omega]
          exact hr4.2 (s - 1) (by omega)
        rw [e1]
        refine y_isLetter (by omega) ?_
        by_cases c : isL (tc T (s - 1))
        · rw [if_pos c]
          exact ⟨by decide, fun z => absurd z (by decide), fun _ => yes (Or.inl c) (by omega)⟩
        · rw [if_neg c]
          refine ⟨by decide, fun _ => ⟨by omega, ?_⟩, fun z => absurd rfl z⟩
          rw [e1]
          refine y_isDigit (by omega) ?_
          by_cases c2 : isD (tc T (s - 1))
          · rw [if_pos c2]
            exact ⟨by decide, fun z => absurd z (by decide), fun _ => yes (Or.inr c2) (by omega)⟩
          · rw [if_neg c2]
            refine ⟨by decide, fun _ => ?_, fun z => absurd rfl z⟩
            refine y_J135 hT (by omega) hr4 g4 ?_ rfl rfl (fun M' o' l' => h M' (o.tr o') l' (fun z => by have := so_0.mp z; omega))
            rw [g12, if_neg (fun z => by rcases z.2.2 with a | a <;> contradiction)]
    by_cases cl : isL (tc T s)
    · have := j98 (Or.inl (z1.mpr ⟨by omega, cl⟩))
      rw [if_pos cl] at this ⊢
      exact ⟨by decide, fun z => absurd z (by decide), fun _ => this⟩
    · by_cases cd : isD (tc T s)
      · have := j98 (Or.inr (z2.mpr ⟨by omega, cd⟩))
        rw [if_neg cl, if_pos cd] at this ⊢
        exact ⟨by decide, fun _ => ⟨by decide, fun z => absurd z (by decide), fun _ => this⟩, fun z => absurd rfl z⟩
      · have j135 := y_J135 (Q := Q) (v2 := if isL (tc T s) then 1 else 0) (v3 := if isD (tc T s) then 1 else 0) hT (by omega) hr4 g4 (by rw [g12, if_neg (fun z => by omega)]) rfl rfl (fun M' o' l' => h M' (o.tr o') l' (fun z => by have := so_0.mp z; omega))
        rw [if_neg cl, if_neg cd] at j135 ⊢
        exact ⟨by decide, fun _ => ⟨by decide, fun _ => j135, fun z => absurd rfl z⟩, fun z => absurd rfl z⟩
  · have s0 : so T s = 0 := so_0.mpr (by omega)
    have nb : bd T s = -1 := Decidable.byContradiction fun z => by have := bd_so z; omega
    refine h M52 o ⟨hr4, hs, g4, ?_, by rw [g12, nb], fun _ => ?_, fun z => by omega, fun z => by omega, fun z => by omega, fun z => by omega⟩ (fun _ => by rw [e52, up_get, if_neg (by decide), e51, up_get, if_neg (by decide), e50, up_get, if_neg (by decide), e49, up_get, if_neg (by decide)])
    · rw [e52, up_get, if_neg (by decide), e51, up_get, if_pos ⟨rfl, rfl⟩, s0]
    · rw [e52, up_get, if_neg (by decide), e51, up_get, if_neg (by decide), e50, up_get, if_pos ⟨rfl, rfl⟩]
      unfold en
      rw [if_neg (by omega), if_neg (by omega), if_neg (by omega)]
theorem y_skip_l {Q : Mem → Prop} {s : Nat} (hT : TB T) (hs : s ≤ T.length) (hr : LYR M T) (h : ∀ M', oY M M' → LY M' T s → (so T s = 0 → M' 199 6 = M 199 6) → Q M') : ∀ (d n : Nat), n + d = T.length → skT T n = s → m_X12_ahead_L5 Q (d + 1) (n : Nat) M
  | 0, n, hn, hk => by
    have tl := hT.1
    unfold m_X12_ahead_L5
    rw [hr.1]
    rw [sk_end (by omega)] at hk
    subst hk
    exact ⟨by omega, by omega, fun _ => y_J41 hT hs hr h, fun q => by omega⟩
  | d + 1, n, hn, hk => by
    have tl := hT.1
    unfold m_X12_ahead_L5 m_X12_ahead_J35
    have e2 : M 200 n = tc T n := hr.2 n (by omega)
    have r := tc_rng hT n
    rw [hr.1, e2]
    have go : isB (tc T n) → m_X12_ahead_L5 Q (d + 1) ((n : Nat) + 1) M := fun hb => by
      rw [sk_b (by omega) hb] at hk
      rw [cast1]
      exact y_skip_l hT hs hr h d (n + 1) (by omega) hk
    refine ⟨by omega, by omega, fun q => by omega, fun _ => ⟨by omega, by omega, fun q => go (Or.inl q), fun q => ⟨by omega, by omega, fun q2 => go (Or.inr q2), fun q2 => ?_⟩⟩⟩
    rw [sk_n (by omega) (by intro z; rcases z with z | z <;> contradiction)] at hk
    subst hk
    exact y_J41 hT hs hr h
theorem y_aheadE {Q : Mem → Prop} {e : Nat} (hT : TB T) (hr : LYR M T) (he : e ≤ T.length) (h5 : M 199 5 = (e : Nat)) (h : ∀ M', oY M M' → LY M' T (skT T e) → (so T (skT T e) = 0 → M' 199 6 = M 199 6) → Q M') : m_X12_ahead M Q := by
  have kr := sk_rng (T := T) (T.length - e) e (by omega)
  unfold m_X12_ahead
  rw [h5]
  exact ⟨T.length - e + 1, y_skip_l hT kr.2.1 hr h (T.length - e) e (by omega) rfl⟩
theorem y_ahead0 {Q : Mem → Prop} {e : Nat} (hT : TB T) (hr : LYR M T) (he : e ≤ T.length) (h5 : M 199 5 = (e : Nat)) (h : ∀ M', oY M M' → LY M' T (skT T e) → Q M') : m_X12_ahead M Q := y_aheadE hT hr he h5 (fun M' o l _ => h M' o l)
theorem y_ahead {Q : Mem → Prop} {s : Nat} (hT : TB T) (hx : LY M T s) (hb : bd T s = -1) (h : ∀ M', oY M M' → LY M' T (nx T s) → Q M') : m_X12_ahead M Q :=
  y_ahead0 hT hx.1 (en_rng hx.2.1).2.1 (hx.2.2.2.2.2.1 hb) h
/-- the value behind a word is a number that an int holds -/
theorem y_ahead6 {Q : Mem → Prop} {s : Nat} (hT : TB T) (hx : LY M T s) (hb : bd T s = -1) (h1 : so T s = 1) (h : ∀ M', oY M M' → LY M' T (nx T s) → inI (M' 199 6) → Q M') : m_X12_ahead M Q := by
  refine y_aheadE hT hx.1 (en_rng hx.2.1).2.1 (hx.2.2.2.2.2.1 hb) fun M' o l z => h M' o l ?_
  obtain ⟨-, -, -, -, -, -, -, l2, l3, l1⟩ := l
  have sr := so_rng T (skT T (en T s))
  have e0 := hx.2.2.2.2.2.2.2.2.2 h1
  have tr := tc_rng hT (skT T (en T s))
  have dv := dg_v T (skT T (en T s))
  rcases (show so T (skT T (en T s)) = 0 ∨ so T (skT T (en T s)) = 1 ∨ so T (skT T (en T s)) = 2 ∨ so T (skT T (en T s)) = 3 by omega) with q | q | q | q
  · rw [z q, e0]; decide
  · rw [l1 q]; decide
  · rw [l2 q]; omega
  · rw [l3 q]; omega
end
