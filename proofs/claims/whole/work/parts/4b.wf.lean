/-! what is read makes sense; the fuel is enough -/
theorem pd_ind {T : List Int} {g : Bool} (P : Nat → Nat → Nat → List Int → Nat → Prop)
    (h0 : ∀ o s c s1 d t, P 1 o s c s1 → P 8 o s1 d t → P 0 o s (c ++ d) t)
    (h1 : ∀ o s c s1 d t, P 2 o s c s1 → P 9 o s1 d t → P 1 o s (c ++ d) t)
    (h3 : ∀ o s c s1 d t, P 4 o s c s1 → P 10 o s1 d t → P 3 o s (c ++ d) t)
    (h4 : ∀ o s c s1 d t, P 5 o s c s1 → P 11 o s1 d t → P 4 o s (c ++ d) t)
    (h2a : ∀ o s c t, o < 7 → P 2 (o + 1) (nx T s) c t → P 2 o s (c ++ [-20]) t)
    (h2b : ∀ o s c s1, o < 7 → P 0 (o + 1) (nx T s) c s1 → P 2 o s c (nx T s1))
    (h2c : ∀ o s, P 2 o s [1] (nx T s))
    (h2d : ∀ o s c s1 c2 s2, P 3 o s c s1 → cmc T s1 ≠ 0 → P 3 o (nx T s1) c2 s2 → P 2 o s (c ++ (c2 ++ [cmc T s1])) s2)
    (h5a : ∀ o s, 0 ≤ tn T s → P 5 o s [tn T s] (nx T s))
    (h5b : ∀ o s c s1, o < 7 → P 3 (o + 1) (nx T s) c s1 → P 5 o s c (nx T s1))
    (h5c : ∀ o s, kwc T g s ≠ 0 → P 5 o s [kwc T g s] (nx T s))
    (h5d : ∀ o s c s1 c2 s2, o < 7 → mmc T s ≠ 0 → P 3 (o + 1) (nx T (nx T s)) c s1 → P 3 (o + 1) (nx T s1) c2 s2 → P 5 o s (c ++ (c2 ++ [mmc T s])) (nx T s2))
    (h5e : ∀ o s c s1 c2 s2 c3 s3, o < 7 → P 0 (o + 1) (nx T (nx T s)) c s1 → P 3 (o + 1) (nx T s1) c2 s2 → P 3 (o + 1) (nx T s2) c3 s3 → P 5 o s (c ++ (c2 ++ (c3 ++ [-21]))) (nx T s3))
    (h8 : ∀ o s c s1 d t, P 1 o (nx T s) c s1 → P 8 o s1 d t → P 8 o s (c ++ (-19 :: d)) t)
    (h9 : ∀ o s c s1 d t, P 2 o (nx T s) c s1 → P 9 o s1 d t → P 9 o s (c ++ (-18 :: d)) t)
    (h10 : ∀ o s c s1 d t, smc T s ≠ 0 → P 4 o (nx T s) c s1 → P 10 o s1 d t → P 10 o s (c ++ (smc T s :: d)) t)
    (h11 : ∀ o s c s1 d t, prc T s ≠ 0 → P 5 o (nx T s) c s1 → P 11 o s1 d t → P 11 o s (c ++ (prc T s :: d)) t)
    (hn : ∀ w o s, 8 ≤ w → w ≤ 11 → P w o s [] s) : ∀ (f w o s : Nat) (c : List Int) (t : Nat), pd T g f w o s = some (.inr (c, t)) → P w o s c t := by
  intro f
  induction f with
  | zero =>
    intro w o s c t h
    simp [pd] at h
  | succ f ih =>
    intro w o s c t h
    rcases pd_w h with rfl | rfl | rfl | rfl | rfl | rfl | rfl | rfl | rfl | rfl <;> simp only [pd] at h
    · obtain ⟨c1, s1, d1, a, b, e⟩ := bn_i h
      rw [e]
      exact h0 _ _ _ _ _ _ (ih _ _ _ _ _ a) (ih _ _ _ _ _ b)
    · obtain ⟨c1, s1, d1, a, b, e⟩ := bn_i h
      rw [e]
      exact h1 _ _ _ _ _ _ (ih _ _ _ _ _ a) (ih _ _ _ _ _ b)
    · split at h
      · next q =>
        obtain ⟨ho, h⟩ := opn_i h
        obtain ⟨c1, s1, d1, a, b, e⟩ := bn_i h
        obtain ⟨rfl, rfl⟩ := em_i b
        rw [e]
        exact h2a _ _ _ _ ho (ih _ _ _ _ _ a)
      · split at h
        · next q =>
          obtain ⟨ho, h⟩ := opn_i h
          obtain ⟨c1, s1, d1, a, b, e⟩ := bn_i h
          obtain ⟨b1, b⟩ := tks_i b
          obtain ⟨rfl, rfl⟩ := ok_i b
          rw [e, List.append_nil]
          exact h2b _ _ _ _ ho (ih _ _ _ _ _ a)
        · split at h
          · obtain ⟨rfl, rfl⟩ := em_i h
            exact h2c _ _
          · obtain ⟨c1, s1, d1, a, b, e⟩ := bn_i h
            split at b
            · simp at b
            · next q =>
              obtain ⟨c2, s2, d2, a2, b2, e2⟩ := bn_i b
              obtain ⟨rfl, rfl⟩ := em_i b2
              rw [e, e2]
              exact h2d _ _ _ _ _ _ (ih _ _ _ _ _ a) q (ih _ _ _ _ _ a2)
    · obtain ⟨c1, s1, d1, a, b, e⟩ := bn_i h
      rw [e]
      exact h3 _ _ _ _ _ _ (ih _ _ _ _ _ a) (ih _ _ _ _ _ b)
    · obtain ⟨c1, s1, d1, a, b, e⟩ := bn_i h
      rw [e]
      exact h4 _ _ _ _ _ _ (ih _ _ _ _ _ a) (ih _ _ _ _ _ b)
    · split at h
      · next q =>
        obtain ⟨rfl, rfl⟩ := em_i h
        exact h5a _ _ q
      · split at h
        · next q =>
          obtain ⟨ho, h⟩ := opn_i h
          obtain ⟨c1, s1, d1, a, b, e⟩ := bn_i h
          obtain ⟨b1, b⟩ := tks_i b
          obtain ⟨rfl, rfl⟩ := ok_i b
          rw [e, List.append_nil]
          exact h5b _ _ _ _ ho (ih _ _ _ _ _ a)
        · split at h
          · next q =>
            obtain ⟨rfl, rfl⟩ := em_i h
            exact h5c _ _ q
          · split at h
            · next q =>
              split at h
              · next q1 =>
                obtain ⟨ho, h⟩ := opn_i h
                obtain ⟨c1, s1, d1, a, b, e⟩ := bn_i h
                obtain ⟨b1, b⟩ := tks_i b
                obtain ⟨c2, s2, d2, a2, b2, e2⟩ := bn_i b
                obtain ⟨b3, b2⟩ := tks_i b2
                obtain ⟨rfl, rfl⟩ := em_i b2
                rw [e, e2]
                exact h5d _ _ _ _ _ _ ho q (ih _ _ _ _ _ a) (ih _ _ _ _ _ a2)
              · simp at h
            · split at h
              · next q =>
                split at h
                · next q1 =>
                  obtain ⟨ho, h⟩ := opn_i h
                  obtain ⟨c1, s1, d1, a, b, e⟩ := bn_i h
                  obtain ⟨b1, b⟩ := tks_i b
                  obtain ⟨c2, s2, d2, a2, b2, e2⟩ := bn_i b
                  obtain ⟨b3, b2⟩ := tks_i b2
                  obtain ⟨c3, s3, d3, a3, b4, e3⟩ := bn_i b2
                  obtain ⟨b5, b4⟩ := tks_i b4
                  obtain ⟨rfl, rfl⟩ := em_i b4
                  rw [e, e2, e3]
                  exact h5e _ _ _ _ _ _ _ _ ho (ih _ _ _ _ _ a) (ih _ _ _ _ _ a2) (ih _ _ _ _ _ a3)
                · simp at h
              · simp at h
    · split at h
      · next q =>
        obtain ⟨c1, s1, d1, a, b, e⟩ := bn_i h
        obtain ⟨d2, b2, e2⟩ := pre_i b
        rw [e, e2]
        exact h8 _ _ _ _ _ _ (ih _ _ _ _ _ a) (ih _ _ _ _ _ b2)
      · obtain ⟨rfl, rfl⟩ := ok_i h
        exact hn _ _ _ (by omega) (by omega)
    · split at h
      · next q =>
        obtain ⟨c1, s1, d1, a, b, e⟩ := bn_i h
        obtain ⟨d2, b2, e2⟩ := pre_i b
        rw [e, e2]
        exact h9 _ _ _ _ _ _ (ih _ _ _ _ _ a) (ih _ _ _ _ _ b2)
      · obtain ⟨rfl, rfl⟩ := ok_i h
        exact hn _ _ _ (by omega) (by omega)
    · split at h
      · next q =>
        obtain ⟨c1, s1, d1, a, b, e⟩ := bn_i h
        obtain ⟨d2, b2, e2⟩ := pre_i b
        rw [e, e2]
        exact h10 _ _ _ _ _ _ q (ih _ _ _ _ _ a) (ih _ _ _ _ _ b2)
      · obtain ⟨rfl, rfl⟩ := ok_i h
        exact hn _ _ _ (by omega) (by omega)
    · split at h
      · next q =>
        obtain ⟨c1, s1, d1, a, b, e⟩ := bn_i h
        obtain ⟨d2, b2, e2⟩ := pre_i b
        rw [e, e2]
        exact h11 _ _ _ _ _ _ q (ih _ _ _ _ _ a) (ih _ _ _ _ _ b2)
      · obtain ⟨rfl, rfl⟩ := ok_i h
        exact hn _ _ _ (by omega) (by omega)
theorem wq_num {c : Int} {cs : List Int} {st : List Bool} (h0 : 0 ≤ c) (h9 : c ≤ 9999) (hl : st.length < 60) (h : wfP cs (false :: st)) : wfP (c :: cs) st :=
  ⟨h9, by omega, fun _ => ⟨hl, false, fun z => absurd z (by decide), h⟩, fun _ z => by omega, fun z => by omega, fun z => by omega, fun z => by omega, fun _ z => by omega, fun _ z => by omega⟩
theorem wq_all {cs : List Int} {st : List Bool} (hl : st.length < 60) (h : wfP cs (true :: st)) : wfP (1 :: cs) st :=
  ⟨by decide, by decide, fun _ => ⟨hl, true, fun _ => by decide, h⟩, fun _ z => by omega, fun z => by omega, fun z => by omega, fun z => by omega, fun _ z => by omega, fun _ z => by omega⟩
theorem wq_kn {c : Int} {cs : List Int} {st : List Bool} (h0 : -7 ≤ c) (h9 : c < 0) (hl : st.length < 60) (h : wfP cs (false :: st)) : wfP (c :: cs) st :=
  ⟨by omega, by omega, fun z => by omega, fun _ _ => ⟨hl, h⟩, fun z => by omega, fun z => by omega, fun z => by omega, fun _ z => by omega, fun _ z => by omega⟩
theorem wq_not {cs : List Int} {st : List Bool} (h : wfP cs (true :: st)) : wfP (-20 :: cs) (true :: st) :=
  ⟨by decide, by decide, fun z => by omega, fun z => by omega, fun _ => ⟨st, rfl, h⟩, fun z => by omega, fun z => by omega, fun z => by omega, fun z => by omega⟩
theorem wq_if {cs : List Int} {st : List Bool} {x y z : Bool} (h : wfP cs (false :: st)) : wfP (-21 :: cs) (x :: y :: z :: st) :=
  ⟨by decide, by decide, fun z => by omega, fun z => by omega, fun z => by omega, fun _ => ⟨x, y, z, st, rfl, h⟩, fun z => by omega, fun z => by omega, fun z => by omega⟩
theorem wq_lg {c : Int} {cs : List Int} {st : List Bool} (hc : c = -18 ∨ c = -19) (h : wfP cs (true :: st)) : wfP (c :: cs) (true :: true :: st) :=
  ⟨by omega, by omega, fun z => by omega, fun z => by omega, fun z => by omega, fun z => by omega, fun _ => ⟨st, rfl, h⟩, fun z => by omega, fun z => by omega⟩
theorem wq_cm {c : Int} {cs : List Int} {st : List Bool} {x y : Bool} (hc : -17 ≤ c ∧ c ≤ -15) (h : wfP cs (true :: st)) : wfP (c :: cs) (x :: y :: st) :=
  ⟨by omega, by omega, fun z => by omega, fun z => by omega, fun z => by omega, fun z => by omega, fun z => by omega, fun _ _ => ⟨x, y, st, rfl, h⟩, fun z => by omega⟩
theorem wq_ar {c : Int} {cs : List Int} {st : List Bool} {x y : Bool} (hc : -14 ≤ c ∧ c ≤ -8) (h : wfP cs (false :: st)) : wfP (c :: cs) (x :: y :: st) :=
  ⟨by omega, by omega, fun z => by omega, fun z => by omega, fun z => by omega, fun z => by omega, fun z => by omega, fun z => by omega, fun _ _ => ⟨x, y, st, rfl, h⟩⟩
theorem cmc_rng {T : List Int} {s : Nat} (h : cmc T s ≠ 0) : -17 ≤ cmc T s ∧ cmc T s ≤ -15 := by
  unfold cmc at *
  omega
theorem prc_rng {T : List Int} {s : Nat} (h : prc T s ≠ 0) : -12 ≤ prc T s ∧ prc T s ≤ -10 := by
  unfold prc at *
  omega
theorem smc_rng {T : List Int} {s : Nat} (h : smc T s ≠ 0) : -9 ≤ smc T s ∧ smc T s ≤ -8 := by
  unfold smc at *
  omega
theorem mmc_rng {T : List Int} {s : Nat} (h : mmc T s ≠ 0) : -14 ≤ mmc T s ∧ mmc T s ≤ -13 := by
  unfold mmc at *
  omega
theorem kwc_rng {T : List Int} {g : Bool} {s : Nat} (h : kwc T g s ≠ 0) : -7 ≤ kwc T g s ∧ kwc T g s < 0 ∧ (g = false → -5 ≤ kwc T g s) := by
  unfold kwc at *
  cases g <;> simp at * <;> omega
def tyP (w : Nat) : Bool := w == 0 || w == 1 || w == 2 || w == 8 || w == 9
def hgP (w : Nat) : Nat := if w < 6 then w else if w < 10 then w - 8 else w - 7
theorem pd_wf {T : List Int} {g : Bool} {f w o s t : Nat} {c : List Int} (h : pd T g f w o s = some (.inr (c, t))) : ∀ (st : List Bool) (rest : List Int), o ≤ 7 → st.length ≤ 5 * o + hgP w → wfP rest (tyP w :: st) → wfP (c ++ rest) (if w < 6 then st else tyP w :: st) := by
  refine pd_ind (T := T) (g := g) (fun w o s c t => ∀ (st : List Bool) (rest : List Int), o ≤ 7 → st.length ≤ 5 * o + hgP w → wfP rest (tyP w :: st) → wfP (c ++ rest) (if w < 6 then st else tyP w :: st)) ?_ ?_ ?_ ?_ ?_ ?_ ?_ ?_ ?_ ?_ ?_ ?_ ?_ ?_ ?_ ?_ ?_ ?_ f w o s c t h
  · intro o s c s1 d t a b st rest ho hl hw
    rw [List.append_assoc]
    exact a st _ ho (by simp [hgP] at *; omega) (b st _ ho hl hw)
  · intro o s c s1 d t a b st rest ho hl hw
    rw [List.append_assoc]
    exact a st _ ho (by simp [hgP] at *; omega) (b st _ ho hl hw)
  · intro o s c s1 d t a b st rest ho hl hw
    rw [List.append_assoc]
    exact a st _ ho (by simp [hgP] at *; omega) (b st _ ho hl hw)
  · intro o s c s1 d t a b st rest ho hl hw
    rw [List.append_assoc]
    exact a st _ ho (by simp [hgP] at *; omega) (b st _ ho hl hw)
  · intro o s c t ho7 a st rest ho hl hw
    rw [List.append_assoc]
    exact a st _ (by omega) (by simp [hgP] at *; omega) (wq_not hw)
  · intro o s c s1 ho7 a st rest ho hl hw
    exact a st _ (by omega) (by simp [hgP] at *; omega) hw
  · intro o s st rest ho hl hw
    exact wq_all (by simp [hgP] at *; omega) hw
  · intro o s c s1 c2 s2 a q a2 st rest ho hl hw
    rw [List.append_assoc, List.append_assoc]
    exact a st _ (by omega) (by simp [hgP] at *; omega) (a2 (false :: st) _ (by omega) (by simp [hgP] at *; omega) (wq_cm (cmc_rng q) hw))
  · intro o s q st rest ho hl hw
    have := tn_rng T s
    exact wq_num q (by omega) (by simp [hgP] at *; omega) hw
  · intro o s c s1 ho7 a st rest ho hl hw
    exact a st _ (by omega) (by simp [hgP] at *; omega) hw
  · intro o s q st rest ho hl hw
    have := kwc_rng q
    exact wq_kn (by omega) (by omega) (by simp [hgP] at *; omega) hw
  · intro o s c s1 c2 s2 ho7 q a a2 st rest ho hl hw
    have := mmc_rng q
    rw [List.append_assoc, List.append_assoc]
    exact a st _ (by omega) (by simp [hgP] at *; omega) (a2 (false :: st) _ (by omega) (by simp [hgP] at *; omega) (wq_ar (by omega) hw))
  · intro o s c s1 c2 s2 c3 s3 ho7 a a2 a3 st rest ho hl hw
    rw [List.append_assoc, List.append_assoc, List.append_assoc]
    exact a st _ (by omega) (by simp [hgP] at *; omega) (a2 (true :: st) _ (by omega) (by simp [hgP] at *; omega) (a3 (false :: true :: st) _ (by omega) (by simp [hgP] at *; omega) (wq_if hw)))
  · intro o s c s1 d t a b st rest ho hl hw
    rw [List.append_assoc]
    exact a (true :: st) _ ho (by simp [hgP] at *; omega) (wq_lg (Or.inr rfl) (b st _ ho hl hw))
  · intro o s c s1 d t a b st rest ho hl hw
    rw [List.append_assoc]
    exact a (true :: st) _ ho (by simp [hgP] at *; omega) (wq_lg (Or.inl rfl) (b st _ ho hl hw))
  · intro o s c s1 d t q a b st rest ho hl hw
    have := smc_rng q
    rw [List.append_assoc]
    exact a (false :: st) _ ho (by simp [hgP] at *; omega) (wq_ar (by omega) (b st _ ho hl hw))
  · intro o s c s1 d t q a b st rest ho hl hw
    have := prc_rng q
    rw [List.append_assoc]
    exact a (false :: st) _ ho (by simp [hgP] at *; omega) (wq_ar (by omega) (b st _ ho hl hw))
  · intro w o s h8 h11 st rest ho hl hw
    rw [if_neg (by omega)]
    exact hw
theorem noTF_app {a b : List Int} (ha : noTF a) (hb : noTF b) : noTF (a ++ b) := fun c hc => by
  rcases List.mem_append.mp hc with h | h
  · exact ha c h
  · exact hb c h
theorem noTF_one {c : Int} {b : List Int} (h6 : c ≠ -6) (h7 : c ≠ -7) (hb : noTF b) : noTF (c :: b) := fun d hd => by
  rcases List.mem_cons.mp hd with h | h
  · rw [h]
    exact ⟨h6, h7⟩
  · exact hb d h
theorem noTF_nil : noTF [] := fun c h => absurd h (by simp)
theorem pd_tf {T : List Int} {f w o s t : Nat} {c : List Int} (h : pd T false f w o s = some (.inr (c, t))) : noTF c := by
  refine pd_ind (T := T) (g := false) (fun w o s c t => noTF c) ?_ ?_ ?_ ?_ ?_ ?_ ?_ ?_ ?_ ?_ ?_ ?_ ?_ ?_ ?_ ?_ ?_ ?_ f w o s c t h
  · intro o s c s1 d t a b
    exact noTF_app a b
  · intro o s c s1 d t a b
    exact noTF_app a b
  · intro o s c s1 d t a b
    exact noTF_app a b
  · intro o s c s1 d t a b
    exact noTF_app a b
  · intro o s c t _ a
    exact noTF_app a (noTF_one (by decide) (by decide) noTF_nil)
  · intro o s c s1 _ a
    exact a
  · intro o s
    exact noTF_one (by decide) (by decide) noTF_nil
  · intro o s c s1 c2 s2 a q a2
    have := cmc_rng q
    exact noTF_app a (noTF_app a2 (noTF_one (by omega) (by omega) noTF_nil))
  · intro o s q
    exact noTF_one (by omega) (by omega) noTF_nil
  · intro o s c s1 _ a
    exact a
  · intro o s q
    have := (kwc_rng q).2.2 rfl
    exact noTF_one (by omega) (by omega) noTF_nil
  · intro o s c s1 c2 s2 _ q a a2
    have := mmc_rng q
    exact noTF_app a (noTF_app a2 (noTF_one (by omega) (by omega) noTF_nil))
  · intro o s c s1 c2 s2 c3 s3 _ a a2 a3
    exact noTF_app a (noTF_app a2 (noTF_app a3 (noTF_one (by decide) (by decide) noTF_nil)))
  · intro o s c s1 d t a b
    exact noTF_app a (noTF_one (by decide) (by decide) b)
  · intro o s c s1 d t a b
    exact noTF_app a (noTF_one (by decide) (by decide) b)
  · intro o s c s1 d t q a b
    have := smc_rng q
    exact noTF_app a (noTF_one (by omega) (by omega) b)
  · intro o s c s1 d t q a b
    have := prc_rng q
    exact noTF_app a (noTF_one (by omega) (by omega) b)
  · intro w o s _ _
    exact noTF_nil
theorem bn_t {r : PR} {k : Nat → PR} (h : r ≠ none) (hk : ∀ c s1, r = some (.inr (c, s1)) → k s1 ≠ none) : bn r k ≠ none := by
  unfold bn
  split
  · exact absurd rfl h
  · simp
  · next c s1 =>
    have := hk c s1 rfl
    cases e : k s1 with
    | none => exact absurd e this
    | some x =>
      cases x with
      | inl e1 => simp [pre]
      | inr q => simp [pre]
theorem pre_t {c : List Int} {r : PR} (h : r ≠ none) : pre c r ≠ none := by
  cases e : r with
  | none => exact absurd e h
  | some x =>
    cases x with
    | inl e1 => simp [pre]
    | inr q => simp [pre]
theorem tks_t {T : List Int} {c : Int} {s : Nat} {k : Nat → PR} (hk : ts T s = c → k (nx T s) ≠ none) : tks T c s k ≠ none := by
  unfold tks
  split
  · next q => exact hk q
  · simp
theorem opn_t {T : List Int} {o s : Nat} {k : Nat → PR} (hk : k (nx T s) ≠ none) : opn T o s k ≠ none := by
  unfold opn
  split
  · simp
  · exact hk
theorem pd_t {T : List Int} {g : Bool} : ∀ (f w o s : Nat), s ≤ T.length → (w < 6 ∨ (8 ≤ w ∧ w ≤ 11)) → (if w < 6 then 7 - w else 1) + 12 * (T.length - s) ≤ f → pd T g f w o s ≠ none
  | 0, w, o, s, hs, hw, hf => by
    split at hf <;> omega
  | f + 1, w, o, s, hs, hw, hf => by
    have ih : ∀ (w o s : Nat), s ≤ T.length → (w < 6 ∨ (8 ≤ w ∧ w ≤ 11)) → (if w < 6 then 7 - w else 1) + 12 * (T.length - s) ≤ f → pd T g f w o s ≠ none := pd_t f
    have ln : ∀ {w o s : Nat} {c : List Int} {t : Nat}, s ≤ T.length → pd T g f w o s = some (.inr (c, t)) → t ≤ T.length ∧ c.length + s ≤ t ∧ (w < 6 → s < t ∧ 0 < c.length) := fun a b => pd_len f _ _ _ _ _ a b
    rcases (show w = 0 ∨ w = 1 ∨ w = 2 ∨ w = 3 ∨ w = 4 ∨ w = 5 ∨ w = 8 ∨ w = 9 ∨ w = 10 ∨ w = 11 by omega) with rfl | rfl | rfl | rfl | rfl | rfl | rfl | rfl | rfl | rfl
    · simp only [pd]
      refine bn_t (ih _ _ _ hs (by omega) (by simp at *; omega)) fun c s1 e => ?_
      have := ln hs e
      exact ih _ _ _ this.1 (by omega) (by simp at *; omega)
    · simp only [pd]
      refine bn_t (ih _ _ _ hs (by omega) (by simp at *; omega)) fun c s1 e => ?_
      have := ln hs e
      exact ih _ _ _ this.1 (by omega) (by simp at *; omega)
    · simp only [pd]
      split
      · next q =>
        have n := nx_tw hs (by omega)
        refine opn_t (bn_t (ih _ _ _ n.2 (by omega) (by simp at *; omega)) fun c s1 e => by simp)
      · split
        · next q =>
          have n := nx_ts hs (by omega)
          refine opn_t (bn_t (ih _ _ _ n.2 (by omega) (by simp at *; omega)) fun c s1 e => tks_t fun _ => by simp)
        · split
          · simp
          · refine bn_t (ih _ _ _ hs (by omega) (by simp at *; omega)) fun c s1 e => ?_
            have l := ln hs e
            split
            · simp
            · next q =>
              have n := nx_ts l.1 (cmc_ts q)
              exact bn_t (ih _ _ _ n.2 (by omega) (by simp at *; omega)) fun c s1 e => by simp
    · simp only [pd]
      refine bn_t (ih _ _ _ hs (by omega) (by simp at *; omega)) fun c s1 e => ?_
      have := ln hs e
      exact ih _ _ _ this.1 (by omega) (by simp at *; omega)
    · simp only [pd]
      refine bn_t (ih _ _ _ hs (by omega) (by simp at *; omega)) fun c s1 e => ?_
      have := ln hs e
      exact ih _ _ _ this.1 (by omega) (by simp at *; omega)
    · simp only [pd]
      split
      · simp
      · split
        · next q =>
          have n := nx_ts hs (by omega)
          refine opn_t (bn_t (ih _ _ _ n.2 (by omega) (by simp at *; omega)) fun c s1 e => tks_t fun _ => by simp)
        · split
          · simp
          · split
            · next q =>
              have n := nx_tw hs (mmc_tw q)
              split
              · next q1 =>
                have n1 := nx_ts n.2 (by omega)
                refine opn_t (bn_t (ih _ _ _ n1.2 (by omega) (by simp at *; omega)) fun c s1 e => tks_t fun q2 => ?_)
                have l := ln n1.2 e
                have n2 := nx_ts l.1 (by omega)
                exact bn_t (ih _ _ _ n2.2 (by omega) (by simp at *; omega)) fun c s1 e => tks_t fun _ => by simp
              · simp
            · split
              · next q =>
                have n := nx_tw hs (by omega)
                split
                · next q1 =>
                  have n1 := nx_ts n.2 (by omega)
                  refine opn_t (bn_t (ih _ _ _ n1.2 (by omega) (by simp at *; omega)) fun c s1 e => tks_t fun q2 => ?_)
                  have l := ln n1.2 e
                  have n2 := nx_ts l.1 (by omega)
                  refine bn_t (ih _ _ _ n2.2 (by omega) (by simp at *; omega)) fun c s2 e => tks_t fun q3 => ?_
                  have l2 := ln n2.2 e
                  have n3 := nx_ts l2.1 (by omega)
                  exact bn_t (ih _ _ _ n3.2 (by omega) (by simp at *; omega)) fun c s3 e => tks_t fun _ => by simp
                · simp
              · simp
    · simp only [pd]
      split
      · next q =>
        have n := nx_tw hs (by omega)
        refine bn_t (ih _ _ _ n.2 (by omega) (by simp at *; omega)) fun c s1 e => pre_t ?_
        have := ln n.2 e
        exact ih _ _ _ this.1 (by omega) (by simp at *; omega)
      · simp
    · simp only [pd]
      split
      · next q =>
        have n := nx_tw hs (by omega)
        refine bn_t (ih _ _ _ n.2 (by omega) (by simp at *; omega)) fun c s1 e => pre_t ?_
        have := ln n.2 e
        exact ih _ _ _ this.1 (by omega) (by simp at *; omega)
      · simp
    · simp only [pd]
      split
      · next q =>
        have n := nx_ts hs (smc_ts q)
        refine bn_t (ih _ _ _ n.2 (by omega) (by simp at *; omega)) fun c s1 e => pre_t ?_
        have := ln n.2 e
        exact ih _ _ _ this.1 (by omega) (by simp at *; omega)
      · simp
    · simp only [pd]
      split
      · next q =>
        have n := nx_ts hs (prc_ts q)
        refine bn_t (ih _ _ _ n.2 (by omega) (by simp at *; omega)) fun c s1 e => pre_t ?_
        have := ln n.2 e
        exact ih _ _ _ this.1 (by omega) (by simp at *; omega)
      · simp
