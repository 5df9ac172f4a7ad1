/-! distances, pure -/
/-- from i in at most r steps to j, over seven places -/
def wk (A : Nat → Nat → Bool) (i : Nat) : Nat → Nat → Bool
  | 0, j => j == i
  | r + 1, j => wk A i r j || (List.range 7).any (fun p => wk A i r p && A p j)
theorem wk_s {A : Nat → Nat → Bool} {i r j : Nat} : wk A i (r + 1) j = true ↔ wk A i r j = true ∨ ∃ p, p < 7 ∧ wk A i r p = true ∧ A p j = true := by
  simp only [wk, Bool.or_eq_true, List.any_eq_true, List.mem_range, Bool.and_eq_true]
theorem wk_0 {A : Nat → Nat → Bool} {i j : Nat} : wk A i 0 j = true ↔ j = i := by simp [wk]
theorem wk_m {A : Nat → Nat → Bool} {i r j : Nat} (h : wk A i r j = true) : ∀ k, wk A i (r + k) j = true
  | 0 => h
  | k + 1 => wk_s.mpr (Or.inl (wk_m h k))
theorem wk_t {A : Nat → Nat → Bool} {a c r : Nat} (h : wk A a r c = true) : ∀ (s b : Nat), wk A c s b = true → wk A a (r + s) b = true
  | 0, b, h2 => by
    rw [wk_0] at h2
    rw [h2]
    exact h
  | s + 1, b, h2 => by
    rcases wk_s.mp h2 with z | ⟨p, p7, z1, z2⟩
    · exact wk_s.mpr (Or.inl (wk_t h s b z))
    · exact wk_s.mpr (Or.inr ⟨p, p7, wk_t h s p z1, z2⟩)
theorem cntP_lt {f g : Int → Int} {v : Int} (h : ∀ k : Nat, f k = v → g k = v) : ∀ n : Nat, cntP f n v ≤ cntP g n v ∧ ((∃ k : Nat, k < n ∧ g k = v ∧ f k ≠ v) → cntP f n v + 1 ≤ cntP g n v)
  | 0 => by
    refine ⟨by simp [cntP], fun z => ?_⟩
    obtain ⟨k, hk, -⟩ := z
    omega
  | n + 1 => by
    obtain ⟨i1, i2⟩ := cntP_lt h n
    have hn := h n
    simp only [cntP]
    refine ⟨?_, fun z => ?_⟩
    · by_cases c : f n = v
      · rw [if_pos c, if_pos (hn c)]
        omega
      · rw [if_neg c]
        split <;> omega
    · obtain ⟨k, hk, z1, z2⟩ := z
      by_cases ck : k = n
      · subst ck
        rw [if_neg z2, if_pos z1]
        omega
      · have := i2 ⟨k, by omega, z1, z2⟩
        by_cases c : f n = v
        · rw [if_pos c, if_pos (hn c)]
          omega
        · rw [if_neg c]
          split <;> omega
/-- whoever is reached is reached in six steps -/
theorem wk_6 {A : Nat → Nat → Bool} {i : Nat} (hi : i < 7) {r j : Nat} (hj : j < 7) (h : wk A i r j = true) : wk A i 6 j = true := by
  let f : Nat → Int → Int := fun r k => if wk A i r k.toNat = true then 1 else 0
  have fk : ∀ r (k : Nat), f r k = 1 ↔ wk A i r k = true := fun r k => by
    show (if wk A i r ((k : Nat) : Int).toNat = true then (1 : Int) else 0) = 1 ↔ _
    rw [Int.toNat_natCast]
    split
    · next q => simp [q]
    · next q => simp [q]
  have stable : ∀ s, (∀ k, k < 7 → wk A i (s + 1) k = true → wk A i s k = true) → ∀ d k, k < 7 → wk A i (s + d) k = true → wk A i s k = true := by
    intro s hs d
    induction d with
    | zero => exact fun k _ z => z
    | succ d ih =>
      intro k hk z
      rcases wk_s.mp z with z | ⟨p, p7, z1, z2⟩
      · exact ih k hk z
      · exact hs k hk (wk_s.mpr (Or.inr ⟨p, p7, ih p p7 z1, z2⟩))
  have key : ∀ m, m ≤ 7 → (∃ s, s < m ∧ ∀ k, k < 7 → wk A i (s + 1) k = true → wk A i s k = true) ∨ (m : Int) + 1 ≤ cntP (f m) 7 1 := by
    intro m
    induction m with
    | zero =>
      intro _
      right
      have := (cntP_lt (f := fun _ => 0) (g := f 0) (v := 1) (fun k z => absurd z (by decide)) 7).2 ⟨i, hi, (fk 0 i).mpr (wk_0.mpr rfl), by decide⟩
      have z : cntP (fun _ => 0) 7 1 = 0 := by decide
      omega
    | succ m ih =>
      intro hm
      rcases ih (by omega) with ⟨s, hs, z⟩ | z
      · exact Or.inl ⟨s, by omega, z⟩
      · by_cases c : ∀ k, k < 7 → wk A i (m + 1) k = true → wk A i m k = true
        · exact Or.inl ⟨m, by omega, c⟩
        · right
          have : ∃ k : Nat, k < 7 ∧ f (m + 1) k = 1 ∧ f m k ≠ 1 := by
            refine Classical.byContradiction fun w => c fun k hk z => ?_
            refine Classical.byContradiction fun w2 => w ⟨k, hk, (fk _ k).mpr z, fun w3 => w2 ((fk _ k).mp w3)⟩
          have := (cntP_lt (f := f m) (g := f (m + 1)) (v := 1) (fun k z => (fk _ k).mpr (wk_s.mpr (Or.inl ((fk _ k).mp z)))) 7).2 this
          omega
  rcases key 7 (by decide) with ⟨s, hs, z⟩ | z
  · have : wk A i s j = true := by
      rcases Nat.le_total r s with q | q
      · have := wk_m h (s - r)
        rwa [show r + (s - r) = s by omega] at this
      · exact stable s z (r - s) j hj (by rw [show s + (r - s) = r by omega]; exact h)
    have := wk_m this (6 - s)
    rwa [show s + (6 - s) = 6 by omega] at this
  · have := (cntP_rng (f 7) 1 7).2
    omega
/-- the distance, of those below k; -1 if there is none -/
def dsT (A : Nat → Nat → Bool) (i j : Nat) : Nat → Int
  | 0 => -1
  | k + 1 => if dsT A i j k ≠ -1 then dsT A i j k else if wk A i k j = true then (k : Int) else -1
abbrev dst (A : Nat → Nat → Bool) (i j : Nat) : Int := dsT A i j 7
theorem dsT_rng (A : Nat → Nat → Bool) (i j : Nat) : ∀ k, -1 ≤ dsT A i j k ∧ dsT A i j k < (k : Int)
  | 0 => by simp [dsT]
  | k + 1 => by
    have := dsT_rng A i j k
    unfold dsT
    split
    · omega
    · split <;> omega
theorem dsT_no {A : Nat → Nat → Bool} {i j : Nat} : ∀ k, dsT A i j k = -1 ↔ ∀ r, r < k → ¬ wk A i r j = true
  | 0 => by simp [dsT]
  | k + 1 => by
    have ih := dsT_no (A := A) (i := i) (j := j) k
    unfold dsT
    by_cases c : dsT A i j k = -1
    · rw [if_neg (by omega)]
      by_cases q : wk A i k j = true
      · rw [if_pos q]
        constructor
        · intro z
          omega
        · intro z
          exact absurd q (z k (by omega))
      · rw [if_neg q]
        refine ⟨fun _ r hr => ?_, fun _ => rfl⟩
        by_cases e : r = k
        · rw [e]
          exact q
        · exact ih.mp c r (by omega)
    · rw [if_pos c]
      constructor
      · intro z
        exact absurd z c
      · intro z
        exact absurd (ih.mpr fun r hr => z r (by omega)) c
theorem dsT_at {A : Nat → Nat → Bool} {i j d : Nat} (h : wk A i d j = true) (hl : ∀ r, r < d → ¬ wk A i r j = true) : ∀ k, d < k → dsT A i j k = (d : Int)
  | 0, hk => by omega
  | k + 1, hk => by
    unfold dsT
    by_cases e : d = k
    · subst e
      have := (dsT_no (A := A) (i := i) (j := j) d).mpr hl
      rw [if_neg (by omega), if_pos h]
    · rw [dsT_at h hl k (by omega), if_pos (by omega)]
/-- the model's way: paths over places below k -/
def fwS (F : Nat → Nat → Int) (k : Nat) : Nat → Nat → Int := fun a b => if F a k + F k b < F a b then F a k + F k b else F a b
def fwN (F0 : Nat → Nat → Int) : Nat → Nat → Nat → Int
  | 0 => F0
  | k + 1 => fwS (fwN F0 k) k
abbrev F0A (A : Nat → Nat → Bool) : Nat → Nat → Int := fun a b => if a = b then 0 else if A a b = true then 1 else 100000000
theorem fw_1 (A : Nat → Nat → Bool) : ∀ (k a b : Nat), 0 ≤ fwN (F0A A) k a b ∧ fwN (F0A A) k a b ≤ F0A A a b
  | 0, a, b => by
    show 0 ≤ F0A A a b ∧ F0A A a b ≤ F0A A a b
    simp only [F0A]
    split
    · omega
    · split <;> omega
  | k + 1, a, b => by
    have h1 := fw_1 A k a b
    have h2 := fw_1 A k a k
    have h3 := fw_1 A k k b
    show 0 ≤ fwS _ _ _ _ ∧ fwS _ _ _ _ ≤ _
    unfold fwS
    split <;> omega
theorem fw_0 (A : Nat → Nat → Bool) (k a : Nat) : fwN (F0A A) k a a = 0 := by
  have := fw_1 A k a a
  simp only [F0A, if_true] at this
  omega
theorem fw_c (A : Nat → Nat → Bool) (k a : Nat) : fwS (fwN (F0A A) k) k a k = fwN (F0A A) k a k ∧ fwS (fwN (F0A A) k) k k a = fwN (F0A A) k k a := by
  have z := fw_0 A k k
  unfold fwS
  rw [z]
  constructor <;> (rw [if_neg (by omega)])
theorem fw_2 (A : Nat → Nat → Bool) : ∀ (k a b c : Nat), c < k → fwN (F0A A) k a b ≤ fwN (F0A A) k a c + fwN (F0A A) k c b
  | 0, a, b, c, hc => by omega
  | k + 1, a, b, c, hc => by
    have ih := fw_2 A k
    have e1 := fw_c A k
    have p := fun a b => (fw_1 A k a b).1
    show fwS (fwN (F0A A) k) k a b ≤ fwS (fwN (F0A A) k) k a c + fwS (fwN (F0A A) k) k c b
    by_cases q : c = k
    · subst q
      rw [(e1 a).1, (e1 b).2]
      unfold fwS
      split <;> omega
    · have i1 := ih a b c (by omega)
      have i2 := ih k b c (by omega)
      have i3 := ih a k c (by omega)
      have p1 := p a c
      have p2 := p c b
      have p3 := p k c
      have p4 := p c k
      unfold fwS
      split <;> split <;> split <;> omega
theorem fw_3 {A : Nat → Nat → Bool} : ∀ (k a b : Nat), k ≤ 7 → a < 7 → b < 7 → fwN (F0A A) k a b < 100000000 → wk A a (fwN (F0A A) k a b).toNat b = true
  | 0, a, b, hk, ha, hb, h => by
    have h' : F0A A a b < 100000000 := h
    show wk A a (F0A A a b).toNat b = true
    simp only [F0A] at h' ⊢
    by_cases c : a = b
    · rw [if_pos c]
      exact wk_0.mpr c.symm
    · rw [if_neg c] at h' ⊢
      by_cases q : A a b = true
      · rw [if_pos q]
        exact wk_s.mpr (Or.inr ⟨a, ha, wk_0.mpr rfl, q⟩)
      · rw [if_neg q] at h'
        omega
  | k + 1, a, b, hk, ha, hb, h => by
    have p1 := (fw_1 A k a k).1
    have p2 := (fw_1 A k k b).1
    have h' : fwS (fwN (F0A A) k) k a b < 100000000 := h
    show wk A a (fwS (fwN (F0A A) k) k a b).toNat b = true
    unfold fwS at h' ⊢
    by_cases c : fwN (F0A A) k a k + fwN (F0A A) k k b < fwN (F0A A) k a b
    · rw [if_pos c] at h' ⊢
      have w1 := fw_3 (A := A) k a k (by omega) ha (by omega) (by omega)
      have w2 := fw_3 (A := A) k k b (by omega) (by omega) hb (by omega)
      have := wk_t w1 _ b w2
      rwa [show (fwN (F0A A) k a k).toNat + (fwN (F0A A) k k b).toNat = (fwN (F0A A) k a k + fwN (F0A A) k k b).toNat by omega] at this
    · rw [if_neg c] at h' ⊢
      exact fw_3 k a b (by omega) ha hb h'
theorem fw_4 {A : Nat → Nat → Bool} {a : Nat} : ∀ (r b : Nat), wk A a r b = true → fwN (F0A A) 7 a b ≤ (r : Int)
  | 0, b, h => by
    rw [wk_0.mp h, fw_0]
    omega
  | r + 1, b, h => by
    rcases wk_s.mp h with z | ⟨p, p7, z1, z2⟩
    · have := fw_4 r b z
      omega
    · have i1 := fw_4 r p z1
      have i2 := fw_2 A 7 a b p p7
      have i3 := (fw_1 A 7 p b).2
      simp only [F0A, z2, if_true] at i3
      have : fwN (F0A A) 7 p b ≤ 1 := by
        split at i3 <;> omega
      omega
theorem fw_dst {A : Nat → Nat → Bool} {a b : Nat} (ha : a < 7) (hb : b < 7) : dst A a b = if fwN (F0A A) 7 a b < 100000000 then fwN (F0A A) 7 a b else -1 := by
  have p := (fw_1 A 7 a b).1
  by_cases c : fwN (F0A A) 7 a b < 100000000
  · rw [if_pos c]
    have w := fw_3 7 a b (by decide) ha hb c
    have w6 := wk_6 ha hb w
    have l6 := fw_4 6 b w6
    have := dsT_at w (fun r hr z => by have := fw_4 r b z; omega) 7 (by omega)
    rw [toNat_i p] at this
    exact this
  · rw [if_neg c]
    exact (dsT_no 7).mpr fun r hr z => by have := fw_4 r b z; omega
