/-! faults lie on the tape; statements are eighty at most -/
abbrev pB (T : List Int) (e : Int × Int) : Prop := 0 ≤ e.1 ∧ e.1 < 9 ∧ 0 ≤ e.2 ∧ e.2 ≤ (T.length : Int)
theorem pd_fp {T : List Int} {g : Bool} : ∀ (f w o s : Nat) (e : Int × Int), s ≤ T.length → pd T g f w o s = some (.inl e) → pB T e
  | 0, w, o, s, e, hs, h => by simp [pd] at h
  | f + 1, w, o, s, e, hs, h => by
    have ih := pd_fp (T := T) (g := g) f
    have erw : ∀ {s : Nat}, s ≤ T.length → er 1 (wr T s) = some (.inl e) → pB T e := fun {s} h1 he => by
      have := er_x he
      simp only [Sum.inl.injEq] at this
      have w := wr_rng h1
      rw [this]
      exact ⟨by show (0 : Int) ≤ 1; decide, by show (1 : Int) < 9; decide, w.1, w.2⟩
    have er5 : ∀ {s : Nat}, s ≤ T.length → er 5 (s : Nat) = some (.inl e) → pB T e := fun {s} h1 he => by
      have := er_x he
      simp only [Sum.inl.injEq] at this
      rw [this]
      exact ⟨by show (0 : Int) ≤ 5; decide, by show (5 : Int) < 9; decide, by show (0 : Int) ≤ s; omega, by show (s : Int) ≤ _; omega⟩
    have tk : ∀ {c : Int} {s : Nat} {k : Nat → PR}, s ≤ T.length → tks T c s k = some (.inl e) → (nx T s ≤ T.length → k (nx T s) = some (.inl e) → pB T e) → pB T e := fun {c s k} h1 he hk => by
      unfold tks at he
      split at he
      · exact hk (nx_rng h1).2.1 he
      · exact erw h1 he
    have op : ∀ {o s : Nat} {k : Nat → PR}, s ≤ T.length → opn T o s k = some (.inl e) → (nx T s ≤ T.length → k (nx T s) = some (.inl e) → pB T e) → pB T e := fun {o s k} h1 he hk => by
      unfold opn at he
      split at he
      · exact er5 h1 he
      · exact hk (nx_rng h1).2.1 he
    have bb : ∀ {w o s : Nat} {k : Nat → PR}, s ≤ T.length → bn (pd T g f w o s) k = some (.inl e) → (∀ s1, s1 ≤ T.length → k s1 = some (.inl e) → pB T e) → pB T e := fun {w o s k} h1 he hk => by
      rcases bn_f he with a | ⟨c1, s1, a, b⟩
      · exact ih _ _ _ _ h1 a
      · exact hk s1 (pd_len _ _ _ _ _ _ h1 a).1 b
    have emn : ∀ {c : Int} {s : Nat}, em c s = some (.inl e) → pB T e := fun he => by simp at he
    have okn : ∀ {s : Nat}, ok1 s = some (.inl e) → pB T e := fun he => by simp at he
    have ns := (nx_rng hs).2.1
    rcases pd_w h with rfl | rfl | rfl | rfl | rfl | rfl | rfl | rfl | rfl | rfl <;> simp only [pd] at h
    · exact bb hs h fun s1 l a => ih _ _ _ _ l a
    · exact bb hs h fun s1 l a => ih _ _ _ _ l a
    · split at h
      · exact op hs h fun l a => bb l a fun s1 _ c => emn c
      · split at h
        · exact op hs h fun l a => bb l a fun s1 l1 c => tk l1 c fun _ d => okn d
        · split at h
          · exact emn h
          · refine bb hs h fun s1 l1 a => ?_
            split at a
            · exact erw l1 a
            · exact bb (nx_rng l1).2.1 a fun s2 _ c => emn c
    · exact bb hs h fun s1 l a => ih _ _ _ _ l a
    · exact bb hs h fun s1 l a => ih _ _ _ _ l a
    · split at h
      · exact emn h
      · split at h
        · exact op hs h fun l a => bb l a fun s1 l1 c => tk l1 c fun _ d => okn d
        · split at h
          · exact emn h
          · split at h
            · split at h
              · exact op ns h fun l a => bb l a fun s1 l1 c => tk l1 c fun l2 d => bb l2 d fun s2 l3 c2 => tk l3 c2 fun _ d2 => emn d2
              · exact erw ns h
            · split at h
              · split at h
                · exact op ns h fun l a => bb l a fun s1 l1 c => tk l1 c fun l2 d => bb l2 d fun s2 l3 c2 => tk l3 c2 fun l4 d2 => bb l4 d2 fun s3 l5 c3 => tk l5 c3 fun _ d3 => emn d3
                · exact erw ns h
              · exact erw hs h
    · split at h
      · exact bb ns h fun s1 l a => ih _ _ _ _ l (pre_f a)
      · exact okn h
    · split at h
      · exact bb ns h fun s1 l a => ih _ _ _ _ l (pre_f a)
      · exact okn h
    · split at h
      · exact bb ns h fun s1 l a => ih _ _ _ _ l (pre_f a)
      · exact okn h
    · split at h
      · exact bb ns h fun s1 l a => ih _ _ _ _ l (pre_f a)
      · exact okn h
theorem stP_f {T : List Int} {D : TD} {s : Nat} {e : Int × Int} (hs : s ≤ T.length) (h : stP T D s = .inl e) : pB T e := by
  have inw : ∀ {s : Nat}, s ≤ T.length → (Sum.inl (1, wr T s) : SR) = .inl e → pB T e := fun {s} h1 he => by
    have w := wr_rng h1
    simp only [Sum.inl.injEq] at he
    rw [← he]
    exact ⟨by show (0 : Int) ≤ 1; decide, by show (1 : Int) < 9; decide, w.1, w.2⟩
  have ins : ∀ {k : Int} {s : Nat}, 0 ≤ k ∧ k < 9 → s ≤ T.length → (Sum.inl (k, (s : Nat)) : SR) = .inl e → pB T e := fun {k s} hk h1 he => by
    simp only [Sum.inl.injEq] at he
    rw [← he]
    exact ⟨hk.1, hk.2, by show (0 : Int) ≤ s; omega, by show (s : Int) ≤ _; omega⟩
  have ms : ∀ {c m s : Nat} {k : SR}, s ≤ T.length → mst c m s k = .inl e → (k = .inl e → pB T e) → pB T e := fun {c m s k} h1 he hk => by
    unfold mst at he
    split at he
    · exact ins (by decide) h1 he
    · exact hk he
  have fn : ∀ {s : Nat} {k : List Int → Nat → SR}, s ≤ T.length → fN T D s k = .inl e → (nx T s ≤ T.length → k (nm T s) (nx T s) = .inl e → pB T e) → pB T e := fun {s k} h1 he hk => by
    unfold fN at he
    split at he
    · exact inw h1 he
    · split at he
      · exact ins (by decide) h1 he
      · exact hk (nx_rng h1).2.1 he
  have pn : ∀ {s : Nat} {k : Nat → SR}, s ≤ T.length → pN T D s k = .inl e → (∀ p, k p = .inl e → pB T e) → pB T e := fun {s k} h1 he hk => by
    unfold pN at he
    split at he
    · exact inw h1 he
    · split at he
      · exact ins (by decide) h1 he
      · exact hk _ he
  have nb : ∀ {lo hi : Int} {s : Nat} {k : Int → Nat → SR}, s ≤ T.length → nmb T lo hi s k = .inl e → (nx T s ≤ T.length → k (tn T s) (nx T s) = .inl e → pB T e) → pB T e := fun {lo hi s k} h1 he hk => by
    unfold nmb at he
    split at he
    · exact inw h1 he
    · split at he
      · exact ins (by decide) h1 he
      · exact hk (nx_rng h1).2.1 he
  have tk : ∀ {w : Int} {s : Nat} {k : Nat → SR}, s ≤ T.length → tkO T w s k = .inl e → (nx T s ≤ T.length → k (nx T s) = .inl e → pB T e) → pB T e := fun {w s k} h1 he hk => by
    unfold tkO at he
    split at he
    · exact hk (nx_rng h1).2.1 he
    · exact inw h1 he
  have fm : ∀ {g : Bool} {w s : Nat} {k : List Int → Nat → SR}, s ≤ T.length → fml (pd T g (fuel T) w 0 s) k = .inl e → (∀ c t, k c t = .inl e → pB T e) → pB T e := fun {g w s k} h1 he hk => by
    unfold fml at he
    split at he
    · simp only [Sum.inl.injEq] at he
      rw [← he]
      exact ⟨by show (0 : Int) ≤ 0; decide, by show (0 : Int) < 9; decide, by show (0 : Int) ≤ 0; decide, by show (0 : Int) ≤ _; omega⟩
    · next e1 q =>
      simp only [Sum.inl.injEq] at he
      rw [he] at q
      exact pd_fp _ _ _ _ _ h1 q
    · exact hk _ _ he
  have ns := (nx_rng hs).2.1
  have nns := (nx_rng ns).2.1
  unfold stP at h
  split at h
  · exact ms hs h fun a => fn ns a fun _ b => by simp at b
  · split at h
    · refine ms hs h fun a => pn ns a fun p b => tk nns b fun l c => pn l c fun q d => ?_
      split at d
      · exact ins (by decide) l d
      · simp at d
    · split at h
      · exact ms hs h fun a => fn ns a fun l b => tk l b fun l2 c => pn l2 c fun p d => tk (nx_rng l2).2.1 d fun l3 d2 => nb l3 d2 fun _ d3 => by simp at d3
      · split at h
        · split at h
          · exact inw ns h
          · split at h
            · exact ins (by decide) ns h
            · simp at h
        · split at h
          · refine ms hs h fun a => nb ns a fun l b => pn l b fun p c => ?_
            split at c
            · exact ins (by decide) l c
            · exact nb (nx_rng l).2.1 c fun _ d => by simp at d
          · split at h
            · exact ms hs h fun a => fm ns a fun c t b => by simp at b
            · split at h
              · exact ms hs h fun a => fm ns a fun c t b => by simp at b
              · split at h
                · exact nb ns h fun _ b => by simp at b
                · exact inw hs h
theorem rdT_f {T : List Int} : ∀ (f n s : Nat) (D : TD) (e : Int × Int), s ≤ T.length → DOK D s → rdT T f n s D = .inl e → pB T e
  | 0, n, s, D, e, hs, hD, h => by
    unfold rdT at h
    simp only [Sum.inl.injEq] at h
    rw [← h]
    exact ⟨by show (0 : Int) ≤ 0; decide, by show (0 : Int) < 9; decide, by show (0 : Int) ≤ 0; decide, by show (0 : Int) ≤ _; omega⟩
  | f + 1, n, s, D, e, hs, hD, h => by
    unfold rdT at h
    split at h
    · simp at h
    · split at h
      · simp only [Sum.inl.injEq] at h
        rw [← h]
        exact ⟨by show (0 : Int) ≤ 6; decide, by show (6 : Int) < 9; decide, by show (0 : Int) ≤ s; omega, by show (s : Int) ≤ _; omega⟩
      · cases q : stP T D s with
        | inl e1 =>
          rw [q] at h
          have h : (Sum.inl e1 : (Int × Int) ⊕ (TD × Nat)) = .inl e := h
          simp only [Sum.inl.injEq] at h
          rw [← h]
          exact stP_f hs q
        | inr x =>
          obtain ⟨D1, t⟩ := x
          rw [q] at h
          have h : (if ts T t = 59 then rdT T f (n + 1) (nx T t) D1 else .inl (1, wr T t)) = .inl e := h
          have so1 := stP_ok hs hD q
          split at h
          · exact rdT_f f (n + 1) _ D1 e (nx_rng so1.1).2.1 (so1.2.2.mono (nx_rng so1.1).1) h
          · simp only [Sum.inl.injEq] at h
            have w := wr_rng so1.1
            rw [← h]
            exact ⟨by show (0 : Int) ≤ 1; decide, by show (1 : Int) < 9; decide, w.1, w.2⟩
theorem rdT_n {T : List Int} : ∀ (f n s : Nat) (D D1 : TD) (m : Nat), n ≤ 80 → rdT T f n s D = .inr (D1, m) → m ≤ 80
  | 0, n, s, D, D1, m, hn, h => by
    unfold rdT at h
    simp at h
  | f + 1, n, s, D, D1, m, hn, h => by
    unfold rdT at h
    split at h
    · simp only [Sum.inr.injEq, Prod.mk.injEq] at h
      omega
    · split at h
      · simp at h
      · cases q : stP T D s with
        | inl e1 =>
          rw [q] at h
          have h : (Sum.inl e1 : (Int × Int) ⊕ (TD × Nat)) = .inr (D1, m) := h
          simp at h
        | inr x =>
          obtain ⟨D2, t⟩ := x
          rw [q] at h
          have h : (if ts T t = 59 then rdT T f (n + 1) (nx T t) D2 else .inl (1, wr T t)) = .inr (D1, m) := h
          split at h
          · exact rdT_n f (n + 1) _ D2 D1 m (by omega) h
          · simp at h
