/-! scenes that are only thought of -/
theorem SOK.pass {W : TW} {S : TS} (h : SOK W S) (hd : sDay S < 999) : SOK W (passP W S) := by
  have r := walkP_rng h 8
  obtain ⟨h1, h2, h3, h4, h5⟩ := h
  exact ⟨by show 0 ≤ sDay S + 1; omega, by show sDay S + 1 ≤ 999; omega, h3, fun p hp => r p hp, by simp [passP, sRe], fun q hq => by simp [passP, sRe] at hq, trivial⟩
def itP (W : TW) (S : TS) : Nat → TS
  | 0 => S
  | k + 1 => passP W (itP W S k)
theorem itP_day (W : TW) (S : TS) : ∀ k : Nat, sDay (itP W S k) = sDay S + k
  | 0 => by show sDay S = sDay S + (0 : Nat); omega
  | k + 1 => by
    have := itP_day W S k
    show sDay (itP W S k) + 1 = sDay S + (k + 1 : Nat)
    omega
theorem itP_ok {W : TW} {S : TS} (h : SOK W S) : ∀ k : Nat, sDay S + k ≤ 999 → SOK W (itP W S k)
  | 0, _ => h
  | k + 1, hk => (itP_ok h k (by omega)).pass (by rw [itP_day]; omega)
/-- the first of 1 to m for which A holds; -1 if none -/
def frR (A : Nat → Prop) (m : Nat) (r : Int) : Prop := (r = -1 ∧ ∀ k, 1 ≤ k → k ≤ m → ¬ A k) ∨ (∃ k : Nat, r = k ∧ 1 ≤ k ∧ k ≤ m ∧ A k ∧ ∀ j, 1 ≤ j → j < k → ¬ A j)
theorem frR.eq {A : Nat → Prop} {m : Nat} {r s : Int} (h : frR A m r) (k : frR A m s) : r = s := by
  rcases h with ⟨h1, h2⟩ | ⟨i, h1, h2, h3, h4, h5⟩
  · rcases k with ⟨k1, k2⟩ | ⟨j, k1, k2, k3, k4, k5⟩
    · rw [h1, k1]
    · exact absurd k4 (h2 j k2 k3)
  · rcases k with ⟨k1, k2⟩ | ⟨j, k1, k2, k3, k4, k5⟩
    · exact absurd h4 (k2 i h2 h3)
    · rcases Nat.lt_trichotomy i j with z | z | z
      · exact absurd h4 (k5 i h2 z)
      · rw [h1, k1, z]
      · exact absurd k4 (h5 j k2 z)
theorem frR.I {A : Nat → Prop} {m : Nat} {r : Int} (h : frR A m r) (hm : m ≤ 1000) : inI r := by
  rcases h with ⟨h1, h2⟩ | ⟨i, h1, h2, h3, h4⟩ <;> omega
/-- the set of those below n for which A holds -/
def isSet (A : Nat → Prop) (n r : Nat) : Prop := ∀ i, r.testBit i = true ↔ i < n ∧ A i
theorem isSet.z (A : Nat → Prop) : isSet A 0 0 := fun i => by simp
theorem isSet.y {A : Nat → Prop} {n r : Nat} (h : isSet A n r) (ha : A n) : isSet A (n + 1) (r ||| 2 ^ n) := fun i => by
  rw [Nat.testBit_or, Bool.or_eq_true, h i, Nat.testBit_two_pow]
  simp only [decide_eq_true_eq]
  constructor
  · rintro (⟨h1, h2⟩ | h1)
    · exact ⟨by omega, h2⟩
    · subst h1; exact ⟨by omega, ha⟩
  · rintro ⟨h1, h2⟩
    by_cases c : n = i
    · exact Or.inr c
    · exact Or.inl ⟨by omega, h2⟩
theorem isSet.n {A : Nat → Prop} {n r : Nat} (h : isSet A n r) (ha : ¬ A n) : isSet A (n + 1) r := fun i => by
  rw [h i]
  constructor
  · rintro ⟨h1, h2⟩; exact ⟨by omega, h2⟩
  · rintro ⟨h1, h2⟩
    by_cases c : n = i
    · subst c; exact absurd h2 ha
    · exact ⟨by omega, h2⟩
theorem isSet.eq {A : Nat → Prop} {n r s : Nat} (h : isSet A n r) (k : isSet A n s) : r = s := by
  refine Nat.eq_of_testBit_eq fun i => ?_
  have h1 := h i
  have h2 := k i
  cases e : r.testBit i <;> cases f : s.testBit i <;> simp_all
theorem isSet.lt {A : Nat → Prop} {n r : Nat} (h : isSet A n r) : r < 2 ^ n := by
  refine Nat.lt_pow_two_of_testBit r fun i hi => ?_
  have h1 := h i
  cases e : r.testBit i
  · rfl
  · rw [e] at h1
    have := h1.mp rfl
    omega
section
variable {N : Nat} {t b : Int} {p : PT} {M : Mem}
theorem x_copy46 {Q : Mem → Prop} (hx : IX M t p) (hp : POK N p) (h : ∀ M', IX M' t p → stX M M' → SX M' 46 (pW p) (pS p) → Q M') : m_X6_copy 46 40 M Q :=
  x_copy (by decide) hx.2.2.1.1 hp.2.2.1.1.1 hp.2.1.1 (by decide) fun M1 o1 s1 _ => h M1 (hx.scr o1.scr) o1.scr.st s1
theorem x_day46 {Q : Mem → Prop} {T : TS} (hx : IX M t p) (hp : POK N p) (hs : SX M 46 (pW p) T) (hT : SOK (pW p) T) (h : ∀ M', IX M' t p → stX M M' → SX M' 46 (pW p) T → dayX M' 57 (pW p) T → Q M') : kd (M 0 2) = 8 ∧ m_X10_goThrough 57 (M 0 2) 46 M Q := by
  rw [hx.2.1.1]
  refine ⟨hx.2.1.2.2.1.1, x_goThrough (by decide) hx.2.1.2.2.1 hs hp.2.1.1 hT fun M1 o1 d1 => ?_⟩
  have k := isTown hx.2.1.2.2.1.1
  have z := o1.scr k
  exact h M1 (hx.scr z) z.st (hs.off (by decide) hx.2.1.2.2.1.1 o1) d1
theorem x_pi_l {M0 : Mem} {Q : Mem → Prop} {T : TS} {W : TW} (h6 : wPn W ≤ 6) (hs : SX M0 46 W T) (hd : dayX M0 57 W T) (h : ∀ M', offS 46 M0 M' → SX M' 46 W (passP W T) → Q M') :
    ∀ (d k : Nat) (M : Mem), k + d = 6 → (∀ a, a ≠ 47 → M a = M0 a) → (∀ q : Nat, q < k → q < wPn W → M 47 q = walkP W T 8 q) → m_X6_passInto_L2 Q 46 57 (d + 1) k M
  | 0, k, M, hk, h1, h2 => by
    unfold m_X6_passInto_L2
    refine ⟨by omega, fun _ M1 e1 M2 e2 => ?_, fun q => by omega⟩
    rw [show (46 : Int) + 2 = 48 from rfl] at e1
    have d0 : M1 46 0 = sDay T := by rw [e1, up_ne _ (by decide), h1 46 (by decide)]; exact hs.2.1
    refine h M2 (fun a ha => by rw [e2, up_ne _ (by omega), e1, up_ne _ (by omega), h1 a (by omega)]) ⟨by decide, ?_, ?_, fun q hq => ?_, ?_, fun i hi => by simp [passP, sRe] at hi⟩
    · rw [e2, d0]; simp [up_get, passP]
    · rw [e2]
      simp only [up_get]
      rw [if_neg (by decide), e1, up_ne _ (by decide), h1 46 (by decide)]
      exact hs.2.2.1
    · rw [show (46 : Int) + 1 = 47 from rfl, e2, up_ne _ (by decide), e1, up_ne _ (by decide), h2 q (by omega) hq]
      rfl
    · rw [e2, up_ne _ (by decide), e1]; simp [up_get, passP, sRe]
  | d + 1, k, M, hk, h1, h2 => by
    unfold m_X6_passInto_L2 m_X10_spotOf
    refine ⟨by omega, fun q => by omega, fun _ => ⟨by decide, by omega, by omega, fun M1 e1 => ?_⟩⟩
    rw [show (57 : Int) + 1 = 58 from rfl, show (46 : Int) + 1 = 47 from rfl, h1 58 (by decide)] at e1
    refine x_pi_l h6 hs hd h d (k + 1) M1 (by omega) (fun a ha => by rw [e1, up_ne _ ha, h1 a ha]) (fun q q1 q2 => ?_)
    rw [e1]
    simp only [up_get]
    by_cases c : q = k
    · subst c
      rw [if_pos ⟨trivial, rfl⟩]
      have := hd.1 8 q (by omega) q2
      rwa [show (57 : Int) + 1 = 58 from rfl, show 6 * ((8 : Nat) : Int) + q = 6 * 8 + q by omega] at this
    · rw [if_neg (by omega)]
      exact h2 q (by omega) q2
theorem x_pass46 {Q : Mem → Prop} {T : TS} (hx : IX M t p) (hp : POK N p) (hs : SX M 46 (pW p) T) (hd : dayX M 57 (pW p) T) (h : ∀ M', IX M' t p → stX M M' → SX M' 46 (pW p) (passP (pW p) T) → Q M') : m_X6_passInto 46 57 M Q :=
  ⟨by decide, by decide, 7, x_pi_l hp.2.1.1.2.1 hs hd (fun M1 o1 s1 => h M1 (hx.scr o1.scr) o1.scr.st s1) 6 0 M rfl (fun _ _ => rfl) (fun q hq => by omega)⟩
theorem y_copy1 {Q : Mem → Prop} (hy : IY M b p) (hp : POK N p) (h : ∀ M', IY M' b p → stY M M' → SY M' 1 (pW p) (pS p) → KY M' 1 (pK p) → Q M') : m_X12_copies 1 0 M Q :=
  y_copies (by decide) (by decide) hy.2.2.1.1 hp.2.2.1.1.1 hp.2.1.1 hy.2.2.1.2 fun M1 o1 s1 k1 => h M1 (hy.scr hp o1.scr) o1.st s1 k1
theorem y_pass1 {Q : Int → Mem → Prop} {T : TS} {kp : List (Int × Int × Int)} (hy : IY M b p) (hp : POK N p) (hs : SY M 1 (pW p) T) (hT : SOK (pW p) T) (hk : KY M 1 kp) (h : ∀ M', IY M' b p → stY M M' → SY M' 1 (pW p) (passP (pW p) T) → KY M' 1 (kp ++ [rowP (pW p) T]) → rowsY M' (pW p) T 9 0 → Q (agP (pW p) T) M') : m_X12_passes 1 M Q :=
  y_passes hy.2.1.2.1 hs hp.2.1.1 hT hy.2.1.1 hk fun M1 o1 s1 k1 r1 => h M1 (hy.scr hp o1.scr) o1.st s1 k1 r1
theorem y_run1 {Q : Mem → Prop} {T : TS} (hy : IY M b p) (hp : POK N p) (hs : SY M 1 (pW p) T) (hT : SOK (pW p) T) (h : ∀ M', IY M' b p → stY M M' → rowsY M' (pW p) T 9 0 → Q M') : m_X12_runs 1 M Q :=
  y_runs hy.2.1.2.1 hs hp.2.1.1 hT hy.2.1.1 fun M1 o1 d1 => h M1 (hy.scr hp o1.scr) o1.scr.st d1
/-! later -/
theorem x_later_l {Q : Int → Mem → Prop} {a : Int} {n : Nat} {M0 : Mem} (hp : POK N p) (ha : 0 ≤ a ∧ a < wPn (pW p)) (hn : sDay (pS p) + n ≤ 999) (h : ∀ M', IX M' t p → stX M0 M' → Q (sSp (itP (pW p) (pS p) n) a) M') :
    ∀ (d k : Nat) (M : Mem), k + d = n → IX M t p → stX M0 M → SX M 46 (pW p) (itP (pW p) (pS p) k) → m_X11_later_L35 Q a n (d + 1) k M
  | 0, k, M, hk, hx, s0, hs => by
    have w2 := hp.2.1.1.2.1
    have d1 := hp.2.2.1.1.1.1
    unfold m_X11_later_L35
    refine ⟨by omega, by omega, fun _ => ⟨by omega, ?_⟩, fun q => by omega⟩
    have e := hs.2.2.2.1 a.toNat (by omega)
    rw [step_of ha.1, show (46 : Int) + 1 = 47 from rfl, show k = n by omega] at e
    rw [e]
    exact h M hx s0
  | d + 1, k, M, hk, hx, s0, hs => by
    have d1 := hp.2.2.1.1.1.1
    have ok := itP_ok hp.2.2.1.1.1 k (by omega)
    unfold m_X11_later_L35
    refine ⟨by omega, by omega, fun q => by omega, fun _ => ?_⟩
    refine x_day46 hx hp hs ok fun M1 hx1 o1 s1 d1 => x_pass46 hx1 hp s1 d1 fun M2 hx2 o2 s2 => ?_
    exact x_later_l hp ha hn h d (k + 1) M2 (by omega) hx2 ((s0.tr o1).tr o2) s2
theorem y_later_l {Q : Int → Mem → Prop} {a : Int} {n : Nat} {M0 : Mem} (hp : POK N p) (ha : 0 ≤ a ∧ a < wPn (pW p)) (hn : sDay (pS p) + n ≤ 999) (h : ∀ M', IY M' b p → stY M0 M' → Q (sSp (itP (pW p) (pS p) n) a) M') :
    ∀ (d k : Nat) (M : Mem) (kp : List (Int × Int × Int)), k + d = n → IY M b p → stY M0 M → SY M 1 (pW p) (itP (pW p) (pS p) k) → KY M 1 kp → m_X12_later_L29 Q a n (d + 1) k M
  | 0, k, M, kp, hk, hx, s0, hs, _ => by
    have w2 := hp.2.1.1.2.1
    have d1 := hp.2.2.1.1.1.1
    unfold m_X12_later_L29
    refine ⟨by omega, by omega, fun _ => ⟨by omega, ?_⟩, fun q => by omega⟩
    have e := hs.2.2.2.1 a.toNat (by omega)
    rw [step_of ha.1, show 6 * (1 : Int) + a = 6 + a by omega, show k = n by omega] at e
    rw [e]
    exact h M hx s0
  | d + 1, k, M, kp, hk, hx, s0, hs, hkp => by
    have d1 := hp.2.2.1.1.1.1
    have ok := itP_ok hp.2.2.1.1.1 k (by omega)
    unfold m_X12_later_L29
    refine ⟨by omega, by omega, fun q => by omega, fun _ => ?_⟩
    refine y_pass1 hx hp hs ok hkp fun M1 hy1 o1 s1 k1 _ => ?_
    exact y_later_l hp ha hn h d (k + 1) M1 _ (by omega) hy1 (s0.tr o1) s1 k1
theorem s_later {a c : Int} (hi : Inv N M) (ha : inI a) (hc : inI c) : m_X11_later a c M (fun r1 M1 => m_X12_later a c M1 (fun r2 M2 => Good N r1 r2 M2)) := by
  obtain ⟨t, b, p, hp, hx, hy⟩ := hi
  have w1 := hp.2.1.1.1
  have d1 := hp.2.2.1.1.1.1
  have d2 := hp.2.2.1.1.1.2.1
  have hno : ¬ ((0 ≤ a ∧ a < wPn (pW p)) ∧ (0 ≤ c ∧ c ≤ 40 ∧ c ≤ 999 - sDay (pS p))) → m_X12_later a c M (fun r2 M2 => Good N (-1) r2 M2) := fun q => by
    unfold m_X12_later m_X12_later_J19
    refine y_isPerson hy hp ha (fun q1 q2 => ⟨by decide, fun z => absurd z (by decide), fun _ => ?_⟩) (fun _ => ⟨by decide, fun _ => fin hp hx hy (by decide), fun z => absurd rfl z⟩)
    exact y_isAhead hy hp hc (by decide) rfl (fun q3 q4 q5 => absurd ⟨⟨q1, q2⟩, q3, q4, q5⟩ q) (fun _ => ⟨by decide, fun _ => fin hp hx hy (by decide), fun z => absurd rfl z⟩)
  unfold m_X11_later m_X11_later_J20
  refine x_isPerson hx hp ha (fun q1 q2 => ⟨by decide, fun z => absurd z (by decide), fun _ => ⟨hc, fun q => hno (by omega), fun q3 => ?_⟩⟩) (fun q => ⟨by decide, fun _ => hno (fun z => q z.1), fun z => absurd rfl z⟩)
  refine x_daysAhead hx hp ⟨hc, by split <;> omega, fun q4 => ?_, fun q => hno (by split at q <;> omega)⟩
  have c40 : c ≤ 40 ∧ c ≤ 999 - sDay (pS p) := by split at q4 <;> omega
  obtain ⟨n, rfl⟩ : ∃ n : Nat, c = n := ⟨c.toNat, by omega⟩
  refine x_copy46 hx hp fun M1 hx1 o1 s1 => ⟨n + 1, x_later_l (M0 := M) hp ⟨q1, q2⟩ (by omega) (fun M2 hx2 o2 => ?_) n 0 M1 (by omega) hx1 o1 s1⟩
  have hy2 := hy.st o2
  unfold m_X12_later m_X12_later_J19
  refine y_isPerson hy2 hp ha (fun _ _ => ⟨by decide, fun z => absurd z (by decide), fun _ => ?_⟩) (fun q => by omega)
  refine y_isAhead hy2 hp hc (by decide) rfl (fun _ _ _ => ⟨by decide, fun z => absurd z (by decide), fun _ => ?_⟩) (fun q => by omega)
  refine y_copy1 hy2 hp fun M3 hy3 o3 s3 k3 => ⟨n + 1, y_later_l (M0 := M2) hp ⟨q1, q2⟩ (by omega) (fun M4 hy4 o4 => ?_) n 0 M3 _ (by omega) hy3 o3 s3 k3⟩
  have g := (itP_ok hp.2.2.1.1.1 n (by omega)).2.2.2.1 a.toNat (by omega)
  rw [step_of q1] at g
  exact fin hp (hx2.st o4) hy4 (by omega)
end
